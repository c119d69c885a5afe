/-! ===== pure contracts (the heap stays as it is), calls of them, small number rows ===== -/
/-- a method that leaves the heap as it is and answers r -/
def pI (l : Launch) (y : MethodName) (ws : List Cond) (rm : Room) (av : List Value) (D : va_G) (tys : List (ClassId × FieldType)) (H : Heap) (r : Int32) : Prop :=
  Met l y ws rm (va_Pc av (fun U => U.heap = H ∧ va_K D vwCl tys U)) (va_Qi (fun (z : Int32) (_ : Unit) => z = r) (fun _ t => t.heap = H) (fun _ => False)) 0 0 (fun _ => False)
section PUA
variable {p : Program} {l : Launch} {e : Env} {R : Room} {s : State} {m : MethodId} {args : Array Value} {below : List Frame} {meth : Method} {c : Code} {H : Heap} {locs : List Loc} {cells slots : Nat} {Q : State → Prop}
variable {y : MethodName} {bytes cc : ByteArray} {maxL nL n index : Nat} {ret : Option FieldType} {ws : List Cond} {rm : Room} {Ts : List Cond} {own C : String} {b : Addr} {As rest st0 : List Value} {D : va_G} {tys : List (ClassId × FieldType)} {pc : Nat} {ls : Array Slot} {r : Int32}
theorem pu_tp {x z : Int32} (h : x = z) (k : W p l e R s m args below meth c H locs cells slots Q (F0 m pc ls (.int z :: rest))) : W p l e R s m args below meth c H locs cells slots Q (F0 m pc ls (.int x :: rest)) := h ▸ k
theorem pu_back {a : Array Value} (hr : va_Run p l e R s m args below meth c H locs cells slots 0 0 (F0 m pc ls st0) rest (va_Qi (fun (z : Int32) (_ : Unit) => z = r) (fun _ t => t.heap = H) (fun _ => False) a) (fun _ => False)) (kk : W p l e R s m args below meth c H locs cells slots Q (F0 m (pc + 3) ls (.int r :: rest))) : W p l e R s m args below meth c H locs cells slots Q (F0 m pc ls st0) := by
  intro T hT X
  obtain ⟨v, st₀, t, T', L, h0, X', hL, e1, e2, ⟨⟨z, u, hv, hp, hb⟩, hz, hk⟩, st⟩ := hr T hT X
  cases hv
  subst hp
  have hL0 : L = [] := by
    cases L with
    | nil => rfl
    | cons q _ => exact absurd (hL q List.mem_cons_self) id
  subst hL0
  rw [List.append_nil] at X'
  obtain ⟨t2, a1, b1⟩ := kk T' (e1.trans hb) X'
  exact ⟨t2, st t2 a1, b1⟩
theorem pu_V (S : CallFix p m c cc nL s args Ts own) (hM : pI l y ws rm (.ref b :: As) D tys H r) (cw : CallW R s args own C index y bytes maxL ret ws rm 0 0 n) (hrc : ∃ cellB : Cell, H[b]? = some cellB ∧ cellB.vm.isStatics = false ∧ s.vm.findClass C = some cellB.cls) (hK : va_K D vwCl tys s) (hn : As.length = n) (hsize : ls.size = nL) (hst : st0 = As.reverse ++ .ref b :: rest) (hW : (rest.map fun v => v.category).sum ≤ 8) (hdg : decode cc pc = .ok (.invokevirtual index, 3)) (hf : cells ≤ R.cells ∧ slots ≤ R.slots)
    (kk : W p l e R s m args below meth c H locs cells slots Q (F0 m (pc + 3) ls (.int r :: rest))) : W p l e R s m args below meth c H locs cells slots Q (F0 m pc ls st0) :=
  pu_back (va_runV (g := F0 m pc ls st0) S hM cw ⟨fun a U g mk q => ⟨q.1, q.2.1, va_K.moved (u := U) (U := U.calling g mk a) (Vm.Alike.refl U.vm) q.2.2⟩, hrc, fun U hU hW => ⟨rfl, hU, va_K.moved hW.alike hK⟩⟩ rfl hn hsize hst (lv_room hW) hdg hf) kk
theorem pu_S (S : CallFix p m c cc nL s args Ts own) (hM : pI l y ws rm As D tys H r) (cw : CallB R s args own index y bytes maxL ret ws rm 0 0 n ∧ (Cond.static y).before args s = true) (hK : va_K D vwCl tys s) (hn : As.length = n) (hsize : ls.size = nL) (hst : st0 = As.reverse ++ rest) (hW : (rest.map fun v => v.category).sum ≤ 8) (hdg : decode cc pc = .ok (.invokestatic index, 3)) (hf : cells ≤ R.cells ∧ slots ≤ R.slots)
    (kk : W p l e R s m args below meth c H locs cells slots Q (F0 m (pc + 3) ls (.int r :: rest))) : W p l e R s m args below meth c H locs cells slots Q (F0 m pc ls st0) :=
  pu_back (va_runS (g := F0 m pc ls st0) S hM cw ⟨fun a U g mk q => ⟨q.1, q.2.1, va_K.moved (u := U) (U := U.calling g mk a) (Vm.Alike.refl U.vm) q.2.2⟩, fun U hU hW => ⟨rfl, hU, va_K.moved hW.alike hK⟩⟩ rfl hn hsize hst (lv_room hW) hdg hf) kk
theorem pI_ofW {ws' : List Cond} {av : List Value} (hy : plainName y.cls = true) (hw : ws = Cond.code y cc maxL ret :: ws') (hrt : ret = some .int ∨ (ret = some .boolean ∧ (r = 0 ∨ r = 1))) (hav : (lg_sl av).length ≤ maxL)
    (body : ∀ (p : Program) (e : Env) (s : State) (m : MethodId) (args : Array Value) (below : List Frame) (meth : Method) (c : Code) (Q : State → Prop), p.tables.exec = Jvm.exec → c.code = cc → c.maxLocals = maxL → s.vm.findClass y.cls = some m.cls → (∀ w ∈ ws, w.before args s = true) → va_K D vwCl tys s → (∀ (pc : Nat) (ls : Array Slot) (v : Int32), v = r → decode cc pc = .ok (.ireturn, 1) → W p l e rm s m args below meth c H [] 0 0 Q (F0 m pc ls [.int v])) → ∀ ls : Array Slot, lv_has ls maxL (lv_args 0 av) → W p l e rm s m args below meth c H [] 0 0 Q (F0 m 0 ls [])) : pI l y ws rm av D tys H r := by
  refine Met.ofW (cc := cc) (maxL := maxL) (ret := ret) hy hw ?_
  intro p e s m args below meth c s₁ B hml hv
  obtain ⟨rfl, hH, hK⟩ := hv
  subst hH
  have hts := atoms_spec (ws := ws) B.pre
  have hown : s.vm.findClass y.cls = some m.cls := findClass_of_methodNamed B.named
  have hl := lv_entry av (n := maxL) hav
  rw [lg_entry_eq]
  generalize (lg_sl av ++ List.replicate (maxL - (lg_sl av).length) Slot.unset).toArray = ls at hl ⊢
  have hret : ∀ (pc : Nat) (ls : Array Slot) (v : Int32), v = r → decode cc pc = .ok (.ireturn, 1) → W p l e (headSpec ws rm).room s m av.toArray below meth c s.heap [] 0 0 (MQ below (va_Qi (fun (z : Int32) (_ : Unit) => z = r) (fun _ t => t.heap = s.heap) (fun _ => False)) av.toArray s 0 0 (fun _ => False)) (F0 m pc ls [.int v]) := by
    intro pc ls v hvr hdg
    subst hvr
    rcases hrt with hrt | ⟨hrt, h01⟩
    · exact W.iret B.exec B.bytes (by rw [B.returns, hrt]) (fun t ht hW => ⟨⟨v, (), rfl, rfl, ht⟩, by rw [ht]; exact Nat.le_refl _, fun q _ _ => by rw [ht]⟩) (fun _ h => by cases h) hdg
    · exact W.zret (ty := .boolean) B.exec B.bytes (by rw [B.returns, hrt]) (by rcases h01 with rfl | rfl <;> rfl) (fun t ht hW => ⟨⟨v, (), rfl, rfl, ht⟩, by rw [ht]; exact Nat.le_refl _, fun q _ _ => by rw [ht]⟩) (fun _ h => by cases h) hdg
  exact body p e s m av.toArray below meth c _ B.exec B.bytes hml hown hts hK hret ls hl
/-- an element of an array of int arrays -/
theorem ga_ald {ws : va_W} {cl : List vw_C} {a : Nat} (hexec : p.tables.exec = Jvm.exec) (hb : c.code = cc) (hK : va_K D cl tys s) (hP : va_P D cl ws H) (q0 t0 : Nat) {cA : ClassId} {n : Nat} {f : Nat → Option Nat} (ha : ws[q0]? = some (a, .inl (cA, n, .inr (.inr (.inr (.inr f)))))) (ht : tys[t0]? = some (cA, .array .int)) {i : Int32} (hin : vp_in i n) (hdg : decode cc pc = .ok (.aaload, 1))
    (kk : W p l e R s m args below meth c H locs cells slots Q (F0 m (pc + 1) ls (va_rf (f i.toNatClampNeg) :: rest))) : W p l e R s m args below meth c H locs cells slots Q (F0 m pc ls (.int i :: .ref a :: rest)) := by
  have hlt : i.toNatClampNeg < n := Nat.not_le.mp fun q => hin (Or.inr q)
  exact W.aald (v := va_rf (f i.toNatClampNeg)) (ty := .array .int) hexec hb (hP q0 _ ha) ((hK.2 t0 _ ht).1 n (fun j => va_rf (f j))) rfl (fun q => by cases q) (by show ¬ (i < 0 ∨ (arrV _ _ _).slots.size ≤ _); rw [arrV_size]; exact hin) (by show (arrV _ _ _).slots[_]? = _; rw [arrV_read _ _ hlt]) rfl rfl hdg kk
end PUA
theorem nb_or (a b : Nat) : nI a ||| nI b = nI (a ||| b) := by
  apply Int32.toBitVec_inj.1
  show BitVec.ofNat 32 a ||| BitVec.ofNat 32 b = BitVec.ofNat 32 (a ||| b)
  apply BitVec.eq_of_getLsbD_eq
  intro i hi
  simp [BitVec.getLsbD_ofNat, hi, Nat.testBit_or]
theorem nb_sl : ∀ n, n < 32 → ((nI n &&& 31).toBitVec.smod 32).toNat = n := by decide +kernel
theorem nb_su : ∀ n, n < 32 → (((nI n).toUInt32 &&& Int32.toUInt32 31).toBitVec % 32).toNat = n := by decide +kernel
theorem nb_eqm {a b : Nat} (h : a % 2 ^ 32 = b % 2 ^ 32) : nI a = nI b := by
  apply Int32.toBitVec_inj.1
  show BitVec.ofNat 32 a = BitVec.ofNat 32 b
  apply BitVec.eq_of_toNat_eq
  simpa [BitVec.toNat_ofNat] using h
theorem nb_and7 (a : Nat) : nI a &&& nI 7 = nI (a % 8) := by
  rw [pk_and (nI a) (m := nI 7) 3 (by decide)]
  show nI ((BitVec.ofNat 32 a).toNat % 2 ^ 3) = _
  rw [BitVec.toNat_ofNat, Nat.mod_mod_of_dvd a (by decide : 2 ^ 3 ∣ 2 ^ 32)]
theorem nb_and1 (a : Nat) : nI a &&& nI 1 = nI (a % 2) := by
  rw [pk_and (nI a) (m := nI 1) 1 (by decide)]
  show nI ((BitVec.ofNat 32 a).toNat % 2 ^ 1) = _
  rw [BitVec.toNat_ofNat, Nat.mod_mod_of_dvd a (by decide : 2 ^ 1 ∣ 2 ^ 32)]
theorem nb_shl (a : Nat) {k : Nat} (h : k < 32) : nI a <<< (nI k &&& 31) = nI (a * 2 ^ k) := by
  apply Int32.toBitVec_inj.1
  apply BitVec.eq_of_toNat_eq
  rw [pk_shl (nI a) (nI k &&& 31) k (nb_sl k h)]
  show (BitVec.ofNat 32 a).toNat * 2 ^ k % 2 ^ 32 = (BitVec.ofNat 32 (a * 2 ^ k)).toNat
  rw [BitVec.toNat_ofNat, BitVec.toNat_ofNat, Nat.mod_mul_mod]
theorem nb_ushr {a k : Nat} (ha : a < 2 ^ 32) (h : k < 32) : ((nI a).toUInt32 >>> ((nI k).toUInt32 &&& Int32.toUInt32 31)).toInt32 = nI (a / 2 ^ k) := pk_ushrN ha (nI k) k (nb_su k h)
theorem nb_shr {a k : Nat} (ha : a < 2 ^ 31) (h : k < 32) : nI a >>> (nI k &&& 31) = nI (a / 2 ^ k) := pk_shrN ha (nI k &&& 31) k (nb_sl k h)
theorem nb_of (x : Int32) : ∃ n, n < 2 ^ 32 ∧ x = nI n := ⟨x.toBitVec.toNat, x.toBitVec.isLt, Int32.toBitVec_inj.mp (by show _ = BitVec.ofNat 32 _; simp)⟩
def tn (x : Int32) : Nat := x.toBitVec.toNat
theorem tn_lt (x : Int32) : tn x < 2 ^ 32 := x.toBitVec.isLt
theorem nI_tn (x : Int32) : nI (tn x) = x := Int32.toBitVec_inj.mp (by show BitVec.ofNat 32 x.toBitVec.toNat = _; simp)
theorem tn_nI {n : Nat} (h : n < 2 ^ 32) : tn (nI n) = n := by
  show (BitVec.ofNat 32 n).toNat = n
  rw [BitVec.toNat_ofNat, Nat.mod_eq_of_lt h]
theorem nI_inj32 {a b : Nat} (ha : a < 2 ^ 32) (hb : b < 2 ^ 32) (h : nI a = nI b) : a = b := by
  rw [← tn_nI ha, ← tn_nI hb, h]
theorem nb_clamp {f : Nat → Int32} {i : Nat} (h : i < 2 ^ 31) : f (nI i).toNatClampNeg = f i := by rw [nI_clamp h]
theorem nb_neg {a : Nat} (h1 : 2 ^ 31 ≤ a) (h2 : a < 2 ^ 32) : nI a < 0 := by
  rw [Int32.lt_iff_toInt_lt]
  show (BitVec.ofNat 32 a).toInt < 0
  rw [BitVec.toInt_eq_toNat_cond, BitVec.toNat_ofNat, Nat.mod_eq_of_lt h2]
  rw [if_neg (by omega)]
  omega
theorem nb_m1 {a : Nat} (h : a < 2 ^ 31) : ¬ nI a = (-1 : Int32) := by
  intro h1
  have h2 : nI a = nI (2 ^ 32 - 1) := h1
  have := nI_inj32 (by omega) (by omega) h2
  omega
theorem nb_eq0 {a : Nat} (h : a < 2 ^ 32) : nI a = 0 ↔ a = 0 := ⟨fun q => nI_inj32 h (by decide) q, fun q => by rw [q]; rfl⟩
theorem nb_lt0 {a : Nat} (h : a < 2 ^ 31) : nI a < 0 ↔ a < 0 := ⟨fun q => absurd q (nI_pos h), fun q => absurd q (by omega)⟩
theorem nb_ge0 {a : Nat} (h : a < 2 ^ 31) : 0 ≤ nI a ↔ 0 ≤ a := ⟨fun _ => Nat.zero_le _, fun _ => nI_pos' h⟩
theorem nb_gt0 {a : Nat} (h : a < 2 ^ 31) : 0 < nI a ↔ 0 < a := nI_ltI (a := 0) (by decide) h
theorem nb_le0 {a : Nat} (h : a < 2 ^ 31) : nI a ≤ 0 ↔ a ≤ 0 := nI_leI (b := 0) h (by decide)
