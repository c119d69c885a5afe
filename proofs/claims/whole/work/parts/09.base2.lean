/-! ===== contracts of methods that write into their own cells and make none ===== -/
def inW (w : va_W) : Nat → Prop := fun q => ∃ (k : Nat) (e : va_E), w[k]? = some (q, e)
theorem inW_D {w : va_W} {A : Nat → Prop} (h : va_D A w) : va_D (inW w) w := ⟨h.1, fun k q hk => ⟨k, q.2, hk⟩⟩
theorem inW_of {w : va_W} {A : Nat → Prop} (h : va_D A w) : ∀ q, inW w q → A q := fun q ⟨k, e, hk⟩ => h.2 k (q, e) hk
theorem va_D_addr {w w' : va_W} {A : Nat → Prop} (hm : w'.map (fun q => q.1) = w.map (fun q => q.1)) (h : va_D A w) : va_D A w' := by
  have key : ∀ (k : Nat) (q : Nat × va_E), w'[k]? = some q → ∃ q0, w[k]? = some q0 ∧ q0.1 = q.1 := by
    intro k q hk
    have h1 : (w'.map (fun q => q.1))[k]? = some q.1 := by rw [List.getElem?_map, hk]; rfl
    rw [hm, List.getElem?_map] at h1
    cases hw : w[k]? with
    | none => rw [hw] at h1; cases h1
    | some q0 => rw [hw] at h1; exact ⟨q0, rfl, Option.some.inj h1⟩
  refine ⟨fun i j x y hi hj hxy => ?_, fun k q hk => ?_⟩
  · obtain ⟨x0, h1, h2⟩ := key i x hi
    obtain ⟨y0, h3, h4⟩ := key j y hj
    exact h.1 i j x0 y0 h1 h3 (h2.trans (hxy.trans h4.symm))
  · obtain ⟨q0, h1, h2⟩ := key k q hk
    rw [← h2]
    exact h.2 k q0 h1
def mI {S : Type} (l : Launch) (y : MethodName) (ws : List Cond) (rm : Room) (av : List Value) (D : va_G) (tys : List (ClassId × FieldType)) (w0 : va_W) (w1 : S → va_W) (post : Int32 → S → Prop) : Prop :=
  Met l y ws rm (va_Pc av (fun U => va_P D vwCl w0 U.heap ∧ va_K D vwCl tys U ∧ va_D (fun _ => True) w0)) (va_Qi post (fun u t => va_P D vwCl (w1 u) t.heap) (inW w0)) 0 0 (inW w0)
def mV {S : Type} (l : Launch) (y : MethodName) (ws : List Cond) (rm : Room) (av : List Value) (D : va_G) (tys : List (ClassId × FieldType)) (w0 : va_W) (w1 : S → va_W) (post : S → Prop) : Prop :=
  Met l y ws rm (va_Pc av (fun U => va_P D vwCl w0 U.heap ∧ va_K D vwCl tys U ∧ va_D (fun _ => True) w0)) (va_Qv post (fun u t => va_P D vwCl (w1 u) t.heap) (inW w0)) 0 0 (inW w0)
section MIA
variable {p : Program} {l : Launch} {e : Env} {RM : Room} {s : State} {m : MethodId} {args : Array Value} {below : List Frame} {meth : Method} {c : Code} {H : Heap} {locs : List Loc} {cells slots : Nat} {Q : State → Prop}
variable {y : MethodName} {bytes cc : ByteArray} {maxL nL n index : Nat} {ret : Option FieldType} {ws : List Cond} {rm : Room} {Ts : List Cond} {own C : String} {b : Addr} {As rest st0 : List Value} {D : va_G} {tys : List (ClassId × FieldType)} {pc : Nat} {ls : Array Slot}
variable {S : Type} {w0 : va_W} {w1 : S → va_W} {H0 : Heap} {A0 : Nat → Prop}
theorem mi_pre (hK : va_K D vwCl tys s) (hP : va_P D vwCl w0 H) (hD : va_D A0 w0) : PreS s H (va_Pc As (fun U => va_P D vwCl w0 U.heap ∧ va_K D vwCl tys U ∧ va_D (fun _ => True) w0)) As :=
  ⟨fun a U g mk q => ⟨q.1, q.2.1, va_K.moved (u := U) (U := U.calling g mk a) (Vm.Alike.refl U.vm) q.2.2.1, q.2.2.2⟩, fun U hU hW => ⟨rfl, by rw [hU]; exact hP, va_K.moved hW.alike hK, hD.weaken (fun _ _ _ _ => trivial)⟩⟩
theorem mi_V {post : Int32 → S → Prop} (Sx : CallFix p m c cc nL s args Ts own) (hM : mI l y ws rm (.ref b :: As) D tys w0 w1 post) (cw : CallW RM s args own C index y bytes maxL ret ws rm 0 0 n) (hrc : ∃ cellB : Cell, H[b]? = some cellB ∧ cellB.vm.isStatics = false ∧ s.vm.findClass C = some cellB.cls) (hK : va_K D vwCl tys s) (hP : va_P D vwCl w0 H) (hD : va_D A0 w0) (hS : va_S A0 H0 H locs) (hn : As.length = n) (hsize : ls.size = nL) (hst : st0 = As.reverse ++ .ref b :: rest) (hW : (rest.map fun v => v.category).sum ≤ 8) (hdg : decode cc pc = .ok (.invokevirtual index, 3)) (hf : cells ≤ RM.cells ∧ slots ≤ RM.slots)
    (kk : ∀ (r : Int32) (u : S) (H1 : Heap) (locs1 : List Loc), post r u → va_P D vwCl (w1 u) H1 → va_S A0 H0 H1 locs1 → (∀ q : Nat, q < H.size → ¬ inW w0 q → H1[q]? = H[q]?) → W p l e RM s m args below meth c H1 locs1 cells slots Q (F0 m (pc + 3) ls (.int r :: rest))) : W p l e RM s m args below meth c H locs cells slots Q (F0 m pc ls st0) := by
  have hp := mi_pre (As := .ref b :: As) hK hP hD
  refine va_calli (va_runV (g := F0 m pc ls st0) Sx hM cw ⟨hp.1, hrc, hp.2⟩ rfl hn hsize hst (lv_room hW) hdg hf) hS (fun q _ h => inW_of hD q h) (inW_of hD) (fun r u t H1 locs1 ht hvm hw hB hz1 hk1 hS => ?_)
  rw [ht] at hB
  exact kk r u H1 locs1 hw hB hS hk1
theorem mv_V {post : S → Prop} (Sx : CallFix p m c cc nL s args Ts own) (hM : mV l y ws rm (.ref b :: As) D tys w0 w1 post) (cw : CallW RM s args own C index y bytes maxL ret ws rm 0 0 n) (hrc : ∃ cellB : Cell, H[b]? = some cellB ∧ cellB.vm.isStatics = false ∧ s.vm.findClass C = some cellB.cls) (hK : va_K D vwCl tys s) (hP : va_P D vwCl w0 H) (hD : va_D A0 w0) (hS : va_S A0 H0 H locs) (hn : As.length = n) (hsize : ls.size = nL) (hst : st0 = As.reverse ++ .ref b :: rest) (hW : (rest.map fun v => v.category).sum ≤ 8) (hdg : decode cc pc = .ok (.invokevirtual index, 3)) (hf : cells ≤ RM.cells ∧ slots ≤ RM.slots)
    (kk : ∀ (u : S) (H1 : Heap) (locs1 : List Loc), post u → va_P D vwCl (w1 u) H1 → va_S A0 H0 H1 locs1 → (∀ q : Nat, q < H.size → ¬ inW w0 q → H1[q]? = H[q]?) → W p l e RM s m args below meth c H1 locs1 cells slots Q (F0 m (pc + 3) ls rest)) : W p l e RM s m args below meth c H locs cells slots Q (F0 m pc ls st0) := by
  have hp := mi_pre (As := .ref b :: As) hK hP hD
  refine va_callv (va_runV (g := F0 m pc ls st0) Sx hM cw ⟨hp.1, hrc, hp.2⟩ rfl hn hsize hst (lv_room hW) hdg hf) hS (fun q _ h => inW_of hD q h) (inW_of hD) (fun u t H1 locs1 ht hvm hw hB hz1 hk1 hS => ?_)
  rw [ht] at hB
  exact kk u H1 locs1 hw hB hS hk1
theorem mI_ofW {post : Int32 → S → Prop} {ws' : List Cond} {av : List Value} (hy : plainName y.cls = true) (hw : ws = Cond.code y cc maxL ret :: ws') (hrt : ret = some .int ∨ (ret = some .boolean ∧ ∀ v u, post v u → v = 0 ∨ v = 1)) (hav : (lg_sl av).length ≤ maxL)
    (body : ∀ (p : Program) (e : Env) (s : State) (m : MethodId) (args : Array Value) (below : List Frame) (meth : Method) (c : Code) (Q : State → Prop), p.tables.exec = Jvm.exec → c.code = cc → c.maxLocals = maxL → s.vm.findClass y.cls = some m.cls → (∀ w ∈ ws, w.before args s = true) → va_K D vwCl tys s → va_P D vwCl w0 s.heap → va_D (inW w0) w0 → va_S (inW w0) s.heap s.heap [] → (∀ (u : S) (H : Heap) (locs : List Loc) (pc : Nat) (ls : Array Slot) (v : Int32), post v u → va_P D vwCl (w1 u) H → va_S (inW w0) s.heap H locs → decode cc pc = .ok (.ireturn, 1) → W p l e rm s m args below meth c H locs 0 0 Q (F0 m pc ls [.int v])) → ∀ ls : Array Slot, lv_has ls maxL (lv_args 0 av) → W p l e rm s m args below meth c s.heap [] 0 0 Q (F0 m 0 ls [])) : mI l y ws rm av D tys w0 w1 post := by
  refine Met.ofW (cc := cc) (maxL := maxL) (ret := ret) hy hw ?_
  intro p e s m args below meth c s₁ B hml hv
  obtain ⟨rfl, hP, hK, hD⟩ := hv
  have hts := atoms_spec (ws := ws) B.pre
  have hown : s.vm.findClass y.cls = some m.cls := findClass_of_methodNamed B.named
  have hl := lv_entry av (n := maxL) hav
  rw [lg_entry_eq]
  generalize (lg_sl av ++ List.replicate (maxL - (lg_sl av).length) Slot.unset).toArray = ls at hl ⊢
  refine body p e s m av.toArray below meth c _ B.exec B.bytes hml hown hts hK hP (inW_D hD) va_S.rf ?_ ls hl
  intro u H locs pc ls v hpo hP1 hS1 hdg
  rcases hrt with hrt | ⟨hrt, h01⟩
  · exact W.iret B.exec B.bytes (by rw [B.returns, hrt]) (fun t ht hW => ⟨⟨v, u, rfl, hpo, (by show va_P D vwCl (w1 u) t.heap; rw [ht]; exact hP1)⟩, hS1.F ht⟩) hS1.2.2 hdg
  · exact W.zret (ty := .boolean) B.exec B.bytes (by rw [B.returns, hrt]) (by rcases h01 v u hpo with rfl | rfl <;> rfl) (fun t ht hW => ⟨⟨v, u, rfl, hpo, (by show va_P D vwCl (w1 u) t.heap; rw [ht]; exact hP1)⟩, hS1.F ht⟩) hS1.2.2 hdg
theorem mV_ofW {post : S → Prop} {ws' : List Cond} {av : List Value} (hy : plainName y.cls = true) (hw : ws = Cond.code y cc maxL none :: ws') (hav : (lg_sl av).length ≤ maxL)
    (body : ∀ (p : Program) (e : Env) (s : State) (m : MethodId) (args : Array Value) (below : List Frame) (meth : Method) (c : Code) (Q : State → Prop), p.tables.exec = Jvm.exec → c.code = cc → c.maxLocals = maxL → s.vm.findClass y.cls = some m.cls → (∀ w ∈ ws, w.before args s = true) → va_K D vwCl tys s → va_P D vwCl w0 s.heap → va_D (inW w0) w0 → va_S (inW w0) s.heap s.heap [] → (∀ (u : S) (H : Heap) (locs : List Loc) (pc : Nat) (ls : Array Slot), post u → va_P D vwCl (w1 u) H → va_S (inW w0) s.heap H locs → decode cc pc = .ok (.return_, 1) → W p l e rm s m args below meth c H locs 0 0 Q (F0 m pc ls [])) → ∀ ls : Array Slot, lv_has ls maxL (lv_args 0 av) → W p l e rm s m args below meth c s.heap [] 0 0 Q (F0 m 0 ls [])) : mV l y ws rm av D tys w0 w1 post := by
  refine Met.ofW (cc := cc) (maxL := maxL) (ret := none) hy hw ?_
  intro p e s m args below meth c s₁ B hml hv
  obtain ⟨rfl, hP, hK, hD⟩ := hv
  have hts := atoms_spec (ws := ws) B.pre
  have hown : s.vm.findClass y.cls = some m.cls := findClass_of_methodNamed B.named
  have hl := lv_entry av (n := maxL) hav
  rw [lg_entry_eq]
  generalize (lg_sl av ++ List.replicate (maxL - (lg_sl av).length) Slot.unset).toArray = ls at hl ⊢
  refine body p e s m av.toArray below meth c _ B.exec B.bytes hml hown hts hK hP (inW_D hD) va_S.rf ?_ ls hl
  intro u H locs pc ls hpo hP1 hS1 hdg
  exact W.vret B.exec B.bytes B.returns (fun t ht hW => ⟨⟨u, rfl, hpo, (by show va_P D vwCl (w1 u) t.heap; rw [ht]; exact hP1)⟩, hS1.F ht⟩) hS1.2.2 hdg
variable {cl : List vw_C} {A : Nat → Prop} {a : Nat} {wz : va_W}
theorem ua_iast (hexec : p.tables.exec = Jvm.exec) (hb : c.code = cc) (hK : va_K D cl tys s) (hP : va_P D cl wz H) (hD : va_D A wz) (hS : va_S A H0 H locs) (q0 t0 : Nat) {cA : ClassId} {n : Nat} {f : Nat → Int32} (ha : wz[q0]? = some (a, .inl (cA, n, .inl f))) (ht : tys[t0]? = some (cA, .int)) {i : Nat} {x : Int32} (hi : i < n) (hn : n < 2 ^ 31) (hdg : decode cc pc = .ok (.iastore, 1))
    (kk : ∀ (H1 : Heap) (locs1 : List Loc), va_P D cl (wz.set q0 (a, .inl (cA, n, .inl (upd f i x)))) H1 → va_D A (wz.set q0 (a, .inl (cA, n, .inl (upd f i x)))) → va_S A H0 H1 locs1 → W p l e RM s m args below meth c H1 locs1 cells slots Q (F0 m (pc + 1) ls rest)) : W p l e RM s m args below meth c H locs cells slots Q (F0 m pc ls (.int x :: .int (nI i) :: .ref a :: rest)) := by
  refine va_iast hexec hb hK hP hD hS q0 t0 ha ht (vp_in_nI hi hn) hdg ?_
  rw [nI_clamp (by omega)]
  exact kk
theorem ua_zast (hexec : p.tables.exec = Jvm.exec) (hb : c.code = cc) (hK : va_K D cl tys s) (hP : va_P D cl wz H) (hD : va_D A wz) (hS : va_S A H0 H locs) (q0 t0 : Nat) {cA : ClassId} {n : Nat} {f : Nat → Int32} (ha : wz[q0]? = some (a, .inl (cA, n, .inl f))) (ht : tys[t0]? = some (cA, .boolean)) {i : Nat} {x : Int32} (hx01 : vp_nar .boolean x = x) (hi : i < n) (hn : n < 2 ^ 31) (hdg : decode cc pc = .ok (.bastore, 1))
    (kk : ∀ (H1 : Heap) (locs1 : List Loc), va_P D cl (wz.set q0 (a, .inl (cA, n, .inl (upd f i x)))) H1 → va_D A (wz.set q0 (a, .inl (cA, n, .inl (upd f i x)))) → va_S A H0 H1 locs1 → W p l e RM s m args below meth c H1 locs1 cells slots Q (F0 m (pc + 1) ls rest)) : W p l e RM s m args below meth c H locs cells slots Q (F0 m pc ls (.int x :: .int (nI i) :: .ref a :: rest)) := by
  refine va_zast hexec hb hK hP hD hS q0 t0 ha ht (vp_in_nI hi hn) hdg ?_
  rw [nI_clamp (by omega), hx01]
  exact kk
end MIA
