/-! ===== methods that look, or throw ===== -/
abbrev ioE : String := "java/lang/IndexOutOfBoundsException"
abbrev iaE : String := "java/lang/IllegalArgumentException"
abbrev iS (C : String) : MethodName := ⟨C, "<init>", "(Ljava/lang/String;)V"⟩
def XEV (E : String) (U : State) : Prop := va_Nw (.castable E E) U ∧ va_Nw (.declares (iS "java/lang/RuntimeException")) U ∧ va_Nw (.declares (iS "java/lang/Exception")) U ∧ va_Nw (.declares (iS "java/lang/Throwable")) U
theorem XEV.warm {E : String} {s U : State} (hW : s.WarmedH U.vm) (h : XEV E s) : XEV E U := ⟨va_Nw.warmC hW h.1, va_Nw.warmD hW h.2.1, va_Nw.warmD hW h.2.2.1, va_Nw.warmD hW h.2.2.2⟩
abbrev XB (E : String) : List Cond := [.castable E E, .declares (iS "java/lang/RuntimeException"), .declares (iS "java/lang/Exception"), .declares (iS "java/lang/Throwable")]
theorem XEV.use {E : String} {s : State} {args : Array Value} (h : XEV E s) : ∀ w ∈ XB E, w.before args s = true := vx_c (va_Nw.use rfl h.1) (vx_c (va_Nw.use rfl h.2.1) (vx_c (va_Nw.use rfl h.2.2.1) (vx_c (va_Nw.use rfl h.2.2.2) vx_n)))
def XE (q1 q2 q3 : Nat) (U : State) : Prop := (vk_R RX0 61 "no element has this number" q1 U ∧ vk_R RX0 74 "no permutation" q2 U ∧ vk_R RX0 79 "no element of the group" q3 U) ∧ (vx_Zq Bundle.tN "UNASSIGNED_STACK" Bundle.steD (fun _ => False) U U.heap ∧ vx_Zq Bundle.tN "SUPPRESSED_SENTINEL" Bundle.listD (fun _ => False) U U.heap) ∧ XEV ioE U ∧ XEV iaE U ∧ XEV nsE U ∧ va_Nc nsE iaE U
theorem XE.warm {q1 q2 q3 : Nat} {s U : State} (hW : s.WarmedH U.vm) (hH : U.heap = s.heap) (h : XE q1 q2 q3 s) : XE q1 q2 q3 U := by
  obtain ⟨⟨a1, a2, a3⟩, ⟨b1, b2⟩, c1, c2, c3, c4⟩ := h
  exact ⟨⟨a1.warm hW, a2.warm hW, a3.warm hW⟩, ⟨by rw [hH]; exact b1.moved hW.alike, by rw [hH]; exact b2.moved hW.alike⟩, c1.warm hW, c2.warm hW, c3.warm hW, c4.moved hW.alike⟩
abbrev xQ (post : Int32 → Prop) (H : Heap) : Array Value → State → Outcome → State → Prop := va_Qi (fun (z : Int32) (_ : Unit) => post z) (fun _ t => t.heap = H) (fun _ => False)
abbrev xX (bx : String → Prop) (H : Heap) : String → State → State → Prop := vx_X (fun _ : Unit => True) (fun E _ t => bx E ∧ H.size ≤ t.heap.size ∧ ∀ q : Nat, q < H.size → t.heap[q]? = H[q]?) (fun _ => False)
def xI (l : Launch) (y : MethodName) (ws : List Cond) (rm : Room) (av : List Value) (D : va_G) (tys : List (ClassId × FieldType)) (H : Heap) (q1 q2 q3 : Nat) (post : Int32 → Prop) (bx : String → Prop) : Prop :=
  vx_Met l y ws rm (va_Pc av (fun U => U.heap = H ∧ va_K D vwCl tys U ∧ XE q1 q2 q3 U)) (xQ post H) (xX bx H) 1 6 (fun _ => False)
section XIA
variable {l : Launch} {y : MethodName} {cc : ByteArray} {maxL : Nat} {ws : List Cond} {rm : Room} {D : va_G} {tys : List (ClassId × FieldType)} {H : Heap} {q1 q2 q3 : Nat} {post : Int32 → Prop} {bx : String → Prop}
theorem xI_ofW {ws' : List Cond} {av : List Value} (hy : plainName y.cls = true) (hw : ws = Cond.code y cc maxL (some .int) :: ws') (hav : (lg_sl av).length ≤ maxL)
    (body : ∀ (p : Program) (e : Env) (s : State) (m : MethodId) (args : Array Value) (below : List Frame) (meth : Method) (c : Code) (Q : State → Prop), p.tables.exec = Jvm.exec → c.code = cc → c.maxLocals = maxL → s.vm.findClass y.cls = some m.cls → (∀ w ∈ ws, w.before args s = true) → va_K D vwCl tys s → XE q1 q2 q3 s → s.heap = H → Q = vx_MQ below (xQ post H) (xX bx H) args s 1 6 (fun _ => False) → meth.locks = false → (∀ x ∈ c.exceptionTable.toList, False) → (∀ (pc : Nat) (ls : Array Slot) (v : Int32), post v → decode cc pc = .ok (.ireturn, 1) → W p l e rm s m args below meth c H [] 0 0 Q (F0 m pc ls [.int v])) → ∀ ls : Array Slot, lv_has ls maxL (lv_args 0 av) → W p l e rm s m args below meth c H [] 0 0 Q (F0 m 0 ls [])) : xI l y ws rm av D tys H q1 q2 q3 post bx := by
  refine vx_ofW (cc := cc) (maxL := maxL) (ret := some .int) hy hw ?_
  intro p e s m args below meth c s₁ B hml hout hv
  obtain ⟨rfl, hH, hK, hXE⟩ := hv
  subst hH
  have hts := atoms_spec (ws := ws) B.pre
  have hown : s.vm.findClass y.cls = some m.cls := findClass_of_methodNamed B.named
  have hl := lv_entry av (n := maxL) hav
  rw [lg_entry_eq]
  generalize (lg_sl av ++ List.replicate (maxL - (lg_sl av).length) Slot.unset).toArray = ls at hl ⊢
  refine body p e s m av.toArray below meth c _ B.exec B.bytes hml hown hts hK hXE rfl rfl B.notSynchronized hout ?_ ls hl
  intro pc ls v hpv hdg
  refine W.widen (k := 1) (n := 6) (Nat.zero_le _) (Nat.zero_le _) ?_
  exact vx_ret (W.iret B.exec B.bytes B.returns (fun t ht hW => ⟨⟨v, (), rfl, hpv, ht⟩, by rw [ht]; exact Nat.le_refl _, fun q _ _ => by rw [ht]⟩) (fun _ h => by cases h) hdg)
end XIA
theorem xX_of {bx : String → Prop} {s t : State} {E : String} (hb : bx E) (h1 : s.heap.size ≤ t.heap.size) (h2 : ∀ q : Nat, q < s.heap.size → t.heap[q]? = s.heap[q]?) : xX bx s.heap E s t := ⟨(), trivial, ⟨hb, h1, h2⟩, h1, fun q hq _ => h2 q hq⟩
