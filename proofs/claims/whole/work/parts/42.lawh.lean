/-! ===== the law's helpers ===== -/
abbrev gL (cI cG cZ cL : ClassId) : List (ClassId × FieldType) := [(cI, .int), (cG, .array .int), (cZ, .boolean), (cL, .long)]
abbrev oW (cL : ClassId) (o : Nat) (lf : Nat → Int64) : va_W := [(o, .inl (cL, 1, .inr (.inl lf)))]
section LHP
variable {l : Launch} {D : va_G} {cI cG cZ cL : ClassId} {h a g f : Nat} {ra : Nat → Nat} {n id ct : Nat} {fc : Int32} {ad fl : Nat → Int32} {R : Nat → Nat → Int32} {H : Heap} {q1 q2 q3 o : Nat} {lf : Nat → Int64}
abbrev hPc (D : va_G) (cI cG cZ cL : ClassId) (H : Heap) (q1 q2 q3 : Nat) (av : List Value) : Array Value → State → Prop := va_Pc av (fun U => U.heap = H ∧ va_K D vwCl (gL cI cG cZ cL) U ∧ XE q1 q2 q3 U)
abbrev hQc (D : va_G) (cL : ClassId) (H : Heap) (o : Nat) (post : Int32 → (Nat → Int64) → Prop) : Array Value → State → Outcome → State → Prop := va_Qi post (fun u t => (H.size ≤ t.heap.size ∧ ∀ q : Nat, q < H.size → q ≠ o → t.heap[q]? = H[q]?) ∧ va_P D vwCl (oW cL o u) t.heap) (fun q => q = o ∨ H.size ≤ q)
theorem eL_element : yL_element.cls ≠ "java/lang/invoke/MethodHandle" ∧ yL_element.cls ≠ "java/lang/invoke/VarHandle" ∧ (parseMethodDescriptor yL_element.desc).map (fun d => d.parameters.length) = some 3 := by decide +kernel
set_option maxHeartbeats 4000000 in
set_option maxRecDepth 100000 in
theorem kL_element (hst : l.stackTraces = false) (hP : va_P D vwCl (gW cI cG h a g f ra (nI n) (nI id) (nI ct) fc ad fl R) H) (hO : va_P D vwCl (oW cL o lf) H) (hn : n ≤ 7) (hc : ct ≤ 12) (hid : id < 2 ^ 32) {k : Int32} : Met l yL_element wsL_element ({ frames := 7, cells := 1, slots := 6, locals := 130 } : Room) (hPc D cI cG cZ cL H q1 q2 q3 [.ref h, .int k, .ref o]) (hQc D cL H o (fun r u => (r = nI 0 ∧ ∃ X, X < fx (R ct) n 0 ∧ k = nI X ∧ u 0 = (nI (ic (R ct) n id X)).toInt64) ∨ (r = nI 1 ∧ (k < 0 ∨ ¬ k < nI (fx (R ct) n 0))))) 1 6 (fun q => q = o ∨ H.size ≤ q) := by
  refine va_MetW (cc := cL_element) (maxL := 4) (ret := some .int) (hh := [(0, 9, 12, 13)]) (by decide) rfl ?_
  intro p e s m args below meth c s₁ B hml hv
  obtain ⟨rfl, hH, hK, hXE⟩ := hv
  subst hH
  have hx := B.exec
  have hb := B.bytes
  have hr := B.returns
  have hts := atoms_spec (ws := wsL_element) B.pre
  have hown : s.vm.findClass RL = some m.cls := findClass_of_methodNamed B.named
  have htab : c.exceptionTable.toList = tableOf [(0, 9, 12, 13)] := vx_table (x := yL_law) B (hts _ List.mem_cons_self)
  have hlocks := B.notSynchronized
  have hol : o < s.heap.size := (hO 0 _ rfl).lt
  have hS : va_S (fun q => q = o ∨ s.heap.size ≤ q) s.heap s.heap [] := va_S.rf
  have hD : va_D (fun q => q = o ∨ s.heap.size ≤ q) (oW cL o lf) := ⟨fun i j x y hi hj _ => by
    have a1 : i < 1 := (List.getElem?_eq_some_iff.mp hi).1
    have a2 : j < 1 := (List.getElem?_eq_some_iff.mp hj).1
    omega, fun k q hk => by
    have a1 : k < 1 := (List.getElem?_eq_some_iff.mp hk).1
    rw [show k = 0 by omega] at hk
    cases hk
    exact Or.inl rfl⟩
  have hKc : va_K D vwCl (gT cI cG cZ) s := hK.sub (tys' := gT cI cG cZ) [0, 1, 2] rfl
  have hl := lv_entry ([.ref h, .int k, .ref o]) (n := 4) (Nat.le_of_ble_eq_true rfl)
  rw [lg_entry_eq]
  generalize (lg_sl ([.ref h, .int k, .ref o]) ++ List.replicate (4 - (lg_sl ([.ref h, .int k, .ref o])).length) Slot.unset).toArray = ls at hl ⊢
  have hl : lv_has ls 4 [(0, .ref h), (1, .int k), (2, .ref o)] := hl
  refine lv_aload_n hx hb dL_element_0 rfl (lv_at hl 2 rfl) ?_
  refine lv_iconst (v := nI 0) hx hb dL_element_1 (by decide) ?_
  refine lv_aload_n hx hb dL_element_2 rfl (lv_at hl 0 rfl) ?_
  refine lv_iload_n hx hb dL_element_3 rfl (lv_at hl 1 rfl) ?_
  refine vx_calli (vx_runV (As := [.int k]) (rest := [.int (nI 0), .ref o]) ⟨hx, hb, hml, hown, hts⟩ (kX0_element hst hP hn hc hid) (cwV 1 hts gL_element_X0_element rfl rfl rfl eX0_element ⟨by decide, by decide⟩) ⟨fun a U g mk q => ⟨q.1, q.2.1, va_K.moved (u := U) (U := U.calling g mk a) (Vm.Alike.refl U.vm) q.2.2.1, XE.warm (s := U) (U := U.calling g mk a) (State.WarmedH.refl U) rfl q.2.2.2⟩, va_recv hKc hP (ci := 0) (q0 := 0) rfl rfl, fun U hU hW => ⟨rfl, hU, va_K.moved hW.alike hKc, XE.warm hW hU hXE⟩⟩ rfl rfl hl.1 rfl (lv_room (Nat.le_of_ble_eq_true rfl)) dL_element_4 ⟨Nat.le_refl _, Nat.le_refl _⟩) hS (fun q _ h => False.elim h) (fun q h => False.elim h) (fun q _ h => False.elim h) (fun E ce q9 u t H1 locs1 ht hvm hpx hB hz hk hS hce hcv hcl => ?_) (fun r u t H1 locs1 ht hvm hw hB hz hk hS => ?_)
  · obtain ⟨hbx, hsz, hkp⟩ := hB
    rw [ht] at hsz hkp
    have hO1 : va_P D vwCl (oW cL o lf) H1 := hO.kept (fun k q hq => hkp q.1 ((hO k q hq).lt))
    obtain ⟨rfl, hcond⟩ := hbx
    refine vx_catch hown [] ⟨0, 9, 12, 13⟩ [] (by rw [htab]; rfl) (fun _ h => nomatch h) (by decide) (by decide) (hts (.classLink RL 13 ioE) (by decide +kernel)) (va_Nw.use rfl hXE.2.2.1.1) hce hcv hcl ?_
    refine W.eq (g2 := F0 m 12 ls [.ref q9]) rfl ?_
    refine lv_astore_n (lv' := [(3, .ref q9), (0, .ref h), (1, .int k), (2, .ref o)]) hx hb dL_element_12 rfl hl (by decide) rfl (fun ls hl => ?_)
    refine lv_iconst (v := nI 1) hx hb dL_element_13 (by decide) ?_
    exact W.iret hx hb hr (fun t9 ht9 hW9 => ⟨⟨nI 1, lf, rfl, Or.inr ⟨rfl, hcond⟩, ⟨by rw [ht9]; exact hsz, fun q hq _ => by rw [ht9]; exact hkp q hq⟩, by rw [ht9]; exact hO1⟩, by rw [ht9]; exact hS.1, fun q hq hn => by rw [ht9]; exact hS.2.1 q hq hn⟩) hS.2.2 dL_element_14
  · obtain rfl : s.heap = H1 := hB.symm.trans ht
    refine lv_i2l (v := r.toInt64) hx hb dL_element_7 rfl ?_
    refine va_last hx hb hK hO hD hS 0 3 rfl rfl (vp_in_nI (by decide) (by decide)) dL_element_8 (fun H2 locs2 hP2 hD2 hS2 => ?_)
    have hP2 : va_P D vwCl (oW cL o (vp_updL lf 0 r.toInt64)) H2 := hP2
    refine lv_goto (tgt := 15) hx hb dL_element_9 (by decide) ?_
    refine lv_iconst (v := nI 0) hx hb dL_element_15 (by decide) ?_
    exact W.iret hx hb hr (fun t9 ht9 hW9 => ⟨⟨nI 0, vp_updL lf 0 r.toInt64, rfl, Or.inl ⟨rfl, hw.elim (fun X q => ⟨X, q.1, q.2.1, by rw [q.2.2]; rfl⟩)⟩, ⟨by rw [ht9]; exact hS2.1, fun q hq hn => by rw [ht9]; exact hS2.2.1 q hq (fun z => z.elim hn (fun z => by omega))⟩, by rw [ht9]; exact hP2⟩, by rw [ht9]; exact hS2.1, fun q hq hn => by rw [ht9]; exact hS2.2.1 q hq hn⟩) hS2.2.2 dL_element_16

theorem eL_rank : yL_rank.cls ≠ "java/lang/invoke/MethodHandle" ∧ yL_rank.cls ≠ "java/lang/invoke/VarHandle" ∧ (parseMethodDescriptor yL_rank.desc).map (fun d => d.parameters.length) = some 3 := by decide +kernel
set_option maxHeartbeats 4000000 in
set_option maxRecDepth 100000 in
theorem kL_rank (hst : l.stackTraces = false) (hP : va_P D vwCl (gW cI cG h a g f ra (nI n) (nI id) (nI ct) fc ad fl R) H) (hO : va_P D vwCl (oW cL o lf) H) (hn : n ≤ 7) (hc : ct ≤ 12) (hid : id < 2 ^ 32) {P : Nat} (hp : P < 2 ^ 32) : Met l yL_rank wsL_rank ({ frames := 7, cells := 1, slots := 6, locals := 170 } : Room) (hPc D cI cG cZ cL H q1 q2 q3 [.ref h, .int (nI P), .ref o]) (hQc D cL H o (fun r u => (r = nI 0 ∧ isP n P = true ∧ rs (R ct) n P = id ∧ u 0 = (nI (eb (R ct) n id P)).toInt64) ∨ (r = nI 1 ∧ isP n P = false) ∨ (r = nI 2 ∧ isP n P = true ∧ ¬ rs (R ct) n P = id))) 1 6 (fun q => q = o ∨ H.size ≤ q) := by
  refine va_MetW (cc := cL_rank) (maxL := 4) (ret := some .int) (hh := [(0, 9, 12, 18), (0, 9, 15, 20)]) (by decide) rfl ?_
  intro p e s m args below meth c s₁ B hml hv
  obtain ⟨rfl, hH, hK, hXE⟩ := hv
  subst hH
  have hx := B.exec
  have hb := B.bytes
  have hr := B.returns
  have hts := atoms_spec (ws := wsL_rank) B.pre
  have hown : s.vm.findClass RL = some m.cls := findClass_of_methodNamed B.named
  have htab : c.exceptionTable.toList = tableOf [(0, 9, 12, 18), (0, 9, 15, 20)] := vx_table (x := yL_law) B (hts _ List.mem_cons_self)
  have hlocks := B.notSynchronized
  have hol : o < s.heap.size := (hO 0 _ rfl).lt
  have hS : va_S (fun q => q = o ∨ s.heap.size ≤ q) s.heap s.heap [] := va_S.rf
  have hD : va_D (fun q => q = o ∨ s.heap.size ≤ q) (oW cL o lf) := ⟨fun i j x y hi hj _ => by
    have a1 : i < 1 := (List.getElem?_eq_some_iff.mp hi).1
    have a2 : j < 1 := (List.getElem?_eq_some_iff.mp hj).1
    omega, fun k q hk => by
    have a1 : k < 1 := (List.getElem?_eq_some_iff.mp hk).1
    rw [show k = 0 by omega] at hk
    cases hk
    exact Or.inl rfl⟩
  have hKc : va_K D vwCl (gT cI cG cZ) s := hK.sub (tys' := gT cI cG cZ) [0, 1, 2] rfl
  have hl := lv_entry ([.ref h, .int (nI P), .ref o]) (n := 4) (Nat.le_of_ble_eq_true rfl)
  rw [lg_entry_eq]
  generalize (lg_sl ([.ref h, .int (nI P), .ref o]) ++ List.replicate (4 - (lg_sl ([.ref h, .int (nI P), .ref o])).length) Slot.unset).toArray = ls at hl ⊢
  have hl : lv_has ls 4 [(0, .ref h), (1, .int (nI P)), (2, .ref o)] := hl
  refine lv_aload_n hx hb dL_rank_0 rfl (lv_at hl 2 rfl) ?_
  refine lv_iconst (v := nI 0) hx hb dL_rank_1 (by decide) ?_
  refine lv_aload_n hx hb dL_rank_2 rfl (lv_at hl 0 rfl) ?_
  refine lv_iload_n hx hb dL_rank_3 rfl (lv_at hl 1 rfl) ?_
  refine vx_calli (vx_runV (As := [.int (nI P)]) (rest := [.int (nI 0), .ref o]) ⟨hx, hb, hml, hown, hts⟩ (kX0_rank hst hP hn hc hid hp) (cwV 1 hts gL_rank_X0_rank rfl rfl rfl eX0_rank ⟨by decide, by decide⟩) ⟨fun a U g mk q => ⟨q.1, q.2.1, va_K.moved (u := U) (U := U.calling g mk a) (Vm.Alike.refl U.vm) q.2.2.1, XE.warm (s := U) (U := U.calling g mk a) (State.WarmedH.refl U) rfl q.2.2.2⟩, va_recv hKc hP (ci := 0) (q0 := 0) rfl rfl, fun U hU hW => ⟨rfl, hU, va_K.moved hW.alike hKc, XE.warm hW hU hXE⟩⟩ rfl rfl hl.1 rfl (lv_room (Nat.le_of_ble_eq_true rfl)) dL_rank_4 ⟨Nat.le_refl _, Nat.le_refl _⟩) hS (fun q _ h => False.elim h) (fun q h => False.elim h) (fun q _ h => False.elim h) (fun E ce q9 u t H1 locs1 ht hvm hpx hB hz hk hS hce hcv hcl => ?_) (fun r u t H1 locs1 ht hvm hw hB hz hk hS => ?_)
  · obtain ⟨hbx, hsz, hkp⟩ := hB
    rw [ht] at hsz hkp
    have hO1 : va_P D vwCl (oW cL o lf) H1 := hO.kept (fun k q hq => hkp q.1 ((hO k q hq).lt))
    rcases hbx with hbx | hbx
    · obtain ⟨rfl, hcond⟩ := hbx
      refine vx_catch hown [] ⟨0, 9, 12, 18⟩ [⟨0, 9, 15, 20⟩] (by rw [htab]; rfl) (fun _ h => nomatch h) (by decide) (by decide) (hts (.classLink RL 18 iaE) (by decide +kernel)) (va_Nw.use rfl hXE.2.2.2.1.1) hce hcv hcl ?_
      refine W.eq (g2 := F0 m 12 ls [.ref q9]) rfl ?_
      refine lv_astore_n (lv' := [(3, .ref q9), (0, .ref h), (1, .int (nI P)), (2, .ref o)]) hx hb dL_rank_12 rfl hl (by decide) rfl (fun ls hl => ?_)
      refine lv_iconst (v := nI 1) hx hb dL_rank_13 (by decide) ?_
      exact W.iret hx hb hr (fun t9 ht9 hW9 => ⟨⟨nI 1, lf, rfl, Or.inr (Or.inl ⟨rfl, hcond⟩), ⟨by rw [ht9]; exact hsz, fun q hq _ => by rw [ht9]; exact hkp q hq⟩, by rw [ht9]; exact hO1⟩, by rw [ht9]; exact hS.1, fun q hq hn => by rw [ht9]; exact hS.2.1 q hq hn⟩) hS.2.2 dL_rank_14
    · obtain ⟨rfl, hcond⟩ := hbx
      refine vx_catch hown [⟨0, 9, 12, 18⟩] ⟨0, 9, 15, 20⟩ [] (by rw [htab]; rfl) (fun z hz9 => by
        rw [List.mem_singleton.mp hz9]
        exact Or.inr ⟨by decide, iaE, hts (.classLink RL 18 iaE) (by decide +kernel), hXE.2.2.2.2.2⟩) (by decide) (by decide) (hts (.classLink RL 20 nsE) (by decide +kernel)) (va_Nw.use rfl hXE.2.2.2.2.1.1) hce hcv hcl ?_
      refine W.eq (g2 := F0 m 15 ls [.ref q9]) rfl ?_
      refine lv_astore_n (lv' := [(3, .ref q9), (0, .ref h), (1, .int (nI P)), (2, .ref o)]) hx hb dL_rank_15 rfl hl (by decide) rfl (fun ls hl => ?_)
      refine lv_iconst (v := nI 2) hx hb dL_rank_16 (by decide) ?_
      exact W.iret hx hb hr (fun t9 ht9 hW9 => ⟨⟨nI 2, lf, rfl, Or.inr (Or.inr ⟨rfl, hcond⟩), ⟨by rw [ht9]; exact hsz, fun q hq _ => by rw [ht9]; exact hkp q hq⟩, by rw [ht9]; exact hO1⟩, by rw [ht9]; exact hS.1, fun q hq hn => by rw [ht9]; exact hS.2.1 q hq hn⟩) hS.2.2 dL_rank_17
  · obtain rfl : s.heap = H1 := hB.symm.trans ht
    refine lv_i2l (v := r.toInt64) hx hb dL_rank_7 rfl ?_
    refine va_last hx hb hK hO hD hS 0 3 rfl rfl (vp_in_nI (by decide) (by decide)) dL_rank_8 (fun H2 locs2 hP2 hD2 hS2 => ?_)
    have hP2 : va_P D vwCl (oW cL o (vp_updL lf 0 r.toInt64)) H2 := hP2
    refine lv_goto (tgt := 18) hx hb dL_rank_9 (by decide) ?_
    refine lv_iconst (v := nI 0) hx hb dL_rank_18 (by decide) ?_
    exact W.iret hx hb hr (fun t9 ht9 hW9 => ⟨⟨nI 0, vp_updL lf 0 r.toInt64, rfl, Or.inl ⟨rfl, hw.1, hw.2.1, by rw [hw.2.2]; rfl⟩, ⟨by rw [ht9]; exact hS2.1, fun q hq hn => by rw [ht9]; exact hS2.2.1 q hq (fun z => z.elim hn (fun z => by omega))⟩, by rw [ht9]; exact hP2⟩, by rw [ht9]; exact hS2.1, fun q hq hn => by rw [ht9]; exact hS2.2.1 q hq hn⟩) hS2.2.2 dL_rank_19

theorem eL_least : yL_least.cls ≠ "java/lang/invoke/MethodHandle" ∧ yL_least.cls ≠ "java/lang/invoke/VarHandle" ∧ (parseMethodDescriptor yL_least.desc).map (fun d => d.parameters.length) = some 3 := by decide +kernel
set_option maxHeartbeats 4000000 in
set_option maxRecDepth 100000 in
theorem kL_least (hst : l.stackTraces = false) (hP : va_P D vwCl (gW cI cG h a g f ra (nI n) (nI id) (nI ct) fc ad fl R) H) (hO : va_P D vwCl (oW cL o lf) H) (hn : n ≤ 7) (hc : ct ≤ 12) {P : Nat} (hp : P < 2 ^ 32) : Met l yL_least wsL_least ({ frames := 7, cells := 1, slots := 6, locals := 130 } : Room) (hPc D cI cG cZ cL H q1 q2 q3 [.ref h, .int (nI P), .ref o]) (hQc D cL H o (fun r u => (r = nI 0 ∧ isP n P = true ∧ u 0 = (nI (ic (R ct) n P 0)).toInt64) ∨ (r = nI 1 ∧ isP n P = false))) 1 6 (fun q => q = o ∨ H.size ≤ q) := by
  refine va_MetW (cc := cL_least) (maxL := 4) (ret := some .int) (hh := [(0, 9, 12, 18)]) (by decide) rfl ?_
  intro p e s m args below meth c s₁ B hml hv
  obtain ⟨rfl, hH, hK, hXE⟩ := hv
  subst hH
  have hx := B.exec
  have hb := B.bytes
  have hr := B.returns
  have hts := atoms_spec (ws := wsL_least) B.pre
  have hown : s.vm.findClass RL = some m.cls := findClass_of_methodNamed B.named
  have htab : c.exceptionTable.toList = tableOf [(0, 9, 12, 18)] := vx_table (x := yL_law) B (hts _ List.mem_cons_self)
  have hlocks := B.notSynchronized
  have hol : o < s.heap.size := (hO 0 _ rfl).lt
  have hS : va_S (fun q => q = o ∨ s.heap.size ≤ q) s.heap s.heap [] := va_S.rf
  have hD : va_D (fun q => q = o ∨ s.heap.size ≤ q) (oW cL o lf) := ⟨fun i j x y hi hj _ => by
    have a1 : i < 1 := (List.getElem?_eq_some_iff.mp hi).1
    have a2 : j < 1 := (List.getElem?_eq_some_iff.mp hj).1
    omega, fun k q hk => by
    have a1 : k < 1 := (List.getElem?_eq_some_iff.mp hk).1
    rw [show k = 0 by omega] at hk
    cases hk
    exact Or.inl rfl⟩
  have hKc : va_K D vwCl (gT cI cG cZ) s := hK.sub (tys' := gT cI cG cZ) [0, 1, 2] rfl
  have hl := lv_entry ([.ref h, .int (nI P), .ref o]) (n := 4) (Nat.le_of_ble_eq_true rfl)
  rw [lg_entry_eq]
  generalize (lg_sl ([.ref h, .int (nI P), .ref o]) ++ List.replicate (4 - (lg_sl ([.ref h, .int (nI P), .ref o])).length) Slot.unset).toArray = ls at hl ⊢
  have hl : lv_has ls 4 [(0, .ref h), (1, .int (nI P)), (2, .ref o)] := hl
  refine lv_aload_n hx hb dL_least_0 rfl (lv_at hl 2 rfl) ?_
  refine lv_iconst (v := nI 0) hx hb dL_least_1 (by decide) ?_
  refine lv_aload_n hx hb dL_least_2 rfl (lv_at hl 0 rfl) ?_
  refine lv_iload_n hx hb dL_least_3 rfl (lv_at hl 1 rfl) ?_
  refine vx_calli (vx_runV (As := [.int (nI P)]) (rest := [.int (nI 0), .ref o]) ⟨hx, hb, hml, hown, hts⟩ (kX0_least hst hP hn hc hp) (cwV 1 hts gL_least_X0_least rfl rfl rfl eX0_least ⟨by decide, by decide⟩) ⟨fun a U g mk q => ⟨q.1, q.2.1, va_K.moved (u := U) (U := U.calling g mk a) (Vm.Alike.refl U.vm) q.2.2.1, XE.warm (s := U) (U := U.calling g mk a) (State.WarmedH.refl U) rfl q.2.2.2⟩, va_recv hKc hP (ci := 0) (q0 := 0) rfl rfl, fun U hU hW => ⟨rfl, hU, va_K.moved hW.alike hKc, XE.warm hW hU hXE⟩⟩ rfl rfl hl.1 rfl (lv_room (Nat.le_of_ble_eq_true rfl)) dL_least_4 ⟨Nat.le_refl _, Nat.le_refl _⟩) hS (fun q _ h => False.elim h) (fun q h => False.elim h) (fun q _ h => False.elim h) (fun E ce q9 u t H1 locs1 ht hvm hpx hB hz hk hS hce hcv hcl => ?_) (fun r u t H1 locs1 ht hvm hw hB hz hk hS => ?_)
  · obtain ⟨hbx, hsz, hkp⟩ := hB
    rw [ht] at hsz hkp
    have hO1 : va_P D vwCl (oW cL o lf) H1 := hO.kept (fun k q hq => hkp q.1 ((hO k q hq).lt))
    obtain ⟨rfl, hcond⟩ := hbx
    refine vx_catch hown [] ⟨0, 9, 12, 18⟩ [] (by rw [htab]; rfl) (fun _ h => nomatch h) (by decide) (by decide) (hts (.classLink RL 18 iaE) (by decide +kernel)) (va_Nw.use rfl hXE.2.2.2.1.1) hce hcv hcl ?_
    refine W.eq (g2 := F0 m 12 ls [.ref q9]) rfl ?_
    refine lv_astore_n (lv' := [(3, .ref q9), (0, .ref h), (1, .int (nI P)), (2, .ref o)]) hx hb dL_least_12 rfl hl (by decide) rfl (fun ls hl => ?_)
    refine lv_iconst (v := nI 1) hx hb dL_least_13 (by decide) ?_
    exact W.iret hx hb hr (fun t9 ht9 hW9 => ⟨⟨nI 1, lf, rfl, Or.inr ⟨rfl, hcond⟩, ⟨by rw [ht9]; exact hsz, fun q hq _ => by rw [ht9]; exact hkp q hq⟩, by rw [ht9]; exact hO1⟩, by rw [ht9]; exact hS.1, fun q hq hn => by rw [ht9]; exact hS.2.1 q hq hn⟩) hS.2.2 dL_least_14
  · obtain rfl : s.heap = H1 := hB.symm.trans ht
    refine lv_i2l (v := r.toInt64) hx hb dL_least_7 rfl ?_
    refine va_last hx hb hK hO hD hS 0 3 rfl rfl (vp_in_nI (by decide) (by decide)) dL_least_8 (fun H2 locs2 hP2 hD2 hS2 => ?_)
    have hP2 : va_P D vwCl (oW cL o (vp_updL lf 0 r.toInt64)) H2 := hP2
    refine lv_goto (tgt := 15) hx hb dL_least_9 (by decide) ?_
    refine lv_iconst (v := nI 0) hx hb dL_least_15 (by decide) ?_
    exact W.iret hx hb hr (fun t9 ht9 hW9 => ⟨⟨nI 0, vp_updL lf 0 r.toInt64, rfl, Or.inl ⟨rfl, hw.1, by rw [hw.2]; rfl⟩, ⟨by rw [ht9]; exact hS2.1, fun q hq hn => by rw [ht9]; exact hS2.2.1 q hq (fun z => z.elim hn (fun z => by omega))⟩, by rw [ht9]; exact hP2⟩, by rw [ht9]; exact hS2.1, fun q hq hn => by rw [ht9]; exact hS2.2.1 q hq hn⟩) hS2.2.2 dL_least_16

end LHP
