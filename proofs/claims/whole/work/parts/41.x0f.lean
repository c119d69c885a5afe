section CXJ
variable {l : Launch} {D : va_G} {cI cG cZ : ClassId} {h a g f : Nat} {ra : Nat → Nat} {n id ct : Nat} {fc : Int32} {ad fl : Nat → Int32} {R : Nat → Nat → Int32} {H : Heap}
variable {q1 q2 q3 : Nat}
theorem eX0_element : yX0_element.cls = RX0 ∧ yX0_element.cls ≠ "java/lang/invoke/MethodHandle" ∧ yX0_element.cls ≠ "java/lang/invoke/VarHandle" ∧ (parseMethodDescriptor yX0_element.desc).map (fun d => d.parameters.length) = some 1 := by decide +kernel
set_option maxHeartbeats 4000000 in
set_option maxRecDepth 100000 in
theorem kX0_element (hst : l.stackTraces = false) (hP : va_P D vwCl (gW cI cG h a g f ra (nI n) (nI id) (nI ct) fc ad fl R) H) (hn : n ≤ 7) (hc : ct ≤ 12) (hid : id < 2 ^ 32) {k : Int32} : xI l yX0_element wsX0_element ({ frames := 6, cells := 1, slots := 6, locals := 97 } : Room) [.ref h, .int (k)] D (gT cI cG cZ) H q1 q2 q3 (fun z => ∃ X, X < fx (R ct) n 0 ∧ k = nI X ∧ z = nI (ic (R ct) n id X)) (fun E => E = ioE ∧ (k < 0 ∨ ¬ k < nI (fx (R ct) n 0))) := by
  refine xI_ofW (cc := cX0_element) (maxL := 2) (by decide) rfl (Nat.le_of_ble_eq_true rfl) ?_
  intro p e s m args below meth c QQ hx hb hml hown hts hK hXE hH hQ hlocks hout hret ls hl
  have hl : lv_has ls 2 [(0, .ref h), (1, .int (k))] := hl
  have hown : s.vm.findClass RX0 = some m.cls := hown
  have hin0 : ∀ w ∈ wsX00, w ∈ wsX0_element := fun w h => by unfold wsX0_element; simp only [List.mem_cons, List.mem_append]; simp [h]
  have hl_identity : (Cond.fieldLink RX0 66 "PermGroup" "identity" "I").before args s = true := hts _ (by decide +kernel)
  refine lv_iload_n hx hb dX0_element_0 rfl (lv_at hl 1 rfl) ?_
  refine lv_if_lt (tgt := 13) hx hb dX0_element_1 (by decide) (fun c_1 => ?_) (fun c_1 => ?_)
  ·
    rw [hQ]
    subst hH
    have hat : ∀ w ∈ vx_atS RX0 63 ioE nsN, w.before args s = true := vx_hat (L := vx_atS RX0 63 ioE nsN) (B := XB ioE) (fun w hw => hts w (List.mem_cons_of_mem _ (List.mem_append_right _ hw))) (by decide +kernel) (XEV.use hXE.2.2.1)
    have hgd : ∀ w ∈ Cond.classLink RX0 59 ioE :: Cond.initialized ioE :: vx_atS RX0 63 ioE nsN, vx_ot w = true := by decide +kernel
    exact vx_throwS (A := fun _ => False) hx hb hst hown (by decide) (by decide) (hts (.classLink RX0 59 ioE) (by decide +kernel)) (hts (.initialized ioE) (by decide +kernel)) hXE.1.1 hat hgd hXE.2.1.1 hXE.2.1.2 va_S.rf (by rw [hml]; exact hl.1) dX0_element_13 dX0_element_16 dX0_element_17 dX0_element_19 dX0_element_22 (fun x hx9 => False.elim (hout x hx9)) (by decide) (Nat.le_of_ble_eq_true rfl) (Nat.le_refl _) (Nat.le_refl _) hlocks (fun t _ h1 h2 => xX_of (⟨rfl, by first | exact Or.inl c_1 | exact Or.inr c_10⟩) h1 h2) (fun _ h => nomatch h) (Nat.le_refl _) (Nat.le_refl _)
  ·
    refine lv_iload_n hx hb dX0_element_4 rfl (lv_at hl 1 rfl) ?_
    refine lv_aload_n hx hb dX0_element_5 rfl (lv_at hl 0 rfl) ?_
    refine lv_iconst (v := nI (0)) hx hb dX0_element_6 (by decide) ?_
    refine pu_V (As := [.int (nI (0))]) (rest := [.int (k)]) (b := h) ⟨hx, hb, hml, hown, hts⟩ (kX0_fixersOfFirst hP hn hc (k := 0) (by omega)) (cwV 1 hts gX0_element_X0_fixersOfFirst rfl rfl rfl eX0_fixersOfFirst ⟨by decide, by decide⟩) (va_recv hK hP (ci := 0) (q0 := 0) rfl rfl) hK rfl hl.1 rfl (Nat.le_of_ble_eq_true rfl) dX0_element_7 ⟨Nat.zero_le _, Nat.zero_le _⟩ ?_
    refine lv_icmp_lt (tgt := 23) hx hb dX0_element_10 (by decide) (fun c_10 => ?_) (fun c_10 => ?_)
    ·
      obtain ⟨X, hX, rfl⟩ := nb_ix c_1 c_10 (Nat.lt_trans (fx_lt _ hn _) (by decide))
      refine lv_aload_n hx hb dX0_element_23 rfl (lv_at hl 0 rfl) ?_
      refine lv_aload_n hx hb dX0_element_24 rfl (lv_at hl 0 rfl) ?_
      refine va_get (D := D) (ci := 0) (v := .int (nI (id))) (C := RX0) (T := TX0) (N := 7) hx hb hts hin0 hown hK hP 0 rfl rfl 1 (by decide) hl_identity (fun _ h9 => h9) rfl dX0_element_25 ?_
      refine lv_iload_n hx hb dX0_element_28 rfl (lv_at hl 1 rfl) ?_
      refine pu_V (As := [.int (nI (id)), .int (nI (X))]) (rest := []) (b := h) ⟨hx, hb, hml, hown, hts⟩ (kX0_inCoset hP hn hc hid (P := id) (k := X) (Nat.lt_of_lt_of_le hX (Nat.le_of_lt (Nat.lt_trans (fx_lt _ hn _) (by decide))))) (cwV 2 hts gX0_element_X0_inCoset rfl rfl rfl eX0_inCoset ⟨by decide, by decide⟩) (va_recv hK hP (ci := 0) (q0 := 0) rfl rfl) hK rfl hl.1 rfl (Nat.le_of_ble_eq_true rfl) dX0_element_29 ⟨Nat.zero_le _, Nat.zero_le _⟩ ?_
      exact hret _ _ _ ⟨X, hX, rfl, rfl⟩ dX0_element_32
    ·
      rw [hQ]
      subst hH
      have hat : ∀ w ∈ vx_atS RX0 63 ioE nsN, w.before args s = true := vx_hat (L := vx_atS RX0 63 ioE nsN) (B := XB ioE) (fun w hw => hts w (List.mem_cons_of_mem _ (List.mem_append_right _ hw))) (by decide +kernel) (XEV.use hXE.2.2.1)
      have hgd : ∀ w ∈ Cond.classLink RX0 59 ioE :: Cond.initialized ioE :: vx_atS RX0 63 ioE nsN, vx_ot w = true := by decide +kernel
      exact vx_throwS (A := fun _ => False) hx hb hst hown (by decide) (by decide) (hts (.classLink RX0 59 ioE) (by decide +kernel)) (hts (.initialized ioE) (by decide +kernel)) hXE.1.1 hat hgd hXE.2.1.1 hXE.2.1.2 va_S.rf (by rw [hml]; exact hl.1) dX0_element_13 dX0_element_16 dX0_element_17 dX0_element_19 dX0_element_22 (fun x hx9 => False.elim (hout x hx9)) (by decide) (Nat.le_of_ble_eq_true rfl) (Nat.le_refl _) (Nat.le_refl _) hlocks (fun t _ h1 h2 => xX_of (⟨rfl, by first | exact Or.inl c_1 | exact Or.inr c_10⟩) h1 h2) (fun _ h => nomatch h) (Nat.le_refl _) (Nat.le_refl _)
theorem eX0_rank : yX0_rank.cls = RX0 ∧ yX0_rank.cls ≠ "java/lang/invoke/MethodHandle" ∧ yX0_rank.cls ≠ "java/lang/invoke/VarHandle" ∧ (parseMethodDescriptor yX0_rank.desc).map (fun d => d.parameters.length) = some 1 := by decide +kernel
set_option maxHeartbeats 4000000 in
set_option maxRecDepth 100000 in
theorem kX0_rank (hst : l.stackTraces = false) (hP : va_P D vwCl (gW cI cG h a g f ra (nI n) (nI id) (nI ct) fc ad fl R) H) (hn : n ≤ 7) (hc : ct ≤ 12) (hid : id < 2 ^ 32) {P : Nat} (hp : P < 2 ^ 32) : xI l yX0_rank wsX0_rank ({ frames := 6, cells := 1, slots := 6, locals := 93 } : Room) [.ref h, .int (nI (P))] D (gT cI cG cZ) H q1 q2 q3 (fun z => isP n P = true ∧ rs (R ct) n P = id ∧ z = nI (eb (R ct) n id P)) (fun E => (E = iaE ∧ isP n P = false) ∨ (E = nsE ∧ isP n P = true ∧ ¬ rs (R ct) n P = id)) := by
  refine xI_ofW (cc := cX0_rank) (maxL := 2) (by decide) rfl (Nat.le_of_ble_eq_true rfl) ?_
  intro p e s m args below meth c QQ hx hb hml hown hts hK hXE hH hQ hlocks hout hret ls hl
  have hl : lv_has ls 2 [(0, .ref h), (1, .int (nI (P)))] := hl
  have hown : s.vm.findClass RX0 = some m.cls := hown
  have hin0 : ∀ w ∈ wsX00, w ∈ wsX0_rank := fun w h => by unfold wsX0_rank; simp only [List.mem_cons, List.mem_append]; simp [h]
  refine lv_aload_n hx hb dX0_rank_0 rfl (lv_at hl 0 rfl) ?_
  refine lv_iload_n hx hb dX0_rank_1 rfl (lv_at hl 1 rfl) ?_
  refine pu_V (As := [.int (nI (P))]) (rest := []) (b := h) ⟨hx, hb, hml, hown, hts⟩ (kX0_isPermutation hP hn (P := P) hp) (cwV 1 hts gX0_rank_X0_isPermutation rfl rfl rfl eX0_isPermutation ⟨by decide, by decide⟩) (va_recv hK hP (ci := 0) (q0 := 0) rfl rfl) hK rfl hl.1 rfl (Nat.le_of_ble_eq_true rfl) dX0_rank_2 ⟨Nat.zero_le _, Nat.zero_le _⟩ ?_
  refine lv_if_ne (tgt := 18) hx hb dX0_rank_5 (by decide) (fun c_5 => ?_) (fun c_5 => ?_)
  ·
    have c_5 := b01_t c_5
    refine lv_aload_n hx hb dX0_rank_18 rfl (lv_at hl 0 rfl) ?_
    refine lv_iload_n hx hb dX0_rank_19 rfl (lv_at hl 1 rfl) ?_
    refine pu_V (As := [.int (nI (P))]) (rest := []) (b := h) ⟨hx, hb, hml, hown, hts⟩ (kX0_isElement hP hn hc hid hp) (cwV 1 hts gX0_rank_X0_isElement rfl rfl rfl eX0_isElement ⟨by decide, by decide⟩) (va_recv hK hP (ci := 0) (q0 := 0) rfl rfl) hK rfl hl.1 rfl (Nat.le_of_ble_eq_true rfl) dX0_rank_20 ⟨Nat.zero_le _, Nat.zero_le _⟩ ?_
    refine lv_if_ne (tgt := 36) hx hb dX0_rank_23 (by decide) (fun c_23 => ?_) (fun c_23 => ?_)
    ·
      have c_23 := b01_t c_23
      refine lv_aload_n hx hb dX0_rank_36 rfl (lv_at hl 0 rfl) ?_
      refine lv_iload_n hx hb dX0_rank_37 rfl (lv_at hl 1 rfl) ?_
      refine pu_V (As := [.int (nI (P))]) (rest := []) (b := h) ⟨hx, hb, hml, hown, hts⟩ (kX0_elementsBefore hP hn hc hid hp) (cwV 1 hts gX0_rank_X0_elementsBefore rfl rfl rfl eX0_elementsBefore ⟨by decide, by decide⟩) (va_recv hK hP (ci := 0) (q0 := 0) rfl rfl) hK rfl hl.1 rfl (Nat.le_of_ble_eq_true rfl) dX0_rank_38 ⟨Nat.zero_le _, Nat.zero_le _⟩ ?_
      exact hret _ _ _ ⟨c_5, of_decide_eq_true c_23, rfl⟩ dX0_rank_41
    ·
      have c_23 := b01_f c_23
      rw [hQ]
      subst hH
      have hat : ∀ w ∈ vx_atN RX0 81, w.before args s = true := vx_hat (L := vx_atN RX0 81) (B := XB nsE) (fun w hw => hts w (List.mem_cons_of_mem _ (List.mem_append_right _ hw))) (by decide +kernel) (XEV.use hXE.2.2.2.2.1)
      have hgd : ∀ w ∈ Cond.classLink RX0 77 nsE :: Cond.initialized nsE :: vx_atN RX0 81, vx_ot w = true := by decide +kernel
      exact nx_throw (A := fun _ => False) hx hb hst hown (hts (.classLink RX0 77 nsE) (by decide +kernel)) (hts (.initialized nsE) (by decide +kernel)) hXE.1.2.2 hat hgd hXE.2.1.1 hXE.2.1.2 va_S.rf (by rw [hml]; exact hl.1) dX0_rank_26 dX0_rank_29 dX0_rank_30 dX0_rank_32 dX0_rank_35 (fun x hx9 => False.elim (hout x hx9)) (by decide) (Nat.le_of_ble_eq_true rfl) (Nat.le_refl _) (Nat.le_refl _) hlocks (fun t _ h1 h2 => xX_of (Or.inr ⟨rfl, c_5, of_decide_eq_false c_23⟩) h1 h2) (fun _ h => nomatch h) (Nat.le_refl _) (Nat.le_refl _)
  ·
    have c_5 := b01_f c_5
    rw [hQ]
    subst hH
    have hat : ∀ w ∈ vx_atS RX0 76 iaE nsN, w.before args s = true := vx_hat (L := vx_atS RX0 76 iaE nsN) (B := XB iaE) (fun w hw => hts w (List.mem_cons_of_mem _ (List.mem_append_left _ (List.mem_append_right _ hw)))) (by decide +kernel) (XEV.use hXE.2.2.2.1)
    have hgd : ∀ w ∈ Cond.classLink RX0 72 iaE :: Cond.initialized iaE :: vx_atS RX0 76 iaE nsN, vx_ot w = true := by decide +kernel
    exact vx_throwS (A := fun _ => False) hx hb hst hown (by decide) (by decide) (hts (.classLink RX0 72 iaE) (by decide +kernel)) (hts (.initialized iaE) (by decide +kernel)) hXE.1.2.1 hat hgd hXE.2.1.1 hXE.2.1.2 va_S.rf (by rw [hml]; exact hl.1) dX0_rank_8 dX0_rank_11 dX0_rank_12 dX0_rank_14 dX0_rank_17 (fun x hx9 => False.elim (hout x hx9)) (by decide) (Nat.le_of_ble_eq_true rfl) (Nat.le_refl _) (Nat.le_refl _) hlocks (fun t _ h1 h2 => xX_of (Or.inl ⟨rfl, c_5⟩) h1 h2) (fun _ h => nomatch h) (Nat.le_refl _) (Nat.le_refl _)
theorem eX0_least : yX0_least.cls = RX0 ∧ yX0_least.cls ≠ "java/lang/invoke/MethodHandle" ∧ yX0_least.cls ≠ "java/lang/invoke/VarHandle" ∧ (parseMethodDescriptor yX0_least.desc).map (fun d => d.parameters.length) = some 1 := by decide +kernel
set_option maxHeartbeats 4000000 in
set_option maxRecDepth 100000 in
theorem kX0_least (hst : l.stackTraces = false) (hP : va_P D vwCl (gW cI cG h a g f ra (nI n) (nI id) (nI ct) fc ad fl R) H) (hn : n ≤ 7) (hc : ct ≤ 12) {P : Nat} (hp : P < 2 ^ 32) : xI l yX0_least wsX0_least ({ frames := 6, cells := 1, slots := 6, locals := 97 } : Room) [.ref h, .int (nI (P))] D (gT cI cG cZ) H q1 q2 q3 (fun z => isP n P = true ∧ z = nI (ic (R ct) n P 0)) (fun E => E = iaE ∧ isP n P = false) := by
  refine xI_ofW (cc := cX0_least) (maxL := 2) (by decide) rfl (Nat.le_of_ble_eq_true rfl) ?_
  intro p e s m args below meth c QQ hx hb hml hown hts hK hXE hH hQ hlocks hout hret ls hl
  have hl : lv_has ls 2 [(0, .ref h), (1, .int (nI (P)))] := hl
  have hown : s.vm.findClass RX0 = some m.cls := hown
  have hin0 : ∀ w ∈ wsX00, w ∈ wsX0_least := fun w h => by unfold wsX0_least; simp only [List.mem_cons, List.mem_append]; simp [h]
  refine lv_aload_n hx hb dX0_least_0 rfl (lv_at hl 0 rfl) ?_
  refine lv_iload_n hx hb dX0_least_1 rfl (lv_at hl 1 rfl) ?_
  refine pu_V (As := [.int (nI (P))]) (rest := []) (b := h) ⟨hx, hb, hml, hown, hts⟩ (kX0_isPermutation hP hn (P := P) hp) (cwV 1 hts gX0_least_X0_isPermutation rfl rfl rfl eX0_isPermutation ⟨by decide, by decide⟩) (va_recv hK hP (ci := 0) (q0 := 0) rfl rfl) hK rfl hl.1 rfl (Nat.le_of_ble_eq_true rfl) dX0_least_2 ⟨Nat.zero_le _, Nat.zero_le _⟩ ?_
  refine lv_if_ne (tgt := 18) hx hb dX0_least_5 (by decide) (fun c_5 => ?_) (fun c_5 => ?_)
  ·
    have c_5 := b01_t c_5
    refine lv_aload_n hx hb dX0_least_18 rfl (lv_at hl 0 rfl) ?_
    refine lv_iload_n hx hb dX0_least_19 rfl (lv_at hl 1 rfl) ?_
    refine lv_iconst (v := nI (0)) hx hb dX0_least_20 (by decide) ?_
    refine pu_V (As := [.int (nI (P)), .int (nI (0))]) (rest := []) (b := h) ⟨hx, hb, hml, hown, hts⟩ (kX0_inCoset hP hn hc hp (k := 0) (by decide)) (cwV 2 hts gX0_least_X0_inCoset rfl rfl rfl eX0_inCoset ⟨by decide, by decide⟩) (va_recv hK hP (ci := 0) (q0 := 0) rfl rfl) hK rfl hl.1 rfl (Nat.le_of_ble_eq_true rfl) dX0_least_21 ⟨Nat.zero_le _, Nat.zero_le _⟩ ?_
    exact hret _ _ _ ⟨c_5, rfl⟩ dX0_least_24
  ·
    have c_5 := b01_f c_5
    rw [hQ]
    subst hH
    have hat : ∀ w ∈ vx_atS RX0 76 iaE nsN, w.before args s = true := vx_hat (L := vx_atS RX0 76 iaE nsN) (B := XB iaE) (fun w hw => hts w (List.mem_cons_of_mem _ (List.mem_append_right _ hw))) (by decide +kernel) (XEV.use hXE.2.2.2.1)
    have hgd : ∀ w ∈ Cond.classLink RX0 72 iaE :: Cond.initialized iaE :: vx_atS RX0 76 iaE nsN, vx_ot w = true := by decide +kernel
    exact vx_throwS (A := fun _ => False) hx hb hst hown (by decide) (by decide) (hts (.classLink RX0 72 iaE) (by decide +kernel)) (hts (.initialized iaE) (by decide +kernel)) hXE.1.2.1 hat hgd hXE.2.1.1 hXE.2.1.2 va_S.rf (by rw [hml]; exact hl.1) dX0_least_8 dX0_least_11 dX0_least_12 dX0_least_14 dX0_least_17 (fun x hx9 => False.elim (hout x hx9)) (by decide) (Nat.le_of_ble_eq_true rfl) (Nat.le_refl _) (Nat.le_refl _) hlocks (fun t _ h1 h2 => xX_of (⟨rfl, c_5⟩) h1 h2) (fun _ h => nomatch h) (Nat.le_refl _) (Nat.le_refl _)
end CXJ
