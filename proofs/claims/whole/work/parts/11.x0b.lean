section CXB
variable {l : Launch} {D : va_G} {cI cG cZ : ClassId} {h a g f : Nat} {ra : Nat → Nat} {n id ct : Nat} {fc : Int32} {ad fl : Nat → Int32} {R : Nat → Nat → Int32} {H : Heap}
theorem eX0_degree : yX0_degree.cls = RX0 ∧ yX0_degree.cls ≠ "java/lang/invoke/MethodHandle" ∧ yX0_degree.cls ≠ "java/lang/invoke/VarHandle" ∧ (parseMethodDescriptor yX0_degree.desc).map (fun d => d.parameters.length) = some 0 := by decide +kernel
set_option maxHeartbeats 4000000 in
set_option maxRecDepth 100000 in
theorem kX0_degree (hP : va_P D vwCl (gW cI cG h a g f ra (nI n) (nI id) (nI ct) fc ad fl R) H)  : pI l yX0_degree wsX0_degree ({ frames := 0, cells := 0, slots := 0, locals := 0 } : Room) [.ref h] D (gT cI cG cZ) H (nI n) := by
  refine pI_ofW (cc := cX0_degree) (maxL := 1) (ret := (some .int)) (by decide) rfl (Or.inl rfl) (Nat.le_of_ble_eq_true rfl) ?_
  intro p e s m args below meth c QQ hx hb hml hown hts hK hret ls hl
  have hl : lv_has ls 1 [(0, .ref h)] := hl
  have hown : s.vm.findClass RX0 = some m.cls := hown
  have hin0 : ∀ w ∈ wsX00, w ∈ wsX0_degree := fun w h => List.mem_cons_of_mem _ (List.mem_append_right _ h)
  have hl_n : (Cond.fieldLink RX0 25 "PermGroup" "n" "I").before args s = true := hts _ (by decide +kernel)
  refine lv_aload_n hx hb dX0_degree_0 rfl (lv_at hl 0 rfl) ?_
  refine va_get (D := D) (ci := 0) (v := .int (nI (n))) (C := RX0) (T := TX0) (N := 7) hx hb hts hin0 hown hK hP 0 rfl rfl 0 (by decide) hl_n (fun _ h9 => h9) rfl dX0_degree_1 ?_
  exact hret _ _ _ (rfl) dX0_degree_4
theorem eX0_generators : yX0_generators.cls = RX0 ∧ yX0_generators.cls ≠ "java/lang/invoke/MethodHandle" ∧ yX0_generators.cls ≠ "java/lang/invoke/VarHandle" ∧ (parseMethodDescriptor yX0_generators.desc).map (fun d => d.parameters.length) = some 0 := by decide +kernel
set_option maxHeartbeats 4000000 in
set_option maxRecDepth 100000 in
theorem kX0_generators (hP : va_P D vwCl (gW cI cG h a g f ra (nI n) (nI id) (nI ct) fc ad fl R) H)  : pI l yX0_generators wsX0_generators ({ frames := 0, cells := 0, slots := 0, locals := 0 } : Room) [.ref h] D (gT cI cG cZ) H (nI ct) := by
  refine pI_ofW (cc := cX0_generators) (maxL := 1) (ret := (some .int)) (by decide) rfl (Or.inl rfl) (Nat.le_of_ble_eq_true rfl) ?_
  intro p e s m args below meth c QQ hx hb hml hown hts hK hret ls hl
  have hl : lv_has ls 1 [(0, .ref h)] := hl
  have hown : s.vm.findClass RX0 = some m.cls := hown
  have hin0 : ∀ w ∈ wsX00, w ∈ wsX0_generators := fun w h => List.mem_cons_of_mem _ (List.mem_append_right _ h)
  have hl_count : (Cond.fieldLink RX0 33 "PermGroup" "count" "I").before args s = true := hts _ (by decide +kernel)
  refine lv_aload_n hx hb dX0_generators_0 rfl (lv_at hl 0 rfl) ?_
  refine va_get (D := D) (ci := 0) (v := .int (nI (ct))) (C := RX0) (T := TX0) (N := 7) hx hb hts hin0 hown hK hP 0 rfl rfl 2 (by decide) hl_count (fun _ h9 => h9) rfl dX0_generators_1 ?_
  exact hret _ _ _ (rfl) dX0_generators_4
theorem eX0_generator : yX0_generator.cls = RX0 ∧ yX0_generator.cls ≠ "java/lang/invoke/MethodHandle" ∧ yX0_generator.cls ≠ "java/lang/invoke/VarHandle" ∧ (parseMethodDescriptor yX0_generator.desc).map (fun d => d.parameters.length) = some 1 := by decide +kernel
set_option maxHeartbeats 4000000 in
set_option maxRecDepth 100000 in
theorem kX0_generator (hP : va_P D vwCl (gW cI cG h a g f ra (nI n) (nI id) (nI ct) fc ad fl R) H) (hc : ct ≤ 12) {k : Int32} : pI l yX0_generator wsX0_generator ({ frames := 0, cells := 0, slots := 0, locals := 0 } : Room) [.ref h, .int (k)] D (gT cI cG cZ) H (genI ad ct k) := by
  refine pI_ofW (cc := cX0_generator) (maxL := 2) (ret := (some .int)) (by decide) rfl (Or.inl rfl) (Nat.le_of_ble_eq_true rfl) ?_
  intro p e s m args below meth c QQ hx hb hml hown hts hK hret ls hl
  have hl : lv_has ls 2 [(0, .ref h), (1, .int (k))] := hl
  have hown : s.vm.findClass RX0 = some m.cls := hown
  have hin0 : ∀ w ∈ wsX00, w ∈ wsX0_generator := fun w h => List.mem_cons_of_mem _ (List.mem_append_right _ h)
  have hl_added : (Cond.fieldLink RX0 9 "PermGroup" "added" "[I").before args s = true := hts _ (by decide +kernel)
  have hl_count : (Cond.fieldLink RX0 33 "PermGroup" "count" "I").before args s = true := hts _ (by decide +kernel)
  refine lv_iload_n hx hb dX0_generator_0 rfl (lv_at hl 1 rfl) ?_
  refine lv_if_lt (tgt := 12) hx hb dX0_generator_1 (by decide) (fun c_1 => ?_) (fun c_1 => ?_)
  ·
    refine lv_iconst (v := -1) hx hb dX0_generator_12 (by decide) ?_
    refine lv_goto (tgt := 22) hx hb dX0_generator_13 (by decide) ?_
    exact hret _ _ _ (by first | exact (if_pos c_1).symm | exact ((if_neg c_1).trans (if_neg c_9)).symm) dX0_generator_22
  ·
    refine lv_iload_n hx hb dX0_generator_4 rfl (lv_at hl 1 rfl) ?_
    refine lv_aload_n hx hb dX0_generator_5 rfl (lv_at hl 0 rfl) ?_
    refine va_get (D := D) (ci := 0) (v := .int (nI (ct))) (C := RX0) (T := TX0) (N := 7) hx hb hts hin0 hown hK hP 0 rfl rfl 2 (by decide) hl_count (fun _ h9 => h9) rfl dX0_generator_6 ?_
    refine lv_icmp_lt (tgt := 16) hx hb dX0_generator_9 (by decide) (fun c_9 => ?_) (fun c_9 => ?_)
    ·
      obtain ⟨X, hX, rfl⟩ := nb_ix c_1 c_9 (by omega)
      refine lv_aload_n hx hb dX0_generator_16 rfl (lv_at hl 0 rfl) ?_
      refine va_get (D := D) (ci := 0) (v := .ref a) (C := RX0) (T := TX0) (N := 7) hx hb hts hin0 hown hK hP 0 rfl rfl 3 (by decide) hl_added (fun _ h9 => h9) rfl dX0_generator_17 ?_
      refine lv_iload_n hx hb dX0_generator_20 rfl (lv_at hl 1 rfl) ?_
      refine va_iald hx hb hK hP 1 0 rfl rfl (vp_in_nI (by omega) (by omega)) dX0_generator_21 ?_
      refine pu_tp (nb_clamp (f := ad) (by omega)) ?_
      exact hret _ _ _ (by rw [genI, if_neg c_1, if_pos c_9, tn_nI (by omega)]) dX0_generator_22
    ·
      refine lv_iconst (v := -1) hx hb dX0_generator_12 (by decide) ?_
      refine lv_goto (tgt := 22) hx hb dX0_generator_13 (by decide) ?_
      exact hret _ _ _ (by first | exact (if_pos c_1).symm | exact ((if_neg c_1).trans (if_neg c_9)).symm) dX0_generator_22
theorem eX0_product : yX0_product.cls = RX0 ∧ yX0_product.cls ≠ "java/lang/invoke/MethodHandle" ∧ yX0_product.cls ≠ "java/lang/invoke/VarHandle" ∧ (parseMethodDescriptor yX0_product.desc).map (fun d => d.parameters.length) = some 2 := by decide +kernel
set_option maxHeartbeats 4000000 in
set_option maxRecDepth 100000 in
theorem kX0_product (hP : va_P D vwCl (gW cI cG h a g f ra (nI n) (nI id) (nI ct) fc ad fl R) H) (hn : n ≤ 7) {P Q : Nat} (hp : P < 2 ^ 32) (hq : Q < 2 ^ 32) : pI l yX0_product wsX0_product ({ frames := 2, cells := 0, slots := 0, locals := 45 } : Room) [.ref h, .int (nI (P)), .int (nI (Q))] D (gT cI cG cZ) H (if isP n P = true ∧ isP n Q = true then nI (tm n P Q) else -1) := by
  refine pI_ofW (cc := cX0_product) (maxL := 3) (ret := (some .int)) (by decide) rfl (Or.inl rfl) (Nat.le_of_ble_eq_true rfl) ?_
  intro p e s m args below meth c QQ hx hb hml hown hts hK hret ls hl
  have hl : lv_has ls 3 [(0, .ref h), (1, .int (nI (P))), (2, .int (nI (Q)))] := hl
  have hown : s.vm.findClass RX0 = some m.cls := hown
  refine lv_aload_n hx hb dX0_product_0 rfl (lv_at hl 0 rfl) ?_
  refine lv_iload_n hx hb dX0_product_1 rfl (lv_at hl 1 rfl) ?_
  refine pu_V (As := [.int (nI (P))]) (rest := []) (b := h) ⟨hx, hb, hml, hown, hts⟩ (kX0_isPermutation hP hn (P := P) hp) (cwV 1 hts gX0_product_X0_isPermutation rfl rfl rfl eX0_isPermutation ⟨by decide, by decide⟩) (va_recv hK hP (ci := 0) (q0 := 0) rfl rfl) hK rfl hl.1 rfl (Nat.le_of_ble_eq_true rfl) dX0_product_2 ⟨Nat.zero_le _, Nat.zero_le _⟩ ?_
  refine lv_if_eq (tgt := 25) hx hb dX0_product_5 (by decide) (fun c_5 => ?_) (fun c_5 => ?_)
  ·
    have c_5 := b01_f c_5
    refine lv_iconst (v := -1) hx hb dX0_product_25 (by decide) ?_
    exact hret _ _ _ (by first | exact (if_neg (fun q => by rw [c_5] at q; exact absurd q.1 (by decide))).symm | exact (if_neg (fun q => by rw [c_13] at q; exact absurd q.2 (by decide))).symm) dX0_product_26
  ·
    have c_5 := b01_t c_5
    refine lv_aload_n hx hb dX0_product_8 rfl (lv_at hl 0 rfl) ?_
    refine lv_iload_n hx hb dX0_product_9 rfl (lv_at hl 2 rfl) ?_
    refine pu_V (As := [.int (nI (Q))]) (rest := []) (b := h) ⟨hx, hb, hml, hown, hts⟩ (kX0_isPermutation hP hn (P := Q) hq) (cwV 1 hts gX0_product_X0_isPermutation rfl rfl rfl eX0_isPermutation ⟨by decide, by decide⟩) (va_recv hK hP (ci := 0) (q0 := 0) rfl rfl) hK rfl hl.1 rfl (Nat.le_of_ble_eq_true rfl) dX0_product_10 ⟨Nat.zero_le _, Nat.zero_le _⟩ ?_
    refine lv_if_eq (tgt := 25) hx hb dX0_product_13 (by decide) (fun c_13 => ?_) (fun c_13 => ?_)
    ·
      have c_13 := b01_f c_13
      refine lv_iconst (v := -1) hx hb dX0_product_25 (by decide) ?_
      exact hret _ _ _ (by first | exact (if_neg (fun q => by rw [c_5] at q; exact absurd q.1 (by decide))).symm | exact (if_neg (fun q => by rw [c_13] at q; exact absurd q.2 (by decide))).symm) dX0_product_26
    ·
      have c_13 := b01_t c_13
      refine lv_aload_n hx hb dX0_product_16 rfl (lv_at hl 0 rfl) ?_
      refine lv_iload_n hx hb dX0_product_17 rfl (lv_at hl 1 rfl) ?_
      refine lv_iload_n hx hb dX0_product_18 rfl (lv_at hl 2 rfl) ?_
      refine pu_V (As := [.int (nI (P)), .int (nI (Q))]) (rest := []) (b := h) ⟨hx, hb, hml, hown, hts⟩ (kX0_compose hP hn (P := P) (Q := Q) hp hq) (cwV 2 hts gX0_product_X0_compose rfl rfl rfl eX0_compose ⟨by decide, by decide⟩) (va_recv hK hP (ci := 0) (q0 := 0) rfl rfl) hK rfl hl.1 rfl (Nat.le_of_ble_eq_true rfl) dX0_product_19 ⟨Nat.zero_le _, Nat.zero_le _⟩ ?_
      refine lv_goto (tgt := 26) hx hb dX0_product_22 (by decide) ?_
      exact hret _ _ _ ((if_pos ⟨c_5, c_13⟩).symm) dX0_product_26
theorem eX0_inverse : yX0_inverse.cls = RX0 ∧ yX0_inverse.cls ≠ "java/lang/invoke/MethodHandle" ∧ yX0_inverse.cls ≠ "java/lang/invoke/VarHandle" ∧ (parseMethodDescriptor yX0_inverse.desc).map (fun d => d.parameters.length) = some 1 := by decide +kernel
set_option maxHeartbeats 4000000 in
set_option maxRecDepth 100000 in
theorem kX0_inverse (hP : va_P D vwCl (gW cI cG h a g f ra (nI n) (nI id) (nI ct) fc ad fl R) H) (hn : n ≤ 7) {P : Nat} (hp : P < 2 ^ 32) : pI l yX0_inverse wsX0_inverse ({ frames := 2, cells := 0, slots := 0, locals := 44 } : Room) [.ref h, .int (nI (P))] D (gT cI cG cZ) H (if isP n P = true then nI (bk n P) else -1) := by
  refine pI_ofW (cc := cX0_inverse) (maxL := 2) (ret := (some .int)) (by decide) rfl (Or.inl rfl) (Nat.le_of_ble_eq_true rfl) ?_
  intro p e s m args below meth c QQ hx hb hml hown hts hK hret ls hl
  have hl : lv_has ls 2 [(0, .ref h), (1, .int (nI (P)))] := hl
  have hown : s.vm.findClass RX0 = some m.cls := hown
  refine lv_aload_n hx hb dX0_inverse_0 rfl (lv_at hl 0 rfl) ?_
  refine lv_iload_n hx hb dX0_inverse_1 rfl (lv_at hl 1 rfl) ?_
  refine pu_V (As := [.int (nI (P))]) (rest := []) (b := h) ⟨hx, hb, hml, hown, hts⟩ (kX0_isPermutation hP hn (P := P) hp) (cwV 1 hts gX0_inverse_X0_isPermutation rfl rfl rfl eX0_isPermutation ⟨by decide, by decide⟩) (va_recv hK hP (ci := 0) (q0 := 0) rfl rfl) hK rfl hl.1 rfl (Nat.le_of_ble_eq_true rfl) dX0_inverse_2 ⟨Nat.zero_le _, Nat.zero_le _⟩ ?_
  refine lv_if_eq (tgt := 16) hx hb dX0_inverse_5 (by decide) (fun c_5 => ?_) (fun c_5 => ?_)
  ·
    have c_5 := b01_f c_5
    refine lv_iconst (v := -1) hx hb dX0_inverse_16 (by decide) ?_
    exact hret _ _ _ (by rw [c_5]; rfl) dX0_inverse_17
  ·
    have c_5 := b01_t c_5
    refine lv_aload_n hx hb dX0_inverse_8 rfl (lv_at hl 0 rfl) ?_
    refine lv_iload_n hx hb dX0_inverse_9 rfl (lv_at hl 1 rfl) ?_
    refine pu_V (As := [.int (nI (P))]) (rest := []) (b := h) ⟨hx, hb, hml, hown, hts⟩ (kX0_invert hP hn (P := P) hp) (cwV 1 hts gX0_inverse_X0_invert rfl rfl rfl eX0_invert ⟨by decide, by decide⟩) (va_recv hK hP (ci := 0) (q0 := 0) rfl rfl) hK rfl hl.1 rfl (Nat.le_of_ble_eq_true rfl) dX0_inverse_10 ⟨Nat.zero_le _, Nat.zero_le _⟩ ?_
    refine lv_goto (tgt := 17) hx hb dX0_inverse_13 (by decide) ?_
    exact hret _ _ _ ((if_pos c_5).symm) dX0_inverse_17
theorem eX0_order : yX0_order.cls = RX0 ∧ yX0_order.cls ≠ "java/lang/invoke/MethodHandle" ∧ yX0_order.cls ≠ "java/lang/invoke/VarHandle" ∧ (parseMethodDescriptor yX0_order.desc).map (fun d => d.parameters.length) = some 0 := by decide +kernel
set_option maxHeartbeats 4000000 in
set_option maxRecDepth 100000 in
theorem kX0_order (hP : va_P D vwCl (gW cI cG h a g f ra (nI n) (nI id) (nI ct) fc ad fl R) H) (hn : n ≤ 7) (hc : ct ≤ 12) : pI l yX0_order wsX0_order ({ frames := 3, cells := 0, slots := 0, locals := 68 } : Room) [.ref h] D (gT cI cG cZ) H (nI (fx (R ct) n 0)) := by
  refine pI_ofW (cc := cX0_order) (maxL := 1) (ret := (some .int)) (by decide) rfl (Or.inl rfl) (Nat.le_of_ble_eq_true rfl) ?_
  intro p e s m args below meth c QQ hx hb hml hown hts hK hret ls hl
  have hl : lv_has ls 1 [(0, .ref h)] := hl
  have hown : s.vm.findClass RX0 = some m.cls := hown
  refine lv_aload_n hx hb dX0_order_0 rfl (lv_at hl 0 rfl) ?_
  refine lv_iconst (v := nI (0)) hx hb dX0_order_1 (by decide) ?_
  refine pu_V (As := [.int (nI (0))]) (rest := []) (b := h) ⟨hx, hb, hml, hown, hts⟩ (kX0_fixersOfFirst hP hn hc (k := 0) (by omega)) (cwV 1 hts gX0_order_X0_fixersOfFirst rfl rfl rfl eX0_fixersOfFirst ⟨by decide, by decide⟩) (va_recv hK hP (ci := 0) (q0 := 0) rfl rfl) hK rfl hl.1 rfl (Nat.le_of_ble_eq_true rfl) dX0_order_2 ⟨Nat.zero_le _, Nat.zero_le _⟩ ?_
  exact hret _ _ _ (rfl) dX0_order_5
theorem eX0_contains : yX0_contains.cls = RX0 ∧ yX0_contains.cls ≠ "java/lang/invoke/MethodHandle" ∧ yX0_contains.cls ≠ "java/lang/invoke/VarHandle" ∧ (parseMethodDescriptor yX0_contains.desc).map (fun d => d.parameters.length) = some 1 := by decide +kernel
set_option maxHeartbeats 4000000 in
set_option maxRecDepth 100000 in
theorem kX0_contains (hP : va_P D vwCl (gW cI cG h a g f ra (nI n) (nI id) (nI ct) fc ad fl R) H) (hn : n ≤ 7) (hc : ct ≤ 12) (hid : id < 2 ^ 32) {P : Nat} (hp : P < 2 ^ 32) : pI l yX0_contains wsX0_contains ({ frames := 4, cells := 0, slots := 0, locals := 91 } : Room) [.ref h, .int (nI (P))] D (gT cI cG cZ) H (b01 (isP n P && decide (rs (R ct) n P = id))) := by
  refine pI_ofW (cc := cX0_contains) (maxL := 2) (ret := (some .boolean)) (by decide) rfl (Or.inr ⟨rfl, b01_or _⟩) (Nat.le_of_ble_eq_true rfl) ?_
  intro p e s m args below meth c QQ hx hb hml hown hts hK hret ls hl
  have hl : lv_has ls 2 [(0, .ref h), (1, .int (nI (P)))] := hl
  have hown : s.vm.findClass RX0 = some m.cls := hown
  refine lv_aload_n hx hb dX0_contains_0 rfl (lv_at hl 0 rfl) ?_
  refine lv_iload_n hx hb dX0_contains_1 rfl (lv_at hl 1 rfl) ?_
  refine pu_V (As := [.int (nI (P))]) (rest := []) (b := h) ⟨hx, hb, hml, hown, hts⟩ (kX0_isPermutation hP hn (P := P) hp) (cwV 1 hts gX0_contains_X0_isPermutation rfl rfl rfl eX0_isPermutation ⟨by decide, by decide⟩) (va_recv hK hP (ci := 0) (q0 := 0) rfl rfl) hK rfl hl.1 rfl (Nat.le_of_ble_eq_true rfl) dX0_contains_2 ⟨Nat.zero_le _, Nat.zero_le _⟩ ?_
  refine lv_if_eq (tgt := 20) hx hb dX0_contains_5 (by decide) (fun c_5 => ?_) (fun c_5 => ?_)
  ·
    have c_5 := b01_f c_5
    refine lv_iconst (v := nI (0)) hx hb dX0_contains_20 (by decide) ?_
    exact hret _ _ _ (by first | (rw [c_5]; rfl) | (rw [c_13, Bool.and_false]; rfl)) dX0_contains_21
  ·
    have c_5 := b01_t c_5
    refine lv_aload_n hx hb dX0_contains_8 rfl (lv_at hl 0 rfl) ?_
    refine lv_iload_n hx hb dX0_contains_9 rfl (lv_at hl 1 rfl) ?_
    refine pu_V (As := [.int (nI (P))]) (rest := []) (b := h) ⟨hx, hb, hml, hown, hts⟩ (kX0_isElement hP hn hc hid hp) (cwV 1 hts gX0_contains_X0_isElement rfl rfl rfl eX0_isElement ⟨by decide, by decide⟩) (va_recv hK hP (ci := 0) (q0 := 0) rfl rfl) hK rfl hl.1 rfl (Nat.le_of_ble_eq_true rfl) dX0_contains_10 ⟨Nat.zero_le _, Nat.zero_le _⟩ ?_
    refine lv_if_eq (tgt := 20) hx hb dX0_contains_13 (by decide) (fun c_13 => ?_) (fun c_13 => ?_)
    ·
      have c_13 := b01_f c_13
      refine lv_iconst (v := nI (0)) hx hb dX0_contains_20 (by decide) ?_
      exact hret _ _ _ (by first | (rw [c_5]; rfl) | (rw [c_13, Bool.and_false]; rfl)) dX0_contains_21
    ·
      have c_13 := b01_t c_13
      refine lv_iconst (v := nI (1)) hx hb dX0_contains_16 (by decide) ?_
      refine lv_goto (tgt := 21) hx hb dX0_contains_17 (by decide) ?_
      exact hret _ _ _ (by rw [c_5, c_13]; rfl) dX0_contains_21
theorem eX0_orbit : yX0_orbit.cls = RX0 ∧ yX0_orbit.cls ≠ "java/lang/invoke/MethodHandle" ∧ yX0_orbit.cls ≠ "java/lang/invoke/VarHandle" ∧ (parseMethodDescriptor yX0_orbit.desc).map (fun d => d.parameters.length) = some 1 := by decide +kernel
set_option maxHeartbeats 4000000 in
set_option maxRecDepth 100000 in
theorem kX0_orbit (hP : va_P D vwCl (gW cI cG h a g f ra (nI n) (nI id) (nI ct) fc ad fl R) H) (hn : n ≤ 7) (hc : ct ≤ 12) {x : Int32} : pI l yX0_orbit wsX0_orbit ({ frames := 2, cells := 0, slots := 0, locals := 45 } : Room) [.ref h, .int (x)] D (gT cI cG cZ) H (orbI ad n ct x) := by
  refine pI_ofW (cc := cX0_orbit) (maxL := 5) (ret := (some .int)) (by decide) rfl (Or.inl rfl) (Nat.le_of_ble_eq_true rfl) ?_
  intro p e s m args below meth c QQ hx hb hml hown hts hK hret ls hl
  have hl : lv_has ls 5 [(0, .ref h), (1, .int (x))] := hl
  have hown : s.vm.findClass RX0 = some m.cls := hown
  have hin0 : ∀ w ∈ wsX00, w ∈ wsX0_orbit := fun w h => List.mem_cons_of_mem _ (List.mem_append_right _ h)
  have hl_added : (Cond.fieldLink RX0 9 "PermGroup" "added" "[I").before args s = true := hts _ (by decide +kernel)
  have hl_count : (Cond.fieldLink RX0 33 "PermGroup" "count" "I").before args s = true := hts _ (by decide +kernel)
  have hl_n : (Cond.fieldLink RX0 25 "PermGroup" "n" "I").before args s = true := hts _ (by decide +kernel)
  refine lv_iload_n hx hb dX0_orbit_0 rfl (lv_at hl 1 rfl) ?_
  refine lv_if_lt (tgt := 12) hx hb dX0_orbit_1 (by decide) (fun c_1 => ?_) (fun c_1 => ?_)
  ·
    refine lv_iconst (v := nI (0)) hx hb dX0_orbit_12 (by decide) ?_
    exact hret _ _ _ (by first | exact (if_pos c_1).symm | exact ((if_neg c_1).trans (if_neg c_9)).symm) dX0_orbit_13
  ·
    refine lv_iload_n hx hb dX0_orbit_4 rfl (lv_at hl 1 rfl) ?_
    refine lv_aload_n hx hb dX0_orbit_5 rfl (lv_at hl 0 rfl) ?_
    refine va_get (D := D) (ci := 0) (v := .int (nI (n))) (C := RX0) (T := TX0) (N := 7) hx hb hts hin0 hown hK hP 0 rfl rfl 0 (by decide) hl_n (fun _ h9 => h9) rfl dX0_orbit_6 ?_
    refine lv_icmp_lt (tgt := 14) hx hb dX0_orbit_9 (by decide) (fun c_9 => ?_) (fun c_9 => ?_)
    ·
      obtain ⟨X, hX, rfl⟩ := nb_ix c_1 c_9 (by omega)
      have hr0 : orbI ad n ct (nI X) = nI (obF ad n ct n 0 (1 * 2 ^ X)) := by rw [orbI, if_neg c_1, if_pos c_9, tn_nI (by omega)]
      refine lv_iconst (v := nI (1)) hx hb dX0_orbit_14 (by decide) ?_
      refine lv_iload_n hx hb dX0_orbit_15 rfl (lv_at hl 1 rfl) ?_
      refine lv_ishl hx hb dX0_orbit_16 ?_
      refine pu_tp (nb_shl _ (by omega)) ?_
      refine lv_istore_n (lv' := [(2, .int (nI (1 * 2 ^ X))), (0, .ref h), (1, .int (nI (X)))]) hx hb dX0_orbit_17 rfl hl (by decide) rfl (fun ls hl => ?_)
      refine lv_iconst (v := nI (0)) hx hb dX0_orbit_18 (by decide) ?_
      refine lv_istore_n (lv' := [(3, .int (nI (0))), (2, .int (nI (1 * 2 ^ X))), (0, .ref h), (1, .int (nI (X)))]) hx hb dX0_orbit_19 rfl hl (by decide) rfl (fun ls hl => ?_)
      have loop_20 : ∀ (j t r : Nat), (t + j = n) → (orbI ad n ct (nI X) = nI (obF ad n ct j t r)) → (r < 2 ^ 8) → ∀ (ls : Array Slot), lv_has ls 5 [(0, .ref h), (2, .int (nI (r))), (3, .int (nI (t)))] → W p l e ({ frames := 2, cells := 0, slots := 0, locals := 45 } : Room) s m args below meth c H [] 0 0 QQ (F0 m 20 ls []) := by
        intro j
        induction j with
        | zero =>
          intro t r hj hr hrl ls hl
          refine lv_iload_n hx hb dX0_orbit_20 rfl (lv_at hl 2 rfl) ?_
          refine lv_aload_n hx hb dX0_orbit_21 rfl (lv_at hl 0 rfl) ?_
          refine va_get (D := D) (ci := 0) (v := .int (nI (n))) (C := RX0) (T := TX0) (N := 7) hx hb hts hin0 hown hK hP 0 rfl rfl 0 (by decide) hl_n (fun _ h9 => h9) rfl dX0_orbit_22 ?_
          refine lv_icmp_ge (tgt := 67) hx hb dX0_orbit_25 (by decide) (fun c_25 => ?_) (fun c_25 => ?_)
          ·
            have c_25 := (nI_leI (by omega) (by omega)).mp c_25
            refine lv_iload_n hx hb dX0_orbit_67 rfl (lv_at hl 1 rfl) ?_
            exact hret _ _ _ (hr.symm) dX0_orbit_68
          ·
            have c_25 : ¬ _ := fun h9 => c_25 ((nI_leI (by omega) (by omega)).mpr h9)
            exfalso; omega
        | succ j ih_20 =>
          intro t r hj hr hrl ls hl
          refine lv_iload_n hx hb dX0_orbit_20 rfl (lv_at hl 2 rfl) ?_
          refine lv_aload_n hx hb dX0_orbit_21 rfl (lv_at hl 0 rfl) ?_
          refine va_get (D := D) (ci := 0) (v := .int (nI (n))) (C := RX0) (T := TX0) (N := 7) hx hb hts hin0 hown hK hP 0 rfl rfl 0 (by decide) hl_n (fun _ h9 => h9) rfl dX0_orbit_22 ?_
          refine lv_icmp_ge (tgt := 67) hx hb dX0_orbit_25 (by decide) (fun c_25 => ?_) (fun c_25 => ?_)
          ·
            have c_25 := (nI_leI (by omega) (by omega)).mp c_25
            exfalso; omega
          ·
            have c_25 : ¬ _ := fun h9 => c_25 ((nI_leI (by omega) (by omega)).mpr h9)
            refine lv_iconst (v := nI (0)) hx hb dX0_orbit_28 (by decide) ?_
            refine lv_istore (lv' := [(4, .int (nI (0))), (0, .ref h), (2, .int (nI (r))), (3, .int (nI (t)))]) hx hb dX0_orbit_29 hl (by decide) rfl (fun ls hl => ?_)
            have loop_31 : ∀ (j2 k z : Nat), (k + j2 = ct) → (obI ad n ct 0 r = obI ad n j2 k z) → (z < 2 ^ 8) → ∀ (ls : Array Slot), lv_has ls 5 [(0, .ref h), (2, .int (nI (z))), (3, .int (nI (t))), (4, .int (nI (k)))] → W p l e ({ frames := 2, cells := 0, slots := 0, locals := 45 } : Room) s m args below meth c H [] 0 0 QQ (F0 m 31 ls []) := by
              intro j2
              induction j2 with
              | zero =>
                intro k z hj2 hr2 hzl ls hl
                refine lv_iload hx hb dX0_orbit_31 (lv_at hl 3 rfl) ?_
                refine lv_aload_n hx hb dX0_orbit_33 rfl (lv_at hl 0 rfl) ?_
                refine va_get (D := D) (ci := 0) (v := .int (nI (ct))) (C := RX0) (T := TX0) (N := 7) hx hb hts hin0 hown hK hP 0 rfl rfl 2 (by decide) hl_count (fun _ h9 => h9) rfl dX0_orbit_34 ?_
                refine lv_icmp_ge (tgt := 61) hx hb dX0_orbit_37 (by decide) (fun c_37 => ?_) (fun c_37 => ?_)
                ·
                  have c_37 := (nI_leI (by omega) (by omega)).mp c_37
                  refine lv_iinc (v := nI (t + 1)) (lv' := [(3, .int (nI (t + 1))), (0, .ref h), (2, .int (nI (z))), (4, .int (nI (k)))]) hx hb dX0_orbit_61 hl (k := 2) rfl (nI_1 _) (by decide) rfl (fun ls hl => ?_)
                  refine lv_goto (tgt := 20) hx hb dX0_orbit_64 (by decide) ?_
                  exact ih_20 (t + 1) z (by omega) (by have hz : z = obI ad n ct 0 r := hr2.symm; rw [hz]; exact hr) hzl ls (lv_sub hl [1, 2, 0] rfl)
                ·
                  have c_37 : ¬ _ := fun h9 => c_37 ((nI_leI (by omega) (by omega)).mpr h9)
                  exfalso; omega
              | succ j2 ih_31 =>
                intro k z hj2 hr2 hzl ls hl
                refine lv_iload hx hb dX0_orbit_31 (lv_at hl 3 rfl) ?_
                refine lv_aload_n hx hb dX0_orbit_33 rfl (lv_at hl 0 rfl) ?_
                refine va_get (D := D) (ci := 0) (v := .int (nI (ct))) (C := RX0) (T := TX0) (N := 7) hx hb hts hin0 hown hK hP 0 rfl rfl 2 (by decide) hl_count (fun _ h9 => h9) rfl dX0_orbit_34 ?_
                refine lv_icmp_ge (tgt := 61) hx hb dX0_orbit_37 (by decide) (fun c_37 => ?_) (fun c_37 => ?_)
                ·
                  have c_37 := (nI_leI (by omega) (by omega)).mp c_37
                  exfalso; omega
                ·
                  have c_37 : ¬ _ := fun h9 => c_37 ((nI_leI (by omega) (by omega)).mpr h9)
                  refine lv_iload_n hx hb dX0_orbit_40 rfl (lv_at hl 1 rfl) ?_
                  refine lv_aload_n hx hb dX0_orbit_41 rfl (lv_at hl 0 rfl) ?_
                  refine lv_iload_n hx hb dX0_orbit_42 rfl (lv_at hl 1 rfl) ?_
                  refine lv_aload_n hx hb dX0_orbit_43 rfl (lv_at hl 0 rfl) ?_
                  refine va_get (D := D) (ci := 0) (v := .ref a) (C := RX0) (T := TX0) (N := 7) hx hb hts hin0 hown hK hP 0 rfl rfl 3 (by decide) hl_added (fun _ h9 => h9) rfl dX0_orbit_44 ?_
                  refine lv_iload hx hb dX0_orbit_47 (lv_at hl 3 rfl) ?_
                  refine va_iald hx hb hK hP 1 0 rfl rfl (vp_in_nI (by omega) (by omega)) dX0_orbit_49 ?_
                  refine pu_tp (nb_clamp (f := ad) (by omega)) ?_
                  refine pu_tp (z := nI (tn (ad k))) ((nI_tn _).symm) ?_
                  refine pu_V (As := [.int (nI (z)), .int (nI (tn (ad k)))]) (rest := [.int (nI (z))]) (b := h) ⟨hx, hb, hml, hown, hts⟩ (kX0_imagesOf hP hn (S := z) (P := tn (ad k)) (by omega) (tn_lt _)) (cwV 2 hts gX0_orbit_X0_imagesOf rfl rfl rfl eX0_imagesOf ⟨by decide, by decide⟩) (va_recv hK hP (ci := 0) (q0 := 0) rfl rfl) hK rfl hl.1 rfl (Nat.le_of_ble_eq_true rfl) dX0_orbit_50 ⟨Nat.zero_le _, Nat.zero_le _⟩ ?_
                  refine lv_ior hx hb dX0_orbit_53 ?_
                  refine pu_tp (nb_or _ _) ?_
                  refine lv_istore_n (lv' := [(2, .int (nI (z ||| (imF z (tn (ad k)) n 0 0)))), (0, .ref h), (3, .int (nI (t))), (4, .int (nI (k)))]) hx hb dX0_orbit_54 rfl hl (by decide) rfl (fun ls hl => ?_)
                  refine lv_iinc (v := nI (k + 1)) (lv' := [(4, .int (nI (k + 1))), (2, .int (nI (z ||| (imF z (tn (ad k)) n 0 0)))), (0, .ref h), (3, .int (nI (t)))]) hx hb dX0_orbit_55 hl (k := 3) rfl (nI_1 _) (by decide) rfl (fun ls hl => ?_)
                  refine lv_goto (tgt := 31) hx hb dX0_orbit_58 (by decide) ?_
                  exact ih_31 (k + 1) (z ||| imF z (tn (ad k)) n 0 0) (by omega) hr2 (Nat.or_lt_two_pow hzl (imF_lt _ _ _ _ _ (by decide))) ls (lv_sub hl [2, 1, 3, 0] rfl)
            exact loop_31 ct 0 r (by omega) rfl hrl ls (lv_sub hl [1, 2, 3, 0] rfl)
      exact loop_20 n 0 (1 * 2 ^ X) (by omega) hr0 (bd_pow (by omega)) ls (lv_sub hl [2, 1, 0] rfl)
    ·
      refine lv_iconst (v := nI (0)) hx hb dX0_orbit_12 (by decide) ?_
      exact hret _ _ _ (by first | exact (if_pos c_1).symm | exact ((if_neg c_1).trans (if_neg c_9)).symm) dX0_orbit_13
theorem eX0_fixing : yX0_fixing.cls = RX0 ∧ yX0_fixing.cls ≠ "java/lang/invoke/MethodHandle" ∧ yX0_fixing.cls ≠ "java/lang/invoke/VarHandle" ∧ (parseMethodDescriptor yX0_fixing.desc).map (fun d => d.parameters.length) = some 1 := by decide +kernel
set_option maxHeartbeats 4000000 in
set_option maxRecDepth 100000 in
theorem kX0_fixing (hP : va_P D vwCl (gW cI cG h a g f ra (nI n) (nI id) (nI ct) fc ad fl R) H) (hn : n ≤ 7) (hc : ct ≤ 12) {k : Int32} : pI l yX0_fixing wsX0_fixing ({ frames := 3, cells := 0, slots := 0, locals := 68 } : Room) [.ref h, .int (k)] D (gT cI cG cZ) H (fixI (R ct) n k) := by
  refine pI_ofW (cc := cX0_fixing) (maxL := 2) (ret := (some .int)) (by decide) rfl (Or.inl rfl) (Nat.le_of_ble_eq_true rfl) ?_
  intro p e s m args below meth c QQ hx hb hml hown hts hK hret ls hl
  have hl : lv_has ls 2 [(0, .ref h), (1, .int (k))] := hl
  have hown : s.vm.findClass RX0 = some m.cls := hown
  have hin0 : ∀ w ∈ wsX00, w ∈ wsX0_fixing := fun w h => List.mem_cons_of_mem _ (List.mem_append_right _ h)
  have hl_n : (Cond.fieldLink RX0 25 "PermGroup" "n" "I").before args s = true := hts _ (by decide +kernel)
  refine lv_iload_n hx hb dX0_fixing_0 rfl (lv_at hl 1 rfl) ?_
  refine lv_if_lt (tgt := 12) hx hb dX0_fixing_1 (by decide) (fun c_1 => ?_) (fun c_1 => ?_)
  ·
    refine lv_iconst (v := nI (0)) hx hb dX0_fixing_12 (by decide) ?_
    refine lv_goto (tgt := 21) hx hb dX0_fixing_13 (by decide) ?_
    exact hret _ _ _ (by first | exact (if_pos c_1).symm | exact ((if_neg c_1).trans (if_neg c_9)).symm) dX0_fixing_21
  ·
    refine lv_iload_n hx hb dX0_fixing_4 rfl (lv_at hl 1 rfl) ?_
    refine lv_aload_n hx hb dX0_fixing_5 rfl (lv_at hl 0 rfl) ?_
    refine va_get (D := D) (ci := 0) (v := .int (nI (n))) (C := RX0) (T := TX0) (N := 7) hx hb hts hin0 hown hK hP 0 rfl rfl 0 (by decide) hl_n (fun _ h9 => h9) rfl dX0_fixing_6 ?_
    refine lv_icmp_le (tgt := 16) hx hb dX0_fixing_9 (by decide) (fun c_9 => ?_) (fun c_9 => ?_)
    ·
      obtain ⟨X, hX, rfl⟩ := nb_ixle c_1 c_9 (by omega)
      refine lv_aload_n hx hb dX0_fixing_16 rfl (lv_at hl 0 rfl) ?_
      refine lv_iload_n hx hb dX0_fixing_17 rfl (lv_at hl 1 rfl) ?_
      refine pu_V (As := [.int (nI (X))]) (rest := []) (b := h) ⟨hx, hb, hml, hown, hts⟩ (kX0_fixersOfFirst hP hn hc (k := X) hX) (cwV 1 hts gX0_fixing_X0_fixersOfFirst rfl rfl rfl eX0_fixersOfFirst ⟨by decide, by decide⟩) (va_recv hK hP (ci := 0) (q0 := 0) rfl rfl) hK rfl hl.1 rfl (Nat.le_of_ble_eq_true rfl) dX0_fixing_18 ⟨Nat.zero_le _, Nat.zero_le _⟩ ?_
      exact hret _ _ _ (by rw [fixI, if_neg c_1, if_pos c_9, tn_nI (by omega)]) dX0_fixing_21
    ·
      refine lv_iconst (v := nI (0)) hx hb dX0_fixing_12 (by decide) ?_
      refine lv_goto (tgt := 21) hx hb dX0_fixing_13 (by decide) ?_
      exact hret _ _ _ (by first | exact (if_pos c_1).symm | exact ((if_neg c_1).trans (if_neg c_9)).symm) dX0_fixing_21
theorem eX0_even : yX0_even.cls = RX0 ∧ yX0_even.cls ≠ "java/lang/invoke/MethodHandle" ∧ yX0_even.cls ≠ "java/lang/invoke/VarHandle" ∧ (parseMethodDescriptor yX0_even.desc).map (fun d => d.parameters.length) = some 0 := by decide +kernel
set_option maxHeartbeats 4000000 in
set_option maxRecDepth 100000 in
theorem kX0_even (hP : va_P D vwCl (gW cI cG h a g f ra (nI n) (nI id) (nI ct) fc ad fl R) H) (hn : n ≤ 7) (hn1 : 1 ≤ n) (hc : ct ≤ 12) : pI l yX0_even wsX0_even ({ frames := 3, cells := 0, slots := 0, locals := 68 } : Room) [.ref h] D (gT cI cG cZ) H (nI (evF ad n (fx (R ct) n 0) ct 0)) := by
  refine pI_ofW (cc := cX0_even) (maxL := 3) (ret := (some .int)) (by decide) rfl (Or.inl rfl) (Nat.le_of_ble_eq_true rfl) ?_
  intro p e s m args below meth c QQ hx hb hml hown hts hK hret ls hl
  have hl : lv_has ls 3 [(0, .ref h)] := hl
  have hown : s.vm.findClass RX0 = some m.cls := hown
  have hin0 : ∀ w ∈ wsX00, w ∈ wsX0_even := fun w h => List.mem_cons_of_mem _ (List.mem_append_right _ h)
  have hl_added : (Cond.fieldLink RX0 9 "PermGroup" "added" "[I").before args s = true := hts _ (by decide +kernel)
  have hl_count : (Cond.fieldLink RX0 33 "PermGroup" "count" "I").before args s = true := hts _ (by decide +kernel)
  refine lv_aload_n hx hb dX0_even_0 rfl (lv_at hl 0 rfl) ?_
  refine lv_iconst (v := nI (0)) hx hb dX0_even_1 (by decide) ?_
  refine pu_V (As := [.int (nI (0))]) (rest := []) (b := h) ⟨hx, hb, hml, hown, hts⟩ (kX0_fixersOfFirst hP hn hc (k := 0) (by omega)) (cwV 1 hts gX0_even_X0_fixersOfFirst rfl rfl rfl eX0_fixersOfFirst ⟨by decide, by decide⟩) (va_recv hK hP (ci := 0) (q0 := 0) rfl rfl) hK rfl hl.1 rfl (Nat.le_of_ble_eq_true rfl) dX0_even_2 ⟨Nat.zero_le _, Nat.zero_le _⟩ ?_
  refine lv_istore_n (lv' := [(1, .int (nI (fx (R ct) n (0)))), (0, .ref h)]) hx hb dX0_even_5 rfl hl (by decide) rfl (fun ls hl => ?_)
  refine lv_iconst (v := nI (0)) hx hb dX0_even_6 (by decide) ?_
  refine lv_istore_n (lv' := [(2, .int (nI (0))), (1, .int (nI (fx (R ct) n (0)))), (0, .ref h)]) hx hb dX0_even_7 rfl hl (by decide) rfl (fun ls hl => ?_)
  have loop_8 : ∀ (j k : Nat), (k + j = ct) → (nI (evF ad n (fx (R ct) n 0) ct 0) = nI (evF ad n (fx (R ct) n 0) j k)) → ∀ (ls : Array Slot), lv_has ls 3 [(0, .ref h), (1, .int (nI (fx (R ct) n (0)))), (2, .int (nI (k)))] → W p l e ({ frames := 3, cells := 0, slots := 0, locals := 68 } : Room) s m args below meth c H [] 0 0 QQ (F0 m 8 ls []) := by
    intro j
    induction j with
    | zero =>
      intro k hj hr ls hl
      refine lv_iload_n hx hb dX0_even_8 rfl (lv_at hl 2 rfl) ?_
      refine lv_aload_n hx hb dX0_even_9 rfl (lv_at hl 0 rfl) ?_
      refine va_get (D := D) (ci := 0) (v := .int (nI (ct))) (C := RX0) (T := TX0) (N := 7) hx hb hts hin0 hown hK hP 0 rfl rfl 2 (by decide) hl_count (fun _ h9 => h9) rfl dX0_even_10 ?_
      refine lv_icmp_ge (tgt := 39) hx hb dX0_even_13 (by decide) (fun c_13 => ?_) (fun c_13 => ?_)
      ·
        have c_13 := (nI_leI (by omega) (by omega)).mp c_13
        refine lv_iload_n hx hb dX0_even_39 rfl (lv_at hl 1 rfl) ?_
        exact hret _ _ _ (hr.symm) dX0_even_40
      ·
        have c_13 : ¬ _ := fun h9 => c_13 ((nI_leI (by omega) (by omega)).mpr h9)
        exfalso; omega
    | succ j ih_8 =>
      intro k hj hr ls hl
      refine lv_iload_n hx hb dX0_even_8 rfl (lv_at hl 2 rfl) ?_
      refine lv_aload_n hx hb dX0_even_9 rfl (lv_at hl 0 rfl) ?_
      refine va_get (D := D) (ci := 0) (v := .int (nI (ct))) (C := RX0) (T := TX0) (N := 7) hx hb hts hin0 hown hK hP 0 rfl rfl 2 (by decide) hl_count (fun _ h9 => h9) rfl dX0_even_10 ?_
      refine lv_icmp_ge (tgt := 39) hx hb dX0_even_13 (by decide) (fun c_13 => ?_) (fun c_13 => ?_)
      ·
        have c_13 := (nI_leI (by omega) (by omega)).mp c_13
        exfalso; omega
      ·
        have c_13 : ¬ _ := fun h9 => c_13 ((nI_leI (by omega) (by omega)).mpr h9)
        refine lv_aload_n hx hb dX0_even_16 rfl (lv_at hl 0 rfl) ?_
        refine lv_aload_n hx hb dX0_even_17 rfl (lv_at hl 0 rfl) ?_
        refine va_get (D := D) (ci := 0) (v := .ref a) (C := RX0) (T := TX0) (N := 7) hx hb hts hin0 hown hK hP 0 rfl rfl 3 (by decide) hl_added (fun _ h9 => h9) rfl dX0_even_18 ?_
        refine lv_iload_n hx hb dX0_even_21 rfl (lv_at hl 2 rfl) ?_
        refine va_iald hx hb hK hP 1 0 rfl rfl (vp_in_nI (by omega) (by omega)) dX0_even_22 ?_
        refine pu_tp (nb_clamp (f := ad) (by omega)) ?_
        refine pu_tp (z := nI (tn (ad k))) ((nI_tn _).symm) ?_
        refine pu_V (As := [.int (nI (tn (ad k)))]) (rest := []) (b := h) ⟨hx, hb, hml, hown, hts⟩ (kX0_isOdd hP hn (P := tn (ad k)) (tn_lt _) hn1) (cwV 1 hts gX0_even_X0_isOdd rfl rfl rfl eX0_isOdd ⟨by decide, by decide⟩) (va_recv hK hP (ci := 0) (q0 := 0) rfl rfl) hK rfl hl.1 rfl (Nat.le_of_ble_eq_true rfl) dX0_even_23 ⟨Nat.zero_le _, Nat.zero_le _⟩ ?_
        refine lv_if_eq (tgt := 33) hx hb dX0_even_26 (by decide) (fun c_26 => ?_) (fun c_26 => ?_)
        ·
          have c_26 := b01_f c_26
          refine lv_iinc (v := nI (k + 1)) (lv' := [(2, .int (nI (k + 1))), (0, .ref h), (1, .int (nI (fx (R ct) n (0))))]) hx hb dX0_even_33 hl (k := 2) rfl (nI_1 _) (by decide) rfl (fun ls hl => ?_)
          refine lv_goto (tgt := 8) hx hb dX0_even_36 (by decide) ?_
          exact ih_8 (k + 1) (by omega) (hr.trans (congrArg nI (if_neg (by rw [c_26]; decide)))) ls (lv_sub hl [1, 2, 0] rfl)
        ·
          have c_26 := b01_t c_26
          refine lv_iload_n hx hb dX0_even_29 rfl (lv_at hl 1 rfl) ?_
          refine lv_iconst (v := nI (2)) hx hb dX0_even_30 (by decide) ?_
          refine lv_idiv hx hb dX0_even_31 (nI_ne0 (by omega) (by omega)) ?_
          refine pu_tp (pk_div (Nat.lt_trans (fx_lt _ hn _) (by decide)) (by omega) (by omega)) ?_
          exact hret _ _ _ ((hr.trans (congrArg nI (if_pos c_26))).symm) dX0_even_32
  exact loop_8 ct 0 (by omega) rfl ls (lv_sub hl [2, 1, 0] rfl)
end CXB
