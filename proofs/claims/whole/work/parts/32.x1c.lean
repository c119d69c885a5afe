section CXI
variable {l : Launch} {D : va_G} {cI cG cZ : ClassId} {h fa ge inn wa : Nat} {ct n : Nat} {th : Int32} {gn iv wv : Nat → Int32}
theorem eX1_order : yX1_order.cls = RX1 ∧ yX1_order.cls ≠ "java/lang/invoke/MethodHandle" ∧ yX1_order.cls ≠ "java/lang/invoke/VarHandle" ∧ (parseMethodDescriptor yX1_order.desc).map (fun d => d.parameters.length) = some 0 := by decide +kernel
set_option maxHeartbeats 4000000 in
set_option maxRecDepth 100000 in
theorem kX1_order (h1 : 1 ≤ n) (h7 : n ≤ 7) (hc : ct ≤ 12) (hg : ∀ j, j < ct → PM n (gC gn j)) : mI (S := ((Nat → Int32) × (Nat → Int32))) l yX1_order wsX1_order ({ frames := 4, cells := 0, slots := 0, locals := 100 } : Room) [.ref h] D (gT cI cG cZ) (mW cI cZ h fa ge inn wa (nI (ct)) (nI (n)) (th) (gn) (iv) (wv)) (fun u => mW cI cZ h fa ge inn wa (nI ct) (nI n) th gn u.1 u.2) (fun r u => FP n ct gn u.1 ∧ r = nI (bl u.1 (fac n))) := by
  refine mI_ofW (cc := cX1_order) (maxL := 1) (ret := (some .int)) (by decide) rfl (Or.inl rfl) (Nat.le_of_ble_eq_true rfl) ?_
  intro p e s m args below meth c QQ hx hb hml hown hts hK hP hD hS hret ls hl
  have hl : lv_has ls 1 [(0, .ref h)] := hl
  have hown : s.vm.findClass RX1 = some m.cls := hown
  have hin0 : ∀ w ∈ wsX10, w ∈ wsX1_order := fun w h => List.mem_cons_of_mem _ (List.mem_append_right _ h)
  generalize inW (mW cI cZ h fa ge inn wa (nI (ct)) (nI (n)) (th) (gn) (iv) (wv)) = A at hD hS hret
  suffices start : ∀ (H : Heap) (locs : List Loc), va_P D vwCl (mW cI cZ h fa ge inn wa (nI (ct)) (nI (n)) (th) (gn) (iv) (wv)) H → va_D A (mW cI cZ h fa ge inn wa (nI (ct)) (nI (n)) (th) (gn) (iv) (wv)) → va_S A s.heap H locs → W p l e ({ frames := 4, cells := 0, slots := 0, locals := 100 } : Room) s m args below meth c H locs 0 0 QQ (F0 m 0 ls []) from start s.heap [] hP hD hS
  clear hP hD hS
  intro H locs hP hD hS
  have hf := fac_le h7
  refine lv_aload_n hx hb dX1_order_0 rfl (lv_at hl 0 rfl) ?_
  refine mv_V (As := []) (rest := []) (b := h) ⟨hx, hb, hml, hown, hts⟩ (kX1_fill h1 h7 hc hg) (cwV 0 hts gX1_order_X1_fill rfl rfl rfl eX1_fill ⟨by decide, by decide⟩) (va_recv hK hP (ci := 1) (q0 := 0) rfl rfl) hK hP hD hS rfl hl.1 rfl (Nat.le_of_ble_eq_true rfl) dX1_order_1 ⟨Nat.zero_le _, Nat.zero_le _⟩ (fun u H locs hw hP hS hk => ?_)
  obtain ⟨iw, ww⟩ := u
  have hP : va_P D vwCl (mW cI cZ h fa ge inn wa (nI (ct)) (nI (n)) (th) (gn) (iw) (ww)) H := hP
  have hD : va_D A (mW cI cZ h fa ge inn wa (nI (ct)) (nI (n)) (th) (gn) (iw) (ww)) := mW_addr hD
  have hw : FP n ct gn iw := hw
  refine lv_aload_n hx hb dX1_order_4 rfl (lv_at hl 0 rfl) ?_
  refine lv_aload_n hx hb dX1_order_5 rfl (lv_at hl 0 rfl) ?_
  refine pu_V (As := []) (rest := [.ref h]) (b := h) ⟨hx, hb, hml, hown, hts⟩ (kX1_all hP h7) (cwV 0 hts gX1_order_X1_all rfl rfl rfl eX1_all ⟨by decide, by decide⟩) (va_recv hK hP (ci := 1) (q0 := 0) rfl rfl) hK rfl hl.1 rfl (Nat.le_of_ble_eq_true rfl) dX1_order_6 ⟨Nat.zero_le _, Nat.zero_le _⟩ ?_
  refine pu_V (As := [.int (nI (fac n))]) (rest := []) (b := h) ⟨hx, hb, hml, hown, hts⟩ (kX1_below hP (k := fac n) hf) (cwV 1 hts gX1_order_X1_below rfl rfl rfl eX1_below ⟨by decide, by decide⟩) (va_recv hK hP (ci := 1) (q0 := 0) rfl rfl) hK rfl hl.1 rfl (Nat.le_of_ble_eq_true rfl) dX1_order_9 ⟨Nat.zero_le _, Nat.zero_le _⟩ ?_
  exact hret (iw, ww) H locs _ _ _ ⟨hw, rfl⟩ hP hS dX1_order_12
theorem eX1_contains : yX1_contains.cls = RX1 ∧ yX1_contains.cls ≠ "java/lang/invoke/MethodHandle" ∧ yX1_contains.cls ≠ "java/lang/invoke/VarHandle" ∧ (parseMethodDescriptor yX1_contains.desc).map (fun d => d.parameters.length) = some 1 := by decide +kernel
set_option maxHeartbeats 4000000 in
set_option maxRecDepth 100000 in
theorem kX1_contains (h1 : 1 ≤ n) (h7 : n ≤ 7) (hc : ct ≤ 12) (hg : ∀ j, j < ct → PM n (gC gn j)) {P : Nat} (hp : P < 2 ^ 32) : mI (S := ((Nat → Int32) × (Nat → Int32))) l yX1_contains wsX1_contains ({ frames := 4, cells := 0, slots := 0, locals := 100 } : Room) [.ref h, .int (nI (P))] D (gT cI cG cZ) (mW cI cZ h fa ge inn wa (nI (ct)) (nI (n)) (th) (gn) (iv) (wv)) (fun u => mW cI cZ h fa ge inn wa (nI ct) (nI n) th gn u.1 u.2) (fun r u => (isP n P = false ∧ r = 0 ∧ u = (iv, wv)) ∨ (isP n P = true ∧ FP n ct gn u.1 ∧ r = u.1 (nu n P))) := by
  refine mI_ofW (cc := cX1_contains) (maxL := 2) (ret := (some .boolean)) (by decide) rfl (Or.inr ⟨rfl, fun v u q => q.elim (fun q => Or.inl q.2.1) (fun q => by rw [q.2.2]; exact q.2.1.1 _ (Nat.lt_of_lt_of_le (nu_lt h1 h7 (isP_PM.mp q.1)) (fac_le h7)))⟩) (Nat.le_of_ble_eq_true rfl) ?_
  intro p e s m args below meth c QQ hx hb hml hown hts hK hP hD hS hret ls hl
  have hl : lv_has ls 2 [(0, .ref h), (1, .int (nI (P)))] := hl
  have hown : s.vm.findClass RX1 = some m.cls := hown
  have hin0 : ∀ w ∈ wsX10, w ∈ wsX1_contains := fun w h => List.mem_cons_of_mem _ (List.mem_append_right _ h)
  have hl_in : (Cond.fieldLink RX1 16 "PermGroupModel" "in" "[Z").before args s = true := hts _ (by decide +kernel)
  generalize inW (mW cI cZ h fa ge inn wa (nI (ct)) (nI (n)) (th) (gn) (iv) (wv)) = A at hD hS hret
  suffices start : ∀ (H : Heap) (locs : List Loc), va_P D vwCl (mW cI cZ h fa ge inn wa (nI (ct)) (nI (n)) (th) (gn) (iv) (wv)) H → va_D A (mW cI cZ h fa ge inn wa (nI (ct)) (nI (n)) (th) (gn) (iv) (wv)) → va_S A s.heap H locs → W p l e ({ frames := 4, cells := 0, slots := 0, locals := 100 } : Room) s m args below meth c H locs 0 0 QQ (F0 m 0 ls []) from start s.heap [] hP hD hS
  clear hP hD hS
  intro H locs hP hD hS
  have hf := fac_le h7
  refine lv_aload_n hx hb dX1_contains_0 rfl (lv_at hl 0 rfl) ?_
  refine lv_iload_n hx hb dX1_contains_1 rfl (lv_at hl 1 rfl) ?_
  refine pu_V (As := [.int (nI (P))]) (rest := []) (b := h) ⟨hx, hb, hml, hown, hts⟩ (kX1_isPermutation hP h7 (P := P) hp) (cwV 1 hts gX1_contains_X1_isPermutation rfl rfl rfl eX1_isPermutation ⟨by decide, by decide⟩) (va_recv hK hP (ci := 1) (q0 := 0) rfl rfl) hK rfl hl.1 rfl (Nat.le_of_ble_eq_true rfl) dX1_contains_2 ⟨Nat.zero_le _, Nat.zero_le _⟩ ?_
  refine lv_if_ne (tgt := 10) hx hb dX1_contains_5 (by decide) (fun c_5 => ?_) (fun c_5 => ?_)
  ·
    have c_5 := b01_t c_5
    refine lv_aload_n hx hb dX1_contains_10 rfl (lv_at hl 0 rfl) ?_
    refine mv_V (As := []) (rest := []) (b := h) ⟨hx, hb, hml, hown, hts⟩ (kX1_fill h1 h7 hc hg) (cwV 0 hts gX1_contains_X1_fill rfl rfl rfl eX1_fill ⟨by decide, by decide⟩) (va_recv hK hP (ci := 1) (q0 := 0) rfl rfl) hK hP hD hS rfl hl.1 rfl (Nat.le_of_ble_eq_true rfl) dX1_contains_11 ⟨Nat.zero_le _, Nat.zero_le _⟩ (fun u H locs hw hP hS hk => ?_)
    obtain ⟨iw, ww⟩ := u
    have hP : va_P D vwCl (mW cI cZ h fa ge inn wa (nI (ct)) (nI (n)) (th) (gn) (iw) (ww)) H := hP
    have hD : va_D A (mW cI cZ h fa ge inn wa (nI (ct)) (nI (n)) (th) (gn) (iw) (ww)) := mW_addr hD
    have hw : FP n ct gn iw := hw
    refine lv_aload_n hx hb dX1_contains_14 rfl (lv_at hl 0 rfl) ?_
    refine va_get (D := D) (ci := 1) (v := .ref inn) (C := RX1) (T := TX1) (N := 7) hx hb hts hin0 hown hK hP 0 rfl rfl 4 (by decide) hl_in (fun _ h9 => h9) rfl dX1_contains_15 ?_
    refine lv_aload_n hx hb dX1_contains_18 rfl (lv_at hl 0 rfl) ?_
    refine lv_iload_n hx hb dX1_contains_19 rfl (lv_at hl 1 rfl) ?_
    refine pu_V (As := [.int (nI (P))]) (rest := [.ref inn]) (b := h) ⟨hx, hb, hml, hown, hts⟩ (kX1_numberOf hP h7 (P := P) (Nat.lt_trans (isP_lt h7 c_5) (by decide))) (cwV 1 hts gX1_contains_X1_numberOf rfl rfl rfl eX1_numberOf ⟨by decide, by decide⟩) (va_recv hK hP (ci := 1) (q0 := 0) rfl rfl) hK rfl hl.1 rfl (Nat.le_of_ble_eq_true rfl) dX1_contains_20 ⟨Nat.zero_le _, Nat.zero_le _⟩ ?_
    refine va_zald hx hb hK hP 3 2 rfl rfl (vp_in_nI (Nat.lt_of_lt_of_le (nu_lt h1 h7 (isP_PM.mp c_5)) hf) (by decide)) dX1_contains_23 ?_
    refine pu_tp (nb_clamp (f := iw) (by have := nu_lt h1 h7 (isP_PM.mp c_5); omega)) ?_
    exact hret (iw, ww) H locs _ _ _ (Or.inr ⟨c_5, hw, rfl⟩) hP hS dX1_contains_24
  ·
    have c_5 := b01_f c_5
    refine lv_iconst (v := nI (0)) hx hb dX1_contains_8 (by decide) ?_
    exact hret (iv, wv) H locs _ _ _ (Or.inl ⟨c_5, rfl, rfl⟩) hP hS dX1_contains_9
theorem eX1_element : yX1_element.cls = RX1 ∧ yX1_element.cls ≠ "java/lang/invoke/MethodHandle" ∧ yX1_element.cls ≠ "java/lang/invoke/VarHandle" ∧ (parseMethodDescriptor yX1_element.desc).map (fun d => d.parameters.length) = some 1 := by decide +kernel
set_option maxHeartbeats 4000000 in
set_option maxRecDepth 100000 in
theorem kX1_element (h1 : 1 ≤ n) (h7 : n ≤ 7) (hc : ct ≤ 12) (hg : ∀ j, j < ct → PM n (gC gn j)) {k : Int32} : mI (S := (Int32 × (Nat → Int32) × (Nat → Int32))) l yX1_element wsX1_element ({ frames := 4, cells := 0, slots := 0, locals := 100 } : Room) [.ref h, .int (k)] D (gT cI cG cZ) (mW cI cZ h fa ge inn wa (nI (ct)) (nI (n)) (th) (gn) (iv) (wv)) (fun u => mW cI cZ h fa ge inn wa (nI ct) (nI n) u.1 gn u.2.1 u.2.2) (fun r u => FP n ct gn u.2.1 ∧ (((k < 0 ∨ ¬ k < nI (bl u.2.1 (fac n))) ∧ u.1 = 1) ∨ ∃ X, X < bl u.2.1 (fac n) ∧ k = nI X ∧ u.1 = 0 ∧ r = nI (pe n (elS u.2.1 5040 0 X)))) := by
  refine mI_ofW (cc := cX1_element) (maxL := 4) (ret := (some .int)) (by decide) rfl (Or.inl rfl) (Nat.le_of_ble_eq_true rfl) ?_
  intro p e s m args below meth c QQ hx hb hml hown hts hK hP hD hS hret ls hl
  have hl : lv_has ls 4 [(0, .ref h), (1, .int (k))] := hl
  have hown : s.vm.findClass RX1 = some m.cls := hown
  have hin0 : ∀ w ∈ wsX10, w ∈ wsX1_element := fun w h => List.mem_cons_of_mem _ (List.mem_append_right _ h)
  have hl_in : (Cond.fieldLink RX1 16 "PermGroupModel" "in" "[Z").before args s = true := hts _ (by decide +kernel)
  have hl_thrown : (Cond.fieldLink RX1 69 "PermGroupModel" "thrown" "I").before args s = true := hts _ (by decide +kernel)
  generalize inW (mW cI cZ h fa ge inn wa (nI (ct)) (nI (n)) (th) (gn) (iv) (wv)) = A at hD hS hret
  suffices start : ∀ (H : Heap) (locs : List Loc), va_P D vwCl (mW cI cZ h fa ge inn wa (nI (ct)) (nI (n)) (th) (gn) (iv) (wv)) H → va_D A (mW cI cZ h fa ge inn wa (nI (ct)) (nI (n)) (th) (gn) (iv) (wv)) → va_S A s.heap H locs → W p l e ({ frames := 4, cells := 0, slots := 0, locals := 100 } : Room) s m args below meth c H locs 0 0 QQ (F0 m 0 ls []) from start s.heap [] hP hD hS
  clear hP hD hS
  intro H locs hP hD hS
  have hf := fac_le h7
  refine lv_aload_n hx hb dX1_element_0 rfl (lv_at hl 0 rfl) ?_
  refine mv_V (As := []) (rest := []) (b := h) ⟨hx, hb, hml, hown, hts⟩ (kX1_fill h1 h7 hc hg) (cwV 0 hts gX1_element_X1_fill rfl rfl rfl eX1_fill ⟨by decide, by decide⟩) (va_recv hK hP (ci := 1) (q0 := 0) rfl rfl) hK hP hD hS rfl hl.1 rfl (Nat.le_of_ble_eq_true rfl) dX1_element_1 ⟨Nat.zero_le _, Nat.zero_le _⟩ (fun u H locs hw hP hS hk => ?_)
  obtain ⟨iw, ww⟩ := u
  have hP : va_P D vwCl (mW cI cZ h fa ge inn wa (nI (ct)) (nI (n)) (th) (gn) (iw) (ww)) H := hP
  have hD : va_D A (mW cI cZ h fa ge inn wa (nI (ct)) (nI (n)) (th) (gn) (iw) (ww)) := mW_addr hD
  have hw : FP n ct gn iw := hw
  refine lv_aload_n hx hb dX1_element_4 rfl (lv_at hl 0 rfl) ?_
  refine lv_iload_n hx hb dX1_element_5 rfl (lv_at hl 1 rfl) ?_
  refine lv_if_lt (tgt := 21) hx hb dX1_element_6 (by decide) (fun c_6 => ?_) (fun c_6 => ?_)
  ·
    refine lv_iconst (v := nI (1)) hx hb dX1_element_21 (by decide) ?_
    refine lv_goto (tgt := 26) hx hb dX1_element_22 (by decide) ?_
    refine va_put (D := D) (ci := 1) (v := .int (nI (1))) (ty := .int) (C := RX1) (T := TX1) (N := 7) hx hb hts hin0 tyX1 tyX1_ok nmX1 hown hK hP hD hS 0 rfl rfl 6 (by decide) hl_thrown (fun _ h9 => h9) rfl (by decide +kernel) rfl rfl (Nat.le_of_ble_eq_true rfl) dX1_element_26 (fun H locs hP hD hS => ?_)
    have hP : va_P D vwCl (mW cI cZ h fa ge inn wa (nI (ct)) (nI (n)) (nI (1)) (gn) (iw) (ww)) H := hP
    have hD : va_D A (mW cI cZ h fa ge inn wa (nI (ct)) (nI (n)) (nI (1)) (gn) (iw) (ww)) := hD
    refine lv_aload_n hx hb dX1_element_29 rfl (lv_at hl 0 rfl) ?_
    refine va_get (D := D) (ci := 1) (v := .int (nI (1))) (C := RX1) (T := TX1) (N := 7) hx hb hts hin0 hown hK hP 0 rfl rfl 6 (by decide) hl_thrown (fun _ h9 => h9) rfl dX1_element_30 ?_
    refine lv_if_le (tgt := 38) hx hb dX1_element_33 (by decide) (fun c_33 => ?_) (fun c_33 => ?_)
    ·
      have c_33 := (nb_le0 (by omega)).mp c_33
      exact absurd c_33 (by decide)
    ·
      have c_33 : ¬ _ := fun h9 => c_33 ((nb_le0 (by omega)).mpr h9)
      refine lv_iconst (v := nI (0)) hx hb dX1_element_36 (by decide) ?_
      exact hret (nI 1, iw, ww) H locs _ _ _ ⟨hw, Or.inl ⟨by first | exact Or.inl c_6 | exact Or.inr c_18, rfl⟩⟩ hP hS dX1_element_37
  ·
    refine lv_iload_n hx hb dX1_element_9 rfl (lv_at hl 1 rfl) ?_
    refine lv_aload_n hx hb dX1_element_10 rfl (lv_at hl 0 rfl) ?_
    refine lv_aload_n hx hb dX1_element_11 rfl (lv_at hl 0 rfl) ?_
    refine pu_V (As := []) (rest := [.ref h, .int (k), .ref h]) (b := h) ⟨hx, hb, hml, hown, hts⟩ (kX1_all hP h7) (cwV 0 hts gX1_element_X1_all rfl rfl rfl eX1_all ⟨by decide, by decide⟩) (va_recv hK hP (ci := 1) (q0 := 0) rfl rfl) hK rfl hl.1 rfl (Nat.le_of_ble_eq_true rfl) dX1_element_12 ⟨Nat.zero_le _, Nat.zero_le _⟩ ?_
    refine pu_V (As := [.int (nI (fac n))]) (rest := [.int (k), .ref h]) (b := h) ⟨hx, hb, hml, hown, hts⟩ (kX1_below hP (k := fac n) hf) (cwV 1 hts gX1_element_X1_below rfl rfl rfl eX1_below ⟨by decide, by decide⟩) (va_recv hK hP (ci := 1) (q0 := 0) rfl rfl) hK rfl hl.1 rfl (Nat.le_of_ble_eq_true rfl) dX1_element_15 ⟨Nat.zero_le _, Nat.zero_le _⟩ ?_
    refine lv_icmp_lt (tgt := 25) hx hb dX1_element_18 (by decide) (fun c_18 => ?_) (fun c_18 => ?_)
    ·
      obtain ⟨X, hX, rfl⟩ := nb_ix c_6 c_18 (by have := bl_le iw (fac n); omega)
      refine lv_iconst (v := nI (0)) hx hb dX1_element_25 (by decide) ?_
      refine va_put (D := D) (ci := 1) (v := .int (nI (0))) (ty := .int) (C := RX1) (T := TX1) (N := 7) hx hb hts hin0 tyX1 tyX1_ok nmX1 hown hK hP hD hS 0 rfl rfl 6 (by decide) hl_thrown (fun _ h9 => h9) rfl (by decide +kernel) rfl rfl (Nat.le_of_ble_eq_true rfl) dX1_element_26 (fun H locs hP hD hS => ?_)
      have hP : va_P D vwCl (mW cI cZ h fa ge inn wa (nI (ct)) (nI (n)) (nI (0)) (gn) (iw) (ww)) H := hP
      have hD : va_D A (mW cI cZ h fa ge inn wa (nI (ct)) (nI (n)) (nI (0)) (gn) (iw) (ww)) := hD
      refine lv_aload_n hx hb dX1_element_29 rfl (lv_at hl 0 rfl) ?_
      refine va_get (D := D) (ci := 1) (v := .int (nI (0))) (C := RX1) (T := TX1) (N := 7) hx hb hts hin0 hown hK hP 0 rfl rfl 6 (by decide) hl_thrown (fun _ h9 => h9) rfl dX1_element_30 ?_
      refine lv_if_le (tgt := 38) hx hb dX1_element_33 (by decide) (fun c_33 => ?_) (fun c_33 => ?_)
      ·
        have c_33 := (nb_le0 (by omega)).mp c_33
        refine lv_iconst (v := nI (0)) hx hb dX1_element_38 (by decide) ?_
        refine lv_istore_n (lv' := [(2, .int (nI (0))), (0, .ref h), (1, .int (nI (X)))]) hx hb dX1_element_39 rfl hl (by decide) rfl (fun ls hl => ?_)
        refine lv_iload_n hx hb dX1_element_40 rfl (lv_at hl 2 rfl) ?_
        refine lv_istore_n (lv' := [(3, .int (nI (X))), (2, .int (nI (0))), (0, .ref h), (1, .int (nI (X)))]) hx hb dX1_element_41 rfl hl (by decide) rfl (fun ls hl => ?_)
        have loop_42 : ∀ (K m9 l9 : Nat), (m9 + K = 5040) → (elS iw 5040 0 X = elS iw K m9 l9) → (l9 < 2 ^ 31) → ∀ (ls : Array Slot), lv_has ls 4 [(0, .ref h), (2, .int (nI (m9))), (3, .int (nI (l9)))] → W p l e ({ frames := 4, cells := 0, slots := 0, locals := 100 } : Room) s m args below meth c H locs 0 0 QQ (F0 m 42 ls []) := by
          intro K
          induction K with
          | zero =>
            intro m9 l9 hK1 hr hl31 ls hl
            refine lv_iload_n hx hb dX1_element_42 rfl (lv_at hl 1 rfl) ?_
            refine lv_sipush (v := nI (5040)) hx hb dX1_element_43 (by decide) ?_
            refine lv_icmp_ge (tgt := 80) hx hb dX1_element_46 (by decide) (fun c_46 => ?_) (fun c_46 => ?_)
            ·
              have c_46 := (nI_leI (by omega) (by omega)).mp c_46
              refine lv_aload_n hx hb dX1_element_80 rfl (lv_at hl 0 rfl) ?_
              refine lv_iload_n hx hb dX1_element_81 rfl (lv_at hl 1 rfl) ?_
              refine pu_V (As := [.int (nI (m9))]) (rest := []) (b := h) ⟨hx, hb, hml, hown, hts⟩ (kX1_permutation hP h7 (q := m9) (by omega)) (cwV 1 hts gX1_element_X1_permutation rfl rfl rfl eX1_permutation ⟨by decide, by decide⟩) (va_recv hK hP (ci := 1) (q0 := 0) rfl rfl) hK rfl hl.1 rfl (Nat.le_of_ble_eq_true rfl) dX1_element_82 ⟨Nat.zero_le _, Nat.zero_le _⟩ ?_
              exact hret (nI 0, iw, ww) H locs _ _ _ ⟨hw, Or.inr ⟨X, hX, rfl, rfl, congrArg (fun z => nI (pe n z)) (by first | exact hr.symm | exact (hr.trans (elS_h c_55 (by omega))).symm)⟩⟩ hP hS dX1_element_85
            ·
              have c_46 : ¬ _ := fun h9 => c_46 ((nI_leI (by omega) (by omega)).mpr h9)
              exfalso; omega
          | succ K ih_42 =>
            intro m9 l9 hK1 hr hl31 ls hl
            refine lv_iload_n hx hb dX1_element_42 rfl (lv_at hl 1 rfl) ?_
            refine lv_sipush (v := nI (5040)) hx hb dX1_element_43 (by decide) ?_
            refine lv_icmp_ge (tgt := 80) hx hb dX1_element_46 (by decide) (fun c_46 => ?_) (fun c_46 => ?_)
            ·
              have c_46 := (nI_leI (by omega) (by omega)).mp c_46
              exfalso; omega
            ·
              have c_46 : ¬ _ := fun h9 => c_46 ((nI_leI (by omega) (by omega)).mpr h9)
              refine lv_aload_n hx hb dX1_element_49 rfl (lv_at hl 0 rfl) ?_
              refine va_get (D := D) (ci := 1) (v := .ref inn) (C := RX1) (T := TX1) (N := 7) hx hb hts hin0 hown hK hP 0 rfl rfl 4 (by decide) hl_in (fun _ h9 => h9) rfl dX1_element_50 ?_
              refine lv_iload_n hx hb dX1_element_53 rfl (lv_at hl 1 rfl) ?_
              refine va_zald hx hb hK hP 3 2 rfl rfl (vp_in_nI (by omega) (by omega)) dX1_element_54 ?_
              refine pu_tp (nb_clamp (f := iw) (by omega)) ?_
              refine lv_if_eq (tgt := 62) hx hb dX1_element_55 (by decide) (fun c_55 => ?_) (fun c_55 => ?_)
              ·
                refine lv_aload_n hx hb dX1_element_62 rfl (lv_at hl 0 rfl) ?_
                refine va_get (D := D) (ci := 1) (v := .ref inn) (C := RX1) (T := TX1) (N := 7) hx hb hts hin0 hown hK hP 0 rfl rfl 4 (by decide) hl_in (fun _ h9 => h9) rfl dX1_element_63 ?_
                refine lv_iload_n hx hb dX1_element_66 rfl (lv_at hl 1 rfl) ?_
                refine va_zald hx hb hK hP 3 2 rfl rfl (vp_in_nI (by omega) (by omega)) dX1_element_67 ?_
                refine pu_tp (nb_clamp (f := iw) (by omega)) ?_
                refine lv_if_eq (tgt := 74) hx hb dX1_element_68 (by decide) (fun c_68 => ?_) (fun c_68 => ?_)
                ·
                  refine lv_iinc (v := nI (m9 + 1)) (lv' := [(2, .int (nI (m9 + 1))), (0, .ref h), (3, .int (nI (l9)))]) hx hb dX1_element_74 hl (k := 1) rfl (nI_1 _) (by decide) rfl (fun ls hl => ?_)
                  refine lv_goto (tgt := 42) hx hb dX1_element_77 (by decide) ?_
                  exact ih_42 (m9 + 1) l9 (by omega) (hr.trans (elS_n (by first | exact c_55 | exact c_68))) hl31 ls (lv_sub hl [1, 0, 2] rfl)
                ·
                  exact absurd c_55 c_68
              ·
                refine lv_iload_n hx hb dX1_element_58 rfl (lv_at hl 2 rfl) ?_
                refine lv_if_le (tgt := 80) hx hb dX1_element_59 (by decide) (fun c_59 => ?_) (fun c_59 => ?_)
                ·
                  have c_59 := (nb_le0 (by omega)).mp c_59
                  refine lv_aload_n hx hb dX1_element_80 rfl (lv_at hl 0 rfl) ?_
                  refine lv_iload_n hx hb dX1_element_81 rfl (lv_at hl 1 rfl) ?_
                  refine pu_V (As := [.int (nI (m9))]) (rest := []) (b := h) ⟨hx, hb, hml, hown, hts⟩ (kX1_permutation hP h7 (q := m9) (by omega)) (cwV 1 hts gX1_element_X1_permutation rfl rfl rfl eX1_permutation ⟨by decide, by decide⟩) (va_recv hK hP (ci := 1) (q0 := 0) rfl rfl) hK rfl hl.1 rfl (Nat.le_of_ble_eq_true rfl) dX1_element_82 ⟨Nat.zero_le _, Nat.zero_le _⟩ ?_
                  exact hret (nI 0, iw, ww) H locs _ _ _ ⟨hw, Or.inr ⟨X, hX, rfl, rfl, congrArg (fun z => nI (pe n z)) (by first | exact hr.symm | exact (hr.trans (elS_h c_55 (by omega))).symm)⟩⟩ hP hS dX1_element_85
                ·
                  have c_59 : ¬ _ := fun h9 => c_59 ((nb_le0 (by omega)).mpr h9)
                  refine lv_aload_n hx hb dX1_element_62 rfl (lv_at hl 0 rfl) ?_
                  refine va_get (D := D) (ci := 1) (v := .ref inn) (C := RX1) (T := TX1) (N := 7) hx hb hts hin0 hown hK hP 0 rfl rfl 4 (by decide) hl_in (fun _ h9 => h9) rfl dX1_element_63 ?_
                  refine lv_iload_n hx hb dX1_element_66 rfl (lv_at hl 1 rfl) ?_
                  refine va_zald hx hb hK hP 3 2 rfl rfl (vp_in_nI (by omega) (by omega)) dX1_element_67 ?_
                  refine pu_tp (nb_clamp (f := iw) (by omega)) ?_
                  refine lv_if_eq (tgt := 74) hx hb dX1_element_68 (by decide) (fun c_68 => ?_) (fun c_68 => ?_)
                  ·
                    exact absurd c_68 c_55
                  ·
                    refine lv_iinc (v := nI (l9 - 1)) (lv' := [(3, .int (nI (l9 - 1))), (0, .ref h), (2, .int (nI (m9)))]) hx hb dX1_element_71 hl (k := 2) rfl (sb_m1 (by omega)) (by decide) rfl (fun ls hl => ?_)
                    refine lv_iinc (v := nI (m9 + 1)) (lv' := [(2, .int (nI (m9 + 1))), (3, .int (nI (l9 - 1))), (0, .ref h)]) hx hb dX1_element_74 hl (k := 2) rfl (nI_1 _) (by decide) rfl (fun ls hl => ?_)
                    refine lv_goto (tgt := 42) hx hb dX1_element_77 (by decide) ?_
                    exact ih_42 (m9 + 1) (l9 - 1) (by omega) (hr.trans (elS_s (by first | exact c_68) (by omega))) (by omega) ls (lv_sub hl [2, 0, 1] rfl)
        exact loop_42 5040 0 X (by omega) rfl (by have := bl_le iw (fac n); omega) ls (lv_sub hl [2, 1, 0] rfl)
      ·
        have c_33 : ¬ _ := fun h9 => c_33 ((nb_le0 (by omega)).mpr h9)
        exact absurd c_33 (by decide)
    ·
      refine lv_iconst (v := nI (1)) hx hb dX1_element_21 (by decide) ?_
      refine lv_goto (tgt := 26) hx hb dX1_element_22 (by decide) ?_
      refine va_put (D := D) (ci := 1) (v := .int (nI (1))) (ty := .int) (C := RX1) (T := TX1) (N := 7) hx hb hts hin0 tyX1 tyX1_ok nmX1 hown hK hP hD hS 0 rfl rfl 6 (by decide) hl_thrown (fun _ h9 => h9) rfl (by decide +kernel) rfl rfl (Nat.le_of_ble_eq_true rfl) dX1_element_26 (fun H locs hP hD hS => ?_)
      have hP : va_P D vwCl (mW cI cZ h fa ge inn wa (nI (ct)) (nI (n)) (nI (1)) (gn) (iw) (ww)) H := hP
      have hD : va_D A (mW cI cZ h fa ge inn wa (nI (ct)) (nI (n)) (nI (1)) (gn) (iw) (ww)) := hD
      refine lv_aload_n hx hb dX1_element_29 rfl (lv_at hl 0 rfl) ?_
      refine va_get (D := D) (ci := 1) (v := .int (nI (1))) (C := RX1) (T := TX1) (N := 7) hx hb hts hin0 hown hK hP 0 rfl rfl 6 (by decide) hl_thrown (fun _ h9 => h9) rfl dX1_element_30 ?_
      refine lv_if_le (tgt := 38) hx hb dX1_element_33 (by decide) (fun c_33 => ?_) (fun c_33 => ?_)
      ·
        have c_33 := (nb_le0 (by omega)).mp c_33
        exact absurd c_33 (by decide)
      ·
        have c_33 : ¬ _ := fun h9 => c_33 ((nb_le0 (by omega)).mpr h9)
        refine lv_iconst (v := nI (0)) hx hb dX1_element_36 (by decide) ?_
        exact hret (nI 1, iw, ww) H locs _ _ _ ⟨hw, Or.inl ⟨by first | exact Or.inl c_6 | exact Or.inr c_18, rfl⟩⟩ hP hS dX1_element_37
theorem eX1_rank : yX1_rank.cls = RX1 ∧ yX1_rank.cls ≠ "java/lang/invoke/MethodHandle" ∧ yX1_rank.cls ≠ "java/lang/invoke/VarHandle" ∧ (parseMethodDescriptor yX1_rank.desc).map (fun d => d.parameters.length) = some 1 := by decide +kernel
set_option maxHeartbeats 4000000 in
set_option maxRecDepth 100000 in
theorem kX1_rank (h1 : 1 ≤ n) (h7 : n ≤ 7) (hc : ct ≤ 12) (hg : ∀ j, j < ct → PM n (gC gn j)) {P : Nat} (hp : P < 2 ^ 32) : mI (S := (Int32 × (Nat → Int32) × (Nat → Int32))) l yX1_rank wsX1_rank ({ frames := 4, cells := 0, slots := 0, locals := 100 } : Room) [.ref h, .int (nI (P))] D (gT cI cG cZ) (mW cI cZ h fa ge inn wa (nI (ct)) (nI (n)) (th) (gn) (iv) (wv)) (fun u => mW cI cZ h fa ge inn wa (nI ct) (nI n) u.1 gn u.2.1 u.2.2) (fun r u => (isP n P = false ∧ u = (1, iv, wv)) ∨ (isP n P = true ∧ FP n ct gn u.2.1 ∧ ((u.2.1 (nu n P) = 0 ∧ u.1 = 2) ∨ (¬ u.2.1 (nu n P) = 0 ∧ u.1 = 0 ∧ r = nI (bl u.2.1 (nu n P)))))) := by
  refine mI_ofW (cc := cX1_rank) (maxL := 3) (ret := (some .int)) (by decide) rfl (Or.inl rfl) (Nat.le_of_ble_eq_true rfl) ?_
  intro p e s m args below meth c QQ hx hb hml hown hts hK hP hD hS hret ls hl
  have hl : lv_has ls 3 [(0, .ref h), (1, .int (nI (P)))] := hl
  have hown : s.vm.findClass RX1 = some m.cls := hown
  have hin0 : ∀ w ∈ wsX10, w ∈ wsX1_rank := fun w h => List.mem_cons_of_mem _ (List.mem_append_right _ h)
  have hl_in : (Cond.fieldLink RX1 16 "PermGroupModel" "in" "[Z").before args s = true := hts _ (by decide +kernel)
  have hl_thrown : (Cond.fieldLink RX1 69 "PermGroupModel" "thrown" "I").before args s = true := hts _ (by decide +kernel)
  generalize inW (mW cI cZ h fa ge inn wa (nI (ct)) (nI (n)) (th) (gn) (iv) (wv)) = A at hD hS hret
  suffices start : ∀ (H : Heap) (locs : List Loc), va_P D vwCl (mW cI cZ h fa ge inn wa (nI (ct)) (nI (n)) (th) (gn) (iv) (wv)) H → va_D A (mW cI cZ h fa ge inn wa (nI (ct)) (nI (n)) (th) (gn) (iv) (wv)) → va_S A s.heap H locs → W p l e ({ frames := 4, cells := 0, slots := 0, locals := 100 } : Room) s m args below meth c H locs 0 0 QQ (F0 m 0 ls []) from start s.heap [] hP hD hS
  clear hP hD hS
  intro H locs hP hD hS
  have hf := fac_le h7
  refine lv_aload_n hx hb dX1_rank_0 rfl (lv_at hl 0 rfl) ?_
  refine lv_aload_n hx hb dX1_rank_1 rfl (lv_at hl 0 rfl) ?_
  refine lv_iload_n hx hb dX1_rank_2 rfl (lv_at hl 1 rfl) ?_
  refine pu_V (As := [.int (nI (P))]) (rest := [.ref h]) (b := h) ⟨hx, hb, hml, hown, hts⟩ (kX1_isPermutation hP h7 (P := P) hp) (cwV 1 hts gX1_rank_X1_isPermutation rfl rfl rfl eX1_isPermutation ⟨by decide, by decide⟩) (va_recv hK hP (ci := 1) (q0 := 0) rfl rfl) hK rfl hl.1 rfl (Nat.le_of_ble_eq_true rfl) dX1_rank_3 ⟨Nat.zero_le _, Nat.zero_le _⟩ ?_
  refine lv_if_eq (tgt := 13) hx hb dX1_rank_6 (by decide) (fun c_6 => ?_) (fun c_6 => ?_)
  ·
    have c_6 := b01_f c_6
    refine lv_iconst (v := nI (1)) hx hb dX1_rank_13 (by decide) ?_
    refine va_put (D := D) (ci := 1) (v := .int (nI (1))) (ty := .int) (C := RX1) (T := TX1) (N := 7) hx hb hts hin0 tyX1 tyX1_ok nmX1 hown hK hP hD hS 0 rfl rfl 6 (by decide) hl_thrown (fun _ h9 => h9) rfl (by decide +kernel) rfl rfl (Nat.le_of_ble_eq_true rfl) dX1_rank_14 (fun H locs hP hD hS => ?_)
    have hP : va_P D vwCl (mW cI cZ h fa ge inn wa (nI (ct)) (nI (n)) (nI (1)) (gn) (iv) (wv)) H := hP
    have hD : va_D A (mW cI cZ h fa ge inn wa (nI (ct)) (nI (n)) (nI (1)) (gn) (iv) (wv)) := hD
    refine lv_aload_n hx hb dX1_rank_17 rfl (lv_at hl 0 rfl) ?_
    refine va_get (D := D) (ci := 1) (v := .int (nI (1))) (C := RX1) (T := TX1) (N := 7) hx hb hts hin0 hown hK hP 0 rfl rfl 6 (by decide) hl_thrown (fun _ h9 => h9) rfl dX1_rank_18 ?_
    refine lv_if_le (tgt := 26) hx hb dX1_rank_21 (by decide) (fun c_21 => ?_) (fun c_21 => ?_)
    ·
      have c_21 := (nb_le0 (by omega)).mp c_21
      exact absurd c_21 (by decide)
    ·
      have c_21 : ¬ _ := fun h9 => c_21 ((nb_le0 (by omega)).mpr h9)
      refine lv_iconst (v := nI (0)) hx hb dX1_rank_24 (by decide) ?_
      exact hret (nI 1, iv, wv) H locs _ _ _ (Or.inl ⟨c_6, rfl⟩) hP hS dX1_rank_25
  ·
    have c_6 := b01_t c_6
    refine lv_iconst (v := nI (0)) hx hb dX1_rank_9 (by decide) ?_
    refine lv_goto (tgt := 14) hx hb dX1_rank_10 (by decide) ?_
    refine va_put (D := D) (ci := 1) (v := .int (nI (0))) (ty := .int) (C := RX1) (T := TX1) (N := 7) hx hb hts hin0 tyX1 tyX1_ok nmX1 hown hK hP hD hS 0 rfl rfl 6 (by decide) hl_thrown (fun _ h9 => h9) rfl (by decide +kernel) rfl rfl (Nat.le_of_ble_eq_true rfl) dX1_rank_14 (fun H locs hP hD hS => ?_)
    have hP : va_P D vwCl (mW cI cZ h fa ge inn wa (nI (ct)) (nI (n)) (nI (0)) (gn) (iv) (wv)) H := hP
    have hD : va_D A (mW cI cZ h fa ge inn wa (nI (ct)) (nI (n)) (nI (0)) (gn) (iv) (wv)) := hD
    refine lv_aload_n hx hb dX1_rank_17 rfl (lv_at hl 0 rfl) ?_
    refine va_get (D := D) (ci := 1) (v := .int (nI (0))) (C := RX1) (T := TX1) (N := 7) hx hb hts hin0 hown hK hP 0 rfl rfl 6 (by decide) hl_thrown (fun _ h9 => h9) rfl dX1_rank_18 ?_
    refine lv_if_le (tgt := 26) hx hb dX1_rank_21 (by decide) (fun c_21 => ?_) (fun c_21 => ?_)
    ·
      have c_21 := (nb_le0 (by omega)).mp c_21
      refine lv_aload_n hx hb dX1_rank_26 rfl (lv_at hl 0 rfl) ?_
      refine mv_V (As := []) (rest := []) (b := h) ⟨hx, hb, hml, hown, hts⟩ (kX1_fill h1 h7 hc hg) (cwV 0 hts gX1_rank_X1_fill rfl rfl rfl eX1_fill ⟨by decide, by decide⟩) (va_recv hK hP (ci := 1) (q0 := 0) rfl rfl) hK hP hD hS rfl hl.1 rfl (Nat.le_of_ble_eq_true rfl) dX1_rank_27 ⟨Nat.zero_le _, Nat.zero_le _⟩ (fun u H locs hw hP hS hk => ?_)
      obtain ⟨iw, ww⟩ := u
      have hP : va_P D vwCl (mW cI cZ h fa ge inn wa (nI (ct)) (nI (n)) (nI (0)) (gn) (iw) (ww)) H := hP
      have hD : va_D A (mW cI cZ h fa ge inn wa (nI (ct)) (nI (n)) (nI (0)) (gn) (iw) (ww)) := mW_addr hD
      have hw : FP n ct gn iw := hw
      have hnu := nu_lt h1 h7 (isP_PM.mp c_6)
      refine lv_aload_n hx hb dX1_rank_30 rfl (lv_at hl 0 rfl) ?_
      refine lv_iload_n hx hb dX1_rank_31 rfl (lv_at hl 1 rfl) ?_
      refine pu_V (As := [.int (nI (P))]) (rest := []) (b := h) ⟨hx, hb, hml, hown, hts⟩ (kX1_numberOf hP h7 (P := P) (Nat.lt_trans (isP_lt h7 c_6) (by decide))) (cwV 1 hts gX1_rank_X1_numberOf rfl rfl rfl eX1_numberOf ⟨by decide, by decide⟩) (va_recv hK hP (ci := 1) (q0 := 0) rfl rfl) hK rfl hl.1 rfl (Nat.le_of_ble_eq_true rfl) dX1_rank_32 ⟨Nat.zero_le _, Nat.zero_le _⟩ ?_
      refine lv_istore_n (lv' := [(2, .int (nI (nu n P))), (0, .ref h), (1, .int (nI (P)))]) hx hb dX1_rank_35 rfl hl (by decide) rfl (fun ls hl => ?_)
      refine lv_aload_n hx hb dX1_rank_36 rfl (lv_at hl 1 rfl) ?_
      refine lv_aload_n hx hb dX1_rank_37 rfl (lv_at hl 1 rfl) ?_
      refine va_get (D := D) (ci := 1) (v := .ref inn) (C := RX1) (T := TX1) (N := 7) hx hb hts hin0 hown hK hP 0 rfl rfl 4 (by decide) hl_in (fun _ h9 => h9) rfl dX1_rank_38 ?_
      refine lv_iload_n hx hb dX1_rank_41 rfl (lv_at hl 0 rfl) ?_
      refine va_zald hx hb hK hP 3 2 rfl rfl (vp_in_nI (by omega) (by omega)) dX1_rank_42 ?_
      refine pu_tp (nb_clamp (f := iw) (by omega)) ?_
      refine lv_if_eq (tgt := 50) hx hb dX1_rank_43 (by decide) (fun c_43 => ?_) (fun c_43 => ?_)
      ·
        refine lv_iconst (v := nI (2)) hx hb dX1_rank_50 (by decide) ?_
        refine va_put (D := D) (ci := 1) (v := .int (nI (2))) (ty := .int) (C := RX1) (T := TX1) (N := 7) hx hb hts hin0 tyX1 tyX1_ok nmX1 hown hK hP hD hS 0 rfl rfl 6 (by decide) hl_thrown (fun _ h9 => h9) rfl (by decide +kernel) rfl rfl (Nat.le_of_ble_eq_true rfl) dX1_rank_51 (fun H locs hP hD hS => ?_)
        have hP : va_P D vwCl (mW cI cZ h fa ge inn wa (nI (ct)) (nI (n)) (nI (2)) (gn) (iw) (ww)) H := hP
        have hD : va_D A (mW cI cZ h fa ge inn wa (nI (ct)) (nI (n)) (nI (2)) (gn) (iw) (ww)) := hD
        refine lv_aload_n hx hb dX1_rank_54 rfl (lv_at hl 1 rfl) ?_
        refine va_get (D := D) (ci := 1) (v := .int (nI (2))) (C := RX1) (T := TX1) (N := 7) hx hb hts hin0 hown hK hP 0 rfl rfl 6 (by decide) hl_thrown (fun _ h9 => h9) rfl dX1_rank_55 ?_
        refine lv_if_le (tgt := 65) hx hb dX1_rank_58 (by decide) (fun c_58 => ?_) (fun c_58 => ?_)
        ·
          have c_58 := (nb_le0 (by omega)).mp c_58
          exact absurd c_58 (by decide)
        ·
          have c_58 : ¬ _ := fun h9 => c_58 ((nb_le0 (by omega)).mpr h9)
          refine lv_iconst (v := nI (0)) hx hb dX1_rank_61 (by decide) ?_
          refine lv_goto (tgt := 70) hx hb dX1_rank_62 (by decide) ?_
          exact hret (nI 2, iw, ww) H locs _ _ _ (Or.inr ⟨c_6, hw, Or.inl ⟨c_43, rfl⟩⟩) hP hS dX1_rank_70
      ·
        refine lv_iconst (v := nI (0)) hx hb dX1_rank_46 (by decide) ?_
        refine lv_goto (tgt := 51) hx hb dX1_rank_47 (by decide) ?_
        refine va_put (D := D) (ci := 1) (v := .int (nI (0))) (ty := .int) (C := RX1) (T := TX1) (N := 7) hx hb hts hin0 tyX1 tyX1_ok nmX1 hown hK hP hD hS 0 rfl rfl 6 (by decide) hl_thrown (fun _ h9 => h9) rfl (by decide +kernel) rfl rfl (Nat.le_of_ble_eq_true rfl) dX1_rank_51 (fun H locs hP hD hS => ?_)
        have hP : va_P D vwCl (mW cI cZ h fa ge inn wa (nI (ct)) (nI (n)) (nI (0)) (gn) (iw) (ww)) H := hP
        have hD : va_D A (mW cI cZ h fa ge inn wa (nI (ct)) (nI (n)) (nI (0)) (gn) (iw) (ww)) := hD
        refine lv_aload_n hx hb dX1_rank_54 rfl (lv_at hl 1 rfl) ?_
        refine va_get (D := D) (ci := 1) (v := .int (nI (0))) (C := RX1) (T := TX1) (N := 7) hx hb hts hin0 hown hK hP 0 rfl rfl 6 (by decide) hl_thrown (fun _ h9 => h9) rfl dX1_rank_55 ?_
        refine lv_if_le (tgt := 65) hx hb dX1_rank_58 (by decide) (fun c_58 => ?_) (fun c_58 => ?_)
        ·
          have c_58 := (nb_le0 (by omega)).mp c_58
          refine lv_aload_n hx hb dX1_rank_65 rfl (lv_at hl 1 rfl) ?_
          refine lv_iload_n hx hb dX1_rank_66 rfl (lv_at hl 0 rfl) ?_
          refine pu_V (As := [.int (nI (nu n P))]) (rest := []) (b := h) ⟨hx, hb, hml, hown, hts⟩ (kX1_below hP (k := nu n P) (by omega)) (cwV 1 hts gX1_rank_X1_below rfl rfl rfl eX1_below ⟨by decide, by decide⟩) (va_recv hK hP (ci := 1) (q0 := 0) rfl rfl) hK rfl hl.1 rfl (Nat.le_of_ble_eq_true rfl) dX1_rank_67 ⟨Nat.zero_le _, Nat.zero_le _⟩ ?_
          exact hret (nI 0, iw, ww) H locs _ _ _ (Or.inr ⟨c_6, hw, Or.inr ⟨c_43, rfl, rfl⟩⟩) hP hS dX1_rank_70
        ·
          have c_58 : ¬ _ := fun h9 => c_58 ((nb_le0 (by omega)).mpr h9)
          exact absurd c_58 (by decide)
    ·
      have c_21 : ¬ _ := fun h9 => c_21 ((nb_le0 (by omega)).mpr h9)
      exact absurd c_21 (by decide)
theorem eX1_least : yX1_least.cls = RX1 ∧ yX1_least.cls ≠ "java/lang/invoke/MethodHandle" ∧ yX1_least.cls ≠ "java/lang/invoke/VarHandle" ∧ (parseMethodDescriptor yX1_least.desc).map (fun d => d.parameters.length) = some 1 := by decide +kernel
set_option maxHeartbeats 4000000 in
set_option maxRecDepth 100000 in
theorem kX1_least (h1 : 1 ≤ n) (h7 : n ≤ 7) (hc : ct ≤ 12) (hg : ∀ j, j < ct → PM n (gC gn j)) {P : Nat} (hp : P < 2 ^ 32) : mI (S := (Int32 × (Nat → Int32) × (Nat → Int32))) l yX1_least wsX1_least ({ frames := 4, cells := 0, slots := 0, locals := 100 } : Room) [.ref h, .int (nI (P))] D (gT cI cG cZ) (mW cI cZ h fa ge inn wa (nI (ct)) (nI (n)) (th) (gn) (iv) (wv)) (fun u => mW cI cZ h fa ge inn wa (nI ct) (nI n) u.1 gn u.2.1 u.2.2) (fun r u => (isP n P = false ∧ u = (1, iv, wv)) ∨ (isP n P = true ∧ FP n ct gn u.2.1 ∧ u.1 = 0 ∧ r = nI (pe n (leF n u.2.1 P (fac n) 0 5040)))) := by
  refine mI_ofW (cc := cX1_least) (maxL := 6) (ret := (some .int)) (by decide) rfl (Or.inl rfl) (Nat.le_of_ble_eq_true rfl) ?_
  intro p e s m args below meth c QQ hx hb hml hown hts hK hP hD hS hret ls hl
  have hl : lv_has ls 6 [(0, .ref h), (1, .int (nI (P)))] := hl
  have hown : s.vm.findClass RX1 = some m.cls := hown
  have hin0 : ∀ w ∈ wsX10, w ∈ wsX1_least := fun w h => List.mem_cons_of_mem _ (List.mem_append_right _ h)
  have hl_in : (Cond.fieldLink RX1 16 "PermGroupModel" "in" "[Z").before args s = true := hts _ (by decide +kernel)
  have hl_thrown : (Cond.fieldLink RX1 69 "PermGroupModel" "thrown" "I").before args s = true := hts _ (by decide +kernel)
  generalize inW (mW cI cZ h fa ge inn wa (nI (ct)) (nI (n)) (th) (gn) (iv) (wv)) = A at hD hS hret
  suffices start : ∀ (H : Heap) (locs : List Loc), va_P D vwCl (mW cI cZ h fa ge inn wa (nI (ct)) (nI (n)) (th) (gn) (iv) (wv)) H → va_D A (mW cI cZ h fa ge inn wa (nI (ct)) (nI (n)) (th) (gn) (iv) (wv)) → va_S A s.heap H locs → W p l e ({ frames := 4, cells := 0, slots := 0, locals := 100 } : Room) s m args below meth c H locs 0 0 QQ (F0 m 0 ls []) from start s.heap [] hP hD hS
  clear hP hD hS
  intro H locs hP hD hS
  have hf := fac_le h7
  refine lv_aload_n hx hb dX1_least_0 rfl (lv_at hl 0 rfl) ?_
  refine lv_aload_n hx hb dX1_least_1 rfl (lv_at hl 0 rfl) ?_
  refine lv_iload_n hx hb dX1_least_2 rfl (lv_at hl 1 rfl) ?_
  refine pu_V (As := [.int (nI (P))]) (rest := [.ref h]) (b := h) ⟨hx, hb, hml, hown, hts⟩ (kX1_isPermutation hP h7 (P := P) hp) (cwV 1 hts gX1_least_X1_isPermutation rfl rfl rfl eX1_isPermutation ⟨by decide, by decide⟩) (va_recv hK hP (ci := 1) (q0 := 0) rfl rfl) hK rfl hl.1 rfl (Nat.le_of_ble_eq_true rfl) dX1_least_3 ⟨Nat.zero_le _, Nat.zero_le _⟩ ?_
  refine lv_if_eq (tgt := 13) hx hb dX1_least_6 (by decide) (fun c_6 => ?_) (fun c_6 => ?_)
  ·
    have c_6 := b01_f c_6
    refine lv_iconst (v := nI (1)) hx hb dX1_least_13 (by decide) ?_
    refine va_put (D := D) (ci := 1) (v := .int (nI (1))) (ty := .int) (C := RX1) (T := TX1) (N := 7) hx hb hts hin0 tyX1 tyX1_ok nmX1 hown hK hP hD hS 0 rfl rfl 6 (by decide) hl_thrown (fun _ h9 => h9) rfl (by decide +kernel) rfl rfl (Nat.le_of_ble_eq_true rfl) dX1_least_14 (fun H locs hP hD hS => ?_)
    have hP : va_P D vwCl (mW cI cZ h fa ge inn wa (nI (ct)) (nI (n)) (nI (1)) (gn) (iv) (wv)) H := hP
    have hD : va_D A (mW cI cZ h fa ge inn wa (nI (ct)) (nI (n)) (nI (1)) (gn) (iv) (wv)) := hD
    refine lv_aload_n hx hb dX1_least_17 rfl (lv_at hl 0 rfl) ?_
    refine va_get (D := D) (ci := 1) (v := .int (nI (1))) (C := RX1) (T := TX1) (N := 7) hx hb hts hin0 hown hK hP 0 rfl rfl 6 (by decide) hl_thrown (fun _ h9 => h9) rfl dX1_least_18 ?_
    refine lv_if_le (tgt := 26) hx hb dX1_least_21 (by decide) (fun c_21 => ?_) (fun c_21 => ?_)
    ·
      have c_21 := (nb_le0 (by omega)).mp c_21
      exact absurd c_21 (by decide)
    ·
      have c_21 : ¬ _ := fun h9 => c_21 ((nb_le0 (by omega)).mpr h9)
      refine lv_iconst (v := nI (0)) hx hb dX1_least_24 (by decide) ?_
      exact hret (nI 1, iv, wv) H locs _ _ _ (Or.inl ⟨c_6, rfl⟩) hP hS dX1_least_25
  ·
    have c_6 := b01_t c_6
    refine lv_iconst (v := nI (0)) hx hb dX1_least_9 (by decide) ?_
    refine lv_goto (tgt := 14) hx hb dX1_least_10 (by decide) ?_
    refine va_put (D := D) (ci := 1) (v := .int (nI (0))) (ty := .int) (C := RX1) (T := TX1) (N := 7) hx hb hts hin0 tyX1 tyX1_ok nmX1 hown hK hP hD hS 0 rfl rfl 6 (by decide) hl_thrown (fun _ h9 => h9) rfl (by decide +kernel) rfl rfl (Nat.le_of_ble_eq_true rfl) dX1_least_14 (fun H locs hP hD hS => ?_)
    have hP : va_P D vwCl (mW cI cZ h fa ge inn wa (nI (ct)) (nI (n)) (nI (0)) (gn) (iv) (wv)) H := hP
    have hD : va_D A (mW cI cZ h fa ge inn wa (nI (ct)) (nI (n)) (nI (0)) (gn) (iv) (wv)) := hD
    refine lv_aload_n hx hb dX1_least_17 rfl (lv_at hl 0 rfl) ?_
    refine va_get (D := D) (ci := 1) (v := .int (nI (0))) (C := RX1) (T := TX1) (N := 7) hx hb hts hin0 hown hK hP 0 rfl rfl 6 (by decide) hl_thrown (fun _ h9 => h9) rfl dX1_least_18 ?_
    refine lv_if_le (tgt := 26) hx hb dX1_least_21 (by decide) (fun c_21 => ?_) (fun c_21 => ?_)
    ·
      have c_21 := (nb_le0 (by omega)).mp c_21
      refine lv_aload_n hx hb dX1_least_26 rfl (lv_at hl 0 rfl) ?_
      refine mv_V (As := []) (rest := []) (b := h) ⟨hx, hb, hml, hown, hts⟩ (kX1_fill h1 h7 hc hg) (cwV 0 hts gX1_least_X1_fill rfl rfl rfl eX1_fill ⟨by decide, by decide⟩) (va_recv hK hP (ci := 1) (q0 := 0) rfl rfl) hK hP hD hS rfl hl.1 rfl (Nat.le_of_ble_eq_true rfl) dX1_least_27 ⟨Nat.zero_le _, Nat.zero_le _⟩ (fun u H locs hw hP hS hk => ?_)
      obtain ⟨iw, ww⟩ := u
      have hP : va_P D vwCl (mW cI cZ h fa ge inn wa (nI (ct)) (nI (n)) (nI (0)) (gn) (iw) (ww)) H := hP
      have hD : va_D A (mW cI cZ h fa ge inn wa (nI (ct)) (nI (n)) (nI (0)) (gn) (iw) (ww)) := mW_addr hD
      have hw : FP n ct gn iw := hw
      have hPM := isP_PM.mp c_6
      have hp31 : P < 2 ^ 31 := Nat.lt_trans (isP_lt h7 c_6) (by decide)
      refine lv_sipush (v := nI (5040)) hx hb dX1_least_30 (by decide) ?_
      refine lv_istore_n (lv' := [(2, .int (nI (5040))), (0, .ref h), (1, .int (nI (P)))]) hx hb dX1_least_33 rfl hl (by decide) rfl (fun ls hl => ?_)
      refine lv_iconst (v := nI (0)) hx hb dX1_least_34 (by decide) ?_
      refine lv_istore_n (lv' := [(3, .int (nI (0))), (2, .int (nI (5040))), (0, .ref h), (1, .int (nI (P)))]) hx hb dX1_least_35 rfl hl (by decide) rfl (fun ls hl => ?_)
      have loop_36 : ∀ (K k9 be : Nat), (k9 + K = fac n) → (leF n iw P (fac n) 0 5040 = leF n iw P K k9 be) → (be ≤ 5040) → ∀ (ls : Array Slot), lv_has ls 6 [(0, .ref h), (1, .int (nI (P))), (2, .int (nI (be))), (3, .int (nI (k9)))] → W p l e ({ frames := 4, cells := 0, slots := 0, locals := 100 } : Room) s m args below meth c H locs 0 0 QQ (F0 m 36 ls []) := by
        intro K
        induction K with
        | zero =>
          intro k9 be hK1 hr hbe ls hl
          refine lv_iload_n hx hb dX1_least_36 rfl (lv_at hl 3 rfl) ?_
          refine lv_aload_n hx hb dX1_least_37 rfl (lv_at hl 0 rfl) ?_
          refine pu_V (As := []) (rest := [.int (nI (k9))]) (b := h) ⟨hx, hb, hml, hown, hts⟩ (kX1_all hP h7) (cwV 0 hts gX1_least_X1_all rfl rfl rfl eX1_all ⟨by decide, by decide⟩) (va_recv hK hP (ci := 1) (q0 := 0) rfl rfl) hK rfl hl.1 rfl (Nat.le_of_ble_eq_true rfl) dX1_least_38 ⟨Nat.zero_le _, Nat.zero_le _⟩ ?_
          refine lv_icmp_ge (tgt := 91) hx hb dX1_least_41 (by decide) (fun c_41 => ?_) (fun c_41 => ?_)
          ·
            have c_41 := (nI_leI (by omega) (by omega)).mp c_41
            refine lv_aload_n hx hb dX1_least_91 rfl (lv_at hl 0 rfl) ?_
            refine lv_iload_n hx hb dX1_least_92 rfl (lv_at hl 2 rfl) ?_
            refine pu_V (As := [.int (nI (be))]) (rest := []) (b := h) ⟨hx, hb, hml, hown, hts⟩ (kX1_permutation hP h7 (q := be) (by omega)) (cwV 1 hts gX1_least_X1_permutation rfl rfl rfl eX1_permutation ⟨by decide, by decide⟩) (va_recv hK hP (ci := 1) (q0 := 0) rfl rfl) hK rfl hl.1 rfl (Nat.le_of_ble_eq_true rfl) dX1_least_93 ⟨Nat.zero_le _, Nat.zero_le _⟩ ?_
            exact hret (nI 0, iw, ww) H locs _ _ _ (Or.inr ⟨c_6, hw, rfl, congrArg (fun z => nI (pe n z)) hr.symm⟩) hP hS dX1_least_96
          ·
            have c_41 : ¬ _ := fun h9 => c_41 ((nI_leI (by omega) (by omega)).mpr h9)
            exfalso; omega
        | succ K ih_36 =>
          intro k9 be hK1 hr hbe ls hl
          refine lv_iload_n hx hb dX1_least_36 rfl (lv_at hl 3 rfl) ?_
          refine lv_aload_n hx hb dX1_least_37 rfl (lv_at hl 0 rfl) ?_
          refine pu_V (As := []) (rest := [.int (nI (k9))]) (b := h) ⟨hx, hb, hml, hown, hts⟩ (kX1_all hP h7) (cwV 0 hts gX1_least_X1_all rfl rfl rfl eX1_all ⟨by decide, by decide⟩) (va_recv hK hP (ci := 1) (q0 := 0) rfl rfl) hK rfl hl.1 rfl (Nat.le_of_ble_eq_true rfl) dX1_least_38 ⟨Nat.zero_le _, Nat.zero_le _⟩ ?_
          refine lv_icmp_ge (tgt := 91) hx hb dX1_least_41 (by decide) (fun c_41 => ?_) (fun c_41 => ?_)
          ·
            have c_41 := (nI_leI (by omega) (by omega)).mp c_41
            exfalso; omega
          ·
            have c_41 : ¬ _ := fun h9 => c_41 ((nI_leI (by omega) (by omega)).mpr h9)
            refine lv_aload_n hx hb dX1_least_44 rfl (lv_at hl 0 rfl) ?_
            refine va_get (D := D) (ci := 1) (v := .ref inn) (C := RX1) (T := TX1) (N := 7) hx hb hts hin0 hown hK hP 0 rfl rfl 4 (by decide) hl_in (fun _ h9 => h9) rfl dX1_least_45 ?_
            refine lv_iload_n hx hb dX1_least_48 rfl (lv_at hl 3 rfl) ?_
            refine va_zald hx hb hK hP 3 2 rfl rfl (vp_in_nI (by omega) (by omega)) dX1_least_49 ?_
            refine pu_tp (nb_clamp (f := iw) (by omega)) ?_
            refine lv_if_ne (tgt := 56) hx hb dX1_least_50 (by decide) (fun c_50 => ?_) (fun c_50 => ?_)
            ·
              have hnk := nu_lt h1 h7 (PM_tm (pe_PM h1 h7 (show k9 < fac n by omega)) hPM)
              refine lv_aload_n hx hb dX1_least_56 rfl (lv_at hl 0 rfl) ?_
              refine lv_iload_n hx hb dX1_least_57 rfl (lv_at hl 3 rfl) ?_
              refine pu_V (As := [.int (nI (k9))]) (rest := []) (b := h) ⟨hx, hb, hml, hown, hts⟩ (kX1_permutation hP h7 (q := k9) (by omega)) (cwV 1 hts gX1_least_X1_permutation rfl rfl rfl eX1_permutation ⟨by decide, by decide⟩) (va_recv hK hP (ci := 1) (q0 := 0) rfl rfl) hK rfl hl.1 rfl (Nat.le_of_ble_eq_true rfl) dX1_least_58 ⟨Nat.zero_le _, Nat.zero_le _⟩ ?_
              refine lv_istore (lv' := [(4, .int (nI (pe n (k9)))), (0, .ref h), (1, .int (nI (P))), (2, .int (nI (be))), (3, .int (nI (k9)))]) hx hb dX1_least_61 hl (by decide) rfl (fun ls hl => ?_)
              refine lv_aload_n hx hb dX1_least_63 rfl (lv_at hl 1 rfl) ?_
              refine lv_aload_n hx hb dX1_least_64 rfl (lv_at hl 1 rfl) ?_
              refine lv_iload hx hb dX1_least_65 (lv_at hl 0 rfl) ?_
              refine lv_iload_n hx hb dX1_least_67 rfl (lv_at hl 2 rfl) ?_
              refine pu_V (As := [.int (nI (pe n (k9))), .int (nI (P))]) (rest := [.ref h]) (b := h) ⟨hx, hb, hml, hown, hts⟩ (kX1_times hP h7 (P := pe n k9) (Q := P) (Nat.lt_trans (pe_lt h7 _) (by decide)) hp31) (cwV 2 hts gX1_least_X1_times rfl rfl rfl eX1_times ⟨by decide, by decide⟩) (va_recv hK hP (ci := 1) (q0 := 0) rfl rfl) hK rfl hl.1 rfl (Nat.le_of_ble_eq_true rfl) dX1_least_68 ⟨Nat.zero_le _, Nat.zero_le _⟩ ?_
              refine pu_V (As := [.int (nI (tm n (pe n k9) P))]) (rest := []) (b := h) ⟨hx, hb, hml, hown, hts⟩ (kX1_numberOf hP h7 (P := tm n (pe n k9) P) (Nat.lt_trans (tm_lt h7 _ _) (by decide))) (cwV 1 hts gX1_least_X1_numberOf rfl rfl rfl eX1_numberOf ⟨by decide, by decide⟩) (va_recv hK hP (ci := 1) (q0 := 0) rfl rfl) hK rfl hl.1 rfl (Nat.le_of_ble_eq_true rfl) dX1_least_71 ⟨Nat.zero_le _, Nat.zero_le _⟩ ?_
              refine lv_istore (lv' := [(5, .int (nI (nu n (tm n (pe n k9) P)))), (4, .int (nI (pe n (k9)))), (0, .ref h), (1, .int (nI (P))), (2, .int (nI (be))), (3, .int (nI (k9)))]) hx hb dX1_least_74 hl (by decide) rfl (fun ls hl => ?_)
              refine lv_iload hx hb dX1_least_76 (lv_at hl 0 rfl) ?_
              refine lv_iload_n hx hb dX1_least_78 rfl (lv_at hl 4 rfl) ?_
              refine lv_icmp_ge (tgt := 85) hx hb dX1_least_79 (by decide) (fun c_79 => ?_) (fun c_79 => ?_)
              ·
                have c_79 := (nI_leI (by omega) (by omega)).mp c_79
                refine lv_iinc (v := nI (k9 + 1)) (lv' := [(3, .int (nI (k9 + 1))), (5, .int (nI (nu n (tm n (pe n k9) P)))), (4, .int (nI (pe n (k9)))), (0, .ref h), (1, .int (nI (P))), (2, .int (nI (be)))]) hx hb dX1_least_85 hl (k := 5) rfl (nI_1 _) (by decide) rfl (fun ls hl => ?_)
                refine lv_goto (tgt := 36) hx hb dX1_least_88 (by decide) ?_
                exact ih_36 (k9 + 1) be (by omega) (hr.trans (by first | exact leF_n c_50 | exact leF_m c_50 (by omega))) hbe ls (lv_sub hl [3, 4, 5, 0] rfl)
              ·
                have c_79 : ¬ _ := fun h9 => c_79 ((nI_leI (by omega) (by omega)).mpr h9)
                refine lv_iload hx hb dX1_least_82 (lv_at hl 0 rfl) ?_
                refine lv_istore_n (lv' := [(2, .int (nI (nu n (tm n (pe n k9) P)))), (5, .int (nI (nu n (tm n (pe n k9) P)))), (4, .int (nI (pe n (k9)))), (0, .ref h), (1, .int (nI (P))), (3, .int (nI (k9)))]) hx hb dX1_least_84 rfl hl (by decide) rfl (fun ls hl => ?_)
                refine lv_iinc (v := nI (k9 + 1)) (lv' := [(3, .int (nI (k9 + 1))), (2, .int (nI (nu n (tm n (pe n k9) P)))), (5, .int (nI (nu n (tm n (pe n k9) P)))), (4, .int (nI (pe n (k9)))), (0, .ref h), (1, .int (nI (P)))]) hx hb dX1_least_85 hl (k := 5) rfl (nI_1 _) (by decide) rfl (fun ls hl => ?_)
                refine lv_goto (tgt := 36) hx hb dX1_least_88 (by decide) ?_
                exact ih_36 (k9 + 1) (nu n (tm n (pe n k9) P)) (by omega) (hr.trans (leF_y c_50 (by omega))) (by omega) ls (lv_sub hl [4, 5, 1, 0] rfl)
            ·
              refine lv_goto (tgt := 85) hx hb dX1_least_53 (by decide) ?_
              refine lv_iinc (v := nI (k9 + 1)) (lv' := [(3, .int (nI (k9 + 1))), (0, .ref h), (1, .int (nI (P))), (2, .int (nI (be)))]) hx hb dX1_least_85 hl (k := 3) rfl (nI_1 _) (by decide) rfl (fun ls hl => ?_)
              refine lv_goto (tgt := 36) hx hb dX1_least_88 (by decide) ?_
              exact ih_36 (k9 + 1) be (by omega) (hr.trans (by first | exact leF_n c_50 | exact leF_m c_50 (by omega))) hbe ls (lv_sub hl [1, 2, 3, 0] rfl)
      exact loop_36 (fac n) 0 5040 (by omega) rfl (by omega) ls (lv_sub hl [2, 3, 1, 0] rfl)
    ·
      have c_21 : ¬ _ := fun h9 => c_21 ((nb_le0 (by omega)).mpr h9)
      exact absurd c_21 (by decide)
theorem eX1_orbit : yX1_orbit.cls = RX1 ∧ yX1_orbit.cls ≠ "java/lang/invoke/MethodHandle" ∧ yX1_orbit.cls ≠ "java/lang/invoke/VarHandle" ∧ (parseMethodDescriptor yX1_orbit.desc).map (fun d => d.parameters.length) = some 1 := by decide +kernel
set_option maxHeartbeats 4000000 in
set_option maxRecDepth 100000 in
theorem kX1_orbit (h1 : 1 ≤ n) (h7 : n ≤ 7) (hc : ct ≤ 12) (hg : ∀ j, j < ct → PM n (gC gn j)) {x : Int32} : mI (S := ((Nat → Int32) × (Nat → Int32))) l yX1_orbit wsX1_orbit ({ frames := 4, cells := 0, slots := 0, locals := 100 } : Room) [.ref h, .int (x)] D (gT cI cG cZ) (mW cI cZ h fa ge inn wa (nI (ct)) (nI (n)) (th) (gn) (iv) (wv)) (fun u => mW cI cZ h fa ge inn wa (nI ct) (nI n) th gn u.1 u.2) (fun r u => ((x < 0 ∨ ¬ x < nI n) ∧ r = 0 ∧ u = (iv, wv)) ∨ ∃ X, X < n ∧ x = nI X ∧ FP n ct gn u.1 ∧ r = nI (orF n u.1 X (fac n) 0 0)) := by
  refine mI_ofW (cc := cX1_orbit) (maxL := 5) (ret := (some .int)) (by decide) rfl (Or.inl rfl) (Nat.le_of_ble_eq_true rfl) ?_
  intro p e s m args below meth c QQ hx hb hml hown hts hK hP hD hS hret ls hl
  have hl : lv_has ls 5 [(0, .ref h), (1, .int (x))] := hl
  have hown : s.vm.findClass RX1 = some m.cls := hown
  have hin0 : ∀ w ∈ wsX10, w ∈ wsX1_orbit := fun w h => List.mem_cons_of_mem _ (List.mem_append_right _ h)
  have hl_in : (Cond.fieldLink RX1 16 "PermGroupModel" "in" "[Z").before args s = true := hts _ (by decide +kernel)
  have hl_n : (Cond.fieldLink RX1 23 "PermGroupModel" "n" "I").before args s = true := hts _ (by decide +kernel)
  generalize inW (mW cI cZ h fa ge inn wa (nI (ct)) (nI (n)) (th) (gn) (iv) (wv)) = A at hD hS hret
  suffices start : ∀ (H : Heap) (locs : List Loc), va_P D vwCl (mW cI cZ h fa ge inn wa (nI (ct)) (nI (n)) (th) (gn) (iv) (wv)) H → va_D A (mW cI cZ h fa ge inn wa (nI (ct)) (nI (n)) (th) (gn) (iv) (wv)) → va_S A s.heap H locs → W p l e ({ frames := 4, cells := 0, slots := 0, locals := 100 } : Room) s m args below meth c H locs 0 0 QQ (F0 m 0 ls []) from start s.heap [] hP hD hS
  clear hP hD hS
  intro H locs hP hD hS
  have hf := fac_le h7
  refine lv_iload_n hx hb dX1_orbit_0 rfl (lv_at hl 1 rfl) ?_
  refine lv_if_lt (tgt := 12) hx hb dX1_orbit_1 (by decide) (fun c_1 => ?_) (fun c_1 => ?_)
  ·
    refine lv_iconst (v := nI (0)) hx hb dX1_orbit_12 (by decide) ?_
    exact hret (iv, wv) H locs _ _ _ (Or.inl ⟨by first | exact Or.inl c_1 | exact Or.inr c_9, rfl, rfl⟩) hP hS dX1_orbit_13
  ·
    refine lv_iload_n hx hb dX1_orbit_4 rfl (lv_at hl 1 rfl) ?_
    refine lv_aload_n hx hb dX1_orbit_5 rfl (lv_at hl 0 rfl) ?_
    refine va_get (D := D) (ci := 1) (v := .int (nI (n))) (C := RX1) (T := TX1) (N := 7) hx hb hts hin0 hown hK hP 0 rfl rfl 3 (by decide) hl_n (fun _ h9 => h9) rfl dX1_orbit_6 ?_
    refine lv_icmp_lt (tgt := 14) hx hb dX1_orbit_9 (by decide) (fun c_9 => ?_) (fun c_9 => ?_)
    ·
      obtain ⟨X, hX, rfl⟩ := nb_ix c_1 c_9 (by omega)
      refine lv_aload_n hx hb dX1_orbit_14 rfl (lv_at hl 0 rfl) ?_
      refine mv_V (As := []) (rest := []) (b := h) ⟨hx, hb, hml, hown, hts⟩ (kX1_fill h1 h7 hc hg) (cwV 0 hts gX1_orbit_X1_fill rfl rfl rfl eX1_fill ⟨by decide, by decide⟩) (va_recv hK hP (ci := 1) (q0 := 0) rfl rfl) hK hP hD hS rfl hl.1 rfl (Nat.le_of_ble_eq_true rfl) dX1_orbit_15 ⟨Nat.zero_le _, Nat.zero_le _⟩ (fun u H locs hw hP hS hk => ?_)
      obtain ⟨iw, ww⟩ := u
      have hP : va_P D vwCl (mW cI cZ h fa ge inn wa (nI (ct)) (nI (n)) (th) (gn) (iw) (ww)) H := hP
      have hD : va_D A (mW cI cZ h fa ge inn wa (nI (ct)) (nI (n)) (th) (gn) (iw) (ww)) := mW_addr hD
      have hw : FP n ct gn iw := hw
      refine lv_iconst (v := nI (0)) hx hb dX1_orbit_18 (by decide) ?_
      refine lv_istore_n (lv' := [(2, .int (nI (0))), (0, .ref h), (1, .int (nI (X)))]) hx hb dX1_orbit_19 rfl hl (by decide) rfl (fun ls hl => ?_)
      refine lv_iconst (v := nI (0)) hx hb dX1_orbit_20 (by decide) ?_
      refine lv_istore_n (lv' := [(3, .int (nI (0))), (2, .int (nI (0))), (0, .ref h), (1, .int (nI (X)))]) hx hb dX1_orbit_21 rfl hl (by decide) rfl (fun ls hl => ?_)
      have loop_22 : ∀ (K k9 s9 : Nat), (k9 + K = fac n) → (orF n iw X (fac n) 0 0 = orF n iw X K k9 s9) → ∀ (ls : Array Slot), lv_has ls 5 [(0, .ref h), (1, .int (nI (X))), (2, .int (nI (s9))), (3, .int (nI (k9)))] → W p l e ({ frames := 4, cells := 0, slots := 0, locals := 100 } : Room) s m args below meth c H locs 0 0 QQ (F0 m 22 ls []) := by
        intro K
        induction K with
        | zero =>
          intro k9 s9 hK1 hr ls hl
          refine lv_iload_n hx hb dX1_orbit_22 rfl (lv_at hl 3 rfl) ?_
          refine lv_aload_n hx hb dX1_orbit_23 rfl (lv_at hl 0 rfl) ?_
          refine pu_V (As := []) (rest := [.int (nI (k9))]) (b := h) ⟨hx, hb, hml, hown, hts⟩ (kX1_all hP h7) (cwV 0 hts gX1_orbit_X1_all rfl rfl rfl eX1_all ⟨by decide, by decide⟩) (va_recv hK hP (ci := 1) (q0 := 0) rfl rfl) hK rfl hl.1 rfl (Nat.le_of_ble_eq_true rfl) dX1_orbit_24 ⟨Nat.zero_le _, Nat.zero_le _⟩ ?_
          refine lv_icmp_ge (tgt := 66) hx hb dX1_orbit_27 (by decide) (fun c_27 => ?_) (fun c_27 => ?_)
          ·
            have c_27 := (nI_leI (by omega) (by omega)).mp c_27
            refine lv_iload_n hx hb dX1_orbit_66 rfl (lv_at hl 2 rfl) ?_
            exact hret (iw, ww) H locs _ _ _ (Or.inr ⟨X, hX, rfl, hw, congrArg nI hr.symm⟩) hP hS dX1_orbit_67
          ·
            have c_27 : ¬ _ := fun h9 => c_27 ((nI_leI (by omega) (by omega)).mpr h9)
            exfalso; omega
        | succ K ih_22 =>
          intro k9 s9 hK1 hr ls hl
          refine lv_iload_n hx hb dX1_orbit_22 rfl (lv_at hl 3 rfl) ?_
          refine lv_aload_n hx hb dX1_orbit_23 rfl (lv_at hl 0 rfl) ?_
          refine pu_V (As := []) (rest := [.int (nI (k9))]) (b := h) ⟨hx, hb, hml, hown, hts⟩ (kX1_all hP h7) (cwV 0 hts gX1_orbit_X1_all rfl rfl rfl eX1_all ⟨by decide, by decide⟩) (va_recv hK hP (ci := 1) (q0 := 0) rfl rfl) hK rfl hl.1 rfl (Nat.le_of_ble_eq_true rfl) dX1_orbit_24 ⟨Nat.zero_le _, Nat.zero_le _⟩ ?_
          refine lv_icmp_ge (tgt := 66) hx hb dX1_orbit_27 (by decide) (fun c_27 => ?_) (fun c_27 => ?_)
          ·
            have c_27 := (nI_leI (by omega) (by omega)).mp c_27
            exfalso; omega
          ·
            have c_27 : ¬ _ := fun h9 => c_27 ((nI_leI (by omega) (by omega)).mpr h9)
            refine lv_aload_n hx hb dX1_orbit_30 rfl (lv_at hl 0 rfl) ?_
            refine va_get (D := D) (ci := 1) (v := .ref inn) (C := RX1) (T := TX1) (N := 7) hx hb hts hin0 hown hK hP 0 rfl rfl 4 (by decide) hl_in (fun _ h9 => h9) rfl dX1_orbit_31 ?_
            refine lv_iload_n hx hb dX1_orbit_34 rfl (lv_at hl 3 rfl) ?_
            refine va_zald hx hb hK hP 3 2 rfl rfl (vp_in_nI (by omega) (by omega)) dX1_orbit_35 ?_
            refine pu_tp (nb_clamp (f := iw) (by omega)) ?_
            refine lv_if_ne (tgt := 42) hx hb dX1_orbit_36 (by decide) (fun c_36 => ?_) (fun c_36 => ?_)
            ·
              refine lv_aload_n hx hb dX1_orbit_42 rfl (lv_at hl 0 rfl) ?_
              refine lv_iload_n hx hb dX1_orbit_43 rfl (lv_at hl 3 rfl) ?_
              refine pu_V (As := [.int (nI (k9))]) (rest := []) (b := h) ⟨hx, hb, hml, hown, hts⟩ (kX1_permutation hP h7 (q := k9) (by omega)) (cwV 1 hts gX1_orbit_X1_permutation rfl rfl rfl eX1_permutation ⟨by decide, by decide⟩) (va_recv hK hP (ci := 1) (q0 := 0) rfl rfl) hK rfl hl.1 rfl (Nat.le_of_ble_eq_true rfl) dX1_orbit_44 ⟨Nat.zero_le _, Nat.zero_le _⟩ ?_
              refine lv_istore (lv' := [(4, .int (nI (pe n (k9)))), (0, .ref h), (1, .int (nI (X))), (2, .int (nI (s9))), (3, .int (nI (k9)))]) hx hb dX1_orbit_47 hl (by decide) rfl (fun ls hl => ?_)
              refine lv_iload_n hx hb dX1_orbit_49 rfl (lv_at hl 3 rfl) ?_
              refine lv_iconst (v := nI (1)) hx hb dX1_orbit_50 (by decide) ?_
              refine lv_iload hx hb dX1_orbit_51 (lv_at hl 0 rfl) ?_
              refine lv_iload_n hx hb dX1_orbit_53 rfl (lv_at hl 2 rfl) ?_
              refine pu_S (As := [.int (nI (pe n (k9))), .int (nI (X))]) (rest := [.int (nI (1)), .int (nI (s9))]) ⟨hx, hb, hml, hown, hts⟩ (kX1_image (P := pe n k9) (i := X) (Nat.lt_trans (pe_lt h7 _) (by decide)) (by omega)) (va_cwS 2 hts gX1_orbit_X1_image rfl rfl rfl eX1_image ⟨by decide, by decide⟩) hK rfl hl.1 rfl (Nat.le_of_ble_eq_true rfl) dX1_orbit_54 ⟨Nat.zero_le _, Nat.zero_le _⟩ ?_
              refine lv_ishl hx hb dX1_orbit_57 ?_
              refine pu_tp (nb_shl _ (by have := im_le (pe n k9) X; omega)) ?_
              refine lv_ior hx hb dX1_orbit_58 ?_
              refine pu_tp (nb_or _ _) ?_
              refine lv_istore_n (lv' := [(2, .int (nI (s9 ||| (1 * 2 ^ (im (pe n k9) X))))), (4, .int (nI (pe n (k9)))), (0, .ref h), (1, .int (nI (X))), (3, .int (nI (k9)))]) hx hb dX1_orbit_59 rfl hl (by decide) rfl (fun ls hl => ?_)
              refine lv_iinc (v := nI (k9 + 1)) (lv' := [(3, .int (nI (k9 + 1))), (2, .int (nI (s9 ||| (1 * 2 ^ (im (pe n k9) X))))), (4, .int (nI (pe n (k9)))), (0, .ref h), (1, .int (nI (X)))]) hx hb dX1_orbit_60 hl (k := 4) rfl (nI_1 _) (by decide) rfl (fun ls hl => ?_)
              refine lv_goto (tgt := 22) hx hb dX1_orbit_63 (by decide) ?_
              exact ih_22 (k9 + 1) (s9 ||| 1 * 2 ^ (im (pe n k9) X)) (by omega) (hr.trans (orF_y c_36)) ls (lv_sub hl [3, 4, 1, 0] rfl)
            ·
              refine lv_goto (tgt := 60) hx hb dX1_orbit_39 (by decide) ?_
              refine lv_iinc (v := nI (k9 + 1)) (lv' := [(3, .int (nI (k9 + 1))), (0, .ref h), (1, .int (nI (X))), (2, .int (nI (s9)))]) hx hb dX1_orbit_60 hl (k := 3) rfl (nI_1 _) (by decide) rfl (fun ls hl => ?_)
              refine lv_goto (tgt := 22) hx hb dX1_orbit_63 (by decide) ?_
              exact ih_22 (k9 + 1) s9 (by omega) (hr.trans (orF_n c_36)) ls (lv_sub hl [1, 2, 3, 0] rfl)
      exact loop_22 (fac n) 0 0 (by omega) rfl ls (lv_sub hl [2, 3, 1, 0] rfl)
    ·
      refine lv_iconst (v := nI (0)) hx hb dX1_orbit_12 (by decide) ?_
      exact hret (iv, wv) H locs _ _ _ (Or.inl ⟨by first | exact Or.inl c_1 | exact Or.inr c_9, rfl, rfl⟩) hP hS dX1_orbit_13
theorem eX1_fixing : yX1_fixing.cls = RX1 ∧ yX1_fixing.cls ≠ "java/lang/invoke/MethodHandle" ∧ yX1_fixing.cls ≠ "java/lang/invoke/VarHandle" ∧ (parseMethodDescriptor yX1_fixing.desc).map (fun d => d.parameters.length) = some 1 := by decide +kernel
set_option maxHeartbeats 4000000 in
set_option maxRecDepth 100000 in
theorem kX1_fixing (h1 : 1 ≤ n) (h7 : n ≤ 7) (hc : ct ≤ 12) (hg : ∀ j, j < ct → PM n (gC gn j)) {x : Int32} : mI (S := ((Nat → Int32) × (Nat → Int32))) l yX1_fixing wsX1_fixing ({ frames := 4, cells := 0, slots := 0, locals := 100 } : Room) [.ref h, .int (x)] D (gT cI cG cZ) (mW cI cZ h fa ge inn wa (nI (ct)) (nI (n)) (th) (gn) (iv) (wv)) (fun u => mW cI cZ h fa ge inn wa (nI ct) (nI n) th gn u.1 u.2) (fun r u => ((x < 0 ∨ ¬ x ≤ nI n) ∧ r = 0 ∧ u = (iv, wv)) ∨ ∃ X, X ≤ n ∧ x = nI X ∧ FP n ct gn u.1 ∧ r = nI (fiF n u.1 X (fac n) 0 0)) := by
  refine mI_ofW (cc := cX1_fixing) (maxL := 7) (ret := (some .int)) (by decide) rfl (Or.inl rfl) (Nat.le_of_ble_eq_true rfl) ?_
  intro p e s m args below meth c QQ hx hb hml hown hts hK hP hD hS hret ls hl
  have hl : lv_has ls 7 [(0, .ref h), (1, .int (x))] := hl
  have hown : s.vm.findClass RX1 = some m.cls := hown
  have hin0 : ∀ w ∈ wsX10, w ∈ wsX1_fixing := fun w h => List.mem_cons_of_mem _ (List.mem_append_right _ h)
  have hl_in : (Cond.fieldLink RX1 16 "PermGroupModel" "in" "[Z").before args s = true := hts _ (by decide +kernel)
  have hl_n : (Cond.fieldLink RX1 23 "PermGroupModel" "n" "I").before args s = true := hts _ (by decide +kernel)
  generalize inW (mW cI cZ h fa ge inn wa (nI (ct)) (nI (n)) (th) (gn) (iv) (wv)) = A at hD hS hret
  suffices start : ∀ (H : Heap) (locs : List Loc), va_P D vwCl (mW cI cZ h fa ge inn wa (nI (ct)) (nI (n)) (th) (gn) (iv) (wv)) H → va_D A (mW cI cZ h fa ge inn wa (nI (ct)) (nI (n)) (th) (gn) (iv) (wv)) → va_S A s.heap H locs → W p l e ({ frames := 4, cells := 0, slots := 0, locals := 100 } : Room) s m args below meth c H locs 0 0 QQ (F0 m 0 ls []) from start s.heap [] hP hD hS
  clear hP hD hS
  intro H locs hP hD hS
  have hf := fac_le h7
  refine lv_iload_n hx hb dX1_fixing_0 rfl (lv_at hl 1 rfl) ?_
  refine lv_if_lt (tgt := 12) hx hb dX1_fixing_1 (by decide) (fun c_1 => ?_) (fun c_1 => ?_)
  ·
    refine lv_iconst (v := nI (0)) hx hb dX1_fixing_12 (by decide) ?_
    exact hret (iv, wv) H locs _ _ _ (Or.inl ⟨by first | exact Or.inl c_1 | exact Or.inr c_9, rfl, rfl⟩) hP hS dX1_fixing_13
  ·
    refine lv_iload_n hx hb dX1_fixing_4 rfl (lv_at hl 1 rfl) ?_
    refine lv_aload_n hx hb dX1_fixing_5 rfl (lv_at hl 0 rfl) ?_
    refine va_get (D := D) (ci := 1) (v := .int (nI (n))) (C := RX1) (T := TX1) (N := 7) hx hb hts hin0 hown hK hP 0 rfl rfl 3 (by decide) hl_n (fun _ h9 => h9) rfl dX1_fixing_6 ?_
    refine lv_icmp_le (tgt := 14) hx hb dX1_fixing_9 (by decide) (fun c_9 => ?_) (fun c_9 => ?_)
    ·
      obtain ⟨X, hX, rfl⟩ := nb_ixle c_1 c_9 (by omega)
      refine lv_aload_n hx hb dX1_fixing_14 rfl (lv_at hl 0 rfl) ?_
      refine mv_V (As := []) (rest := []) (b := h) ⟨hx, hb, hml, hown, hts⟩ (kX1_fill h1 h7 hc hg) (cwV 0 hts gX1_fixing_X1_fill rfl rfl rfl eX1_fill ⟨by decide, by decide⟩) (va_recv hK hP (ci := 1) (q0 := 0) rfl rfl) hK hP hD hS rfl hl.1 rfl (Nat.le_of_ble_eq_true rfl) dX1_fixing_15 ⟨Nat.zero_le _, Nat.zero_le _⟩ (fun u H locs hw hP hS hk => ?_)
      obtain ⟨iw, ww⟩ := u
      have hP : va_P D vwCl (mW cI cZ h fa ge inn wa (nI (ct)) (nI (n)) (th) (gn) (iw) (ww)) H := hP
      have hD : va_D A (mW cI cZ h fa ge inn wa (nI (ct)) (nI (n)) (th) (gn) (iw) (ww)) := mW_addr hD
      have hw : FP n ct gn iw := hw
      refine lv_iconst (v := nI (0)) hx hb dX1_fixing_18 (by decide) ?_
      refine lv_istore_n (lv' := [(2, .int (nI (0))), (0, .ref h), (1, .int (nI (X)))]) hx hb dX1_fixing_19 rfl hl (by decide) rfl (fun ls hl => ?_)
      refine lv_iconst (v := nI (0)) hx hb dX1_fixing_20 (by decide) ?_
      refine lv_istore_n (lv' := [(3, .int (nI (0))), (2, .int (nI (0))), (0, .ref h), (1, .int (nI (X)))]) hx hb dX1_fixing_21 rfl hl (by decide) rfl (fun ls hl => ?_)
      have loop_22 : ∀ (K k9 s9 : Nat), (k9 + K = fac n) → (fiF n iw X (fac n) 0 0 = fiF n iw X K k9 s9) → ∀ (ls : Array Slot), lv_has ls 7 [(0, .ref h), (1, .int (nI (X))), (2, .int (nI (s9))), (3, .int (nI (k9)))] → W p l e ({ frames := 4, cells := 0, slots := 0, locals := 100 } : Room) s m args below meth c H locs 0 0 QQ (F0 m 22 ls []) := by
        intro K
        induction K with
        | zero =>
          intro k9 s9 hK1 hr ls hl
          refine lv_iload_n hx hb dX1_fixing_22 rfl (lv_at hl 3 rfl) ?_
          refine lv_aload_n hx hb dX1_fixing_23 rfl (lv_at hl 0 rfl) ?_
          refine pu_V (As := []) (rest := [.int (nI (k9))]) (b := h) ⟨hx, hb, hml, hown, hts⟩ (kX1_all hP h7) (cwV 0 hts gX1_fixing_X1_all rfl rfl rfl eX1_all ⟨by decide, by decide⟩) (va_recv hK hP (ci := 1) (q0 := 0) rfl rfl) hK rfl hl.1 rfl (Nat.le_of_ble_eq_true rfl) dX1_fixing_24 ⟨Nat.zero_le _, Nat.zero_le _⟩ ?_
          refine lv_icmp_ge (tgt := 96) hx hb dX1_fixing_27 (by decide) (fun c_27 => ?_) (fun c_27 => ?_)
          ·
            have c_27 := (nI_leI (by omega) (by omega)).mp c_27
            refine lv_iload_n hx hb dX1_fixing_96 rfl (lv_at hl 2 rfl) ?_
            exact hret (iw, ww) H locs _ _ _ (Or.inr ⟨X, hX, rfl, hw, congrArg nI hr.symm⟩) hP hS dX1_fixing_97
          ·
            have c_27 : ¬ _ := fun h9 => c_27 ((nI_leI (by omega) (by omega)).mpr h9)
            exfalso; omega
        | succ K ih_22 =>
          intro k9 s9 hK1 hr ls hl
          refine lv_iload_n hx hb dX1_fixing_22 rfl (lv_at hl 3 rfl) ?_
          refine lv_aload_n hx hb dX1_fixing_23 rfl (lv_at hl 0 rfl) ?_
          refine pu_V (As := []) (rest := [.int (nI (k9))]) (b := h) ⟨hx, hb, hml, hown, hts⟩ (kX1_all hP h7) (cwV 0 hts gX1_fixing_X1_all rfl rfl rfl eX1_all ⟨by decide, by decide⟩) (va_recv hK hP (ci := 1) (q0 := 0) rfl rfl) hK rfl hl.1 rfl (Nat.le_of_ble_eq_true rfl) dX1_fixing_24 ⟨Nat.zero_le _, Nat.zero_le _⟩ ?_
          refine lv_icmp_ge (tgt := 96) hx hb dX1_fixing_27 (by decide) (fun c_27 => ?_) (fun c_27 => ?_)
          ·
            have c_27 := (nI_leI (by omega) (by omega)).mp c_27
            exfalso; omega
          ·
            have c_27 : ¬ _ := fun h9 => c_27 ((nI_leI (by omega) (by omega)).mpr h9)
            refine lv_aload_n hx hb dX1_fixing_30 rfl (lv_at hl 0 rfl) ?_
            refine va_get (D := D) (ci := 1) (v := .ref inn) (C := RX1) (T := TX1) (N := 7) hx hb hts hin0 hown hK hP 0 rfl rfl 4 (by decide) hl_in (fun _ h9 => h9) rfl dX1_fixing_31 ?_
            refine lv_iload_n hx hb dX1_fixing_34 rfl (lv_at hl 3 rfl) ?_
            refine va_zald hx hb hK hP 3 2 rfl rfl (vp_in_nI (by omega) (by omega)) dX1_fixing_35 ?_
            refine pu_tp (nb_clamp (f := iw) (by omega)) ?_
            refine lv_if_ne (tgt := 42) hx hb dX1_fixing_36 (by decide) (fun c_36 => ?_) (fun c_36 => ?_)
            ·
              refine lv_aload_n hx hb dX1_fixing_42 rfl (lv_at hl 0 rfl) ?_
              refine lv_iload_n hx hb dX1_fixing_43 rfl (lv_at hl 3 rfl) ?_
              refine pu_V (As := [.int (nI (k9))]) (rest := []) (b := h) ⟨hx, hb, hml, hown, hts⟩ (kX1_permutation hP h7 (q := k9) (by omega)) (cwV 1 hts gX1_fixing_X1_permutation rfl rfl rfl eX1_permutation ⟨by decide, by decide⟩) (va_recv hK hP (ci := 1) (q0 := 0) rfl rfl) hK rfl hl.1 rfl (Nat.le_of_ble_eq_true rfl) dX1_fixing_44 ⟨Nat.zero_le _, Nat.zero_le _⟩ ?_
              refine lv_istore (lv' := [(4, .int (nI (pe n (k9)))), (0, .ref h), (1, .int (nI (X))), (2, .int (nI (s9))), (3, .int (nI (k9)))]) hx hb dX1_fixing_47 hl (by decide) rfl (fun ls hl => ?_)
              refine lv_iconst (v := nI (1)) hx hb dX1_fixing_49 (by decide) ?_
              refine lv_istore (lv' := [(5, .int (nI (1))), (4, .int (nI (pe n (k9)))), (0, .ref h), (1, .int (nI (X))), (2, .int (nI (s9))), (3, .int (nI (k9)))]) hx hb dX1_fixing_50 hl (by decide) rfl (fun ls hl => ?_)
              refine lv_iconst (v := nI (0)) hx hb dX1_fixing_52 (by decide) ?_
              refine lv_istore (lv' := [(6, .int (nI (0))), (5, .int (nI (1))), (4, .int (nI (pe n (k9)))), (0, .ref h), (1, .int (nI (X))), (2, .int (nI (s9))), (3, .int (nI (k9)))]) hx hb dX1_fixing_53 hl (by decide) rfl (fun ls hl => ?_)
              have loop_55 : ∀ (J i : Nat) (b9 : Bool), (i + J = X) → (fiI (pe n k9) X 0 true = fiI (pe n k9) J i b9) → ∀ (ls : Array Slot), lv_has ls 7 [(0, .ref h), (1, .int (nI (X))), (2, .int (nI (s9))), (3, .int (nI (k9))), (4, .int (nI (pe n (k9)))), (5, .int (b01 (b9))), (6, .int (nI (i)))] → W p l e ({ frames := 4, cells := 0, slots := 0, locals := 100 } : Room) s m args below meth c H locs 0 0 QQ (F0 m 55 ls []) := by
                intro J
                induction J with
                | zero =>
                  intro i b9 hJ1 hr2 ls hl
                  refine lv_iload hx hb dX1_fixing_55 (lv_at hl 6 rfl) ?_
                  refine lv_iload_n hx hb dX1_fixing_57 rfl (lv_at hl 1 rfl) ?_
                  refine lv_icmp_ge (tgt := 82) hx hb dX1_fixing_58 (by decide) (fun c_58 => ?_) (fun c_58 => ?_)
                  ·
                    have c_58 := (nI_leI (by omega) (by omega)).mp c_58
                    refine lv_iload hx hb dX1_fixing_82 (lv_at hl 5 rfl) ?_
                    refine lv_if_eq (tgt := 90) hx hb dX1_fixing_84 (by decide) (fun c_84 => ?_) (fun c_84 => ?_)
                    ·
                      have c_84 := b01_f c_84
                      refine lv_iinc (v := nI (k9 + 1)) (lv' := [(3, .int (nI (k9 + 1))), (0, .ref h), (1, .int (nI (X))), (2, .int (nI (s9))), (4, .int (nI (pe n (k9)))), (5, .int (b01 (b9))), (6, .int (nI (i)))]) hx hb dX1_fixing_90 hl (k := 3) rfl (nI_1 _) (by decide) rfl (fun ls hl => ?_)
                      refine lv_goto (tgt := 22) hx hb dX1_fixing_93 (by decide) ?_
                      exact ih_22 (k9 + 1) s9 (by omega) (hr.trans (by first | exact fiF_n c_36 | exact fiF_m c_36 (hr2.trans c_84))) ls (lv_sub hl [1, 2, 3, 0] rfl)
                    ·
                      have c_84 := b01_t c_84
                      refine lv_iinc (v := nI (s9 + 1)) (lv' := [(2, .int (nI (s9 + 1))), (0, .ref h), (1, .int (nI (X))), (3, .int (nI (k9))), (4, .int (nI (pe n (k9)))), (5, .int (b01 (b9))), (6, .int (nI (i)))]) hx hb dX1_fixing_87 hl (k := 2) rfl (nI_1 _) (by decide) rfl (fun ls hl => ?_)
                      refine lv_iinc (v := nI (k9 + 1)) (lv' := [(3, .int (nI (k9 + 1))), (2, .int (nI (s9 + 1))), (0, .ref h), (1, .int (nI (X))), (4, .int (nI (pe n (k9)))), (5, .int (b01 (b9))), (6, .int (nI (i)))]) hx hb dX1_fixing_90 hl (k := 3) rfl (nI_1 _) (by decide) rfl (fun ls hl => ?_)
                      refine lv_goto (tgt := 22) hx hb dX1_fixing_93 (by decide) ?_
                      exact ih_22 (k9 + 1) (s9 + 1) (by omega) (hr.trans (fiF_y c_36 (hr2.trans c_84))) ls (lv_sub hl [2, 3, 1, 0] rfl)
                  ·
                    have c_58 : ¬ _ := fun h9 => c_58 ((nI_leI (by omega) (by omega)).mpr h9)
                    exfalso; omega
                | succ J ih_55 =>
                  intro i b9 hJ1 hr2 ls hl
                  refine lv_iload hx hb dX1_fixing_55 (lv_at hl 6 rfl) ?_
                  refine lv_iload_n hx hb dX1_fixing_57 rfl (lv_at hl 1 rfl) ?_
                  refine lv_icmp_ge (tgt := 82) hx hb dX1_fixing_58 (by decide) (fun c_58 => ?_) (fun c_58 => ?_)
                  ·
                    have c_58 := (nI_leI (by omega) (by omega)).mp c_58
                    exfalso; omega
                  ·
                    have c_58 : ¬ _ := fun h9 => c_58 ((nI_leI (by omega) (by omega)).mpr h9)
                    refine lv_iload hx hb dX1_fixing_61 (lv_at hl 4 rfl) ?_
                    refine lv_iload hx hb dX1_fixing_63 (lv_at hl 6 rfl) ?_
                    refine pu_S (As := [.int (nI (pe n (k9))), .int (nI (i))]) (rest := []) ⟨hx, hb, hml, hown, hts⟩ (kX1_image (P := pe n k9) (i := i) (Nat.lt_trans (pe_lt h7 _) (by decide)) (by omega)) (va_cwS 2 hts gX1_fixing_X1_image rfl rfl rfl eX1_image ⟨by decide, by decide⟩) hK rfl hl.1 rfl (Nat.le_of_ble_eq_true rfl) dX1_fixing_65 ⟨Nat.zero_le _, Nat.zero_le _⟩ ?_
                    refine lv_iload hx hb dX1_fixing_68 (lv_at hl 6 rfl) ?_
                    refine lv_icmp_eq (tgt := 76) hx hb dX1_fixing_70 (by decide) (fun c_70 => ?_) (fun c_70 => ?_)
                    ·
                      have c_70 := (nb_eqI (Nat.lt_trans (im_lt _ _) (by decide)) (by omega)).mp c_70
                      refine lv_iinc (v := nI (i + 1)) (lv' := [(6, .int (nI (i + 1))), (0, .ref h), (1, .int (nI (X))), (2, .int (nI (s9))), (3, .int (nI (k9))), (4, .int (nI (pe n (k9)))), (5, .int (b01 (b9)))]) hx hb dX1_fixing_76 hl (k := 6) rfl (nI_1 _) (by decide) rfl (fun ls hl => ?_)
                      refine lv_goto (tgt := 55) hx hb dX1_fixing_79 (by decide) ?_
                      exact ih_55 (i + 1) b9 (by omega) (hr2.trans (fiI_t c_70)) ls (lv_sub hl [1, 2, 3, 4, 5, 6, 0] rfl)
                    ·
                      have c_70 : ¬ _ := fun h9 => c_70 ((nb_eqI (Nat.lt_trans (im_lt _ _) (by decide)) (by omega)).mpr h9)
                      refine lv_iconst (v := nI (0)) hx hb dX1_fixing_73 (by decide) ?_
                      refine lv_istore (lv' := [(5, .int (nI (0))), (0, .ref h), (1, .int (nI (X))), (2, .int (nI (s9))), (3, .int (nI (k9))), (4, .int (nI (pe n (k9)))), (6, .int (nI (i)))]) hx hb dX1_fixing_74 hl (by decide) rfl (fun ls hl => ?_)
                      refine lv_iinc (v := nI (i + 1)) (lv' := [(6, .int (nI (i + 1))), (5, .int (nI (0))), (0, .ref h), (1, .int (nI (X))), (2, .int (nI (s9))), (3, .int (nI (k9))), (4, .int (nI (pe n (k9))))]) hx hb dX1_fixing_76 hl (k := 6) rfl (nI_1 _) (by decide) rfl (fun ls hl => ?_)
                      refine lv_goto (tgt := 55) hx hb dX1_fixing_79 (by decide) ?_
                      exact ih_55 (i + 1) false (by omega) (hr2.trans (fiI_f c_70)) ls (lv_sub hl [2, 3, 4, 5, 6, 1, 0] rfl)
              exact loop_55 X 0 true (by omega) rfl ls (lv_sub hl [3, 4, 5, 6, 2, 1, 0] rfl)
            ·
              refine lv_goto (tgt := 90) hx hb dX1_fixing_39 (by decide) ?_
              refine lv_iinc (v := nI (k9 + 1)) (lv' := [(3, .int (nI (k9 + 1))), (0, .ref h), (1, .int (nI (X))), (2, .int (nI (s9)))]) hx hb dX1_fixing_90 hl (k := 3) rfl (nI_1 _) (by decide) rfl (fun ls hl => ?_)
              refine lv_goto (tgt := 22) hx hb dX1_fixing_93 (by decide) ?_
              exact ih_22 (k9 + 1) s9 (by omega) (hr.trans (by first | exact fiF_n c_36 | exact fiF_m c_36 (hr2.trans c_84))) ls (lv_sub hl [1, 2, 3, 0] rfl)
      exact loop_22 (fac n) 0 0 (by omega) rfl ls (lv_sub hl [2, 3, 1, 0] rfl)
    ·
      refine lv_iconst (v := nI (0)) hx hb dX1_fixing_12 (by decide) ?_
      exact hret (iv, wv) H locs _ _ _ (Or.inl ⟨by first | exact Or.inl c_1 | exact Or.inr c_9, rfl, rfl⟩) hP hS dX1_fixing_13
theorem eX1_even : yX1_even.cls = RX1 ∧ yX1_even.cls ≠ "java/lang/invoke/MethodHandle" ∧ yX1_even.cls ≠ "java/lang/invoke/VarHandle" ∧ (parseMethodDescriptor yX1_even.desc).map (fun d => d.parameters.length) = some 0 := by decide +kernel
set_option maxHeartbeats 4000000 in
set_option maxRecDepth 100000 in
theorem kX1_even (h1 : 1 ≤ n) (h7 : n ≤ 7) (hc : ct ≤ 12) (hg : ∀ j, j < ct → PM n (gC gn j)) : mI (S := ((Nat → Int32) × (Nat → Int32))) l yX1_even wsX1_even ({ frames := 4, cells := 0, slots := 0, locals := 100 } : Room) [.ref h] D (gT cI cG cZ) (mW cI cZ h fa ge inn wa (nI (ct)) (nI (n)) (th) (gn) (iv) (wv)) (fun u => mW cI cZ h fa ge inn wa (nI ct) (nI n) th gn u.1 u.2) (fun r u => FP n ct gn u.1 ∧ r = nI (erF n u.1 (fac n) 0 0)) := by
  refine mI_ofW (cc := cX1_even) (maxL := 7) (ret := (some .int)) (by decide) rfl (Or.inl rfl) (Nat.le_of_ble_eq_true rfl) ?_
  intro p e s m args below meth c QQ hx hb hml hown hts hK hP hD hS hret ls hl
  have hl : lv_has ls 7 [(0, .ref h)] := hl
  have hown : s.vm.findClass RX1 = some m.cls := hown
  have hin0 : ∀ w ∈ wsX10, w ∈ wsX1_even := fun w h => List.mem_cons_of_mem _ (List.mem_append_right _ h)
  have hl_in : (Cond.fieldLink RX1 16 "PermGroupModel" "in" "[Z").before args s = true := hts _ (by decide +kernel)
  have hl_n : (Cond.fieldLink RX1 23 "PermGroupModel" "n" "I").before args s = true := hts _ (by decide +kernel)
  generalize inW (mW cI cZ h fa ge inn wa (nI (ct)) (nI (n)) (th) (gn) (iv) (wv)) = A at hD hS hret
  suffices start : ∀ (H : Heap) (locs : List Loc), va_P D vwCl (mW cI cZ h fa ge inn wa (nI (ct)) (nI (n)) (th) (gn) (iv) (wv)) H → va_D A (mW cI cZ h fa ge inn wa (nI (ct)) (nI (n)) (th) (gn) (iv) (wv)) → va_S A s.heap H locs → W p l e ({ frames := 4, cells := 0, slots := 0, locals := 100 } : Room) s m args below meth c H locs 0 0 QQ (F0 m 0 ls []) from start s.heap [] hP hD hS
  clear hP hD hS
  intro H locs hP hD hS
  have hf := fac_le h7
  refine lv_aload_n hx hb dX1_even_0 rfl (lv_at hl 0 rfl) ?_
  refine mv_V (As := []) (rest := []) (b := h) ⟨hx, hb, hml, hown, hts⟩ (kX1_fill h1 h7 hc hg) (cwV 0 hts gX1_even_X1_fill rfl rfl rfl eX1_fill ⟨by decide, by decide⟩) (va_recv hK hP (ci := 1) (q0 := 0) rfl rfl) hK hP hD hS rfl hl.1 rfl (Nat.le_of_ble_eq_true rfl) dX1_even_1 ⟨Nat.zero_le _, Nat.zero_le _⟩ (fun u H locs hw hP hS hk => ?_)
  obtain ⟨iw, ww⟩ := u
  have hP : va_P D vwCl (mW cI cZ h fa ge inn wa (nI (ct)) (nI (n)) (th) (gn) (iw) (ww)) H := hP
  have hD : va_D A (mW cI cZ h fa ge inn wa (nI (ct)) (nI (n)) (th) (gn) (iw) (ww)) := mW_addr hD
  have hw : FP n ct gn iw := hw
  refine lv_iconst (v := nI (0)) hx hb dX1_even_4 (by decide) ?_
  refine lv_istore_n (lv' := [(1, .int (nI (0))), (0, .ref h)]) hx hb dX1_even_5 rfl hl (by decide) rfl (fun ls hl => ?_)
  refine lv_iconst (v := nI (0)) hx hb dX1_even_6 (by decide) ?_
  refine lv_istore_n (lv' := [(2, .int (nI (0))), (1, .int (nI (0))), (0, .ref h)]) hx hb dX1_even_7 rfl hl (by decide) rfl (fun ls hl => ?_)
  have loop_8 : ∀ (K k9 s9 : Nat), (k9 + K = fac n) → (erF n iw (fac n) 0 0 = erF n iw K k9 s9) → ∀ (ls : Array Slot), lv_has ls 7 [(0, .ref h), (1, .int (nI (s9))), (2, .int (nI (k9)))] → W p l e ({ frames := 4, cells := 0, slots := 0, locals := 100 } : Room) s m args below meth c H locs 0 0 QQ (F0 m 8 ls []) := by
    intro K
    induction K with
    | zero =>
      intro k9 s9 hK1 hr ls hl
      refine lv_iload_n hx hb dX1_even_8 rfl (lv_at hl 2 rfl) ?_
      refine lv_aload_n hx hb dX1_even_9 rfl (lv_at hl 0 rfl) ?_
      refine pu_V (As := []) (rest := [.int (nI (k9))]) (b := h) ⟨hx, hb, hml, hown, hts⟩ (kX1_all hP h7) (cwV 0 hts gX1_even_X1_all rfl rfl rfl eX1_all ⟨by decide, by decide⟩) (va_recv hK hP (ci := 1) (q0 := 0) rfl rfl) hK rfl hl.1 rfl (Nat.le_of_ble_eq_true rfl) dX1_even_10 ⟨Nat.zero_le _, Nat.zero_le _⟩ ?_
      refine lv_icmp_ge (tgt := 110) hx hb dX1_even_13 (by decide) (fun c_13 => ?_) (fun c_13 => ?_)
      ·
        have c_13 := (nI_leI (by omega) (by omega)).mp c_13
        refine lv_iload_n hx hb dX1_even_110 rfl (lv_at hl 1 rfl) ?_
        exact hret (iw, ww) H locs _ _ _ ⟨hw, congrArg nI hr.symm⟩ hP hS dX1_even_111
      ·
        have c_13 : ¬ _ := fun h9 => c_13 ((nI_leI (by omega) (by omega)).mpr h9)
        exfalso; omega
    | succ K ih_8 =>
      intro k9 s9 hK1 hr ls hl
      refine lv_iload_n hx hb dX1_even_8 rfl (lv_at hl 2 rfl) ?_
      refine lv_aload_n hx hb dX1_even_9 rfl (lv_at hl 0 rfl) ?_
      refine pu_V (As := []) (rest := [.int (nI (k9))]) (b := h) ⟨hx, hb, hml, hown, hts⟩ (kX1_all hP h7) (cwV 0 hts gX1_even_X1_all rfl rfl rfl eX1_all ⟨by decide, by decide⟩) (va_recv hK hP (ci := 1) (q0 := 0) rfl rfl) hK rfl hl.1 rfl (Nat.le_of_ble_eq_true rfl) dX1_even_10 ⟨Nat.zero_le _, Nat.zero_le _⟩ ?_
      refine lv_icmp_ge (tgt := 110) hx hb dX1_even_13 (by decide) (fun c_13 => ?_) (fun c_13 => ?_)
      ·
        have c_13 := (nI_leI (by omega) (by omega)).mp c_13
        exfalso; omega
      ·
        have c_13 : ¬ _ := fun h9 => c_13 ((nI_leI (by omega) (by omega)).mpr h9)
        refine lv_aload_n hx hb dX1_even_16 rfl (lv_at hl 0 rfl) ?_
        refine va_get (D := D) (ci := 1) (v := .ref inn) (C := RX1) (T := TX1) (N := 7) hx hb hts hin0 hown hK hP 0 rfl rfl 4 (by decide) hl_in (fun _ h9 => h9) rfl dX1_even_17 ?_
        refine lv_iload_n hx hb dX1_even_20 rfl (lv_at hl 2 rfl) ?_
        refine va_zald hx hb hK hP 3 2 rfl rfl (vp_in_nI (by omega) (by omega)) dX1_even_21 ?_
        refine pu_tp (nb_clamp (f := iw) (by omega)) ?_
        refine lv_if_ne (tgt := 28) hx hb dX1_even_22 (by decide) (fun c_22 => ?_) (fun c_22 => ?_)
        ·
          refine lv_aload_n hx hb dX1_even_28 rfl (lv_at hl 0 rfl) ?_
          refine lv_iload_n hx hb dX1_even_29 rfl (lv_at hl 2 rfl) ?_
          refine pu_V (As := [.int (nI (k9))]) (rest := []) (b := h) ⟨hx, hb, hml, hown, hts⟩ (kX1_permutation hP h7 (q := k9) (by omega)) (cwV 1 hts gX1_even_X1_permutation rfl rfl rfl eX1_permutation ⟨by decide, by decide⟩) (va_recv hK hP (ci := 1) (q0 := 0) rfl rfl) hK rfl hl.1 rfl (Nat.le_of_ble_eq_true rfl) dX1_even_30 ⟨Nat.zero_le _, Nat.zero_le _⟩ ?_
          refine lv_istore_n (lv' := [(3, .int (nI (pe n (k9)))), (0, .ref h), (1, .int (nI (s9))), (2, .int (nI (k9)))]) hx hb dX1_even_33 rfl hl (by decide) rfl (fun ls hl => ?_)
          refine lv_iconst (v := nI (0)) hx hb dX1_even_34 (by decide) ?_
          refine lv_istore (lv' := [(4, .int (nI (0))), (3, .int (nI (pe n (k9)))), (0, .ref h), (1, .int (nI (s9))), (2, .int (nI (k9)))]) hx hb dX1_even_35 hl (by decide) rfl (fun ls hl => ?_)
          refine lv_iconst (v := nI (0)) hx hb dX1_even_37 (by decide) ?_
          refine lv_istore (lv' := [(5, .int (nI (0))), (4, .int (nI (0))), (3, .int (nI (pe n (k9)))), (0, .ref h), (1, .int (nI (s9))), (2, .int (nI (k9)))]) hx hb dX1_even_38 hl (by decide) rfl (fun ls hl => ?_)
          have loop_40 : ∀ (I9 i a9 : Nat), (i + I9 = n) → (erI n (pe n k9) n 0 0 = erI n (pe n k9) I9 i a9) → (a9 ≤ 8 * i) → ∀ (ls : Array Slot), lv_has ls 7 [(0, .ref h), (1, .int (nI (s9))), (2, .int (nI (k9))), (3, .int (nI (pe n (k9)))), (4, .int (nI (a9))), (5, .int (nI (i)))] → W p l e ({ frames := 4, cells := 0, slots := 0, locals := 100 } : Room) s m args below meth c H locs 0 0 QQ (F0 m 40 ls []) := by
            intro I9
            induction I9 with
            | zero =>
              intro i a9 hI1 hr2 hal0 ls hl
              refine lv_iload hx hb dX1_even_40 (lv_at hl 5 rfl) ?_
              refine lv_aload_n hx hb dX1_even_42 rfl (lv_at hl 0 rfl) ?_
              refine va_get (D := D) (ci := 1) (v := .int (nI (n))) (C := RX1) (T := TX1) (N := 7) hx hb hts hin0 hown hK hP 0 rfl rfl 3 (by decide) hl_n (fun _ h9 => h9) rfl dX1_even_43 ?_
              refine lv_icmp_ge (tgt := 94) hx hb dX1_even_46 (by decide) (fun c_46 => ?_) (fun c_46 => ?_)
              ·
                have c_46 := (nI_leI (by omega) (by omega)).mp c_46
                have hal : a9 < 2 ^ 31 := by omega
                refine lv_iload hx hb dX1_even_94 (lv_at hl 4 rfl) ?_
                refine lv_iconst (v := nI (2)) hx hb dX1_even_96 (by decide) ?_
                refine lv_irem hx hb dX1_even_97 (nI_ne0 (by omega) (by omega)) ?_
                refine pu_tp (pk_rem hal (by omega) (by omega)) ?_
                refine lv_if_ne (tgt := 104) hx hb dX1_even_98 (by decide) (fun c_98 => ?_) (fun c_98 => ?_)
                ·
                  have c_98 : ¬ _ := fun h9 => c_98 ((nb_eq0 (by omega)).mpr h9)
                  refine lv_iinc (v := nI (k9 + 1)) (lv' := [(2, .int (nI (k9 + 1))), (0, .ref h), (1, .int (nI (s9))), (3, .int (nI (pe n (k9)))), (4, .int (nI (a9))), (5, .int (nI (i)))]) hx hb dX1_even_104 hl (k := 2) rfl (nI_1 _) (by decide) rfl (fun ls hl => ?_)
                  refine lv_goto (tgt := 8) hx hb dX1_even_107 (by decide) ?_
                  exact ih_8 (k9 + 1) s9 (by omega) (hr.trans (by first | exact erF_n c_22 | exact erF_m c_22 (by rw [hr2]; exact c_98))) ls (lv_sub hl [1, 2, 0] rfl)
                ·
                  have c_98 := (nb_eq0 (by omega)).mp c_98
                  refine lv_iinc (v := nI (s9 + 1)) (lv' := [(1, .int (nI (s9 + 1))), (0, .ref h), (2, .int (nI (k9))), (3, .int (nI (pe n (k9)))), (4, .int (nI (a9))), (5, .int (nI (i)))]) hx hb dX1_even_101 hl (k := 1) rfl (nI_1 _) (by decide) rfl (fun ls hl => ?_)
                  refine lv_iinc (v := nI (k9 + 1)) (lv' := [(2, .int (nI (k9 + 1))), (1, .int (nI (s9 + 1))), (0, .ref h), (3, .int (nI (pe n (k9)))), (4, .int (nI (a9))), (5, .int (nI (i)))]) hx hb dX1_even_104 hl (k := 2) rfl (nI_1 _) (by decide) rfl (fun ls hl => ?_)
                  refine lv_goto (tgt := 8) hx hb dX1_even_107 (by decide) ?_
                  exact ih_8 (k9 + 1) (s9 + 1) (by omega) (hr.trans (erF_y c_22 (by rw [hr2]; exact c_98))) ls (lv_sub hl [2, 1, 0] rfl)
              ·
                have c_46 : ¬ _ := fun h9 => c_46 ((nI_leI (by omega) (by omega)).mpr h9)
                exfalso; omega
            | succ I9 ih_40 =>
              intro i a9 hI1 hr2 hal0 ls hl
              refine lv_iload hx hb dX1_even_40 (lv_at hl 5 rfl) ?_
              refine lv_aload_n hx hb dX1_even_42 rfl (lv_at hl 0 rfl) ?_
              refine va_get (D := D) (ci := 1) (v := .int (nI (n))) (C := RX1) (T := TX1) (N := 7) hx hb hts hin0 hown hK hP 0 rfl rfl 3 (by decide) hl_n (fun _ h9 => h9) rfl dX1_even_43 ?_
              refine lv_icmp_ge (tgt := 94) hx hb dX1_even_46 (by decide) (fun c_46 => ?_) (fun c_46 => ?_)
              ·
                have c_46 := (nI_leI (by omega) (by omega)).mp c_46
                exfalso; omega
              ·
                have c_46 : ¬ _ := fun h9 => c_46 ((nI_leI (by omega) (by omega)).mpr h9)
                refine lv_iload hx hb dX1_even_49 (lv_at hl 5 rfl) ?_
                refine lv_iconst (v := nI (1)) hx hb dX1_even_51 (by decide) ?_
                refine lv_iadd hx hb dX1_even_52 ?_
                refine pu_tp (nI_add _ _) ?_
                refine lv_istore (lv' := [(6, .int (nI (i + 1))), (0, .ref h), (1, .int (nI (s9))), (2, .int (nI (k9))), (3, .int (nI (pe n (k9)))), (4, .int (nI (a9))), (5, .int (nI (i)))]) hx hb dX1_even_53 hl (by decide) rfl (fun ls hl => ?_)
                have loop_55 : ∀ (J j z9 : Nat), (j + J = n) → (erJ (pe n k9) i (n - (i + 1)) (i + 1) a9 = erJ (pe n k9) i J j z9) → ∀ (ls : Array Slot), lv_has ls 7 [(0, .ref h), (1, .int (nI (s9))), (2, .int (nI (k9))), (3, .int (nI (pe n (k9)))), (4, .int (nI (z9))), (5, .int (nI (i))), (6, .int (nI (j)))] → W p l e ({ frames := 4, cells := 0, slots := 0, locals := 100 } : Room) s m args below meth c H locs 0 0 QQ (F0 m 55 ls []) := by
                  intro J
                  induction J with
                  | zero =>
                    intro j z9 hJ1 hr3 ls hl
                    refine lv_iload hx hb dX1_even_55 (lv_at hl 6 rfl) ?_
                    refine lv_aload_n hx hb dX1_even_57 rfl (lv_at hl 0 rfl) ?_
                    refine va_get (D := D) (ci := 1) (v := .int (nI (n))) (C := RX1) (T := TX1) (N := 7) hx hb hts hin0 hown hK hP 0 rfl rfl 3 (by decide) hl_n (fun _ h9 => h9) rfl dX1_even_58 ?_
                    refine lv_icmp_ge (tgt := 88) hx hb dX1_even_61 (by decide) (fun c_61 => ?_) (fun c_61 => ?_)
                    ·
                      have c_61 := (nI_leI (by omega) (by omega)).mp c_61
                      refine lv_iinc (v := nI (i + 1)) (lv' := [(5, .int (nI (i + 1))), (0, .ref h), (1, .int (nI (s9))), (2, .int (nI (k9))), (3, .int (nI (pe n (k9)))), (4, .int (nI (z9))), (6, .int (nI (j)))]) hx hb dX1_even_88 hl (k := 5) rfl (nI_1 _) (by decide) rfl (fun ls hl => ?_)
                      refine lv_goto (tgt := 40) hx hb dX1_even_91 (by decide) ?_
                      exact ih_40 (i + 1) z9 (by omega) (by have hz : z9 = erJ (pe n k9) i (n - (i + 1)) (i + 1) a9 := hr3.symm; rw [hz]; exact hr2) (by have hz : erJ (pe n k9) i (n - (i + 1)) (i + 1) a9 = z9 := hr3; have := erJ_le (pe n k9) i (n - (i + 1)) (i + 1) a9; omega) ls (lv_sub hl [1, 2, 3, 4, 5, 0] rfl)
                    ·
                      have c_61 : ¬ _ := fun h9 => c_61 ((nI_leI (by omega) (by omega)).mpr h9)
                      exfalso; omega
                  | succ J ih_55 =>
                    intro j z9 hJ1 hr3 ls hl
                    refine lv_iload hx hb dX1_even_55 (lv_at hl 6 rfl) ?_
                    refine lv_aload_n hx hb dX1_even_57 rfl (lv_at hl 0 rfl) ?_
                    refine va_get (D := D) (ci := 1) (v := .int (nI (n))) (C := RX1) (T := TX1) (N := 7) hx hb hts hin0 hown hK hP 0 rfl rfl 3 (by decide) hl_n (fun _ h9 => h9) rfl dX1_even_58 ?_
                    refine lv_icmp_ge (tgt := 88) hx hb dX1_even_61 (by decide) (fun c_61 => ?_) (fun c_61 => ?_)
                    ·
                      have c_61 := (nI_leI (by omega) (by omega)).mp c_61
                      exfalso; omega
                    ·
                      have c_61 : ¬ _ := fun h9 => c_61 ((nI_leI (by omega) (by omega)).mpr h9)
                      refine lv_iload_n hx hb dX1_even_64 rfl (lv_at hl 3 rfl) ?_
                      refine lv_iload hx hb dX1_even_65 (lv_at hl 5 rfl) ?_
                      refine pu_S (As := [.int (nI (pe n (k9))), .int (nI (i))]) (rest := []) ⟨hx, hb, hml, hown, hts⟩ (kX1_image (P := pe n k9) (i := i) (Nat.lt_trans (pe_lt h7 _) (by decide)) (by omega)) (va_cwS 2 hts gX1_even_X1_image rfl rfl rfl eX1_image ⟨by decide, by decide⟩) hK rfl hl.1 rfl (Nat.le_of_ble_eq_true rfl) dX1_even_67 ⟨Nat.zero_le _, Nat.zero_le _⟩ ?_
                      refine lv_iload_n hx hb dX1_even_70 rfl (lv_at hl 3 rfl) ?_
                      refine lv_iload hx hb dX1_even_71 (lv_at hl 6 rfl) ?_
                      refine pu_S (As := [.int (nI (pe n (k9))), .int (nI (j))]) (rest := [.int (nI (im (pe n k9) i))]) ⟨hx, hb, hml, hown, hts⟩ (kX1_image (P := pe n k9) (i := j) (Nat.lt_trans (pe_lt h7 _) (by decide)) (by omega)) (va_cwS 2 hts gX1_even_X1_image rfl rfl rfl eX1_image ⟨by decide, by decide⟩) hK rfl hl.1 rfl (Nat.le_of_ble_eq_true rfl) dX1_even_73 ⟨Nat.zero_le _, Nat.zero_le _⟩ ?_
                      refine lv_icmp_le (tgt := 82) hx hb dX1_even_76 (by decide) (fun c_76 => ?_) (fun c_76 => ?_)
                      ·
                        have c_76 := (nI_leI (Nat.lt_trans (im_lt _ _) (by decide)) (Nat.lt_trans (im_lt _ _) (by decide))).mp c_76
                        refine lv_iinc (v := nI (j + 1)) (lv' := [(6, .int (nI (j + 1))), (0, .ref h), (1, .int (nI (s9))), (2, .int (nI (k9))), (3, .int (nI (pe n (k9)))), (4, .int (nI (z9))), (5, .int (nI (i)))]) hx hb dX1_even_82 hl (k := 6) rfl (nI_1 _) (by decide) rfl (fun ls hl => ?_)
                        refine lv_goto (tgt := 55) hx hb dX1_even_85 (by decide) ?_
                        exact ih_55 (j + 1) z9 (by omega) (hr3.trans (erJ_f (by omega))) ls (lv_sub hl [1, 2, 3, 4, 5, 6, 0] rfl)
                      ·
                        have c_76 : ¬ _ := fun h9 => c_76 ((nI_leI (Nat.lt_trans (im_lt _ _) (by decide)) (Nat.lt_trans (im_lt _ _) (by decide))).mpr h9)
                        refine lv_iinc (v := nI (z9 + 1)) (lv' := [(4, .int (nI (z9 + 1))), (0, .ref h), (1, .int (nI (s9))), (2, .int (nI (k9))), (3, .int (nI (pe n (k9)))), (5, .int (nI (i))), (6, .int (nI (j)))]) hx hb dX1_even_79 hl (k := 4) rfl (nI_1 _) (by decide) rfl (fun ls hl => ?_)
                        refine lv_iinc (v := nI (j + 1)) (lv' := [(6, .int (nI (j + 1))), (4, .int (nI (z9 + 1))), (0, .ref h), (1, .int (nI (s9))), (2, .int (nI (k9))), (3, .int (nI (pe n (k9)))), (5, .int (nI (i)))]) hx hb dX1_even_82 hl (k := 6) rfl (nI_1 _) (by decide) rfl (fun ls hl => ?_)
                        refine lv_goto (tgt := 55) hx hb dX1_even_85 (by decide) ?_
                        exact ih_55 (j + 1) (z9 + 1) (by omega) (hr3.trans (erJ_t (by omega))) ls (lv_sub hl [2, 3, 4, 5, 1, 6, 0] rfl)
                exact loop_55 (n - (i + 1)) (i + 1) a9 (by omega) rfl ls (lv_sub hl [1, 2, 3, 4, 5, 6, 0] rfl)
          exact loop_40 n 0 0 (by omega) rfl (by omega) ls (lv_sub hl [3, 4, 5, 2, 1, 0] rfl)
        ·
          refine lv_goto (tgt := 104) hx hb dX1_even_25 (by decide) ?_
          refine lv_iinc (v := nI (k9 + 1)) (lv' := [(2, .int (nI (k9 + 1))), (0, .ref h), (1, .int (nI (s9)))]) hx hb dX1_even_104 hl (k := 2) rfl (nI_1 _) (by decide) rfl (fun ls hl => ?_)
          refine lv_goto (tgt := 8) hx hb dX1_even_107 (by decide) ?_
          exact ih_8 (k9 + 1) s9 (by omega) (hr.trans (by first | exact erF_n c_22 | exact erF_m c_22 (by rw [hr2]; exact c_98))) ls (lv_sub hl [1, 2, 0] rfl)
  exact loop_8 (fac n) 0 0 (by omega) rfl ls (lv_sub hl [2, 1, 0] rfl)
end CXI
