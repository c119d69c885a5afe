section CXG
variable {l : Launch} {D : va_G} {cI cG cZ : ClassId} {h fa ge inn wa : Nat} {ct n : Nat} {th : Int32} {gn iv wv : Nat → Int32}
theorem eX1_drop : yX1_drop.cls = RX1 ∧ yX1_drop.cls ≠ "java/lang/invoke/MethodHandle" ∧ yX1_drop.cls ≠ "java/lang/invoke/VarHandle" ∧ (parseMethodDescriptor yX1_drop.desc).map (fun d => d.parameters.length) = some 0 := by decide +kernel
set_option maxHeartbeats 4000000 in
set_option maxRecDepth 100000 in
theorem kX1_drop (hc : ct ≤ 12) : mI (S := Nat) l yX1_drop wsX1_drop ({ frames := 0, cells := 0, slots := 0, locals := 0 } : Room) [.ref h] D (gT cI cG cZ) (mW cI cZ h fa ge inn wa (nI (ct)) (nI (n)) (th) (gn) (iv) (wv)) (fun u => mW cI cZ h fa ge inn wa (nI u) (nI n) th gn iv wv) (fun r u => (ct = 0 ∧ r = 0 ∧ u = 0) ∨ (0 < ct ∧ r = 1 ∧ u = ct - 1)) := by
  refine mI_ofW (cc := cX1_drop) (maxL := 1) (ret := (some .boolean)) (by decide) rfl (Or.inr ⟨rfl, fun v u q => q.elim (fun q => Or.inl q.2.1) (fun q => Or.inr q.2.1)⟩) (Nat.le_of_ble_eq_true rfl) ?_
  intro p e s m args below meth c QQ hx hb hml hown hts hK hP hD hS hret ls hl
  have hl : lv_has ls 1 [(0, .ref h)] := hl
  have hown : s.vm.findClass RX1 = some m.cls := hown
  have hin0 : ∀ w ∈ wsX10, w ∈ wsX1_drop := fun w h => List.mem_cons_of_mem _ (List.mem_append_right _ h)
  have hl_count : (Cond.fieldLink RX1 43 "PermGroupModel" "count" "I").before args s = true := hts _ (by decide +kernel)
  generalize inW (mW cI cZ h fa ge inn wa (nI (ct)) (nI (n)) (th) (gn) (iv) (wv)) = A at hD hS hret
  suffices start : ∀ (H : Heap) (locs : List Loc), va_P D vwCl (mW cI cZ h fa ge inn wa (nI (ct)) (nI (n)) (th) (gn) (iv) (wv)) H → va_D A (mW cI cZ h fa ge inn wa (nI (ct)) (nI (n)) (th) (gn) (iv) (wv)) → va_S A s.heap H locs → W p l e ({ frames := 0, cells := 0, slots := 0, locals := 0 } : Room) s m args below meth c H locs 0 0 QQ (F0 m 0 ls []) from start s.heap [] hP hD hS
  clear hP hD hS
  intro H locs hP hD hS
  refine lv_aload_n hx hb dX1_drop_0 rfl (lv_at hl 0 rfl) ?_
  refine va_get (D := D) (ci := 1) (v := .int (nI (ct))) (C := RX1) (T := TX1) (N := 7) hx hb hts hin0 hown hK hP 0 rfl rfl 2 (by decide) hl_count (fun _ h9 => h9) rfl dX1_drop_1 ?_
  refine lv_if_ne (tgt := 9) hx hb dX1_drop_4 (by decide) (fun c_4 => ?_) (fun c_4 => ?_)
  ·
    have c_4 : ¬ _ := fun h9 => c_4 ((nb_eq0 (by omega)).mpr h9)
    refine lv_aload_n hx hb dX1_drop_9 rfl (lv_at hl 0 rfl) ?_
    refine lv_dup hx hb dX1_drop_10 rfl ?_
    refine va_get (D := D) (ci := 1) (v := .int (nI (ct))) (C := RX1) (T := TX1) (N := 7) hx hb hts hin0 hown hK hP 0 rfl rfl 2 (by decide) hl_count (fun _ h9 => h9) rfl dX1_drop_11 ?_
    refine lv_iconst (v := nI (1)) hx hb dX1_drop_14 (by decide) ?_
    refine lv_isub hx hb dX1_drop_15 ?_
    refine pu_tp (pk_sub (by omega)) ?_
    refine va_put (D := D) (ci := 1) (v := .int (nI (ct - 1))) (ty := .int) (C := RX1) (T := TX1) (N := 7) hx hb hts hin0 tyX1 tyX1_ok nmX1 hown hK hP hD hS 0 rfl rfl 2 (by decide) hl_count (fun _ h9 => h9) rfl (by decide +kernel) rfl rfl (Nat.le_of_ble_eq_true rfl) dX1_drop_16 (fun H locs hP hD hS => ?_)
    have hP : va_P D vwCl (mW cI cZ h fa ge inn wa (nI (ct - 1)) (nI (n)) (th) (gn) (iv) (wv)) H := hP
    have hD : va_D A (mW cI cZ h fa ge inn wa (nI (ct - 1)) (nI (n)) (th) (gn) (iv) (wv)) := hD
    refine lv_iconst (v := nI (1)) hx hb dX1_drop_19 (by decide) ?_
    exact hret (ct - 1) H locs _ _ _ (Or.inr ⟨by omega, rfl, rfl⟩) hP hS dX1_drop_20
  ·
    have c_4 := (nb_eq0 (by omega)).mp c_4
    refine lv_iconst (v := nI (0)) hx hb dX1_drop_7 (by decide) ?_
    exact hret ct H locs _ _ _ (Or.inl ⟨c_4, rfl, c_4⟩) hP hS dX1_drop_8
theorem eX1_points : yX1_points.cls = RX1 ∧ yX1_points.cls ≠ "java/lang/invoke/MethodHandle" ∧ yX1_points.cls ≠ "java/lang/invoke/VarHandle" ∧ (parseMethodDescriptor yX1_points.desc).map (fun d => d.parameters.length) = some 1 := by decide +kernel
set_option maxHeartbeats 4000000 in
set_option maxRecDepth 100000 in
theorem kX1_points {x : Int32} : mI (S := (Nat × Nat)) l yX1_points wsX1_points ({ frames := 0, cells := 0, slots := 0, locals := 0 } : Room) [.ref h, .int (x)] D (gT cI cG cZ) (mW cI cZ h fa ge inn wa (nI (ct)) (nI (n)) (th) (gn) (iv) (wv)) (fun u => mW cI cZ h fa ge inn wa (nI u.2) (nI u.1) th gn iv wv) (fun r u => (ptV x ∧ r = 1 ∧ x = nI u.1 ∧ 1 ≤ u.1 ∧ u.1 ≤ 7 ∧ u.2 = 0) ∨ (¬ ptV x ∧ r = 0 ∧ u = (n, ct))) := by
  refine mI_ofW (cc := cX1_points) (maxL := 2) (ret := (some .boolean)) (by decide) rfl (Or.inr ⟨rfl, fun v u q => q.elim (fun q => Or.inr q.2.1) (fun q => Or.inl q.2.1)⟩) (Nat.le_of_ble_eq_true rfl) ?_
  intro p e s m args below meth c QQ hx hb hml hown hts hK hP hD hS hret ls hl
  have hl : lv_has ls 2 [(0, .ref h), (1, .int (x))] := hl
  have hown : s.vm.findClass RX1 = some m.cls := hown
  have hin0 : ∀ w ∈ wsX10, w ∈ wsX1_points := fun w h => List.mem_cons_of_mem _ (List.mem_append_right _ h)
  have hl_count : (Cond.fieldLink RX1 43 "PermGroupModel" "count" "I").before args s = true := hts _ (by decide +kernel)
  have hl_n : (Cond.fieldLink RX1 23 "PermGroupModel" "n" "I").before args s = true := hts _ (by decide +kernel)
  generalize inW (mW cI cZ h fa ge inn wa (nI (ct)) (nI (n)) (th) (gn) (iv) (wv)) = A at hD hS hret
  suffices start : ∀ (H : Heap) (locs : List Loc), va_P D vwCl (mW cI cZ h fa ge inn wa (nI (ct)) (nI (n)) (th) (gn) (iv) (wv)) H → va_D A (mW cI cZ h fa ge inn wa (nI (ct)) (nI (n)) (th) (gn) (iv) (wv)) → va_S A s.heap H locs → W p l e ({ frames := 0, cells := 0, slots := 0, locals := 0 } : Room) s m args below meth c H locs 0 0 QQ (F0 m 0 ls []) from start s.heap [] hP hD hS
  clear hP hD hS
  intro H locs hP hD hS
  refine lv_iload_n hx hb dX1_points_0 rfl (lv_at hl 1 rfl) ?_
  refine lv_iconst (v := nI (1)) hx hb dX1_points_1 (by decide) ?_
  refine lv_icmp_lt (tgt := 11) hx hb dX1_points_2 (by decide) (fun c_2 => ?_) (fun c_2 => ?_)
  ·
    refine lv_iconst (v := nI (0)) hx hb dX1_points_11 (by decide) ?_
    exact hret (n, ct) H locs _ _ _ (Or.inr ⟨fun q => by first | exact q.1 c_2 | exact c_8 q.2, rfl, rfl⟩) hP hS dX1_points_12
  ·
    refine lv_iload_n hx hb dX1_points_5 rfl (lv_at hl 1 rfl) ?_
    refine lv_bipush (v := nI (7)) hx hb dX1_points_6 (by decide) ?_
    refine lv_icmp_le (tgt := 13) hx hb dX1_points_8 (by decide) (fun c_8 => ?_) (fun c_8 => ?_)
    ·
      obtain ⟨X, hX1, hX7, rfl⟩ := pt_ok c_2 c_8
      refine lv_aload_n hx hb dX1_points_13 rfl (lv_at hl 0 rfl) ?_
      refine lv_iload_n hx hb dX1_points_14 rfl (lv_at hl 1 rfl) ?_
      refine va_put (D := D) (ci := 1) (v := .int (nI (X))) (ty := .int) (C := RX1) (T := TX1) (N := 7) hx hb hts hin0 tyX1 tyX1_ok nmX1 hown hK hP hD hS 0 rfl rfl 3 (by decide) hl_n (fun _ h9 => h9) rfl (by decide +kernel) rfl rfl (Nat.le_of_ble_eq_true rfl) dX1_points_15 (fun H locs hP hD hS => ?_)
      have hP : va_P D vwCl (mW cI cZ h fa ge inn wa (nI (ct)) (nI (X)) (th) (gn) (iv) (wv)) H := hP
      have hD : va_D A (mW cI cZ h fa ge inn wa (nI (ct)) (nI (X)) (th) (gn) (iv) (wv)) := hD
      refine lv_aload_n hx hb dX1_points_18 rfl (lv_at hl 0 rfl) ?_
      refine lv_iconst (v := nI (0)) hx hb dX1_points_19 (by decide) ?_
      refine va_put (D := D) (ci := 1) (v := .int (nI (0))) (ty := .int) (C := RX1) (T := TX1) (N := 7) hx hb hts hin0 tyX1 tyX1_ok nmX1 hown hK hP hD hS 0 rfl rfl 2 (by decide) hl_count (fun _ h9 => h9) rfl (by decide +kernel) rfl rfl (Nat.le_of_ble_eq_true rfl) dX1_points_20 (fun H locs hP hD hS => ?_)
      have hP : va_P D vwCl (mW cI cZ h fa ge inn wa (nI (0)) (nI (X)) (th) (gn) (iv) (wv)) H := hP
      have hD : va_D A (mW cI cZ h fa ge inn wa (nI (0)) (nI (X)) (th) (gn) (iv) (wv)) := hD
      refine lv_iconst (v := nI (1)) hx hb dX1_points_23 (by decide) ?_
      exact hret (X, 0) H locs _ _ _ (Or.inl ⟨⟨c_2, c_8⟩, rfl, rfl, hX1, hX7, rfl⟩) hP hS dX1_points_24
    ·
      refine lv_iconst (v := nI (0)) hx hb dX1_points_11 (by decide) ?_
      exact hret (n, ct) H locs _ _ _ (Or.inr ⟨fun q => by first | exact q.1 c_2 | exact c_8 q.2, rfl, rfl⟩) hP hS dX1_points_12
theorem eX1_add : yX1_add.cls = RX1 ∧ yX1_add.cls ≠ "java/lang/invoke/MethodHandle" ∧ yX1_add.cls ≠ "java/lang/invoke/VarHandle" ∧ (parseMethodDescriptor yX1_add.desc).map (fun d => d.parameters.length) = some 1 := by decide +kernel
set_option maxHeartbeats 4000000 in
set_option maxRecDepth 100000 in
theorem kX1_add (hn : n ≤ 7) (hc : ct ≤ 12) {P : Nat} (hp : P < 2 ^ 32) : mI (S := ((Nat → Int32) × Nat)) l yX1_add wsX1_add ({ frames := 2, cells := 0, slots := 0, locals := 44 } : Room) [.ref h, .int (nI (P))] D (gT cI cG cZ) (mW cI cZ h fa ge inn wa (nI (ct)) (nI (n)) (th) (gn) (iv) (wv)) (fun u => mW cI cZ h fa ge inn wa (nI u.2) (nI n) th u.1 iv wv) (fun r u => (isP n P = false ∧ r = -1 ∧ u = (gn, ct)) ∨ (isP n P = true ∧ 12 ≤ ct ∧ r = -2 ∧ u = (gn, ct)) ∨ (isP n P = true ∧ ct < 12 ∧ r = nI ct ∧ u = (upd gn ct (nI P), ct + 1))) := by
  refine mI_ofW (cc := cX1_add) (maxL := 2) (ret := (some .int)) (by decide) rfl (Or.inl rfl) (Nat.le_of_ble_eq_true rfl) ?_
  intro p e s m args below meth c QQ hx hb hml hown hts hK hP hD hS hret ls hl
  have hl : lv_has ls 2 [(0, .ref h), (1, .int (nI (P)))] := hl
  have hown : s.vm.findClass RX1 = some m.cls := hown
  have hin0 : ∀ w ∈ wsX10, w ∈ wsX1_add := fun w h => List.mem_cons_of_mem _ (List.mem_append_right _ h)
  have hl_count : (Cond.fieldLink RX1 43 "PermGroupModel" "count" "I").before args s = true := hts _ (by decide +kernel)
  have hl_gens : (Cond.fieldLink RX1 13 "PermGroupModel" "gens" "[I").before args s = true := hts _ (by decide +kernel)
  generalize inW (mW cI cZ h fa ge inn wa (nI (ct)) (nI (n)) (th) (gn) (iv) (wv)) = A at hD hS hret
  suffices start : ∀ (H : Heap) (locs : List Loc), va_P D vwCl (mW cI cZ h fa ge inn wa (nI (ct)) (nI (n)) (th) (gn) (iv) (wv)) H → va_D A (mW cI cZ h fa ge inn wa (nI (ct)) (nI (n)) (th) (gn) (iv) (wv)) → va_S A s.heap H locs → W p l e ({ frames := 2, cells := 0, slots := 0, locals := 44 } : Room) s m args below meth c H locs 0 0 QQ (F0 m 0 ls []) from start s.heap [] hP hD hS
  clear hP hD hS
  intro H locs hP hD hS
  refine lv_aload_n hx hb dX1_add_0 rfl (lv_at hl 0 rfl) ?_
  refine lv_iload_n hx hb dX1_add_1 rfl (lv_at hl 1 rfl) ?_
  refine pu_V (As := [.int (nI (P))]) (rest := []) (b := h) ⟨hx, hb, hml, hown, hts⟩ (kX1_isPermutation hP hn (P := P) hp) (cwV 1 hts gX1_add_X1_isPermutation rfl rfl rfl eX1_isPermutation ⟨by decide, by decide⟩) (va_recv hK hP (ci := 1) (q0 := 0) rfl rfl) hK rfl hl.1 rfl (Nat.le_of_ble_eq_true rfl) dX1_add_2 ⟨Nat.zero_le _, Nat.zero_le _⟩ ?_
  refine lv_if_ne (tgt := 10) hx hb dX1_add_5 (by decide) (fun c_5 => ?_) (fun c_5 => ?_)
  ·
    have c_5 := b01_t c_5
    refine lv_aload_n hx hb dX1_add_10 rfl (lv_at hl 0 rfl) ?_
    refine va_get (D := D) (ci := 1) (v := .int (nI (ct))) (C := RX1) (T := TX1) (N := 7) hx hb hts hin0 hown hK hP 0 rfl rfl 2 (by decide) hl_count (fun _ h9 => h9) rfl dX1_add_11 ?_
    refine lv_bipush (v := nI (12)) hx hb dX1_add_14 (by decide) ?_
    refine lv_icmp_ne (tgt := 22) hx hb dX1_add_16 (by decide) (fun c_16 => ?_) (fun c_16 => ?_)
    ·
      have c_16 : ¬ _ := fun h9 => c_16 ((nb_eqI (by omega) (by omega)).mpr h9)
      refine lv_aload_n hx hb dX1_add_22 rfl (lv_at hl 0 rfl) ?_
      refine va_get (D := D) (ci := 1) (v := .ref ge) (C := RX1) (T := TX1) (N := 7) hx hb hts hin0 hown hK hP 0 rfl rfl 1 (by decide) hl_gens (fun _ h9 => h9) rfl dX1_add_23 ?_
      refine lv_aload_n hx hb dX1_add_26 rfl (lv_at hl 0 rfl) ?_
      refine va_get (D := D) (ci := 1) (v := .int (nI (ct))) (C := RX1) (T := TX1) (N := 7) hx hb hts hin0 hown hK hP 0 rfl rfl 2 (by decide) hl_count (fun _ h9 => h9) rfl dX1_add_27 ?_
      refine lv_iload_n hx hb dX1_add_30 rfl (lv_at hl 1 rfl) ?_
      refine ua_iast hx hb hK hP hD hS 2 0 rfl rfl (by omega) (by decide) dX1_add_31 (fun H locs hP hD hS => ?_)
      have hP : va_P D vwCl (mW cI cZ h fa ge inn wa (nI (ct)) (nI (n)) (th) (upd (gn) (ct) (nI (P))) (iv) (wv)) H := hP
      have hD : va_D A (mW cI cZ h fa ge inn wa (nI (ct)) (nI (n)) (th) (upd (gn) (ct) (nI (P))) (iv) (wv)) := hD
      refine lv_aload_n hx hb dX1_add_32 rfl (lv_at hl 0 rfl) ?_
      refine lv_dup hx hb dX1_add_33 rfl ?_
      refine va_get (D := D) (ci := 1) (v := .int (nI (ct))) (C := RX1) (T := TX1) (N := 7) hx hb hts hin0 hown hK hP 0 rfl rfl 2 (by decide) hl_count (fun _ h9 => h9) rfl dX1_add_34 ?_
      refine lv_iconst (v := nI (1)) hx hb dX1_add_37 (by decide) ?_
      refine lv_iadd hx hb dX1_add_38 ?_
      refine pu_tp (nI_add _ _) ?_
      refine va_put (D := D) (ci := 1) (v := .int (nI (ct + 1))) (ty := .int) (C := RX1) (T := TX1) (N := 7) hx hb hts hin0 tyX1 tyX1_ok nmX1 hown hK hP hD hS 0 rfl rfl 2 (by decide) hl_count (fun _ h9 => h9) rfl (by decide +kernel) rfl rfl (Nat.le_of_ble_eq_true rfl) dX1_add_39 (fun H locs hP hD hS => ?_)
      have hP : va_P D vwCl (mW cI cZ h fa ge inn wa (nI (ct + 1)) (nI (n)) (th) (upd (gn) (ct) (nI (P))) (iv) (wv)) H := hP
      have hD : va_D A (mW cI cZ h fa ge inn wa (nI (ct + 1)) (nI (n)) (th) (upd (gn) (ct) (nI (P))) (iv) (wv)) := hD
      refine lv_aload_n hx hb dX1_add_42 rfl (lv_at hl 0 rfl) ?_
      refine va_get (D := D) (ci := 1) (v := .int (nI (ct + 1))) (C := RX1) (T := TX1) (N := 7) hx hb hts hin0 hown hK hP 0 rfl rfl 2 (by decide) hl_count (fun _ h9 => h9) rfl dX1_add_43 ?_
      refine lv_iconst (v := nI (1)) hx hb dX1_add_46 (by decide) ?_
      refine lv_isub hx hb dX1_add_47 ?_
      refine pu_tp (pk_sub (by omega)) ?_
      exact hret (upd gn ct (nI P), ct + 1) H locs _ _ _ (Or.inr (Or.inr ⟨c_5, by omega, by rw [Nat.add_sub_cancel], rfl⟩)) hP hS dX1_add_48
    ·
      have c_16 := (nb_eqI (by omega) (by omega)).mp c_16
      refine lv_bipush (v := -2) hx hb dX1_add_19 (by decide) ?_
      exact hret (gn, ct) H locs _ _ _ (Or.inr (Or.inl ⟨c_5, by omega, rfl, rfl⟩)) hP hS dX1_add_21
  ·
    have c_5 := b01_f c_5
    refine lv_iconst (v := -1) hx hb dX1_add_8 (by decide) ?_
    exact hret (gn, ct) H locs _ _ _ (Or.inl ⟨c_5, rfl, rfl⟩) hP hS dX1_add_9
end CXG
