section CXC
variable {l : Launch} {D : va_G} {cI cG cZ : ClassId} {h fa ge inn wa : Nat} {ct n : Nat} {th : Int32} {gn iv wv : Nat → Int32} {H : Heap}
theorem eX1_image : yX1_image.cls ≠ "java/lang/invoke/MethodHandle" ∧ yX1_image.cls ≠ "java/lang/invoke/VarHandle" ∧ (parseMethodDescriptor yX1_image.desc).map (fun d => d.parameters.length) = some 2 := by decide +kernel
set_option maxHeartbeats 4000000 in
set_option maxRecDepth 100000 in
theorem kX1_image {P i : Nat} (hp : P < 2 ^ 31) (hi : i ≤ 10) : pI l yX1_image wsX1_image ({ frames := 0, cells := 0, slots := 0, locals := 0 } : Room) [.int (nI (P)), .int (nI (i))] D (gT cI cG cZ) H (nI (im P i)) := by
  refine pI_ofW (cc := cX1_image) (maxL := 2) (ret := (some .int)) (by decide) rfl (Or.inl rfl) (Nat.le_of_ble_eq_true rfl) ?_
  intro p e s m args below meth c QQ hx hb hml hown hts hK hret ls hl
  have hl : lv_has ls 2 [(0, .int (nI (P))), (1, .int (nI (i)))] := hl
  have hown : s.vm.findClass RX1 = some m.cls := hown
  refine lv_iload_n hx hb dX1_image_0 rfl (lv_at hl 0 rfl) ?_
  refine lv_iconst (v := nI (3)) hx hb dX1_image_1 (by decide) ?_
  refine lv_iload_n hx hb dX1_image_2 rfl (lv_at hl 1 rfl) ?_
  refine lv_imul hx hb dX1_image_3 ?_
  refine pu_tp (pk_mul _ _) ?_
  refine lv_ishr hx hb dX1_image_4 ?_
  refine pu_tp (nb_shr (by omega) (by omega)) ?_
  refine lv_bipush (v := nI (7)) hx hb dX1_image_5 (by decide) ?_
  refine lv_iand hx hb dX1_image_7 ?_
  refine pu_tp (nb_and7 _) ?_
  exact hret _ _ _ (rfl) dX1_image_8
theorem eX1_isPermutation : yX1_isPermutation.cls = RX1 ∧ yX1_isPermutation.cls ≠ "java/lang/invoke/MethodHandle" ∧ yX1_isPermutation.cls ≠ "java/lang/invoke/VarHandle" ∧ (parseMethodDescriptor yX1_isPermutation.desc).map (fun d => d.parameters.length) = some 1 := by decide +kernel
set_option maxHeartbeats 4000000 in
set_option maxRecDepth 100000 in
theorem kX1_isPermutation (hP : va_P D vwCl (mW cI cZ h fa ge inn wa (nI ct) (nI n) th gn iv wv) H) (hn : n ≤ 7) {P : Nat} (hp : P < 2 ^ 32) : pI l yX1_isPermutation wsX1_isPermutation ({ frames := 1, cells := 0, slots := 0, locals := 21 } : Room) [.ref h, .int (nI P)] D (gT cI cG cZ) H (b01 (isP n P)) := by
  refine pI_ofW (cc := cX1_isPermutation) (maxL := 4) (ret := (some .boolean)) (by decide) rfl (Or.inr ⟨rfl, b01_or _⟩) (Nat.le_of_ble_eq_true rfl) ?_
  intro p e s m args below meth c QQ hx hb hml hown hts hK hret ls hl
  have hl : lv_has ls 4 [(0, .ref h), (1, .int (nI P))] := hl
  have hown : s.vm.findClass RX1 = some m.cls := hown
  have hin0 : ∀ w ∈ wsX10, w ∈ wsX1_isPermutation := fun w h => List.mem_cons_of_mem _ (List.mem_append_right _ h)
  have hl_n : (Cond.fieldLink RX1 23 "PermGroupModel" "n" "I").before args s = true := hts _ (by decide +kernel)
  refine lv_iload_n hx hb dX1_isPermutation_0 rfl (lv_at hl 1 rfl) ?_
  refine lv_if_lt (tgt := 15) hx hb dX1_isPermutation_1 (by decide) (fun c_1 => ?_) (fun c_1 => ?_)
  ·
    refine lv_iconst (v := nI (0)) hx hb dX1_isPermutation_15 (by decide) ?_
    exact hret _ _ _ (by first | (rw [isP_big hn (nb_ng hp c_1)]; rfl) | (rw [isP_f1 c_12]; rfl)) dX1_isPermutation_16
  ·
    have hp31 := nb_nn hp c_1
    refine lv_iload_n hx hb dX1_isPermutation_4 rfl (lv_at hl 1 rfl) ?_
    refine lv_iconst (v := nI (3)) hx hb dX1_isPermutation_5 (by decide) ?_
    refine lv_aload_n hx hb dX1_isPermutation_6 rfl (lv_at hl 0 rfl) ?_
    refine va_get (D := D) (ci := 1) (v := .int (nI (n))) (C := RX1) (T := TX1) (N := 7) hx hb hts hin0 hown hK hP 0 rfl rfl 3 (by decide) hl_n (fun _ h9 => h9) rfl dX1_isPermutation_7 ?_
    refine lv_imul hx hb dX1_isPermutation_10 ?_
    refine pu_tp (pk_mul _ _) ?_
    refine lv_ishr hx hb dX1_isPermutation_11 ?_
    refine pu_tp (nb_shr (by omega) (by omega)) ?_
    refine lv_if_eq (tgt := 17) hx hb dX1_isPermutation_12 (by decide) (fun c_12 => ?_) (fun c_12 => ?_)
    ·
      have c_12 := (nb_eq0 (bb_div P n hn hp)).mp c_12
      refine lv_iconst (v := nI (0)) hx hb dX1_isPermutation_17 (by decide) ?_
      refine lv_istore_n (lv' := [(2, .int (nI (0))), (0, .ref h), (1, .int (nI (P)))]) hx hb dX1_isPermutation_18 rfl hl (by decide) rfl (fun ls hl => ?_)
      refine lv_iconst (v := nI (0)) hx hb dX1_isPermutation_19 (by decide) ?_
      refine lv_istore_n (lv' := [(3, .int (nI (0))), (2, .int (nI (0))), (0, .ref h), (1, .int (nI (P)))]) hx hb dX1_isPermutation_20 rfl hl (by decide) rfl (fun ls hl => ?_)
      have loop_21 : ∀ (k i x : Nat), (i + k = n) → (mkF P n 0 0 = mkF P k i x) → (x < 2 ^ 8) → ∀ (ls : Array Slot), lv_has ls 4 [(0, .ref h), (1, .int (nI (P))), (2, .int (nI (x))), (3, .int (nI (i)))] → W p l e ({ frames := 1, cells := 0, slots := 0, locals := 21 } : Room) s m args below meth c H [] 0 0 QQ (F0 m 21 ls []) := by
        intro k
        induction k with
        | zero =>
          intro i x hk hr hxl ls hl
          refine lv_iload_n hx hb dX1_isPermutation_21 rfl (lv_at hl 3 rfl) ?_
          refine lv_aload_n hx hb dX1_isPermutation_22 rfl (lv_at hl 0 rfl) ?_
          refine va_get (D := D) (ci := 1) (v := .int (nI (n))) (C := RX1) (T := TX1) (N := 7) hx hb hts hin0 hown hK hP 0 rfl rfl 3 (by decide) hl_n (fun _ h9 => h9) rfl dX1_isPermutation_23 ?_
          refine lv_icmp_ge (tgt := 45) hx hb dX1_isPermutation_26 (by decide) (fun c_26 => ?_) (fun c_26 => ?_)
          ·
            have c_26 := (nI_leI (by omega) (by omega)).mp c_26
            refine lv_iload_n hx hb dX1_isPermutation_45 rfl (lv_at hl 2 rfl) ?_
            refine lv_iconst (v := nI (1)) hx hb dX1_isPermutation_46 (by decide) ?_
            refine lv_aload_n hx hb dX1_isPermutation_47 rfl (lv_at hl 0 rfl) ?_
            refine va_get (D := D) (ci := 1) (v := .int (nI (n))) (C := RX1) (T := TX1) (N := 7) hx hb hts hin0 hown hK hP 0 rfl rfl 3 (by decide) hl_n (fun _ h9 => h9) rfl dX1_isPermutation_48 ?_
            refine lv_ishl hx hb dX1_isPermutation_51 ?_
            refine pu_tp (nb_shl _ (by omega)) ?_
            refine lv_iconst (v := nI (1)) hx hb dX1_isPermutation_52 (by decide) ?_
            refine lv_isub hx hb dX1_isPermutation_53 ?_
            refine pu_tp (pk_sub (by have := Nat.two_pow_pos n; omega)) ?_
            refine lv_icmp_ne (tgt := 61) hx hb dX1_isPermutation_54 (by decide) (fun c_54 => ?_) (fun c_54 => ?_)
            ·
              have c_54 : ¬ _ := fun h9 => c_54 ((nb_eqI (by omega) (by have := bd_pow hn; omega)).mpr h9)
              refine lv_iconst (v := nI (0)) hx hb dX1_isPermutation_61 (by decide) ?_
              exact hret _ _ _ (by rw [isP_f2 (fun q => c_54 (hr.symm.trans q))]; rfl) dX1_isPermutation_62
            ·
              have c_54 := (nb_eqI (by omega) (by have := bd_pow hn; omega)).mp c_54
              refine lv_iconst (v := nI (1)) hx hb dX1_isPermutation_57 (by decide) ?_
              refine lv_goto (tgt := 62) hx hb dX1_isPermutation_58 (by decide) ?_
              exact hret _ _ _ (by rw [isP_t c_12 (hr.trans c_54)]; rfl) dX1_isPermutation_62
          ·
            have c_26 : ¬ _ := fun h9 => c_26 ((nI_leI (by omega) (by omega)).mpr h9)
            exfalso; omega
        | succ k ih_21 =>
          intro i x hk hr hxl ls hl
          refine lv_iload_n hx hb dX1_isPermutation_21 rfl (lv_at hl 3 rfl) ?_
          refine lv_aload_n hx hb dX1_isPermutation_22 rfl (lv_at hl 0 rfl) ?_
          refine va_get (D := D) (ci := 1) (v := .int (nI (n))) (C := RX1) (T := TX1) (N := 7) hx hb hts hin0 hown hK hP 0 rfl rfl 3 (by decide) hl_n (fun _ h9 => h9) rfl dX1_isPermutation_23 ?_
          refine lv_icmp_ge (tgt := 45) hx hb dX1_isPermutation_26 (by decide) (fun c_26 => ?_) (fun c_26 => ?_)
          ·
            have c_26 := (nI_leI (by omega) (by omega)).mp c_26
            exfalso; omega
          ·
            have c_26 : ¬ _ := fun h9 => c_26 ((nI_leI (by omega) (by omega)).mpr h9)
            refine lv_iload_n hx hb dX1_isPermutation_29 rfl (lv_at hl 2 rfl) ?_
            refine lv_iconst (v := nI (1)) hx hb dX1_isPermutation_30 (by decide) ?_
            refine lv_iload_n hx hb dX1_isPermutation_31 rfl (lv_at hl 1 rfl) ?_
            refine lv_iload_n hx hb dX1_isPermutation_32 rfl (lv_at hl 3 rfl) ?_
            refine pu_S (As := [.int (nI (P)), .int (nI (i))]) (rest := [.int (nI (1)), .int (nI (x))]) ⟨hx, hb, hml, hown, hts⟩ (kX1_image (P := P) (i := i) (by omega) (by omega)) (va_cwS 2 hts gX1_isPermutation_X1_image rfl rfl rfl eX1_image ⟨by decide, by decide⟩) hK rfl hl.1 rfl (Nat.le_of_ble_eq_true rfl) dX1_isPermutation_33 ⟨Nat.zero_le _, Nat.zero_le _⟩ ?_
            refine lv_ishl hx hb dX1_isPermutation_36 ?_
            refine pu_tp (nb_shl _ (by have := im_le P i; omega)) ?_
            refine lv_ior hx hb dX1_isPermutation_37 ?_
            refine pu_tp (nb_or _ _) ?_
            refine lv_istore_n (lv' := [(2, .int (nI (x ||| (1 * 2 ^ (im (P) (i)))))), (0, .ref h), (1, .int (nI (P))), (3, .int (nI (i)))]) hx hb dX1_isPermutation_38 rfl hl (by decide) rfl (fun ls hl => ?_)
            refine lv_iinc (v := nI (i + 1)) (lv' := [(3, .int (nI (i + 1))), (2, .int (nI (x ||| (1 * 2 ^ (im (P) (i)))))), (0, .ref h), (1, .int (nI (P)))]) hx hb dX1_isPermutation_39 hl (k := 3) rfl (nI_1 _) (by decide) rfl (fun ls hl => ?_)
            refine lv_goto (tgt := 21) hx hb dX1_isPermutation_42 (by decide) ?_
            exact ih_21 (i + 1) (x ||| 1 * 2 ^ (im P i)) (by omega) hr (Nat.or_lt_two_pow hxl (bd_pow (im_le _ _))) ls (lv_sub hl [2, 3, 1, 0] rfl)
      exact loop_21 n 0 0 (by omega) rfl (by decide) ls (lv_sub hl [2, 3, 1, 0] rfl)
    ·
      have c_12 : ¬ _ := fun h9 => c_12 ((nb_eq0 (bb_div P n hn hp)).mpr h9)
      refine lv_iconst (v := nI (0)) hx hb dX1_isPermutation_15 (by decide) ?_
      exact hret _ _ _ (by first | (rw [isP_big hn (nb_ng hp c_1)]; rfl) | (rw [isP_f1 c_12]; rfl)) dX1_isPermutation_16
theorem eX1_times : yX1_times.cls = RX1 ∧ yX1_times.cls ≠ "java/lang/invoke/MethodHandle" ∧ yX1_times.cls ≠ "java/lang/invoke/VarHandle" ∧ (parseMethodDescriptor yX1_times.desc).map (fun d => d.parameters.length) = some 2 := by decide +kernel
set_option maxHeartbeats 4000000 in
set_option maxRecDepth 100000 in
theorem kX1_times (hP : va_P D vwCl (mW cI cZ h fa ge inn wa (nI ct) (nI n) th gn iv wv) H) (hn : n ≤ 7) {P Q : Nat} (hp : P < 2 ^ 31) (hq : Q < 2 ^ 31) : pI l yX1_times wsX1_times ({ frames := 1, cells := 0, slots := 0, locals := 21 } : Room) [.ref h, .int (nI (P)), .int (nI (Q))] D (gT cI cG cZ) H (nI (tm n P Q)) := by
  refine pI_ofW (cc := cX1_times) (maxL := 5) (ret := (some .int)) (by decide) rfl (Or.inl rfl) (Nat.le_of_ble_eq_true rfl) ?_
  intro p e s m args below meth c QQ hx hb hml hown hts hK hret ls hl
  have hl : lv_has ls 5 [(0, .ref h), (1, .int (nI (P))), (2, .int (nI (Q)))] := hl
  have hown : s.vm.findClass RX1 = some m.cls := hown
  have hin0 : ∀ w ∈ wsX10, w ∈ wsX1_times := fun w h => List.mem_cons_of_mem _ (List.mem_append_right _ h)
  have hl_n : (Cond.fieldLink RX1 23 "PermGroupModel" "n" "I").before args s = true := hts _ (by decide +kernel)
  refine lv_iconst (v := nI (0)) hx hb dX1_times_0 (by decide) ?_
  refine lv_istore_n (lv' := [(3, .int (nI (0))), (0, .ref h), (1, .int (nI (P))), (2, .int (nI (Q)))]) hx hb dX1_times_1 rfl hl (by decide) rfl (fun ls hl => ?_)
  refine lv_iconst (v := nI (0)) hx hb dX1_times_2 (by decide) ?_
  refine lv_istore (lv' := [(4, .int (nI (0))), (3, .int (nI (0))), (0, .ref h), (1, .int (nI (P))), (2, .int (nI (Q)))]) hx hb dX1_times_3 hl (by decide) rfl (fun ls hl => ?_)
  have loop_5 : ∀ (k i x : Nat), (i + k = n) → (nI (tm n P Q) = nI (cpF P Q k i x)) → ∀ (ls : Array Slot), lv_has ls 5 [(0, .ref h), (1, .int (nI (P))), (2, .int (nI (Q))), (3, .int (nI (x))), (4, .int (nI (i)))] → W p l e ({ frames := 1, cells := 0, slots := 0, locals := 21 } : Room) s m args below meth c H [] 0 0 QQ (F0 m 5 ls []) := by
    intro k
    induction k with
    | zero =>
      intro i x hk hr ls hl
      refine lv_iload hx hb dX1_times_5 (lv_at hl 4 rfl) ?_
      refine lv_aload_n hx hb dX1_times_7 rfl (lv_at hl 0 rfl) ?_
      refine va_get (D := D) (ci := 1) (v := .int (nI (n))) (C := RX1) (T := TX1) (N := 7) hx hb hts hin0 hown hK hP 0 rfl rfl 3 (by decide) hl_n (fun _ h9 => h9) rfl dX1_times_8 ?_
      refine lv_icmp_ge (tgt := 38) hx hb dX1_times_11 (by decide) (fun c_11 => ?_) (fun c_11 => ?_)
      ·
        have c_11 := (nI_leI (by omega) (by omega)).mp c_11
        refine lv_iload_n hx hb dX1_times_38 rfl (lv_at hl 3 rfl) ?_
        exact hret _ _ _ (hr.symm) dX1_times_39
      ·
        have c_11 : ¬ _ := fun h9 => c_11 ((nI_leI (by omega) (by omega)).mpr h9)
        exfalso; omega
    | succ k ih_5 =>
      intro i x hk hr ls hl
      refine lv_iload hx hb dX1_times_5 (lv_at hl 4 rfl) ?_
      refine lv_aload_n hx hb dX1_times_7 rfl (lv_at hl 0 rfl) ?_
      refine va_get (D := D) (ci := 1) (v := .int (nI (n))) (C := RX1) (T := TX1) (N := 7) hx hb hts hin0 hown hK hP 0 rfl rfl 3 (by decide) hl_n (fun _ h9 => h9) rfl dX1_times_8 ?_
      refine lv_icmp_ge (tgt := 38) hx hb dX1_times_11 (by decide) (fun c_11 => ?_) (fun c_11 => ?_)
      ·
        have c_11 := (nI_leI (by omega) (by omega)).mp c_11
        exfalso; omega
      ·
        have c_11 : ¬ _ := fun h9 => c_11 ((nI_leI (by omega) (by omega)).mpr h9)
        refine lv_iload_n hx hb dX1_times_14 rfl (lv_at hl 3 rfl) ?_
        refine lv_iload_n hx hb dX1_times_15 rfl (lv_at hl 2 rfl) ?_
        refine lv_iload_n hx hb dX1_times_16 rfl (lv_at hl 1 rfl) ?_
        refine lv_iload hx hb dX1_times_17 (lv_at hl 4 rfl) ?_
        refine pu_S (As := [.int (nI (P)), .int (nI (i))]) (rest := [.int (nI (Q)), .int (nI (x))]) ⟨hx, hb, hml, hown, hts⟩ (kX1_image (P := P) (i := i) (by omega) (by omega)) (va_cwS 2 hts gX1_times_X1_image rfl rfl rfl eX1_image ⟨by decide, by decide⟩) hK rfl hl.1 rfl (Nat.le_of_ble_eq_true rfl) dX1_times_19 ⟨Nat.zero_le _, Nat.zero_le _⟩ ?_
        refine pu_S (As := [.int (nI (Q)), .int (nI (im (P) (i)))]) (rest := [.int (nI (x))]) ⟨hx, hb, hml, hown, hts⟩ (kX1_image (P := Q) (i := im P i) (by omega) (Nat.le_trans (im_le _ _) (by decide))) (va_cwS 2 hts gX1_times_X1_image rfl rfl rfl eX1_image ⟨by decide, by decide⟩) hK rfl hl.1 rfl (Nat.le_of_ble_eq_true rfl) dX1_times_22 ⟨Nat.zero_le _, Nat.zero_le _⟩ ?_
        refine lv_iconst (v := nI (3)) hx hb dX1_times_25 (by decide) ?_
        refine lv_iload hx hb dX1_times_26 (lv_at hl 4 rfl) ?_
        refine lv_imul hx hb dX1_times_28 ?_
        refine pu_tp (pk_mul _ _) ?_
        refine lv_ishl hx hb dX1_times_29 ?_
        refine pu_tp (nb_shl _ (by omega)) ?_
        refine lv_ior hx hb dX1_times_30 ?_
        refine pu_tp (nb_or _ _) ?_
        refine lv_istore_n (lv' := [(3, .int (nI (x ||| ((im (Q) (im P i)) * 2 ^ (3 * i))))), (0, .ref h), (1, .int (nI (P))), (2, .int (nI (Q))), (4, .int (nI (i)))]) hx hb dX1_times_31 rfl hl (by decide) rfl (fun ls hl => ?_)
        refine lv_iinc (v := nI (i + 1)) (lv' := [(4, .int (nI (i + 1))), (3, .int (nI (x ||| ((im (Q) (im P i)) * 2 ^ (3 * i))))), (0, .ref h), (1, .int (nI (P))), (2, .int (nI (Q)))]) hx hb dX1_times_32 hl (k := 4) rfl (nI_1 _) (by decide) rfl (fun ls hl => ?_)
        refine lv_goto (tgt := 5) hx hb dX1_times_35 (by decide) ?_
        exact ih_5 (i + 1) (x ||| im Q (im P i) * 2 ^ (3 * i)) (by omega) hr ls (lv_sub hl [2, 3, 4, 1, 0] rfl)
  exact loop_5 n 0 0 (by omega) rfl ls (lv_sub hl [2, 3, 4, 1, 0] rfl)
theorem eX1_back : yX1_back.cls = RX1 ∧ yX1_back.cls ≠ "java/lang/invoke/MethodHandle" ∧ yX1_back.cls ≠ "java/lang/invoke/VarHandle" ∧ (parseMethodDescriptor yX1_back.desc).map (fun d => d.parameters.length) = some 1 := by decide +kernel
set_option maxHeartbeats 4000000 in
set_option maxRecDepth 100000 in
theorem kX1_back (hP : va_P D vwCl (mW cI cZ h fa ge inn wa (nI ct) (nI n) th gn iv wv) H) (hn : n ≤ 7) {P : Nat} (hp : P < 2 ^ 31) : pI l yX1_back wsX1_back ({ frames := 1, cells := 0, slots := 0, locals := 21 } : Room) [.ref h, .int (nI (P))] D (gT cI cG cZ) H (nI (bk n P)) := by
  refine pI_ofW (cc := cX1_back) (maxL := 4) (ret := (some .int)) (by decide) rfl (Or.inl rfl) (Nat.le_of_ble_eq_true rfl) ?_
  intro p e s m args below meth c QQ hx hb hml hown hts hK hret ls hl
  have hl : lv_has ls 4 [(0, .ref h), (1, .int (nI (P)))] := hl
  have hown : s.vm.findClass RX1 = some m.cls := hown
  have hin0 : ∀ w ∈ wsX10, w ∈ wsX1_back := fun w h => List.mem_cons_of_mem _ (List.mem_append_right _ h)
  have hl_n : (Cond.fieldLink RX1 23 "PermGroupModel" "n" "I").before args s = true := hts _ (by decide +kernel)
  refine lv_iconst (v := nI (0)) hx hb dX1_back_0 (by decide) ?_
  refine lv_istore_n (lv' := [(2, .int (nI (0))), (0, .ref h), (1, .int (nI (P)))]) hx hb dX1_back_1 rfl hl (by decide) rfl (fun ls hl => ?_)
  refine lv_iconst (v := nI (0)) hx hb dX1_back_2 (by decide) ?_
  refine lv_istore_n (lv' := [(3, .int (nI (0))), (2, .int (nI (0))), (0, .ref h), (1, .int (nI (P)))]) hx hb dX1_back_3 rfl hl (by decide) rfl (fun ls hl => ?_)
  have loop_4 : ∀ (k i x : Nat), (i + k = n) → (nI (bk n P) = nI (bkF P k i x)) → ∀ (ls : Array Slot), lv_has ls 4 [(0, .ref h), (1, .int (nI (P))), (2, .int (nI (x))), (3, .int (nI (i)))] → W p l e ({ frames := 1, cells := 0, slots := 0, locals := 21 } : Room) s m args below meth c H [] 0 0 QQ (F0 m 4 ls []) := by
    intro k
    induction k with
    | zero =>
      intro i x hk hr ls hl
      refine lv_iload_n hx hb dX1_back_4 rfl (lv_at hl 3 rfl) ?_
      refine lv_aload_n hx hb dX1_back_5 rfl (lv_at hl 0 rfl) ?_
      refine va_get (D := D) (ci := 1) (v := .int (nI (n))) (C := RX1) (T := TX1) (N := 7) hx hb hts hin0 hown hK hP 0 rfl rfl 3 (by decide) hl_n (fun _ h9 => h9) rfl dX1_back_6 ?_
      refine lv_icmp_ge (tgt := 30) hx hb dX1_back_9 (by decide) (fun c_9 => ?_) (fun c_9 => ?_)
      ·
        have c_9 := (nI_leI (by omega) (by omega)).mp c_9
        refine lv_iload_n hx hb dX1_back_30 rfl (lv_at hl 2 rfl) ?_
        exact hret _ _ _ (hr.symm) dX1_back_31
      ·
        have c_9 : ¬ _ := fun h9 => c_9 ((nI_leI (by omega) (by omega)).mpr h9)
        exfalso; omega
    | succ k ih_4 =>
      intro i x hk hr ls hl
      refine lv_iload_n hx hb dX1_back_4 rfl (lv_at hl 3 rfl) ?_
      refine lv_aload_n hx hb dX1_back_5 rfl (lv_at hl 0 rfl) ?_
      refine va_get (D := D) (ci := 1) (v := .int (nI (n))) (C := RX1) (T := TX1) (N := 7) hx hb hts hin0 hown hK hP 0 rfl rfl 3 (by decide) hl_n (fun _ h9 => h9) rfl dX1_back_6 ?_
      refine lv_icmp_ge (tgt := 30) hx hb dX1_back_9 (by decide) (fun c_9 => ?_) (fun c_9 => ?_)
      ·
        have c_9 := (nI_leI (by omega) (by omega)).mp c_9
        exfalso; omega
      ·
        have c_9 : ¬ _ := fun h9 => c_9 ((nI_leI (by omega) (by omega)).mpr h9)
        refine lv_iload_n hx hb dX1_back_12 rfl (lv_at hl 2 rfl) ?_
        refine lv_iload_n hx hb dX1_back_13 rfl (lv_at hl 3 rfl) ?_
        refine lv_iconst (v := nI (3)) hx hb dX1_back_14 (by decide) ?_
        refine lv_iload_n hx hb dX1_back_15 rfl (lv_at hl 1 rfl) ?_
        refine lv_iload_n hx hb dX1_back_16 rfl (lv_at hl 3 rfl) ?_
        refine pu_S (As := [.int (nI (P)), .int (nI (i))]) (rest := [.int (nI (3)), .int (nI (i)), .int (nI (x))]) ⟨hx, hb, hml, hown, hts⟩ (kX1_image (P := P) (i := i) (by omega) (by omega)) (va_cwS 2 hts gX1_back_X1_image rfl rfl rfl eX1_image ⟨by decide, by decide⟩) hK rfl hl.1 rfl (Nat.le_of_ble_eq_true rfl) dX1_back_17 ⟨Nat.zero_le _, Nat.zero_le _⟩ ?_
        refine lv_imul hx hb dX1_back_20 ?_
        refine pu_tp (pk_mul _ _) ?_
        refine lv_ishl hx hb dX1_back_21 ?_
        refine pu_tp (nb_shl _ (by have := im_le P i; omega)) ?_
        refine lv_ior hx hb dX1_back_22 ?_
        refine pu_tp (nb_or _ _) ?_
        refine lv_istore_n (lv' := [(2, .int (nI (x ||| (i * 2 ^ (3 * (im (P) (i))))))), (0, .ref h), (1, .int (nI (P))), (3, .int (nI (i)))]) hx hb dX1_back_23 rfl hl (by decide) rfl (fun ls hl => ?_)
        refine lv_iinc (v := nI (i + 1)) (lv' := [(3, .int (nI (i + 1))), (2, .int (nI (x ||| (i * 2 ^ (3 * (im (P) (i))))))), (0, .ref h), (1, .int (nI (P)))]) hx hb dX1_back_24 hl (k := 3) rfl (nI_1 _) (by decide) rfl (fun ls hl => ?_)
        refine lv_goto (tgt := 4) hx hb dX1_back_27 (by decide) ?_
        exact ih_4 (i + 1) (x ||| i * 2 ^ (3 * im P i)) (by omega) hr ls (lv_sub hl [2, 3, 1, 0] rfl)
  exact loop_4 n 0 0 (by omega) rfl ls (lv_sub hl [2, 3, 1, 0] rfl)
theorem eX1_free : yX1_free.cls = RX1 ∧ yX1_free.cls ≠ "java/lang/invoke/MethodHandle" ∧ yX1_free.cls ≠ "java/lang/invoke/VarHandle" ∧ (parseMethodDescriptor yX1_free.desc).map (fun d => d.parameters.length) = some 3 := by decide +kernel
set_option maxHeartbeats 4000000 in
set_option maxRecDepth 100000 in
theorem kX1_free (hP : va_P D vwCl (mW cI cZ h fa ge inn wa (nI ct) (nI n) th gn iv wv) H) {P i y : Nat} (hp : P < 2 ^ 31) (hi : i ≤ 8) (hy : y ≤ 8) : pI l yX1_free wsX1_free ({ frames := 1, cells := 0, slots := 0, locals := 21 } : Room) [.ref h, .int (nI (P)), .int (nI (i)), .int (nI (y))] D (gT cI cG cZ) H (nI (fr P i y)) := by
  refine pI_ofW (cc := cX1_free) (maxL := 8) (ret := (some .int)) (by decide) rfl (Or.inl rfl) (Nat.le_of_ble_eq_true rfl) ?_
  intro p e s m args below meth c QQ hx hb hml hown hts hK hret ls hl
  have hl : lv_has ls 8 [(0, .ref h), (1, .int (nI (P))), (2, .int (nI (i))), (3, .int (nI (y)))] := hl
  have hown : s.vm.findClass RX1 = some m.cls := hown
  refine lv_iconst (v := nI (0)) hx hb dX1_free_0 (by decide) ?_
  refine lv_istore (lv' := [(4, .int (nI (0))), (0, .ref h), (1, .int (nI (P))), (2, .int (nI (i))), (3, .int (nI (y)))]) hx hb dX1_free_1 hl (by decide) rfl (fun ls hl => ?_)
  refine lv_iconst (v := nI (0)) hx hb dX1_free_3 (by decide) ?_
  refine lv_istore (lv' := [(5, .int (nI (0))), (4, .int (nI (0))), (0, .ref h), (1, .int (nI (P))), (2, .int (nI (i))), (3, .int (nI (y)))]) hx hb dX1_free_4 hl (by decide) rfl (fun ls hl => ?_)
  have loop_6 : ∀ (k z x : Nat), (z + k = y) → (nI (fr P i y) = nI (frF P i k z x)) → ∀ (ls : Array Slot), lv_has ls 8 [(0, .ref h), (1, .int (nI (P))), (2, .int (nI (i))), (3, .int (nI (y))), (4, .int (nI (x))), (5, .int (nI (z)))] → W p l e ({ frames := 1, cells := 0, slots := 0, locals := 21 } : Room) s m args below meth c H [] 0 0 QQ (F0 m 6 ls []) := by
    intro k
    induction k with
    | zero =>
      intro z x hk hr ls hl
      refine lv_iload hx hb dX1_free_6 (lv_at hl 5 rfl) ?_
      refine lv_iload_n hx hb dX1_free_8 rfl (lv_at hl 3 rfl) ?_
      refine lv_icmp_ge (tgt := 58) hx hb dX1_free_9 (by decide) (fun c_9 => ?_) (fun c_9 => ?_)
      ·
        have c_9 := (nI_leI (by omega) (by omega)).mp c_9
        refine lv_iload hx hb dX1_free_58 (lv_at hl 4 rfl) ?_
        exact hret _ _ _ (hr.symm) dX1_free_60
      ·
        have c_9 : ¬ _ := fun h9 => c_9 ((nI_leI (by omega) (by omega)).mpr h9)
        exfalso; omega
    | succ k ih_6 =>
      intro z x hk hr ls hl
      refine lv_iload hx hb dX1_free_6 (lv_at hl 5 rfl) ?_
      refine lv_iload_n hx hb dX1_free_8 rfl (lv_at hl 3 rfl) ?_
      refine lv_icmp_ge (tgt := 58) hx hb dX1_free_9 (by decide) (fun c_9 => ?_) (fun c_9 => ?_)
      ·
        have c_9 := (nI_leI (by omega) (by omega)).mp c_9
        exfalso; omega
      ·
        have c_9 : ¬ _ := fun h9 => c_9 ((nI_leI (by omega) (by omega)).mpr h9)
        refine lv_iconst (v := nI (0)) hx hb dX1_free_12 (by decide) ?_
        refine lv_istore (lv' := [(6, .int (nI (0))), (0, .ref h), (1, .int (nI (P))), (2, .int (nI (i))), (3, .int (nI (y))), (4, .int (nI (x))), (5, .int (nI (z)))]) hx hb dX1_free_13 hl (by decide) rfl (fun ls hl => ?_)
        refine lv_iconst (v := nI (0)) hx hb dX1_free_15 (by decide) ?_
        refine lv_istore (lv' := [(7, .int (nI (0))), (6, .int (nI (0))), (0, .ref h), (1, .int (nI (P))), (2, .int (nI (i))), (3, .int (nI (y))), (4, .int (nI (x))), (5, .int (nI (z)))]) hx hb dX1_free_16 hl (by decide) rfl (fun ls hl => ?_)
        have loop_18 : ∀ (k2 j : Nat) (u : Bool), (j + k2 = i) → (frI P z i 0 false = frI P z k2 j u) → ∀ (ls : Array Slot), lv_has ls 8 [(0, .ref h), (1, .int (nI (P))), (2, .int (nI (i))), (3, .int (nI (y))), (4, .int (nI (x))), (5, .int (nI (z))), (6, .int (b01 (u))), (7, .int (nI (j)))] → W p l e ({ frames := 1, cells := 0, slots := 0, locals := 21 } : Room) s m args below meth c H [] 0 0 QQ (F0 m 18 ls []) := by
          intro k2
          induction k2 with
          | zero =>
            intro j u hk2 hr2 ls hl
            refine lv_iload hx hb dX1_free_18 (lv_at hl 7 rfl) ?_
            refine lv_iload_n hx hb dX1_free_20 rfl (lv_at hl 2 rfl) ?_
            refine lv_icmp_ge (tgt := 44) hx hb dX1_free_21 (by decide) (fun c_21 => ?_) (fun c_21 => ?_)
            ·
              have c_21 := (nI_leI (by omega) (by omega)).mp c_21
              refine lv_iload hx hb dX1_free_44 (lv_at hl 6 rfl) ?_
              refine lv_if_ne (tgt := 52) hx hb dX1_free_46 (by decide) (fun c_46 => ?_) (fun c_46 => ?_)
              ·
                have c_46 := b01_t c_46
                refine lv_iinc (v := nI (z + 1)) (lv' := [(5, .int (nI (z + 1))), (0, .ref h), (1, .int (nI (P))), (2, .int (nI (i))), (3, .int (nI (y))), (4, .int (nI (x))), (6, .int (b01 (u))), (7, .int (nI (j)))]) hx hb dX1_free_52 hl (k := 5) rfl (nI_1 _) (by decide) rfl (fun ls hl => ?_)
                refine lv_goto (tgt := 6) hx hb dX1_free_55 (by decide) ?_
                exact ih_6 (z + 1) x (by omega) (hr.trans (congrArg nI (frF_t (hr2.trans c_46)))) ls (lv_sub hl [1, 2, 3, 4, 5, 0] rfl)
              ·
                have c_46 := b01_f c_46
                refine lv_iinc (v := nI (x + 1)) (lv' := [(4, .int (nI (x + 1))), (0, .ref h), (1, .int (nI (P))), (2, .int (nI (i))), (3, .int (nI (y))), (5, .int (nI (z))), (6, .int (b01 (u))), (7, .int (nI (j)))]) hx hb dX1_free_49 hl (k := 4) rfl (nI_1 _) (by decide) rfl (fun ls hl => ?_)
                refine lv_iinc (v := nI (z + 1)) (lv' := [(5, .int (nI (z + 1))), (4, .int (nI (x + 1))), (0, .ref h), (1, .int (nI (P))), (2, .int (nI (i))), (3, .int (nI (y))), (6, .int (b01 (u))), (7, .int (nI (j)))]) hx hb dX1_free_52 hl (k := 5) rfl (nI_1 _) (by decide) rfl (fun ls hl => ?_)
                refine lv_goto (tgt := 6) hx hb dX1_free_55 (by decide) ?_
                exact ih_6 (z + 1) (x + 1) (by omega) (hr.trans (congrArg nI (frF_f (hr2.trans c_46)))) ls (lv_sub hl [2, 3, 4, 5, 1, 0] rfl)
            ·
              have c_21 : ¬ _ := fun h9 => c_21 ((nI_leI (by omega) (by omega)).mpr h9)
              exfalso; omega
          | succ k2 ih_18 =>
            intro j u hk2 hr2 ls hl
            refine lv_iload hx hb dX1_free_18 (lv_at hl 7 rfl) ?_
            refine lv_iload_n hx hb dX1_free_20 rfl (lv_at hl 2 rfl) ?_
            refine lv_icmp_ge (tgt := 44) hx hb dX1_free_21 (by decide) (fun c_21 => ?_) (fun c_21 => ?_)
            ·
              have c_21 := (nI_leI (by omega) (by omega)).mp c_21
              exfalso; omega
            ·
              have c_21 : ¬ _ := fun h9 => c_21 ((nI_leI (by omega) (by omega)).mpr h9)
              refine lv_iload_n hx hb dX1_free_24 rfl (lv_at hl 1 rfl) ?_
              refine lv_iload hx hb dX1_free_25 (lv_at hl 7 rfl) ?_
              refine pu_S (As := [.int (nI (P)), .int (nI (j))]) (rest := []) ⟨hx, hb, hml, hown, hts⟩ (kX1_image (P := P) (i := j) (by omega) (by omega)) (va_cwS 2 hts gX1_free_X1_image rfl rfl rfl eX1_image ⟨by decide, by decide⟩) hK rfl hl.1 rfl (Nat.le_of_ble_eq_true rfl) dX1_free_27 ⟨Nat.zero_le _, Nat.zero_le _⟩ ?_
              refine lv_iload hx hb dX1_free_30 (lv_at hl 5 rfl) ?_
              refine lv_icmp_ne (tgt := 38) hx hb dX1_free_32 (by decide) (fun c_32 => ?_) (fun c_32 => ?_)
              ·
                have c_32 : ¬ _ := fun h9 => c_32 ((nb_eqI (Nat.lt_trans (im_lt _ _) (by decide)) (by omega)).mpr h9)
                refine lv_iinc (v := nI (j + 1)) (lv' := [(7, .int (nI (j + 1))), (0, .ref h), (1, .int (nI (P))), (2, .int (nI (i))), (3, .int (nI (y))), (4, .int (nI (x))), (5, .int (nI (z))), (6, .int (b01 (u)))]) hx hb dX1_free_38 hl (k := 7) rfl (nI_1 _) (by decide) rfl (fun ls hl => ?_)
                refine lv_goto (tgt := 18) hx hb dX1_free_41 (by decide) ?_
                exact ih_18 (j + 1) u (by omega) (hr2.trans (frI_f c_32)) ls (lv_sub hl [1, 2, 3, 4, 5, 6, 7, 0] rfl)
              ·
                have c_32 := (nb_eqI (Nat.lt_trans (im_lt _ _) (by decide)) (by omega)).mp c_32
                refine lv_iconst (v := nI (1)) hx hb dX1_free_35 (by decide) ?_
                refine lv_istore (lv' := [(6, .int (nI (1))), (0, .ref h), (1, .int (nI (P))), (2, .int (nI (i))), (3, .int (nI (y))), (4, .int (nI (x))), (5, .int (nI (z))), (7, .int (nI (j)))]) hx hb dX1_free_36 hl (by decide) rfl (fun ls hl => ?_)
                refine lv_iinc (v := nI (j + 1)) (lv' := [(7, .int (nI (j + 1))), (6, .int (nI (1))), (0, .ref h), (1, .int (nI (P))), (2, .int (nI (i))), (3, .int (nI (y))), (4, .int (nI (x))), (5, .int (nI (z)))]) hx hb dX1_free_38 hl (k := 7) rfl (nI_1 _) (by decide) rfl (fun ls hl => ?_)
                refine lv_goto (tgt := 18) hx hb dX1_free_41 (by decide) ?_
                exact ih_18 (j + 1) true (by omega) (hr2.trans (frI_t c_32)) ls (lv_sub hl [2, 3, 4, 5, 6, 7, 1, 0] rfl)
        exact loop_18 i 0 false (by omega) rfl ls (lv_sub hl [2, 3, 4, 5, 6, 7, 1, 0] rfl)
  exact loop_6 y 0 0 (by omega) rfl ls (lv_sub hl [2, 3, 4, 5, 1, 0] rfl)
theorem eX1_numberOf : yX1_numberOf.cls = RX1 ∧ yX1_numberOf.cls ≠ "java/lang/invoke/MethodHandle" ∧ yX1_numberOf.cls ≠ "java/lang/invoke/VarHandle" ∧ (parseMethodDescriptor yX1_numberOf.desc).map (fun d => d.parameters.length) = some 1 := by decide +kernel
set_option maxHeartbeats 4000000 in
set_option maxRecDepth 100000 in
theorem kX1_numberOf (hP : va_P D vwCl (mW cI cZ h fa ge inn wa (nI ct) (nI n) th gn iv wv) H) (hn : n ≤ 7) {P : Nat} (hp : P < 2 ^ 31) : pI l yX1_numberOf wsX1_numberOf ({ frames := 2, cells := 0, slots := 0, locals := 48 } : Room) [.ref h, .int (nI (P))] D (gT cI cG cZ) H (nI (nu n P)) := by
  refine pI_ofW (cc := cX1_numberOf) (maxL := 4) (ret := (some .int)) (by decide) rfl (Or.inl rfl) (Nat.le_of_ble_eq_true rfl) ?_
  intro p e s m args below meth c QQ hx hb hml hown hts hK hret ls hl
  have hl : lv_has ls 4 [(0, .ref h), (1, .int (nI (P)))] := hl
  have hown : s.vm.findClass RX1 = some m.cls := hown
  have hin0 : ∀ w ∈ wsX10, w ∈ wsX1_numberOf := fun w h => List.mem_cons_of_mem _ (List.mem_append_right _ h)
  have hl_factorials : (Cond.fieldLink RX1 7 "PermGroupModel" "factorials" "[I").before args s = true := hts _ (by decide +kernel)
  have hl_n : (Cond.fieldLink RX1 23 "PermGroupModel" "n" "I").before args s = true := hts _ (by decide +kernel)
  refine lv_iconst (v := nI (0)) hx hb dX1_numberOf_0 (by decide) ?_
  refine lv_istore_n (lv' := [(2, .int (nI (0))), (0, .ref h), (1, .int (nI (P)))]) hx hb dX1_numberOf_1 rfl hl (by decide) rfl (fun ls hl => ?_)
  refine lv_iconst (v := nI (0)) hx hb dX1_numberOf_2 (by decide) ?_
  refine lv_istore_n (lv' := [(3, .int (nI (0))), (2, .int (nI (0))), (0, .ref h), (1, .int (nI (P)))]) hx hb dX1_numberOf_3 rfl hl (by decide) rfl (fun ls hl => ?_)
  have loop_4 : ∀ (k i x : Nat), (i + k = n) → (nI (nu n P) = nI (nuF n P k i x)) → ∀ (ls : Array Slot), lv_has ls 4 [(0, .ref h), (1, .int (nI (P))), (2, .int (nI (x))), (3, .int (nI (i)))] → W p l e ({ frames := 2, cells := 0, slots := 0, locals := 48 } : Room) s m args below meth c H [] 0 0 QQ (F0 m 4 ls []) := by
    intro k
    induction k with
    | zero =>
      intro i x hk hr ls hl
      refine lv_iload_n hx hb dX1_numberOf_4 rfl (lv_at hl 3 rfl) ?_
      refine lv_aload_n hx hb dX1_numberOf_5 rfl (lv_at hl 0 rfl) ?_
      refine va_get (D := D) (ci := 1) (v := .int (nI (n))) (C := RX1) (T := TX1) (N := 7) hx hb hts hin0 hown hK hP 0 rfl rfl 3 (by decide) hl_n (fun _ h9 => h9) rfl dX1_numberOf_6 ?_
      refine lv_icmp_ge (tgt := 46) hx hb dX1_numberOf_9 (by decide) (fun c_9 => ?_) (fun c_9 => ?_)
      ·
        have c_9 := (nI_leI (by omega) (by omega)).mp c_9
        refine lv_iload_n hx hb dX1_numberOf_46 rfl (lv_at hl 2 rfl) ?_
        exact hret _ _ _ (hr.symm) dX1_numberOf_47
      ·
        have c_9 : ¬ _ := fun h9 => c_9 ((nI_leI (by omega) (by omega)).mpr h9)
        exfalso; omega
    | succ k ih_4 =>
      intro i x hk hr ls hl
      refine lv_iload_n hx hb dX1_numberOf_4 rfl (lv_at hl 3 rfl) ?_
      refine lv_aload_n hx hb dX1_numberOf_5 rfl (lv_at hl 0 rfl) ?_
      refine va_get (D := D) (ci := 1) (v := .int (nI (n))) (C := RX1) (T := TX1) (N := 7) hx hb hts hin0 hown hK hP 0 rfl rfl 3 (by decide) hl_n (fun _ h9 => h9) rfl dX1_numberOf_6 ?_
      refine lv_icmp_ge (tgt := 46) hx hb dX1_numberOf_9 (by decide) (fun c_9 => ?_) (fun c_9 => ?_)
      ·
        have c_9 := (nI_leI (by omega) (by omega)).mp c_9
        exfalso; omega
      ·
        have c_9 : ¬ _ := fun h9 => c_9 ((nI_leI (by omega) (by omega)).mpr h9)
        refine lv_iload_n hx hb dX1_numberOf_12 rfl (lv_at hl 2 rfl) ?_
        refine lv_aload_n hx hb dX1_numberOf_13 rfl (lv_at hl 0 rfl) ?_
        refine lv_iload_n hx hb dX1_numberOf_14 rfl (lv_at hl 1 rfl) ?_
        refine lv_iload_n hx hb dX1_numberOf_15 rfl (lv_at hl 3 rfl) ?_
        refine lv_iload_n hx hb dX1_numberOf_16 rfl (lv_at hl 1 rfl) ?_
        refine lv_iload_n hx hb dX1_numberOf_17 rfl (lv_at hl 3 rfl) ?_
        refine pu_S (As := [.int (nI (P)), .int (nI (i))]) (rest := [.int (nI (i)), .int (nI (P)), .ref h, .int (nI (x))]) ⟨hx, hb, hml, hown, hts⟩ (kX1_image (P := P) (i := i) (by omega) (by omega)) (va_cwS 2 hts gX1_numberOf_X1_image rfl rfl rfl eX1_image ⟨by decide, by decide⟩) hK rfl hl.1 rfl (Nat.le_of_ble_eq_true rfl) dX1_numberOf_18 ⟨Nat.zero_le _, Nat.zero_le _⟩ ?_
        refine pu_V (As := [.int (nI (P)), .int (nI (i)), .int (nI (im (P) (i)))]) (rest := [.int (nI (x))]) (b := h) ⟨hx, hb, hml, hown, hts⟩ (kX1_free hP (P := P) (i := i) (y := im P i) (by omega) (by omega) (Nat.le_of_lt (im_lt _ _))) (cwV 3 hts gX1_numberOf_X1_free rfl rfl rfl eX1_free ⟨by decide, by decide⟩) (va_recv hK hP (ci := 1) (q0 := 0) rfl rfl) hK rfl hl.1 rfl (Nat.le_of_ble_eq_true rfl) dX1_numberOf_21 ⟨Nat.zero_le _, Nat.zero_le _⟩ ?_
        refine lv_aload_n hx hb dX1_numberOf_24 rfl (lv_at hl 0 rfl) ?_
        refine va_get (D := D) (ci := 1) (v := .ref fa) (C := RX1) (T := TX1) (N := 7) hx hb hts hin0 hown hK hP 0 rfl rfl 0 (by decide) hl_factorials (fun _ h9 => h9) rfl dX1_numberOf_25 ?_
        refine lv_aload_n hx hb dX1_numberOf_28 rfl (lv_at hl 0 rfl) ?_
        refine va_get (D := D) (ci := 1) (v := .int (nI (n))) (C := RX1) (T := TX1) (N := 7) hx hb hts hin0 hown hK hP 0 rfl rfl 3 (by decide) hl_n (fun _ h9 => h9) rfl dX1_numberOf_29 ?_
        refine lv_iconst (v := nI (1)) hx hb dX1_numberOf_32 (by decide) ?_
        refine lv_isub hx hb dX1_numberOf_33 ?_
        refine pu_tp (pk_sub (by omega)) ?_
        refine lv_iload_n hx hb dX1_numberOf_34 rfl (lv_at hl 3 rfl) ?_
        refine lv_isub hx hb dX1_numberOf_35 ?_
        refine pu_tp (pk_sub (by omega)) ?_
        refine va_iald hx hb hK hP 1 0 rfl rfl (vp_in_nI (by omega) (by omega)) dX1_numberOf_36 ?_
        refine pu_tp (nb_clamp (f := facI) (by omega)) ?_
        refine pu_tp (z := nI (fac (n - 1 - i))) (facI_eq (by omega)) ?_
        refine lv_imul hx hb dX1_numberOf_37 ?_
        refine pu_tp (pk_mul _ _) ?_
        refine lv_iadd hx hb dX1_numberOf_38 ?_
        refine pu_tp (nI_add _ _) ?_
        refine lv_istore_n (lv' := [(2, .int (nI (x + ((fr (P) (i) (im P i)) * (fac (n - 1 - i)))))), (0, .ref h), (1, .int (nI (P))), (3, .int (nI (i)))]) hx hb dX1_numberOf_39 rfl hl (by decide) rfl (fun ls hl => ?_)
        refine lv_iinc (v := nI (i + 1)) (lv' := [(3, .int (nI (i + 1))), (2, .int (nI (x + ((fr (P) (i) (im P i)) * (fac (n - 1 - i)))))), (0, .ref h), (1, .int (nI (P)))]) hx hb dX1_numberOf_40 hl (k := 3) rfl (nI_1 _) (by decide) rfl (fun ls hl => ?_)
        refine lv_goto (tgt := 4) hx hb dX1_numberOf_43 (by decide) ?_
        exact ih_4 (i + 1) (x + fr P i (im P i) * fac (n - 1 - i)) (by omega) hr ls (lv_sub hl [2, 3, 1, 0] rfl)
  exact loop_4 n 0 0 (by omega) rfl ls (lv_sub hl [2, 3, 1, 0] rfl)
theorem eX1_isUsed : yX1_isUsed.cls ≠ "java/lang/invoke/MethodHandle" ∧ yX1_isUsed.cls ≠ "java/lang/invoke/VarHandle" ∧ (parseMethodDescriptor yX1_isUsed.desc).map (fun d => d.parameters.length) = some 3 := by decide +kernel
set_option maxHeartbeats 4000000 in
set_option maxRecDepth 100000 in
theorem kX1_isUsed {P i y : Nat} (hp : P < 2 ^ 31) (hi : i ≤ 8) (hy : y < 2 ^ 31) : pI l yX1_isUsed wsX1_isUsed ({ frames := 1, cells := 0, slots := 0, locals := 21 } : Room) [.int (nI (P)), .int (nI (i)), .int (nI (y))] D (gT cI cG cZ) H (b01 (us P i y)) := by
  refine pI_ofW (cc := cX1_isUsed) (maxL := 4) (ret := (some .boolean)) (by decide) rfl (Or.inr ⟨rfl, b01_or _⟩) (Nat.le_of_ble_eq_true rfl) ?_
  intro p e s m args below meth c QQ hx hb hml hown hts hK hret ls hl
  have hl : lv_has ls 4 [(0, .int (nI (P))), (1, .int (nI (i))), (2, .int (nI (y)))] := hl
  have hown : s.vm.findClass RX1 = some m.cls := hown
  refine lv_iconst (v := nI (0)) hx hb dX1_isUsed_0 (by decide) ?_
  refine lv_istore_n (lv' := [(3, .int (nI (0))), (0, .int (nI (P))), (1, .int (nI (i))), (2, .int (nI (y)))]) hx hb dX1_isUsed_1 rfl hl (by decide) rfl (fun ls hl => ?_)
  have loop_2 : ∀ (k j : Nat), (j + k = i) → (us P i y = usF P y k j) → ∀ (ls : Array Slot), lv_has ls 4 [(0, .int (nI (P))), (1, .int (nI (i))), (2, .int (nI (y))), (3, .int (nI (j)))] → W p l e ({ frames := 1, cells := 0, slots := 0, locals := 21 } : Room) s m args below meth c H [] 0 0 QQ (F0 m 2 ls []) := by
    intro k
    induction k with
    | zero =>
      intro j hk hr ls hl
      refine lv_iload_n hx hb dX1_isUsed_2 rfl (lv_at hl 3 rfl) ?_
      refine lv_iload_n hx hb dX1_isUsed_3 rfl (lv_at hl 1 rfl) ?_
      refine lv_icmp_ge (tgt := 24) hx hb dX1_isUsed_4 (by decide) (fun c_4 => ?_) (fun c_4 => ?_)
      ·
        have c_4 := (nI_leI (by omega) (by omega)).mp c_4
        refine lv_iconst (v := nI (0)) hx hb dX1_isUsed_24 (by decide) ?_
        exact hret _ _ _ (by rw [hr]; rfl) dX1_isUsed_25
      ·
        have c_4 : ¬ _ := fun h9 => c_4 ((nI_leI (by omega) (by omega)).mpr h9)
        exfalso; omega
    | succ k ih_2 =>
      intro j hk hr ls hl
      refine lv_iload_n hx hb dX1_isUsed_2 rfl (lv_at hl 3 rfl) ?_
      refine lv_iload_n hx hb dX1_isUsed_3 rfl (lv_at hl 1 rfl) ?_
      refine lv_icmp_ge (tgt := 24) hx hb dX1_isUsed_4 (by decide) (fun c_4 => ?_) (fun c_4 => ?_)
      ·
        have c_4 := (nI_leI (by omega) (by omega)).mp c_4
        exfalso; omega
      ·
        have c_4 : ¬ _ := fun h9 => c_4 ((nI_leI (by omega) (by omega)).mpr h9)
        refine lv_iload_n hx hb dX1_isUsed_7 rfl (lv_at hl 0 rfl) ?_
        refine lv_iload_n hx hb dX1_isUsed_8 rfl (lv_at hl 3 rfl) ?_
        refine pu_S (As := [.int (nI (P)), .int (nI (j))]) (rest := []) ⟨hx, hb, hml, hown, hts⟩ (kX1_image (P := P) (i := j) (by omega) (by omega)) (va_cwS 2 hts gX1_isUsed_X1_image rfl rfl rfl eX1_image ⟨by decide, by decide⟩) hK rfl hl.1 rfl (Nat.le_of_ble_eq_true rfl) dX1_isUsed_9 ⟨Nat.zero_le _, Nat.zero_le _⟩ ?_
        refine lv_iload_n hx hb dX1_isUsed_12 rfl (lv_at hl 2 rfl) ?_
        refine lv_icmp_ne (tgt := 18) hx hb dX1_isUsed_13 (by decide) (fun c_13 => ?_) (fun c_13 => ?_)
        ·
          have c_13 : ¬ _ := fun h9 => c_13 ((nb_eqI (Nat.lt_trans (im_lt _ _) (by decide)) (by omega)).mpr h9)
          refine lv_iinc (v := nI (j + 1)) (lv' := [(3, .int (nI (j + 1))), (0, .int (nI (P))), (1, .int (nI (i))), (2, .int (nI (y)))]) hx hb dX1_isUsed_18 hl (k := 3) rfl (nI_1 _) (by decide) rfl (fun ls hl => ?_)
          refine lv_goto (tgt := 2) hx hb dX1_isUsed_21 (by decide) ?_
          exact ih_2 (j + 1) (by omega) (hr.trans (if_neg c_13)) ls (lv_sub hl [1, 2, 3, 0] rfl)
        ·
          have c_13 := (nb_eqI (Nat.lt_trans (im_lt _ _) (by decide)) (by omega)).mp c_13
          refine lv_iconst (v := nI (1)) hx hb dX1_isUsed_16 (by decide) ?_
          exact hret _ _ _ (by rw [hr.trans (if_pos c_13)]; rfl) dX1_isUsed_17
  exact loop_2 i 0 (by omega) rfl ls (lv_sub hl [1, 2, 3, 0] rfl)
theorem eX1_permutation : yX1_permutation.cls = RX1 ∧ yX1_permutation.cls ≠ "java/lang/invoke/MethodHandle" ∧ yX1_permutation.cls ≠ "java/lang/invoke/VarHandle" ∧ (parseMethodDescriptor yX1_permutation.desc).map (fun d => d.parameters.length) = some 1 := by decide +kernel
set_option maxHeartbeats 4000000 in
set_option maxRecDepth 100000 in
theorem kX1_permutation (hP : va_P D vwCl (mW cI cZ h fa ge inn wa (nI ct) (nI n) th gn iv wv) H) (hn : n ≤ 7) {q : Nat} (hq : q < 2 ^ 31) : pI l yX1_permutation wsX1_permutation ({ frames := 2, cells := 0, slots := 0, locals := 48 } : Room) [.ref h, .int (nI (q))] D (gT cI cG cZ) H (nI (pe n q)) := by
  refine pI_ofW (cc := cX1_permutation) (maxL := 7) (ret := (some .int)) (by decide) rfl (Or.inl rfl) (Nat.le_of_ble_eq_true rfl) ?_
  intro p e s m args below meth c QQ hx hb hml hown hts hK hret ls hl
  have hl : lv_has ls 7 [(0, .ref h), (1, .int (nI (q)))] := hl
  have hown : s.vm.findClass RX1 = some m.cls := hown
  have hin0 : ∀ w ∈ wsX10, w ∈ wsX1_permutation := fun w h => List.mem_cons_of_mem _ (List.mem_append_right _ h)
  have hl_factorials : (Cond.fieldLink RX1 7 "PermGroupModel" "factorials" "[I").before args s = true := hts _ (by decide +kernel)
  have hl_n : (Cond.fieldLink RX1 23 "PermGroupModel" "n" "I").before args s = true := hts _ (by decide +kernel)
  refine lv_iconst (v := nI (0)) hx hb dX1_permutation_0 (by decide) ?_
  refine lv_istore_n (lv' := [(2, .int (nI (0))), (0, .ref h), (1, .int (nI (q)))]) hx hb dX1_permutation_1 rfl hl (by decide) rfl (fun ls hl => ?_)
  refine lv_iload_n hx hb dX1_permutation_2 rfl (lv_at hl 2 rfl) ?_
  refine lv_istore_n (lv' := [(3, .int (nI (q))), (2, .int (nI (0))), (0, .ref h), (1, .int (nI (q)))]) hx hb dX1_permutation_3 rfl hl (by decide) rfl (fun ls hl => ?_)
  refine lv_iconst (v := nI (0)) hx hb dX1_permutation_4 (by decide) ?_
  refine lv_istore (lv' := [(4, .int (nI (0))), (3, .int (nI (q))), (2, .int (nI (0))), (0, .ref h), (1, .int (nI (q)))]) hx hb dX1_permutation_5 hl (by decide) rfl (fun ls hl => ?_)
  have loop_7 : ∀ (k i x r : Nat), (i + k = n) → (nI (pe n q) = nI (peF n k i x r)) → (x < 2 ^ 24) → (r < 2 ^ 31) → ∀ (ls : Array Slot), lv_has ls 7 [(0, .ref h), (2, .int (nI (x))), (3, .int (nI (r))), (4, .int (nI (i)))] → W p l e ({ frames := 2, cells := 0, slots := 0, locals := 48 } : Room) s m args below meth c H [] 0 0 QQ (F0 m 7 ls []) := by
    intro k
    induction k with
    | zero =>
      intro i x r hk hr hxl hrl ls hl
      refine lv_iload hx hb dX1_permutation_7 (lv_at hl 3 rfl) ?_
      refine lv_aload_n hx hb dX1_permutation_9 rfl (lv_at hl 0 rfl) ?_
      refine va_get (D := D) (ci := 1) (v := .int (nI (n))) (C := RX1) (T := TX1) (N := 7) hx hb hts hin0 hown hK hP 0 rfl rfl 3 (by decide) hl_n (fun _ h9 => h9) rfl dX1_permutation_10 ?_
      refine lv_icmp_ge (tgt := 108) hx hb dX1_permutation_13 (by decide) (fun c_13 => ?_) (fun c_13 => ?_)
      ·
        have c_13 := (nI_leI (by omega) (by omega)).mp c_13
        refine lv_iload_n hx hb dX1_permutation_108 rfl (lv_at hl 1 rfl) ?_
        exact hret _ _ _ (hr.symm) dX1_permutation_109
      ·
        have c_13 : ¬ _ := fun h9 => c_13 ((nI_leI (by omega) (by omega)).mpr h9)
        exfalso; omega
    | succ k ih_7 =>
      intro i x r hk hr hxl hrl ls hl
      refine lv_iload hx hb dX1_permutation_7 (lv_at hl 3 rfl) ?_
      refine lv_aload_n hx hb dX1_permutation_9 rfl (lv_at hl 0 rfl) ?_
      refine va_get (D := D) (ci := 1) (v := .int (nI (n))) (C := RX1) (T := TX1) (N := 7) hx hb hts hin0 hown hK hP 0 rfl rfl 3 (by decide) hl_n (fun _ h9 => h9) rfl dX1_permutation_10 ?_
      refine lv_icmp_ge (tgt := 108) hx hb dX1_permutation_13 (by decide) (fun c_13 => ?_) (fun c_13 => ?_)
      ·
        have c_13 := (nI_leI (by omega) (by omega)).mp c_13
        exfalso; omega
      ·
        have c_13 : ¬ _ := fun h9 => c_13 ((nI_leI (by omega) (by omega)).mpr h9)
        have hfb := fac_bd (n - 1 - i) (by omega)
        refine lv_iload_n hx hb dX1_permutation_16 rfl (lv_at hl 2 rfl) ?_
        refine lv_aload_n hx hb dX1_permutation_17 rfl (lv_at hl 0 rfl) ?_
        refine va_get (D := D) (ci := 1) (v := .ref fa) (C := RX1) (T := TX1) (N := 7) hx hb hts hin0 hown hK hP 0 rfl rfl 0 (by decide) hl_factorials (fun _ h9 => h9) rfl dX1_permutation_18 ?_
        refine lv_aload_n hx hb dX1_permutation_21 rfl (lv_at hl 0 rfl) ?_
        refine va_get (D := D) (ci := 1) (v := .int (nI (n))) (C := RX1) (T := TX1) (N := 7) hx hb hts hin0 hown hK hP 0 rfl rfl 3 (by decide) hl_n (fun _ h9 => h9) rfl dX1_permutation_22 ?_
        refine lv_iconst (v := nI (1)) hx hb dX1_permutation_25 (by decide) ?_
        refine lv_isub hx hb dX1_permutation_26 ?_
        refine pu_tp (pk_sub (by omega)) ?_
        refine lv_iload hx hb dX1_permutation_27 (lv_at hl 3 rfl) ?_
        refine lv_isub hx hb dX1_permutation_29 ?_
        refine pu_tp (pk_sub (by omega)) ?_
        refine va_iald hx hb hK hP 1 0 rfl rfl (vp_in_nI (by omega) (by omega)) dX1_permutation_30 ?_
        refine pu_tp (nb_clamp (f := facI) (by omega)) ?_
        refine pu_tp (z := nI (fac (n - 1 - i))) (facI_eq (by omega)) ?_
        refine lv_idiv hx hb dX1_permutation_31 (nI_ne0 hfb.1 (by omega)) ?_
        refine pu_tp (pk_div hrl hfb.1 (by omega)) ?_
        refine lv_istore (lv' := [(5, .int (nI (r / (fac (n - 1 - i))))), (0, .ref h), (2, .int (nI (x))), (3, .int (nI (r))), (4, .int (nI (i)))]) hx hb dX1_permutation_32 hl (by decide) rfl (fun ls hl => ?_)
        refine lv_iload_n hx hb dX1_permutation_34 rfl (lv_at hl 3 rfl) ?_
        refine lv_aload_n hx hb dX1_permutation_35 rfl (lv_at hl 1 rfl) ?_
        refine va_get (D := D) (ci := 1) (v := .ref fa) (C := RX1) (T := TX1) (N := 7) hx hb hts hin0 hown hK hP 0 rfl rfl 0 (by decide) hl_factorials (fun _ h9 => h9) rfl dX1_permutation_36 ?_
        refine lv_aload_n hx hb dX1_permutation_39 rfl (lv_at hl 1 rfl) ?_
        refine va_get (D := D) (ci := 1) (v := .int (nI (n))) (C := RX1) (T := TX1) (N := 7) hx hb hts hin0 hown hK hP 0 rfl rfl 3 (by decide) hl_n (fun _ h9 => h9) rfl dX1_permutation_40 ?_
        refine lv_iconst (v := nI (1)) hx hb dX1_permutation_43 (by decide) ?_
        refine lv_isub hx hb dX1_permutation_44 ?_
        refine pu_tp (pk_sub (by omega)) ?_
        refine lv_iload hx hb dX1_permutation_45 (lv_at hl 4 rfl) ?_
        refine lv_isub hx hb dX1_permutation_47 ?_
        refine pu_tp (pk_sub (by omega)) ?_
        refine va_iald hx hb hK hP 1 0 rfl rfl (vp_in_nI (by omega) (by omega)) dX1_permutation_48 ?_
        refine pu_tp (nb_clamp (f := facI) (by omega)) ?_
        refine pu_tp (z := nI (fac (n - 1 - i))) (facI_eq (by omega)) ?_
        refine lv_irem hx hb dX1_permutation_49 (nI_ne0 hfb.1 (by omega)) ?_
        refine pu_tp (pk_rem hrl hfb.1 (by omega)) ?_
        refine lv_istore_n (lv' := [(3, .int (nI (r % (fac (n - 1 - i))))), (5, .int (nI (r / (fac (n - 1 - i))))), (0, .ref h), (2, .int (nI (x))), (4, .int (nI (i)))]) hx hb dX1_permutation_50 rfl hl (by decide) rfl (fun ls hl => ?_)
        refine lv_iconst (v := nI (0)) hx hb dX1_permutation_51 (by decide) ?_
        refine lv_istore (lv' := [(6, .int (nI (0))), (3, .int (nI (r % (fac (n - 1 - i))))), (5, .int (nI (r / (fac (n - 1 - i))))), (0, .ref h), (2, .int (nI (x))), (4, .int (nI (i)))]) hx hb dX1_permutation_52 hl (by decide) rfl (fun ls hl => ?_)
        have loop_54 : ∀ (k2 y : Nat), (y + k2 = 7) → (peY x i (r / fac (n - 1 - i)) 7 0 = peY x i (r / fac (n - 1 - i)) k2 y) → ∀ (ls : Array Slot), lv_has ls 7 [(0, .ref h), (2, .int (nI (x))), (3, .int (nI (r % fac (n - 1 - i)))), (4, .int (nI (i))), (5, .int (nI (r / fac (n - 1 - i)))), (6, .int (nI (y)))] → W p l e ({ frames := 2, cells := 0, slots := 0, locals := 48 } : Room) s m args below meth c H [] 0 0 QQ (F0 m 54 ls []) := by
          intro k2
          induction k2 with
          | zero =>
            intro y hk2 hr2 ls hl
            refine lv_iload hx hb dX1_permutation_54 (lv_at hl 5 rfl) ?_
            refine lv_bipush (v := nI (7)) hx hb dX1_permutation_56 (by decide) ?_
            refine lv_icmp_ge (tgt := 92) hx hb dX1_permutation_58 (by decide) (fun c_58 => ?_) (fun c_58 => ?_)
            ·
              have c_58 := (nI_leI (by omega) (by omega)).mp c_58
              refine lv_iload_n hx hb dX1_permutation_92 rfl (lv_at hl 1 rfl) ?_
              refine lv_iload hx hb dX1_permutation_93 (lv_at hl 5 rfl) ?_
              refine lv_iconst (v := nI (3)) hx hb dX1_permutation_95 (by decide) ?_
              refine lv_iload hx hb dX1_permutation_96 (lv_at hl 3 rfl) ?_
              refine lv_imul hx hb dX1_permutation_98 ?_
              refine pu_tp (pk_mul _ _) ?_
              refine lv_ishl hx hb dX1_permutation_99 ?_
              refine pu_tp (nb_shl _ (by omega)) ?_
              refine lv_ior hx hb dX1_permutation_100 ?_
              refine pu_tp (nb_or _ _) ?_
              refine lv_istore_n (lv' := [(2, .int (nI (x ||| (y * 2 ^ (3 * i))))), (0, .ref h), (3, .int (nI (r % fac (n - 1 - i)))), (4, .int (nI (i))), (5, .int (nI (r / fac (n - 1 - i)))), (6, .int (nI (y)))]) hx hb dX1_permutation_101 rfl hl (by decide) rfl (fun ls hl => ?_)
              refine lv_iinc (v := nI (i + 1)) (lv' := [(4, .int (nI (i + 1))), (2, .int (nI (x ||| (y * 2 ^ (3 * i))))), (0, .ref h), (3, .int (nI (r % fac (n - 1 - i)))), (5, .int (nI (r / fac (n - 1 - i)))), (6, .int (nI (y)))]) hx hb dX1_permutation_102 hl (k := 3) rfl (nI_1 _) (by decide) rfl (fun ls hl => ?_)
              refine lv_goto (tgt := 7) hx hb dX1_permutation_105 (by decide) ?_
              exact ih_7 (i + 1) (x ||| y * 2 ^ (3 * i)) (r % fac (n - 1 - i)) (by omega) (by
                first
                | (have hz : y = peY x i (r / fac (n - 1 - i)) 7 0 := hr2.symm
                   rw [hz]; exact hr)
                | (have hz : y = peY x i (r / fac (n - 1 - i)) 7 0 := (hr2.trans (peY_hit c_72 c_83)).symm
                   rw [hz]; exact hr)) (Nat.or_lt_two_pow hxl (bd_mul (by omega) (by omega) rfl)) (Nat.lt_of_le_of_lt (Nat.mod_le _ _) hrl) ls (lv_sub hl [2, 1, 3, 0] rfl)
            ·
              have c_58 : ¬ _ := fun h9 => c_58 ((nI_leI (by omega) (by omega)).mpr h9)
              exfalso; omega
          | succ k2 ih_54 =>
            intro y hk2 hr2 ls hl
            refine lv_iload hx hb dX1_permutation_54 (lv_at hl 5 rfl) ?_
            refine lv_bipush (v := nI (7)) hx hb dX1_permutation_56 (by decide) ?_
            refine lv_icmp_ge (tgt := 92) hx hb dX1_permutation_58 (by decide) (fun c_58 => ?_) (fun c_58 => ?_)
            ·
              have c_58 := (nI_leI (by omega) (by omega)).mp c_58
              exfalso; omega
            ·
              have c_58 : ¬ _ := fun h9 => c_58 ((nI_leI (by omega) (by omega)).mpr h9)
              refine lv_aload_n hx hb dX1_permutation_61 rfl (lv_at hl 0 rfl) ?_
              refine lv_iload_n hx hb dX1_permutation_62 rfl (lv_at hl 1 rfl) ?_
              refine lv_iload hx hb dX1_permutation_63 (lv_at hl 3 rfl) ?_
              refine lv_iload hx hb dX1_permutation_65 (lv_at hl 5 rfl) ?_
              refine pu_V (As := [.int (nI (x)), .int (nI (i)), .int (nI (y))]) (rest := []) (b := h) ⟨hx, hb, hml, hown, hts⟩ (kX1_free hP (P := x) (i := i) (y := y) (by omega) (by omega) (by omega)) (cwV 3 hts gX1_permutation_X1_free rfl rfl rfl eX1_free ⟨by decide, by decide⟩) (va_recv hK hP (ci := 1) (q0 := 0) rfl rfl) hK rfl hl.1 rfl (Nat.le_of_ble_eq_true rfl) dX1_permutation_67 ⟨Nat.zero_le _, Nat.zero_le _⟩ ?_
              refine lv_iload hx hb dX1_permutation_70 (lv_at hl 4 rfl) ?_
              refine lv_icmp_ne (tgt := 86) hx hb dX1_permutation_72 (by decide) (fun c_72 => ?_) (fun c_72 => ?_)
              ·
                have c_72 : ¬ _ := fun h9 => c_72 ((nb_eqI (by have := fr_le x i y; omega) (by have := Nat.div_le_self r (fac (n - 1 - i)); omega)).mpr h9)
                refine lv_iinc (v := nI (y + 1)) (lv' := [(6, .int (nI (y + 1))), (0, .ref h), (2, .int (nI (x))), (3, .int (nI (r % fac (n - 1 - i)))), (4, .int (nI (i))), (5, .int (nI (r / fac (n - 1 - i))))]) hx hb dX1_permutation_86 hl (k := 5) rfl (nI_1 _) (by decide) rfl (fun ls hl => ?_)
                refine lv_goto (tgt := 54) hx hb dX1_permutation_89 (by decide) ?_
                exact ih_54 (y + 1) (by omega) (hr2.trans (by first | exact peY_n1 c_72 | exact peY_n2 c_83)) ls (lv_sub hl [1, 2, 3, 4, 5, 0] rfl)
              ·
                have c_72 := (nb_eqI (by have := fr_le x i y; omega) (by have := Nat.div_le_self r (fac (n - 1 - i)); omega)).mp c_72
                refine lv_iload_n hx hb dX1_permutation_75 rfl (lv_at hl 1 rfl) ?_
                refine lv_iload hx hb dX1_permutation_76 (lv_at hl 3 rfl) ?_
                refine lv_iload hx hb dX1_permutation_78 (lv_at hl 5 rfl) ?_
                refine pu_S (As := [.int (nI (x)), .int (nI (i)), .int (nI (y))]) (rest := []) ⟨hx, hb, hml, hown, hts⟩ (kX1_isUsed (P := x) (i := i) (y := y) (by omega) (by omega) (by omega)) (va_cwS 3 hts gX1_permutation_X1_isUsed rfl rfl rfl eX1_isUsed ⟨by decide, by decide⟩) hK rfl hl.1 rfl (Nat.le_of_ble_eq_true rfl) dX1_permutation_80 ⟨Nat.zero_le _, Nat.zero_le _⟩ ?_
                refine lv_if_eq (tgt := 92) hx hb dX1_permutation_83 (by decide) (fun c_83 => ?_) (fun c_83 => ?_)
                ·
                  have c_83 := b01_f c_83
                  refine lv_iload_n hx hb dX1_permutation_92 rfl (lv_at hl 1 rfl) ?_
                  refine lv_iload hx hb dX1_permutation_93 (lv_at hl 5 rfl) ?_
                  refine lv_iconst (v := nI (3)) hx hb dX1_permutation_95 (by decide) ?_
                  refine lv_iload hx hb dX1_permutation_96 (lv_at hl 3 rfl) ?_
                  refine lv_imul hx hb dX1_permutation_98 ?_
                  refine pu_tp (pk_mul _ _) ?_
                  refine lv_ishl hx hb dX1_permutation_99 ?_
                  refine pu_tp (nb_shl _ (by omega)) ?_
                  refine lv_ior hx hb dX1_permutation_100 ?_
                  refine pu_tp (nb_or _ _) ?_
                  refine lv_istore_n (lv' := [(2, .int (nI (x ||| (y * 2 ^ (3 * i))))), (0, .ref h), (3, .int (nI (r % fac (n - 1 - i)))), (4, .int (nI (i))), (5, .int (nI (r / fac (n - 1 - i)))), (6, .int (nI (y)))]) hx hb dX1_permutation_101 rfl hl (by decide) rfl (fun ls hl => ?_)
                  refine lv_iinc (v := nI (i + 1)) (lv' := [(4, .int (nI (i + 1))), (2, .int (nI (x ||| (y * 2 ^ (3 * i))))), (0, .ref h), (3, .int (nI (r % fac (n - 1 - i)))), (5, .int (nI (r / fac (n - 1 - i)))), (6, .int (nI (y)))]) hx hb dX1_permutation_102 hl (k := 3) rfl (nI_1 _) (by decide) rfl (fun ls hl => ?_)
                  refine lv_goto (tgt := 7) hx hb dX1_permutation_105 (by decide) ?_
                  exact ih_7 (i + 1) (x ||| y * 2 ^ (3 * i)) (r % fac (n - 1 - i)) (by omega) (by
                    first
                    | (have hz : y = peY x i (r / fac (n - 1 - i)) 7 0 := hr2.symm
                       rw [hz]; exact hr)
                    | (have hz : y = peY x i (r / fac (n - 1 - i)) 7 0 := (hr2.trans (peY_hit c_72 c_83)).symm
                       rw [hz]; exact hr)) (Nat.or_lt_two_pow hxl (bd_mul (by omega) (by omega) rfl)) (Nat.lt_of_le_of_lt (Nat.mod_le _ _) hrl) ls (lv_sub hl [2, 1, 3, 0] rfl)
                ·
                  have c_83 := b01_t c_83
                  refine lv_iinc (v := nI (y + 1)) (lv' := [(6, .int (nI (y + 1))), (0, .ref h), (2, .int (nI (x))), (3, .int (nI (r % fac (n - 1 - i)))), (4, .int (nI (i))), (5, .int (nI (r / fac (n - 1 - i))))]) hx hb dX1_permutation_86 hl (k := 5) rfl (nI_1 _) (by decide) rfl (fun ls hl => ?_)
                  refine lv_goto (tgt := 54) hx hb dX1_permutation_89 (by decide) ?_
                  exact ih_54 (y + 1) (by omega) (hr2.trans (by first | exact peY_n1 c_72 | exact peY_n2 c_83)) ls (lv_sub hl [1, 2, 3, 4, 5, 0] rfl)
        exact loop_54 7 0 (by omega) rfl ls (lv_sub hl [3, 4, 1, 5, 2, 0] rfl)
  exact loop_7 n 0 0 q (by omega) rfl (by decide) hq ls (lv_sub hl [3, 2, 1, 0] rfl)
theorem eX1_all : yX1_all.cls = RX1 ∧ yX1_all.cls ≠ "java/lang/invoke/MethodHandle" ∧ yX1_all.cls ≠ "java/lang/invoke/VarHandle" ∧ (parseMethodDescriptor yX1_all.desc).map (fun d => d.parameters.length) = some 0 := by decide +kernel
set_option maxHeartbeats 4000000 in
set_option maxRecDepth 100000 in
theorem kX1_all (hP : va_P D vwCl (mW cI cZ h fa ge inn wa (nI ct) (nI n) th gn iv wv) H) (hn : n ≤ 7) : pI l yX1_all wsX1_all ({ frames := 0, cells := 0, slots := 0, locals := 0 } : Room) [.ref h] D (gT cI cG cZ) H (nI (fac n)) := by
  refine pI_ofW (cc := cX1_all) (maxL := 1) (ret := (some .int)) (by decide) rfl (Or.inl rfl) (Nat.le_of_ble_eq_true rfl) ?_
  intro p e s m args below meth c QQ hx hb hml hown hts hK hret ls hl
  have hl : lv_has ls 1 [(0, .ref h)] := hl
  have hown : s.vm.findClass RX1 = some m.cls := hown
  have hin0 : ∀ w ∈ wsX10, w ∈ wsX1_all := fun w h => List.mem_cons_of_mem _ (List.mem_append_right _ h)
  have hl_factorials : (Cond.fieldLink RX1 7 "PermGroupModel" "factorials" "[I").before args s = true := hts _ (by decide +kernel)
  have hl_n : (Cond.fieldLink RX1 23 "PermGroupModel" "n" "I").before args s = true := hts _ (by decide +kernel)
  refine lv_aload_n hx hb dX1_all_0 rfl (lv_at hl 0 rfl) ?_
  refine va_get (D := D) (ci := 1) (v := .ref fa) (C := RX1) (T := TX1) (N := 7) hx hb hts hin0 hown hK hP 0 rfl rfl 0 (by decide) hl_factorials (fun _ h9 => h9) rfl dX1_all_1 ?_
  refine lv_aload_n hx hb dX1_all_4 rfl (lv_at hl 0 rfl) ?_
  refine va_get (D := D) (ci := 1) (v := .int (nI (n))) (C := RX1) (T := TX1) (N := 7) hx hb hts hin0 hown hK hP 0 rfl rfl 3 (by decide) hl_n (fun _ h9 => h9) rfl dX1_all_5 ?_
  refine va_iald hx hb hK hP 1 0 rfl rfl (vp_in_nI (by omega) (by omega)) dX1_all_8 ?_
  refine pu_tp (nb_clamp (f := facI) (by omega)) ?_
  refine pu_tp (z := nI (fac n)) (facI_eq hn) ?_
  exact hret _ _ _ (rfl) dX1_all_9
theorem eX1_below : yX1_below.cls = RX1 ∧ yX1_below.cls ≠ "java/lang/invoke/MethodHandle" ∧ yX1_below.cls ≠ "java/lang/invoke/VarHandle" ∧ (parseMethodDescriptor yX1_below.desc).map (fun d => d.parameters.length) = some 1 := by decide +kernel
set_option maxHeartbeats 4000000 in
set_option maxRecDepth 100000 in
theorem kX1_below (hP : va_P D vwCl (mW cI cZ h fa ge inn wa (nI ct) (nI n) th gn iv wv) H) {k : Nat} (hk : k ≤ 5040) : pI l yX1_below wsX1_below ({ frames := 0, cells := 0, slots := 0, locals := 0 } : Room) [.ref h, .int (nI (k))] D (gT cI cG cZ) H (nI (bl iv k)) := by
  refine pI_ofW (cc := cX1_below) (maxL := 4) (ret := (some .int)) (by decide) rfl (Or.inl rfl) (Nat.le_of_ble_eq_true rfl) ?_
  intro p e s m args below meth c QQ hx hb hml hown hts hK hret ls hl
  have hl : lv_has ls 4 [(0, .ref h), (1, .int (nI (k)))] := hl
  have hown : s.vm.findClass RX1 = some m.cls := hown
  have hin0 : ∀ w ∈ wsX10, w ∈ wsX1_below := fun w h => List.mem_cons_of_mem _ (List.mem_append_right _ h)
  have hl_in : (Cond.fieldLink RX1 16 "PermGroupModel" "in" "[Z").before args s = true := hts _ (by decide +kernel)
  refine lv_iconst (v := nI (0)) hx hb dX1_below_0 (by decide) ?_
  refine lv_istore_n (lv' := [(2, .int (nI (0))), (0, .ref h), (1, .int (nI (k)))]) hx hb dX1_below_1 rfl hl (by decide) rfl (fun ls hl => ?_)
  refine lv_iconst (v := nI (0)) hx hb dX1_below_2 (by decide) ?_
  refine lv_istore_n (lv' := [(3, .int (nI (0))), (2, .int (nI (0))), (0, .ref h), (1, .int (nI (k)))]) hx hb dX1_below_3 rfl hl (by decide) rfl (fun ls hl => ?_)
  have loop_4 : ∀ (j q x : Nat), (q + j = k) → (nI (bl iv k) = nI (blF iv j q x)) → ∀ (ls : Array Slot), lv_has ls 4 [(0, .ref h), (1, .int (nI (k))), (2, .int (nI (x))), (3, .int (nI (q)))] → W p l e ({ frames := 0, cells := 0, slots := 0, locals := 0 } : Room) s m args below meth c H [] 0 0 QQ (F0 m 4 ls []) := by
    intro j
    induction j with
    | zero =>
      intro q x hj hr ls hl
      refine lv_iload_n hx hb dX1_below_4 rfl (lv_at hl 3 rfl) ?_
      refine lv_iload_n hx hb dX1_below_5 rfl (lv_at hl 1 rfl) ?_
      refine lv_icmp_ge (tgt := 27) hx hb dX1_below_6 (by decide) (fun c_6 => ?_) (fun c_6 => ?_)
      ·
        have c_6 := (nI_leI (by omega) (by omega)).mp c_6
        refine lv_iload_n hx hb dX1_below_27 rfl (lv_at hl 2 rfl) ?_
        exact hret _ _ _ (hr.symm) dX1_below_28
      ·
        have c_6 : ¬ _ := fun h9 => c_6 ((nI_leI (by omega) (by omega)).mpr h9)
        exfalso; omega
    | succ j ih_4 =>
      intro q x hj hr ls hl
      refine lv_iload_n hx hb dX1_below_4 rfl (lv_at hl 3 rfl) ?_
      refine lv_iload_n hx hb dX1_below_5 rfl (lv_at hl 1 rfl) ?_
      refine lv_icmp_ge (tgt := 27) hx hb dX1_below_6 (by decide) (fun c_6 => ?_) (fun c_6 => ?_)
      ·
        have c_6 := (nI_leI (by omega) (by omega)).mp c_6
        exfalso; omega
      ·
        have c_6 : ¬ _ := fun h9 => c_6 ((nI_leI (by omega) (by omega)).mpr h9)
        refine lv_aload_n hx hb dX1_below_9 rfl (lv_at hl 0 rfl) ?_
        refine va_get (D := D) (ci := 1) (v := .ref inn) (C := RX1) (T := TX1) (N := 7) hx hb hts hin0 hown hK hP 0 rfl rfl 4 (by decide) hl_in (fun _ h9 => h9) rfl dX1_below_10 ?_
        refine lv_iload_n hx hb dX1_below_13 rfl (lv_at hl 3 rfl) ?_
        refine va_zald hx hb hK hP 3 2 rfl rfl (vp_in_nI (by omega) (by omega)) dX1_below_14 ?_
        refine pu_tp (nb_clamp (f := iv) (by omega)) ?_
        refine lv_if_eq (tgt := 21) hx hb dX1_below_15 (by decide) (fun c_15 => ?_) (fun c_15 => ?_)
        ·
          refine lv_iinc (v := nI (q + 1)) (lv' := [(3, .int (nI (q + 1))), (0, .ref h), (1, .int (nI (k))), (2, .int (nI (x)))]) hx hb dX1_below_21 hl (k := 3) rfl (nI_1 _) (by decide) rfl (fun ls hl => ?_)
          refine lv_goto (tgt := 4) hx hb dX1_below_24 (by decide) ?_
          exact ih_4 (q + 1) x (by omega) (hr.trans (congrArg nI (blF_n c_15))) ls (lv_sub hl [1, 2, 3, 0] rfl)
        ·
          refine lv_iinc (v := nI (x + 1)) (lv' := [(2, .int (nI (x + 1))), (0, .ref h), (1, .int (nI (k))), (3, .int (nI (q)))]) hx hb dX1_below_18 hl (k := 2) rfl (nI_1 _) (by decide) rfl (fun ls hl => ?_)
          refine lv_iinc (v := nI (q + 1)) (lv' := [(3, .int (nI (q + 1))), (2, .int (nI (x + 1))), (0, .ref h), (1, .int (nI (k)))]) hx hb dX1_below_21 hl (k := 3) rfl (nI_1 _) (by decide) rfl (fun ls hl => ?_)
          refine lv_goto (tgt := 4) hx hb dX1_below_24 (by decide) ?_
          exact ih_4 (q + 1) (x + 1) (by omega) (hr.trans (congrArg nI (blF_y c_15))) ls (lv_sub hl [2, 3, 1, 0] rfl)
  exact loop_4 k 0 0 (by omega) rfl ls (lv_sub hl [2, 3, 1, 0] rfl)
theorem eX1_degree : yX1_degree.cls = RX1 ∧ yX1_degree.cls ≠ "java/lang/invoke/MethodHandle" ∧ yX1_degree.cls ≠ "java/lang/invoke/VarHandle" ∧ (parseMethodDescriptor yX1_degree.desc).map (fun d => d.parameters.length) = some 0 := by decide +kernel
set_option maxHeartbeats 4000000 in
set_option maxRecDepth 100000 in
theorem kX1_degree (hP : va_P D vwCl (mW cI cZ h fa ge inn wa (nI ct) (nI n) th gn iv wv) H)  : pI l yX1_degree wsX1_degree ({ frames := 0, cells := 0, slots := 0, locals := 0 } : Room) [.ref h] D (gT cI cG cZ) H (nI n) := by
  refine pI_ofW (cc := cX1_degree) (maxL := 1) (ret := (some .int)) (by decide) rfl (Or.inl rfl) (Nat.le_of_ble_eq_true rfl) ?_
  intro p e s m args below meth c QQ hx hb hml hown hts hK hret ls hl
  have hl : lv_has ls 1 [(0, .ref h)] := hl
  have hown : s.vm.findClass RX1 = some m.cls := hown
  have hin0 : ∀ w ∈ wsX10, w ∈ wsX1_degree := fun w h => List.mem_cons_of_mem _ (List.mem_append_right _ h)
  have hl_n : (Cond.fieldLink RX1 23 "PermGroupModel" "n" "I").before args s = true := hts _ (by decide +kernel)
  refine lv_aload_n hx hb dX1_degree_0 rfl (lv_at hl 0 rfl) ?_
  refine va_get (D := D) (ci := 1) (v := .int (nI (n))) (C := RX1) (T := TX1) (N := 7) hx hb hts hin0 hown hK hP 0 rfl rfl 3 (by decide) hl_n (fun _ h9 => h9) rfl dX1_degree_1 ?_
  exact hret _ _ _ (rfl) dX1_degree_4
theorem eX1_generators : yX1_generators.cls = RX1 ∧ yX1_generators.cls ≠ "java/lang/invoke/MethodHandle" ∧ yX1_generators.cls ≠ "java/lang/invoke/VarHandle" ∧ (parseMethodDescriptor yX1_generators.desc).map (fun d => d.parameters.length) = some 0 := by decide +kernel
set_option maxHeartbeats 4000000 in
set_option maxRecDepth 100000 in
theorem kX1_generators (hP : va_P D vwCl (mW cI cZ h fa ge inn wa (nI ct) (nI n) th gn iv wv) H)  : pI l yX1_generators wsX1_generators ({ frames := 0, cells := 0, slots := 0, locals := 0 } : Room) [.ref h] D (gT cI cG cZ) H (nI ct) := by
  refine pI_ofW (cc := cX1_generators) (maxL := 1) (ret := (some .int)) (by decide) rfl (Or.inl rfl) (Nat.le_of_ble_eq_true rfl) ?_
  intro p e s m args below meth c QQ hx hb hml hown hts hK hret ls hl
  have hl : lv_has ls 1 [(0, .ref h)] := hl
  have hown : s.vm.findClass RX1 = some m.cls := hown
  have hin0 : ∀ w ∈ wsX10, w ∈ wsX1_generators := fun w h => List.mem_cons_of_mem _ (List.mem_append_right _ h)
  have hl_count : (Cond.fieldLink RX1 43 "PermGroupModel" "count" "I").before args s = true := hts _ (by decide +kernel)
  refine lv_aload_n hx hb dX1_generators_0 rfl (lv_at hl 0 rfl) ?_
  refine va_get (D := D) (ci := 1) (v := .int (nI (ct))) (C := RX1) (T := TX1) (N := 7) hx hb hts hin0 hown hK hP 0 rfl rfl 2 (by decide) hl_count (fun _ h9 => h9) rfl dX1_generators_1 ?_
  exact hret _ _ _ (rfl) dX1_generators_4
theorem eX1_thrown : yX1_thrown.cls = RX1 ∧ yX1_thrown.cls ≠ "java/lang/invoke/MethodHandle" ∧ yX1_thrown.cls ≠ "java/lang/invoke/VarHandle" ∧ (parseMethodDescriptor yX1_thrown.desc).map (fun d => d.parameters.length) = some 0 := by decide +kernel
set_option maxHeartbeats 4000000 in
set_option maxRecDepth 100000 in
theorem kX1_thrown (hP : va_P D vwCl (mW cI cZ h fa ge inn wa (nI ct) (nI n) th gn iv wv) H)  : pI l yX1_thrown wsX1_thrown ({ frames := 0, cells := 0, slots := 0, locals := 0 } : Room) [.ref h] D (gT cI cG cZ) H (th) := by
  refine pI_ofW (cc := cX1_thrown) (maxL := 1) (ret := (some .int)) (by decide) rfl (Or.inl rfl) (Nat.le_of_ble_eq_true rfl) ?_
  intro p e s m args below meth c QQ hx hb hml hown hts hK hret ls hl
  have hl : lv_has ls 1 [(0, .ref h)] := hl
  have hown : s.vm.findClass RX1 = some m.cls := hown
  have hin0 : ∀ w ∈ wsX10, w ∈ wsX1_thrown := fun w h => List.mem_cons_of_mem _ (List.mem_append_right _ h)
  have hl_thrown : (Cond.fieldLink RX1 69 "PermGroupModel" "thrown" "I").before args s = true := hts _ (by decide +kernel)
  refine lv_aload_n hx hb dX1_thrown_0 rfl (lv_at hl 0 rfl) ?_
  refine va_get (D := D) (ci := 1) (v := .int (th)) (C := RX1) (T := TX1) (N := 7) hx hb hts hin0 hown hK hP 0 rfl rfl 6 (by decide) hl_thrown (fun _ h9 => h9) rfl dX1_thrown_1 ?_
  exact hret _ _ _ (rfl) dX1_thrown_4
theorem eX1_generator : yX1_generator.cls = RX1 ∧ yX1_generator.cls ≠ "java/lang/invoke/MethodHandle" ∧ yX1_generator.cls ≠ "java/lang/invoke/VarHandle" ∧ (parseMethodDescriptor yX1_generator.desc).map (fun d => d.parameters.length) = some 1 := by decide +kernel
set_option maxHeartbeats 4000000 in
set_option maxRecDepth 100000 in
theorem kX1_generator (hP : va_P D vwCl (mW cI cZ h fa ge inn wa (nI ct) (nI n) th gn iv wv) H) (hc : ct ≤ 12) {k : Int32} : pI l yX1_generator wsX1_generator ({ frames := 0, cells := 0, slots := 0, locals := 0 } : Room) [.ref h, .int (k)] D (gT cI cG cZ) H (genI gn ct k) := by
  refine pI_ofW (cc := cX1_generator) (maxL := 2) (ret := (some .int)) (by decide) rfl (Or.inl rfl) (Nat.le_of_ble_eq_true rfl) ?_
  intro p e s m args below meth c QQ hx hb hml hown hts hK hret ls hl
  have hl : lv_has ls 2 [(0, .ref h), (1, .int (k))] := hl
  have hown : s.vm.findClass RX1 = some m.cls := hown
  have hin0 : ∀ w ∈ wsX10, w ∈ wsX1_generator := fun w h => List.mem_cons_of_mem _ (List.mem_append_right _ h)
  have hl_count : (Cond.fieldLink RX1 43 "PermGroupModel" "count" "I").before args s = true := hts _ (by decide +kernel)
  have hl_gens : (Cond.fieldLink RX1 13 "PermGroupModel" "gens" "[I").before args s = true := hts _ (by decide +kernel)
  refine lv_iload_n hx hb dX1_generator_0 rfl (lv_at hl 1 rfl) ?_
  refine lv_if_lt (tgt := 21) hx hb dX1_generator_1 (by decide) (fun c_1 => ?_) (fun c_1 => ?_)
  ·
    refine lv_iconst (v := -1) hx hb dX1_generator_21 (by decide) ?_
    exact hret _ _ _ (by first | exact (if_pos c_1).symm | exact ((if_neg c_1).trans (if_neg (Int32.not_lt.mpr c_9))).symm) dX1_generator_22
  ·
    refine lv_iload_n hx hb dX1_generator_4 rfl (lv_at hl 1 rfl) ?_
    refine lv_aload_n hx hb dX1_generator_5 rfl (lv_at hl 0 rfl) ?_
    refine va_get (D := D) (ci := 1) (v := .int (nI (ct))) (C := RX1) (T := TX1) (N := 7) hx hb hts hin0 hown hK hP 0 rfl rfl 2 (by decide) hl_count (fun _ h9 => h9) rfl dX1_generator_6 ?_
    refine lv_icmp_ge (tgt := 21) hx hb dX1_generator_9 (by decide) (fun c_9 => ?_) (fun c_9 => ?_)
    ·
      refine lv_iconst (v := -1) hx hb dX1_generator_21 (by decide) ?_
      exact hret _ _ _ (by first | exact (if_pos c_1).symm | exact ((if_neg c_1).trans (if_neg (Int32.not_lt.mpr c_9))).symm) dX1_generator_22
    ·
      have c_9 := Int32.not_le.mp c_9
      obtain ⟨X, hX, rfl⟩ := nb_ix c_1 c_9 (by omega)
      refine lv_aload_n hx hb dX1_generator_12 rfl (lv_at hl 0 rfl) ?_
      refine va_get (D := D) (ci := 1) (v := .ref ge) (C := RX1) (T := TX1) (N := 7) hx hb hts hin0 hown hK hP 0 rfl rfl 1 (by decide) hl_gens (fun _ h9 => h9) rfl dX1_generator_13 ?_
      refine lv_iload_n hx hb dX1_generator_16 rfl (lv_at hl 1 rfl) ?_
      refine va_iald hx hb hK hP 2 0 rfl rfl (vp_in_nI (by omega) (by omega)) dX1_generator_17 ?_
      refine pu_tp (nb_clamp (f := gn) (by omega)) ?_
      refine lv_goto (tgt := 22) hx hb dX1_generator_18 (by decide) ?_
      exact hret _ _ _ (by rw [genI, if_neg c_1, if_pos c_9, tn_nI (by omega)]) dX1_generator_22
theorem eX1_product : yX1_product.cls = RX1 ∧ yX1_product.cls ≠ "java/lang/invoke/MethodHandle" ∧ yX1_product.cls ≠ "java/lang/invoke/VarHandle" ∧ (parseMethodDescriptor yX1_product.desc).map (fun d => d.parameters.length) = some 2 := by decide +kernel
set_option maxHeartbeats 4000000 in
set_option maxRecDepth 100000 in
theorem kX1_product (hP : va_P D vwCl (mW cI cZ h fa ge inn wa (nI ct) (nI n) th gn iv wv) H) (hn : n ≤ 7) {P Q : Nat} (hp : P < 2 ^ 32) (hq : Q < 2 ^ 32) : pI l yX1_product wsX1_product ({ frames := 2, cells := 0, slots := 0, locals := 45 } : Room) [.ref h, .int (nI (P)), .int (nI (Q))] D (gT cI cG cZ) H (if isP n P = true ∧ isP n Q = true then nI (tm n P Q) else -1) := by
  refine pI_ofW (cc := cX1_product) (maxL := 3) (ret := (some .int)) (by decide) rfl (Or.inl rfl) (Nat.le_of_ble_eq_true rfl) ?_
  intro p e s m args below meth c QQ hx hb hml hown hts hK hret ls hl
  have hl : lv_has ls 3 [(0, .ref h), (1, .int (nI (P))), (2, .int (nI (Q)))] := hl
  have hown : s.vm.findClass RX1 = some m.cls := hown
  refine lv_aload_n hx hb dX1_product_0 rfl (lv_at hl 0 rfl) ?_
  refine lv_iload_n hx hb dX1_product_1 rfl (lv_at hl 1 rfl) ?_
  refine pu_V (As := [.int (nI (P))]) (rest := []) (b := h) ⟨hx, hb, hml, hown, hts⟩ (kX1_isPermutation hP hn (P := P) hp) (cwV 1 hts gX1_product_X1_isPermutation rfl rfl rfl eX1_isPermutation ⟨by decide, by decide⟩) (va_recv hK hP (ci := 1) (q0 := 0) rfl rfl) hK rfl hl.1 rfl (Nat.le_of_ble_eq_true rfl) dX1_product_2 ⟨Nat.zero_le _, Nat.zero_le _⟩ ?_
  refine lv_if_eq (tgt := 25) hx hb dX1_product_5 (by decide) (fun c_5 => ?_) (fun c_5 => ?_)
  ·
    have c_5 := b01_f c_5
    refine lv_iconst (v := -1) hx hb dX1_product_25 (by decide) ?_
    exact hret _ _ _ (by first | exact (if_neg (fun q => by rw [c_5] at q; exact absurd q.1 (by decide))).symm | exact (if_neg (fun q => by rw [c_13] at q; exact absurd q.2 (by decide))).symm) dX1_product_26
  ·
    have c_5 := b01_t c_5
    refine lv_aload_n hx hb dX1_product_8 rfl (lv_at hl 0 rfl) ?_
    refine lv_iload_n hx hb dX1_product_9 rfl (lv_at hl 2 rfl) ?_
    refine pu_V (As := [.int (nI (Q))]) (rest := []) (b := h) ⟨hx, hb, hml, hown, hts⟩ (kX1_isPermutation hP hn (P := Q) hq) (cwV 1 hts gX1_product_X1_isPermutation rfl rfl rfl eX1_isPermutation ⟨by decide, by decide⟩) (va_recv hK hP (ci := 1) (q0 := 0) rfl rfl) hK rfl hl.1 rfl (Nat.le_of_ble_eq_true rfl) dX1_product_10 ⟨Nat.zero_le _, Nat.zero_le _⟩ ?_
    refine lv_if_eq (tgt := 25) hx hb dX1_product_13 (by decide) (fun c_13 => ?_) (fun c_13 => ?_)
    ·
      have c_13 := b01_f c_13
      refine lv_iconst (v := -1) hx hb dX1_product_25 (by decide) ?_
      exact hret _ _ _ (by first | exact (if_neg (fun q => by rw [c_5] at q; exact absurd q.1 (by decide))).symm | exact (if_neg (fun q => by rw [c_13] at q; exact absurd q.2 (by decide))).symm) dX1_product_26
    ·
      have c_13 := b01_t c_13
      refine lv_aload_n hx hb dX1_product_16 rfl (lv_at hl 0 rfl) ?_
      refine lv_iload_n hx hb dX1_product_17 rfl (lv_at hl 1 rfl) ?_
      refine lv_iload_n hx hb dX1_product_18 rfl (lv_at hl 2 rfl) ?_
      refine pu_V (As := [.int (nI (P)), .int (nI (Q))]) (rest := []) (b := h) ⟨hx, hb, hml, hown, hts⟩ (kX1_times hP hn (P := P) (Q := Q) (Nat.lt_trans (isP_lt hn c_5) (by decide)) (Nat.lt_trans (isP_lt hn c_13) (by decide))) (cwV 2 hts gX1_product_X1_times rfl rfl rfl eX1_times ⟨by decide, by decide⟩) (va_recv hK hP (ci := 1) (q0 := 0) rfl rfl) hK rfl hl.1 rfl (Nat.le_of_ble_eq_true rfl) dX1_product_19 ⟨Nat.zero_le _, Nat.zero_le _⟩ ?_
      refine lv_goto (tgt := 26) hx hb dX1_product_22 (by decide) ?_
      exact hret _ _ _ ((if_pos ⟨c_5, c_13⟩).symm) dX1_product_26
theorem eX1_inverse : yX1_inverse.cls = RX1 ∧ yX1_inverse.cls ≠ "java/lang/invoke/MethodHandle" ∧ yX1_inverse.cls ≠ "java/lang/invoke/VarHandle" ∧ (parseMethodDescriptor yX1_inverse.desc).map (fun d => d.parameters.length) = some 1 := by decide +kernel
set_option maxHeartbeats 4000000 in
set_option maxRecDepth 100000 in
theorem kX1_inverse (hP : va_P D vwCl (mW cI cZ h fa ge inn wa (nI ct) (nI n) th gn iv wv) H) (hn : n ≤ 7) {P : Nat} (hp : P < 2 ^ 32) : pI l yX1_inverse wsX1_inverse ({ frames := 2, cells := 0, slots := 0, locals := 44 } : Room) [.ref h, .int (nI (P))] D (gT cI cG cZ) H (if isP n P = true then nI (bk n P) else -1) := by
  refine pI_ofW (cc := cX1_inverse) (maxL := 2) (ret := (some .int)) (by decide) rfl (Or.inl rfl) (Nat.le_of_ble_eq_true rfl) ?_
  intro p e s m args below meth c QQ hx hb hml hown hts hK hret ls hl
  have hl : lv_has ls 2 [(0, .ref h), (1, .int (nI (P)))] := hl
  have hown : s.vm.findClass RX1 = some m.cls := hown
  refine lv_aload_n hx hb dX1_inverse_0 rfl (lv_at hl 0 rfl) ?_
  refine lv_iload_n hx hb dX1_inverse_1 rfl (lv_at hl 1 rfl) ?_
  refine pu_V (As := [.int (nI (P))]) (rest := []) (b := h) ⟨hx, hb, hml, hown, hts⟩ (kX1_isPermutation hP hn (P := P) hp) (cwV 1 hts gX1_inverse_X1_isPermutation rfl rfl rfl eX1_isPermutation ⟨by decide, by decide⟩) (va_recv hK hP (ci := 1) (q0 := 0) rfl rfl) hK rfl hl.1 rfl (Nat.le_of_ble_eq_true rfl) dX1_inverse_2 ⟨Nat.zero_le _, Nat.zero_le _⟩ ?_
  refine lv_if_eq (tgt := 16) hx hb dX1_inverse_5 (by decide) (fun c_5 => ?_) (fun c_5 => ?_)
  ·
    have c_5 := b01_f c_5
    refine lv_iconst (v := -1) hx hb dX1_inverse_16 (by decide) ?_
    exact hret _ _ _ (by rw [c_5]; rfl) dX1_inverse_17
  ·
    have c_5 := b01_t c_5
    refine lv_aload_n hx hb dX1_inverse_8 rfl (lv_at hl 0 rfl) ?_
    refine lv_iload_n hx hb dX1_inverse_9 rfl (lv_at hl 1 rfl) ?_
    refine pu_V (As := [.int (nI (P))]) (rest := []) (b := h) ⟨hx, hb, hml, hown, hts⟩ (kX1_back hP hn (P := P) (Nat.lt_trans (isP_lt hn c_5) (by decide))) (cwV 1 hts gX1_inverse_X1_back rfl rfl rfl eX1_back ⟨by decide, by decide⟩) (va_recv hK hP (ci := 1) (q0 := 0) rfl rfl) hK rfl hl.1 rfl (Nat.le_of_ble_eq_true rfl) dX1_inverse_10 ⟨Nat.zero_le _, Nat.zero_le _⟩ ?_
    refine lv_goto (tgt := 17) hx hb dX1_inverse_13 (by decide) ?_
    exact hret _ _ _ ((if_pos c_5).symm) dX1_inverse_17
end CXC
