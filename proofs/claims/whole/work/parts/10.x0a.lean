/-! ===== the class, methods that only look ===== -/
theorem bb_div (P n : Nat) (hn : n ≤ 7) (hp : P < 2 ^ 32) : P / 2 ^ (3 * n) < 2 ^ 32 := Nat.lt_of_le_of_lt (Nat.div_le_self _ _) hp
theorem isP_f1 {n P : Nat} (h : ¬ P / 2 ^ (3 * n) = 0) : isP n P = false := by
  have h0 : Nat.beq (P / 2 ^ (3 * n)) 0 = false := by
    cases hb9 : Nat.beq (P / 2 ^ (3 * n)) 0
    · rfl
    · exact absurd (Nat.eq_of_beq_eq_true hb9) h
  simp [isP, h0]
theorem isP_f2 {n P : Nat} (h : ¬ mkF P n 0 0 = 1 * 2 ^ n - 1) : isP n P = false := by
  have h0 : Nat.beq (mkF P n 0 0) (1 * 2 ^ n - 1) = false := by
    cases hb9 : Nat.beq (mkF P n 0 0) (1 * 2 ^ n - 1)
    · rfl
    · exact absurd (Nat.eq_of_beq_eq_true hb9) h
  rw [isP, h0, Bool.and_false]
theorem isP_t {n P : Nat} (h1 : P / 2 ^ (3 * n) = 0) (h2 : mkF P n 0 0 = 1 * 2 ^ n - 1) : isP n P = true := by
  rw [isP, h1, h2, Nat.beq_refl, Nat.beq_refl]
  rfl
theorem isP_iff {n P : Nat} : isP n P = true ↔ P / 2 ^ (3 * n) = 0 ∧ mkF P n 0 0 = 1 * 2 ^ n - 1 := by
  constructor
  · intro h
    rw [isP, Bool.and_eq_true] at h
    exact ⟨Nat.eq_of_beq_eq_true h.1, Nat.eq_of_beq_eq_true h.2⟩
  · intro h
    exact isP_t h.1 h.2
section CXA
variable {l : Launch} {D : va_G} {cI cG cZ : ClassId} {h a g f : Nat} {ra : Nat → Nat} {n id ct : Nat} {fc : Int32} {ad fl : Nat → Int32} {R : Nat → Nat → Int32} {H : Heap}
theorem eX0_image : yX0_image.cls ≠ "java/lang/invoke/MethodHandle" ∧ yX0_image.cls ≠ "java/lang/invoke/VarHandle" ∧ (parseMethodDescriptor yX0_image.desc).map (fun d => d.parameters.length) = some 2 := by decide +kernel
set_option maxHeartbeats 4000000 in
set_option maxRecDepth 100000 in
theorem kX0_image {P i : Nat} (hp : P < 2 ^ 32) (hi : i ≤ 10) : pI l yX0_image wsX0_image ({ frames := 0, cells := 0, slots := 0, locals := 0 } : Room) [.int (nI (P)), .int (nI (i))] D (gT cI cG cZ) H (nI (im P i)) := by
  refine pI_ofW (cc := cX0_image) (maxL := 2) (ret := (some .int)) (by decide) rfl (Or.inl rfl) (Nat.le_of_ble_eq_true rfl) ?_
  intro p e s m args below meth c QQ hx hb hml hown hts hK hret ls hl
  have hl : lv_has ls 2 [(0, .int (nI (P))), (1, .int (nI (i)))] := hl
  have hown : s.vm.findClass RX0 = some m.cls := hown
  refine lv_iload_n hx hb dX0_image_0 rfl (lv_at hl 0 rfl) ?_
  refine lv_iconst (v := nI (3)) hx hb dX0_image_1 (by decide) ?_
  refine lv_iload_n hx hb dX0_image_2 rfl (lv_at hl 1 rfl) ?_
  refine lv_imul hx hb dX0_image_3 ?_
  refine pu_tp (pk_mul _ _) ?_
  refine lv_iushr (v := nI (P / 2 ^ (3 * i))) hx hb dX0_image_4 (nb_ushr (by omega) (by omega)) ?_
  refine lv_bipush (v := nI (7)) hx hb dX0_image_5 (by decide) ?_
  refine lv_iand hx hb dX0_image_7 ?_
  refine pu_tp (nb_and7 _) ?_
  exact hret _ _ _ (rfl) dX0_image_8
theorem eX0_slotOf : yX0_slotOf.cls ≠ "java/lang/invoke/MethodHandle" ∧ yX0_slotOf.cls ≠ "java/lang/invoke/VarHandle" ∧ (parseMethodDescriptor yX0_slotOf.desc).map (fun d => d.parameters.length) = some 2 := by decide +kernel
set_option maxHeartbeats 4000000 in
set_option maxRecDepth 100000 in
theorem kX0_slotOf {x z : Nat} : pI l yX0_slotOf wsX0_slotOf ({ frames := 0, cells := 0, slots := 0, locals := 0 } : Room) [.int (nI (x)), .int (nI (z))] D (gT cI cG cZ) H (nI (x * 8 + z)) := by
  refine pI_ofW (cc := cX0_slotOf) (maxL := 2) (ret := (some .int)) (by decide) rfl (Or.inl rfl) (Nat.le_of_ble_eq_true rfl) ?_
  intro p e s m args below meth c QQ hx hb hml hown hts hK hret ls hl
  have hl : lv_has ls 2 [(0, .int (nI (x))), (1, .int (nI (z)))] := hl
  have hown : s.vm.findClass RX0 = some m.cls := hown
  refine lv_iload_n hx hb dX0_slotOf_0 rfl (lv_at hl 0 rfl) ?_
  refine lv_bipush (v := nI (8)) hx hb dX0_slotOf_1 (by decide) ?_
  refine lv_imul hx hb dX0_slotOf_3 ?_
  refine pu_tp (pk_mul _ _) ?_
  refine lv_iload_n hx hb dX0_slotOf_4 rfl (lv_at hl 1 rfl) ?_
  refine lv_iadd hx hb dX0_slotOf_5 ?_
  refine pu_tp (nI_add _ _) ?_
  exact hret _ _ _ (rfl) dX0_slotOf_6
theorem eX0_compose : yX0_compose.cls = RX0 ∧ yX0_compose.cls ≠ "java/lang/invoke/MethodHandle" ∧ yX0_compose.cls ≠ "java/lang/invoke/VarHandle" ∧ (parseMethodDescriptor yX0_compose.desc).map (fun d => d.parameters.length) = some 2 := by decide +kernel
set_option maxHeartbeats 4000000 in
set_option maxRecDepth 100000 in
theorem kX0_compose (hP : va_P D vwCl (gW cI cG h a g f ra (nI n) (nI id) (nI ct) fc ad fl R) H) (hn : n ≤ 7) {P Q : Nat} (hp : P < 2 ^ 32) (hq : Q < 2 ^ 32) : pI l yX0_compose wsX0_compose ({ frames := 1, cells := 0, slots := 0, locals := 21 } : Room) [.ref h, .int (nI (P)), .int (nI (Q))] D (gT cI cG cZ) H (nI (tm n P Q)) := by
  refine pI_ofW (cc := cX0_compose) (maxL := 5) (ret := (some .int)) (by decide) rfl (Or.inl rfl) (Nat.le_of_ble_eq_true rfl) ?_
  intro p e s m args below meth c QQ hx hb hml hown hts hK hret ls hl
  have hl : lv_has ls 5 [(0, .ref h), (1, .int (nI (P))), (2, .int (nI (Q)))] := hl
  have hown : s.vm.findClass RX0 = some m.cls := hown
  have hin0 : ∀ w ∈ wsX00, w ∈ wsX0_compose := fun w h => List.mem_cons_of_mem _ (List.mem_append_right _ h)
  have hl_n : (Cond.fieldLink RX0 25 "PermGroup" "n" "I").before args s = true := hts _ (by decide +kernel)
  refine lv_iconst (v := nI (0)) hx hb dX0_compose_0 (by decide) ?_
  refine lv_istore_n (lv' := [(3, .int (nI (0))), (0, .ref h), (1, .int (nI (P))), (2, .int (nI (Q)))]) hx hb dX0_compose_1 rfl hl (by decide) rfl (fun ls hl => ?_)
  refine lv_iconst (v := nI (0)) hx hb dX0_compose_2 (by decide) ?_
  refine lv_istore (lv' := [(4, .int (nI (0))), (3, .int (nI (0))), (0, .ref h), (1, .int (nI (P))), (2, .int (nI (Q)))]) hx hb dX0_compose_3 hl (by decide) rfl (fun ls hl => ?_)
  have loop_5 : ∀ (k i x : Nat), i + k = n → nI (tm n P Q) = nI (cpF P Q k i x) → ∀ (ls : Array Slot), lv_has ls 5 [(0, .ref h), (1, .int (nI (P))), (2, .int (nI (Q))), (3, .int (nI (x))), (4, .int (nI (i)))] → W p l e ({ frames := 1, cells := 0, slots := 0, locals := 21 } : Room) s m args below meth c H [] 0 0 QQ (F0 m 5 ls []) := by
    intro k
    induction k with
    | zero =>
      intro i x hk hr ls hl
      refine lv_iload hx hb dX0_compose_5 (lv_at hl 4 rfl) ?_
      refine lv_aload_n hx hb dX0_compose_7 rfl (lv_at hl 0 rfl) ?_
      refine va_get (D := D) (ci := 0) (v := .int (nI (n))) (C := RX0) (T := TX0) (N := 7) hx hb hts hin0 hown hK hP 0 rfl rfl 0 (by decide) hl_n (fun _ h9 => h9) rfl dX0_compose_8 ?_
      refine lv_icmp_ge (tgt := 38) hx hb dX0_compose_11 (by decide) (fun c_11 => ?_) (fun c_11 => ?_)
      ·
        have c_11 := (nI_leI (by omega) (by omega)).mp c_11
        refine lv_iload_n hx hb dX0_compose_38 rfl (lv_at hl 3 rfl) ?_
        exact hret _ _ _ (hr.symm) dX0_compose_39
      ·
        have c_11 : ¬ _ := fun h9 => c_11 ((nI_leI (by omega) (by omega)).mpr h9)
        exfalso; omega
    | succ k ih_5 =>
      intro i x hk hr ls hl
      refine lv_iload hx hb dX0_compose_5 (lv_at hl 4 rfl) ?_
      refine lv_aload_n hx hb dX0_compose_7 rfl (lv_at hl 0 rfl) ?_
      refine va_get (D := D) (ci := 0) (v := .int (nI (n))) (C := RX0) (T := TX0) (N := 7) hx hb hts hin0 hown hK hP 0 rfl rfl 0 (by decide) hl_n (fun _ h9 => h9) rfl dX0_compose_8 ?_
      refine lv_icmp_ge (tgt := 38) hx hb dX0_compose_11 (by decide) (fun c_11 => ?_) (fun c_11 => ?_)
      ·
        have c_11 := (nI_leI (by omega) (by omega)).mp c_11
        exfalso; omega
      ·
        have c_11 : ¬ _ := fun h9 => c_11 ((nI_leI (by omega) (by omega)).mpr h9)
        refine lv_iload_n hx hb dX0_compose_14 rfl (lv_at hl 3 rfl) ?_
        refine lv_iload_n hx hb dX0_compose_15 rfl (lv_at hl 2 rfl) ?_
        refine lv_iload_n hx hb dX0_compose_16 rfl (lv_at hl 1 rfl) ?_
        refine lv_iload hx hb dX0_compose_17 (lv_at hl 4 rfl) ?_
        refine pu_S (As := [.int (nI (P)), .int (nI (i))]) (rest := [.int (nI (Q)), .int (nI (x))]) ⟨hx, hb, hml, hown, hts⟩ (kX0_image (P := P) (i := i) (by omega) (by omega)) (va_cwS 2 hts gX0_compose_X0_image rfl rfl rfl eX0_image ⟨by decide, by decide⟩) hK rfl hl.1 rfl (Nat.le_of_ble_eq_true rfl) dX0_compose_19 ⟨Nat.zero_le _, Nat.zero_le _⟩ ?_
        refine pu_S (As := [.int (nI (Q)), .int (nI (im (P) (i)))]) (rest := [.int (nI (x))]) ⟨hx, hb, hml, hown, hts⟩ (kX0_image (P := Q) (i := im P i) (by omega) (Nat.le_trans (im_le _ _) (by decide))) (va_cwS 2 hts gX0_compose_X0_image rfl rfl rfl eX0_image ⟨by decide, by decide⟩) hK rfl hl.1 rfl (Nat.le_of_ble_eq_true rfl) dX0_compose_22 ⟨Nat.zero_le _, Nat.zero_le _⟩ ?_
        refine lv_iconst (v := nI (3)) hx hb dX0_compose_25 (by decide) ?_
        refine lv_iload hx hb dX0_compose_26 (lv_at hl 4 rfl) ?_
        refine lv_imul hx hb dX0_compose_28 ?_
        refine pu_tp (pk_mul _ _) ?_
        refine lv_ishl hx hb dX0_compose_29 ?_
        refine pu_tp (nb_shl _ (by omega)) ?_
        refine lv_ior hx hb dX0_compose_30 ?_
        refine pu_tp (nb_or _ _) ?_
        refine lv_istore_n (lv' := [(3, .int (nI (x ||| ((im (Q) (im P i)) * 2 ^ (3 * i))))), (0, .ref h), (1, .int (nI (P))), (2, .int (nI (Q))), (4, .int (nI (i)))]) hx hb dX0_compose_31 rfl hl (by decide) rfl (fun ls hl => ?_)
        refine lv_iinc (v := nI (i + 1)) (lv' := [(4, .int (nI (i + 1))), (3, .int (nI (x ||| ((im (Q) (im P i)) * 2 ^ (3 * i))))), (0, .ref h), (1, .int (nI (P))), (2, .int (nI (Q)))]) hx hb dX0_compose_32 hl (k := 4) rfl (nI_1 _) (by decide) rfl (fun ls hl => ?_)
        refine lv_goto (tgt := 5) hx hb dX0_compose_35 (by decide) ?_
        exact ih_5 (i + 1) (x ||| im Q (im P i) * 2 ^ (3 * i)) (by omega) hr ls (lv_sub hl [2, 3, 4, 1, 0] rfl)
  exact loop_5 n 0 0 (by omega) rfl ls (lv_sub hl [2, 3, 4, 1, 0] rfl)
theorem eX0_invert : yX0_invert.cls = RX0 ∧ yX0_invert.cls ≠ "java/lang/invoke/MethodHandle" ∧ yX0_invert.cls ≠ "java/lang/invoke/VarHandle" ∧ (parseMethodDescriptor yX0_invert.desc).map (fun d => d.parameters.length) = some 1 := by decide +kernel
set_option maxHeartbeats 4000000 in
set_option maxRecDepth 100000 in
theorem kX0_invert (hP : va_P D vwCl (gW cI cG h a g f ra (nI n) (nI id) (nI ct) fc ad fl R) H) (hn : n ≤ 7) {P : Nat} (hp : P < 2 ^ 32) : pI l yX0_invert wsX0_invert ({ frames := 1, cells := 0, slots := 0, locals := 21 } : Room) [.ref h, .int (nI (P))] D (gT cI cG cZ) H (nI (bk n P)) := by
  refine pI_ofW (cc := cX0_invert) (maxL := 4) (ret := (some .int)) (by decide) rfl (Or.inl rfl) (Nat.le_of_ble_eq_true rfl) ?_
  intro p e s m args below meth c QQ hx hb hml hown hts hK hret ls hl
  have hl : lv_has ls 4 [(0, .ref h), (1, .int (nI (P)))] := hl
  have hown : s.vm.findClass RX0 = some m.cls := hown
  have hin0 : ∀ w ∈ wsX00, w ∈ wsX0_invert := fun w h => List.mem_cons_of_mem _ (List.mem_append_right _ h)
  have hl_n : (Cond.fieldLink RX0 25 "PermGroup" "n" "I").before args s = true := hts _ (by decide +kernel)
  refine lv_iconst (v := nI (0)) hx hb dX0_invert_0 (by decide) ?_
  refine lv_istore_n (lv' := [(2, .int (nI (0))), (0, .ref h), (1, .int (nI (P)))]) hx hb dX0_invert_1 rfl hl (by decide) rfl (fun ls hl => ?_)
  refine lv_iconst (v := nI (0)) hx hb dX0_invert_2 (by decide) ?_
  refine lv_istore_n (lv' := [(3, .int (nI (0))), (2, .int (nI (0))), (0, .ref h), (1, .int (nI (P)))]) hx hb dX0_invert_3 rfl hl (by decide) rfl (fun ls hl => ?_)
  have loop_4 : ∀ (k i x : Nat), i + k = n → nI (bk n P) = nI (bkF P k i x) → ∀ (ls : Array Slot), lv_has ls 4 [(0, .ref h), (1, .int (nI (P))), (2, .int (nI (x))), (3, .int (nI (i)))] → W p l e ({ frames := 1, cells := 0, slots := 0, locals := 21 } : Room) s m args below meth c H [] 0 0 QQ (F0 m 4 ls []) := by
    intro k
    induction k with
    | zero =>
      intro i x hk hr ls hl
      refine lv_iload_n hx hb dX0_invert_4 rfl (lv_at hl 3 rfl) ?_
      refine lv_aload_n hx hb dX0_invert_5 rfl (lv_at hl 0 rfl) ?_
      refine va_get (D := D) (ci := 0) (v := .int (nI (n))) (C := RX0) (T := TX0) (N := 7) hx hb hts hin0 hown hK hP 0 rfl rfl 0 (by decide) hl_n (fun _ h9 => h9) rfl dX0_invert_6 ?_
      refine lv_icmp_ge (tgt := 30) hx hb dX0_invert_9 (by decide) (fun c_9 => ?_) (fun c_9 => ?_)
      ·
        have c_9 := (nI_leI (by omega) (by omega)).mp c_9
        refine lv_iload_n hx hb dX0_invert_30 rfl (lv_at hl 2 rfl) ?_
        exact hret _ _ _ (hr.symm) dX0_invert_31
      ·
        have c_9 : ¬ _ := fun h9 => c_9 ((nI_leI (by omega) (by omega)).mpr h9)
        exfalso; omega
    | succ k ih_4 =>
      intro i x hk hr ls hl
      refine lv_iload_n hx hb dX0_invert_4 rfl (lv_at hl 3 rfl) ?_
      refine lv_aload_n hx hb dX0_invert_5 rfl (lv_at hl 0 rfl) ?_
      refine va_get (D := D) (ci := 0) (v := .int (nI (n))) (C := RX0) (T := TX0) (N := 7) hx hb hts hin0 hown hK hP 0 rfl rfl 0 (by decide) hl_n (fun _ h9 => h9) rfl dX0_invert_6 ?_
      refine lv_icmp_ge (tgt := 30) hx hb dX0_invert_9 (by decide) (fun c_9 => ?_) (fun c_9 => ?_)
      ·
        have c_9 := (nI_leI (by omega) (by omega)).mp c_9
        exfalso; omega
      ·
        have c_9 : ¬ _ := fun h9 => c_9 ((nI_leI (by omega) (by omega)).mpr h9)
        refine lv_iload_n hx hb dX0_invert_12 rfl (lv_at hl 2 rfl) ?_
        refine lv_iload_n hx hb dX0_invert_13 rfl (lv_at hl 3 rfl) ?_
        refine lv_iconst (v := nI (3)) hx hb dX0_invert_14 (by decide) ?_
        refine lv_iload_n hx hb dX0_invert_15 rfl (lv_at hl 1 rfl) ?_
        refine lv_iload_n hx hb dX0_invert_16 rfl (lv_at hl 3 rfl) ?_
        refine pu_S (As := [.int (nI (P)), .int (nI (i))]) (rest := [.int (nI (3)), .int (nI (i)), .int (nI (x))]) ⟨hx, hb, hml, hown, hts⟩ (kX0_image (P := P) (i := i) (by omega) (by omega)) (va_cwS 2 hts gX0_invert_X0_image rfl rfl rfl eX0_image ⟨by decide, by decide⟩) hK rfl hl.1 rfl (Nat.le_of_ble_eq_true rfl) dX0_invert_17 ⟨Nat.zero_le _, Nat.zero_le _⟩ ?_
        refine lv_imul hx hb dX0_invert_20 ?_
        refine pu_tp (pk_mul _ _) ?_
        refine lv_ishl hx hb dX0_invert_21 ?_
        refine pu_tp (nb_shl _ (by have := im_le P i; omega)) ?_
        refine lv_ior hx hb dX0_invert_22 ?_
        refine pu_tp (nb_or _ _) ?_
        refine lv_istore_n (lv' := [(2, .int (nI (x ||| (i * 2 ^ (3 * (im (P) (i))))))), (0, .ref h), (1, .int (nI (P))), (3, .int (nI (i)))]) hx hb dX0_invert_23 rfl hl (by decide) rfl (fun ls hl => ?_)
        refine lv_iinc (v := nI (i + 1)) (lv' := [(3, .int (nI (i + 1))), (2, .int (nI (x ||| (i * 2 ^ (3 * (im (P) (i))))))), (0, .ref h), (1, .int (nI (P)))]) hx hb dX0_invert_24 hl (k := 3) rfl (nI_1 _) (by decide) rfl (fun ls hl => ?_)
        refine lv_goto (tgt := 4) hx hb dX0_invert_27 (by decide) ?_
        exact ih_4 (i + 1) (x ||| i * 2 ^ (3 * im P i)) (by omega) hr ls (lv_sub hl [2, 3, 1, 0] rfl)
  exact loop_4 n 0 0 (by omega) rfl ls (lv_sub hl [2, 3, 1, 0] rfl)
theorem eX0_isPermutation : yX0_isPermutation.cls = RX0 ∧ yX0_isPermutation.cls ≠ "java/lang/invoke/MethodHandle" ∧ yX0_isPermutation.cls ≠ "java/lang/invoke/VarHandle" ∧ (parseMethodDescriptor yX0_isPermutation.desc).map (fun d => d.parameters.length) = some 1 := by decide +kernel
set_option maxHeartbeats 4000000 in
set_option maxRecDepth 100000 in
theorem kX0_isPermutation (hP : va_P D vwCl (gW cI cG h a g f ra (nI n) (nI id) (nI ct) fc ad fl R) H) (hn : n ≤ 7) {P : Nat} (hp : P < 2 ^ 32) : pI l yX0_isPermutation wsX0_isPermutation ({ frames := 1, cells := 0, slots := 0, locals := 21 } : Room) [.ref h, .int (nI (P))] D (gT cI cG cZ) H (b01 (isP n P)) := by
  refine pI_ofW (cc := cX0_isPermutation) (maxL := 4) (ret := (some .boolean)) (by decide) rfl (Or.inr ⟨rfl, b01_or _⟩) (Nat.le_of_ble_eq_true rfl) ?_
  intro p e s m args below meth c QQ hx hb hml hown hts hK hret ls hl
  have hl : lv_has ls 4 [(0, .ref h), (1, .int (nI (P)))] := hl
  have hown : s.vm.findClass RX0 = some m.cls := hown
  have hin0 : ∀ w ∈ wsX00, w ∈ wsX0_isPermutation := fun w h => List.mem_cons_of_mem _ (List.mem_append_right _ h)
  have hl_n : (Cond.fieldLink RX0 25 "PermGroup" "n" "I").before args s = true := hts _ (by decide +kernel)
  refine lv_iload_n hx hb dX0_isPermutation_0 rfl (lv_at hl 1 rfl) ?_
  refine lv_iconst (v := nI (3)) hx hb dX0_isPermutation_1 (by decide) ?_
  refine lv_aload_n hx hb dX0_isPermutation_2 rfl (lv_at hl 0 rfl) ?_
  refine va_get (D := D) (ci := 0) (v := .int (nI (n))) (C := RX0) (T := TX0) (N := 7) hx hb hts hin0 hown hK hP 0 rfl rfl 0 (by decide) hl_n (fun _ h9 => h9) rfl dX0_isPermutation_3 ?_
  refine lv_imul hx hb dX0_isPermutation_6 ?_
  refine pu_tp (pk_mul _ _) ?_
  refine lv_iushr (v := nI (P / 2 ^ (3 * n))) hx hb dX0_isPermutation_7 (nb_ushr (by omega) (by omega)) ?_
  refine lv_if_eq (tgt := 13) hx hb dX0_isPermutation_8 (by decide) (fun c_8 => ?_) (fun c_8 => ?_)
  ·
    have c_8 := (nb_eq0 (bb_div P n hn hp)).mp c_8
    refine lv_iconst (v := nI (0)) hx hb dX0_isPermutation_13 (by decide) ?_
    refine lv_istore_n (lv' := [(2, .int (nI (0))), (0, .ref h), (1, .int (nI (P)))]) hx hb dX0_isPermutation_14 rfl hl (by decide) rfl (fun ls hl => ?_)
    refine lv_iconst (v := nI (0)) hx hb dX0_isPermutation_15 (by decide) ?_
    refine lv_istore_n (lv' := [(3, .int (nI (0))), (2, .int (nI (0))), (0, .ref h), (1, .int (nI (P)))]) hx hb dX0_isPermutation_16 rfl hl (by decide) rfl (fun ls hl => ?_)
    have loop_17 : ∀ (k i x : Nat), i + k = n → mkF P n 0 0 = mkF P k i x → x < 2 ^ 8 → ∀ (ls : Array Slot), lv_has ls 4 [(0, .ref h), (1, .int (nI (P))), (2, .int (nI (x))), (3, .int (nI (i)))] → W p l e ({ frames := 1, cells := 0, slots := 0, locals := 21 } : Room) s m args below meth c H [] 0 0 QQ (F0 m 17 ls []) := by
      intro k
      induction k with
      | zero =>
        intro i x hk hr hxl ls hl
        refine lv_iload_n hx hb dX0_isPermutation_17 rfl (lv_at hl 3 rfl) ?_
        refine lv_aload_n hx hb dX0_isPermutation_18 rfl (lv_at hl 0 rfl) ?_
        refine va_get (D := D) (ci := 0) (v := .int (nI (n))) (C := RX0) (T := TX0) (N := 7) hx hb hts hin0 hown hK hP 0 rfl rfl 0 (by decide) hl_n (fun _ h9 => h9) rfl dX0_isPermutation_19 ?_
        refine lv_icmp_ge (tgt := 41) hx hb dX0_isPermutation_22 (by decide) (fun c_22 => ?_) (fun c_22 => ?_)
        ·
          have c_22 := (nI_leI (by omega) (by omega)).mp c_22
          refine lv_iload_n hx hb dX0_isPermutation_41 rfl (lv_at hl 2 rfl) ?_
          refine lv_iconst (v := nI (1)) hx hb dX0_isPermutation_42 (by decide) ?_
          refine lv_aload_n hx hb dX0_isPermutation_43 rfl (lv_at hl 0 rfl) ?_
          refine va_get (D := D) (ci := 0) (v := .int (nI (n))) (C := RX0) (T := TX0) (N := 7) hx hb hts hin0 hown hK hP 0 rfl rfl 0 (by decide) hl_n (fun _ h9 => h9) rfl dX0_isPermutation_44 ?_
          refine lv_ishl hx hb dX0_isPermutation_47 ?_
          refine pu_tp (nb_shl _ (by omega)) ?_
          refine lv_iconst (v := nI (1)) hx hb dX0_isPermutation_48 (by decide) ?_
          refine lv_isub hx hb dX0_isPermutation_49 ?_
          refine pu_tp (pk_sub (by have := Nat.two_pow_pos n; omega)) ?_
          refine lv_icmp_ne (tgt := 57) hx hb dX0_isPermutation_50 (by decide) (fun c_50 => ?_) (fun c_50 => ?_)
          ·
            have c_50 : ¬ _ := fun h9 => c_50 ((nI_eq (by omega) (by have := bd_pow hn; omega)).mpr h9)
            refine lv_iconst (v := nI (0)) hx hb dX0_isPermutation_57 (by decide) ?_
            exact hret _ _ _ (by rw [isP_f2 (fun q => c_50 (hr.symm.trans q))]; rfl) dX0_isPermutation_58
          ·
            have c_50 := (nI_eq (by omega) (by have := bd_pow hn; omega)).mp c_50
            refine lv_iconst (v := nI (1)) hx hb dX0_isPermutation_53 (by decide) ?_
            refine lv_goto (tgt := 58) hx hb dX0_isPermutation_54 (by decide) ?_
            exact hret _ _ _ (by rw [isP_t c_8 (hr.trans c_50)]; rfl) dX0_isPermutation_58
        ·
          have c_22 : ¬ _ := fun h9 => c_22 ((nI_leI (by omega) (by omega)).mpr h9)
          exfalso; omega
      | succ k ih_17 =>
        intro i x hk hr hxl ls hl
        refine lv_iload_n hx hb dX0_isPermutation_17 rfl (lv_at hl 3 rfl) ?_
        refine lv_aload_n hx hb dX0_isPermutation_18 rfl (lv_at hl 0 rfl) ?_
        refine va_get (D := D) (ci := 0) (v := .int (nI (n))) (C := RX0) (T := TX0) (N := 7) hx hb hts hin0 hown hK hP 0 rfl rfl 0 (by decide) hl_n (fun _ h9 => h9) rfl dX0_isPermutation_19 ?_
        refine lv_icmp_ge (tgt := 41) hx hb dX0_isPermutation_22 (by decide) (fun c_22 => ?_) (fun c_22 => ?_)
        ·
          have c_22 := (nI_leI (by omega) (by omega)).mp c_22
          exfalso; omega
        ·
          have c_22 : ¬ _ := fun h9 => c_22 ((nI_leI (by omega) (by omega)).mpr h9)
          refine lv_iload_n hx hb dX0_isPermutation_25 rfl (lv_at hl 2 rfl) ?_
          refine lv_iconst (v := nI (1)) hx hb dX0_isPermutation_26 (by decide) ?_
          refine lv_iload_n hx hb dX0_isPermutation_27 rfl (lv_at hl 1 rfl) ?_
          refine lv_iload_n hx hb dX0_isPermutation_28 rfl (lv_at hl 3 rfl) ?_
          refine pu_S (As := [.int (nI (P)), .int (nI (i))]) (rest := [.int (nI (1)), .int (nI (x))]) ⟨hx, hb, hml, hown, hts⟩ (kX0_image (P := P) (i := i) (by omega) (by omega)) (va_cwS 2 hts gX0_isPermutation_X0_image rfl rfl rfl eX0_image ⟨by decide, by decide⟩) hK rfl hl.1 rfl (Nat.le_of_ble_eq_true rfl) dX0_isPermutation_29 ⟨Nat.zero_le _, Nat.zero_le _⟩ ?_
          refine lv_ishl hx hb dX0_isPermutation_32 ?_
          refine pu_tp (nb_shl _ (by have := im_le P i; omega)) ?_
          refine lv_ior hx hb dX0_isPermutation_33 ?_
          refine pu_tp (nb_or _ _) ?_
          refine lv_istore_n (lv' := [(2, .int (nI (x ||| (1 * 2 ^ (im (P) (i)))))), (0, .ref h), (1, .int (nI (P))), (3, .int (nI (i)))]) hx hb dX0_isPermutation_34 rfl hl (by decide) rfl (fun ls hl => ?_)
          refine lv_iinc (v := nI (i + 1)) (lv' := [(3, .int (nI (i + 1))), (2, .int (nI (x ||| (1 * 2 ^ (im (P) (i)))))), (0, .ref h), (1, .int (nI (P)))]) hx hb dX0_isPermutation_35 hl (k := 3) rfl (nI_1 _) (by decide) rfl (fun ls hl => ?_)
          refine lv_goto (tgt := 17) hx hb dX0_isPermutation_38 (by decide) ?_
          exact ih_17 (i + 1) (x ||| 1 * 2 ^ (im P i)) (by omega) hr (Nat.or_lt_two_pow hxl (bd_pow (im_le _ _))) ls (lv_sub hl [2, 3, 1, 0] rfl)
    exact loop_17 n 0 0 (by omega) rfl (by decide) ls (lv_sub hl [2, 3, 1, 0] rfl)
  ·
    have c_8 : ¬ _ := fun h9 => c_8 ((nb_eq0 (bb_div P n hn hp)).mpr h9)
    refine lv_iconst (v := nI (0)) hx hb dX0_isPermutation_11 (by decide) ?_
    exact hret _ _ _ (by rw [isP_f1 c_8]; rfl) dX0_isPermutation_12
end CXA
