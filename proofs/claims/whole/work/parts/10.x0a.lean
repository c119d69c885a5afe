/-! ===== the class, methods that only look ===== -/
theorem bb_div (P n : Nat) (hn : n ≤ 7) (hp : P < 2 ^ 32) : P / 2 ^ (3 * n) < 2 ^ 32 := Nat.lt_of_le_of_lt (Nat.div_le_self _ _) hp
theorem isP_f1 {n P : Nat} (h : ¬ P / 2 ^ (3 * n) = 0) : isP n P = false := by
  have h0 : Nat.beq (P / 2 ^ (3 * n)) 0 = false := by
    cases hb9 : Nat.beq (P / 2 ^ (3 * n)) 0
    · rfl
    · exact absurd (Nat.eq_of_beq_eq_true hb9) h
  simp [isP, h0]
theorem isP_f2 {n P : Nat} (h : ¬ mkF P n 0 0 = 1 * 2 ^ n - 1) : isP n P = false := by
  have h0 : Nat.beq (mkF P n 0 0) (1 * 2 ^ n - 1) = false := by
    cases hb9 : Nat.beq (mkF P n 0 0) (1 * 2 ^ n - 1)
    · rfl
    · exact absurd (Nat.eq_of_beq_eq_true hb9) h
  rw [isP, h0, Bool.and_false]
theorem isP_t {n P : Nat} (h1 : P / 2 ^ (3 * n) = 0) (h2 : mkF P n 0 0 = 1 * 2 ^ n - 1) : isP n P = true := by
  rw [isP, h1, h2, Nat.beq_refl, Nat.beq_refl]
  rfl
theorem isP_iff {n P : Nat} : isP n P = true ↔ P / 2 ^ (3 * n) = 0 ∧ mkF P n 0 0 = 1 * 2 ^ n - 1 := by
  constructor
  · intro h
    rw [isP, Bool.and_eq_true] at h
    exact ⟨Nat.eq_of_beq_eq_true h.1, Nat.eq_of_beq_eq_true h.2⟩
  · intro h
    exact isP_t h.1 h.2
section CXA
variable {l : Launch} {D : va_G} {cI cG cZ : ClassId} {h a g f : Nat} {ra : Nat → Nat} {n id ct : Nat} {fc : Int32} {ad fl : Nat → Int32} {R : Nat → Nat → Int32} {H : Heap}
theorem eX0_image : yX0_image.cls ≠ "java/lang/invoke/MethodHandle" ∧ yX0_image.cls ≠ "java/lang/invoke/VarHandle" ∧ (parseMethodDescriptor yX0_image.desc).map (fun d => d.parameters.length) = some 2 := by decide +kernel
set_option maxHeartbeats 4000000 in
set_option maxRecDepth 100000 in
theorem kX0_image {P i : Nat} (hp : P < 2 ^ 32) (hi : i ≤ 10) : pI l yX0_image wsX0_image ({ frames := 0, cells := 0, slots := 0, locals := 0 } : Room) [.int (nI (P)), .int (nI (i))] D (gT cI cG cZ) H (nI (im P i)) := by
  refine pI_ofW (cc := cX0_image) (maxL := 2) (ret := (some .int)) (by decide) rfl (Or.inl rfl) (Nat.le_of_ble_eq_true rfl) ?_
  intro p e s m args below meth c QQ hx hb hml hown hts hK hret ls hl
  have hl : lv_has ls 2 [(0, .int (nI (P))), (1, .int (nI (i)))] := hl
  have hown : s.vm.findClass RX0 = some m.cls := hown
  refine lv_iload_n hx hb dX0_image_0 rfl (lv_at hl 0 rfl) ?_
  refine lv_iconst (v := nI (3)) hx hb dX0_image_1 (by decide) ?_
  refine lv_iload_n hx hb dX0_image_2 rfl (lv_at hl 1 rfl) ?_
  refine lv_imul hx hb dX0_image_3 ?_
  refine pu_tp (pk_mul _ _) ?_
  refine lv_iushr (v := nI (P / 2 ^ (3 * i))) hx hb dX0_image_4 (nb_ushr (by omega) (by omega)) ?_
  refine lv_bipush (v := nI (7)) hx hb dX0_image_5 (by decide) ?_
  refine lv_iand hx hb dX0_image_7 ?_
  refine pu_tp (nb_and7 _) ?_
  exact hret _ _ _ (rfl) dX0_image_8
theorem eX0_slotOf : yX0_slotOf.cls ≠ "java/lang/invoke/MethodHandle" ∧ yX0_slotOf.cls ≠ "java/lang/invoke/VarHandle" ∧ (parseMethodDescriptor yX0_slotOf.desc).map (fun d => d.parameters.length) = some 2 := by decide +kernel
set_option maxHeartbeats 4000000 in
set_option maxRecDepth 100000 in
theorem kX0_slotOf {x z : Nat} : pI l yX0_slotOf wsX0_slotOf ({ frames := 0, cells := 0, slots := 0, locals := 0 } : Room) [.int (nI (x)), .int (nI (z))] D (gT cI cG cZ) H (nI (x * 8 + z)) := by
  refine pI_ofW (cc := cX0_slotOf) (maxL := 2) (ret := (some .int)) (by decide) rfl (Or.inl rfl) (Nat.le_of_ble_eq_true rfl) ?_
  intro p e s m args below meth c QQ hx hb hml hown hts hK hret ls hl
  have hl : lv_has ls 2 [(0, .int (nI (x))), (1, .int (nI (z)))] := hl
  have hown : s.vm.findClass RX0 = some m.cls := hown
  refine lv_iload_n hx hb dX0_slotOf_0 rfl (lv_at hl 0 rfl) ?_
  refine lv_bipush (v := nI (8)) hx hb dX0_slotOf_1 (by decide) ?_
  refine lv_imul hx hb dX0_slotOf_3 ?_
  refine pu_tp (pk_mul _ _) ?_
  refine lv_iload_n hx hb dX0_slotOf_4 rfl (lv_at hl 1 rfl) ?_
  refine lv_iadd hx hb dX0_slotOf_5 ?_
  refine pu_tp (nI_add _ _) ?_
  exact hret _ _ _ (rfl) dX0_slotOf_6
theorem eX0_compose : yX0_compose.cls = RX0 ∧ yX0_compose.cls ≠ "java/lang/invoke/MethodHandle" ∧ yX0_compose.cls ≠ "java/lang/invoke/VarHandle" ∧ (parseMethodDescriptor yX0_compose.desc).map (fun d => d.parameters.length) = some 2 := by decide +kernel
set_option maxHeartbeats 4000000 in
set_option maxRecDepth 100000 in
theorem kX0_compose (hP : va_P D vwCl (gW cI cG h a g f ra (nI n) (nI id) (nI ct) fc ad fl R) H) (hn : n ≤ 7) {P Q : Nat} (hp : P < 2 ^ 32) (hq : Q < 2 ^ 32) : pI l yX0_compose wsX0_compose ({ frames := 1, cells := 0, slots := 0, locals := 21 } : Room) [.ref h, .int (nI (P)), .int (nI (Q))] D (gT cI cG cZ) H (nI (tm n P Q)) := by
  refine pI_ofW (cc := cX0_compose) (maxL := 5) (ret := (some .int)) (by decide) rfl (Or.inl rfl) (Nat.le_of_ble_eq_true rfl) ?_
  intro p e s m args below meth c QQ hx hb hml hown hts hK hret ls hl
  have hl : lv_has ls 5 [(0, .ref h), (1, .int (nI (P))), (2, .int (nI (Q)))] := hl
  have hown : s.vm.findClass RX0 = some m.cls := hown
  have hin0 : ∀ w ∈ wsX00, w ∈ wsX0_compose := fun w h => List.mem_cons_of_mem _ (List.mem_append_right _ h)
  have hl_n : (Cond.fieldLink RX0 25 "PermGroup" "n" "I").before args s = true := hts _ (by decide +kernel)
  refine lv_iconst (v := nI (0)) hx hb dX0_compose_0 (by decide) ?_
  refine lv_istore_n (lv' := [(3, .int (nI (0))), (0, .ref h), (1, .int (nI (P))), (2, .int (nI (Q)))]) hx hb dX0_compose_1 rfl hl (by decide) rfl (fun ls hl => ?_)
  refine lv_iconst (v := nI (0)) hx hb dX0_compose_2 (by decide) ?_
  refine lv_istore (lv' := [(4, .int (nI (0))), (3, .int (nI (0))), (0, .ref h), (1, .int (nI (P))), (2, .int (nI (Q)))]) hx hb dX0_compose_3 hl (by decide) rfl (fun ls hl => ?_)
  have loop_5 : ∀ (k i x : Nat), (i + k = n) → (nI (tm n P Q) = nI (cpF P Q k i x)) → ∀ (ls : Array Slot), lv_has ls 5 [(0, .ref h), (1, .int (nI (P))), (2, .int (nI (Q))), (3, .int (nI (x))), (4, .int (nI (i)))] → W p l e ({ frames := 1, cells := 0, slots := 0, locals := 21 } : Room) s m args below meth c H [] 0 0 QQ (F0 m 5 ls []) := by
    intro k
    induction k with
    | zero =>
      intro i x hk hr ls hl
      refine lv_iload hx hb dX0_compose_5 (lv_at hl 4 rfl) ?_
      refine lv_aload_n hx hb dX0_compose_7 rfl (lv_at hl 0 rfl) ?_
      refine va_get (D := D) (ci := 0) (v := .int (nI (n))) (C := RX0) (T := TX0) (N := 7) hx hb hts hin0 hown hK hP 0 rfl rfl 0 (by decide) hl_n (fun _ h9 => h9) rfl dX0_compose_8 ?_
      refine lv_icmp_ge (tgt := 38) hx hb dX0_compose_11 (by decide) (fun c_11 => ?_) (fun c_11 => ?_)
      ·
        have c_11 := (nI_leI (by omega) (by omega)).mp c_11
        refine lv_iload_n hx hb dX0_compose_38 rfl (lv_at hl 3 rfl) ?_
        exact hret _ _ _ (hr.symm) dX0_compose_39
      ·
        have c_11 : ¬ _ := fun h9 => c_11 ((nI_leI (by omega) (by omega)).mpr h9)
        exfalso; omega
    | succ k ih_5 =>
      intro i x hk hr ls hl
      refine lv_iload hx hb dX0_compose_5 (lv_at hl 4 rfl) ?_
      refine lv_aload_n hx hb dX0_compose_7 rfl (lv_at hl 0 rfl) ?_
      refine va_get (D := D) (ci := 0) (v := .int (nI (n))) (C := RX0) (T := TX0) (N := 7) hx hb hts hin0 hown hK hP 0 rfl rfl 0 (by decide) hl_n (fun _ h9 => h9) rfl dX0_compose_8 ?_
      refine lv_icmp_ge (tgt := 38) hx hb dX0_compose_11 (by decide) (fun c_11 => ?_) (fun c_11 => ?_)
      ·
        have c_11 := (nI_leI (by omega) (by omega)).mp c_11
        exfalso; omega
      ·
        have c_11 : ¬ _ := fun h9 => c_11 ((nI_leI (by omega) (by omega)).mpr h9)
        refine lv_iload_n hx hb dX0_compose_14 rfl (lv_at hl 3 rfl) ?_
        refine lv_iload_n hx hb dX0_compose_15 rfl (lv_at hl 2 rfl) ?_
        refine lv_iload_n hx hb dX0_compose_16 rfl (lv_at hl 1 rfl) ?_
        refine lv_iload hx hb dX0_compose_17 (lv_at hl 4 rfl) ?_
        refine pu_S (As := [.int (nI (P)), .int (nI (i))]) (rest := [.int (nI (Q)), .int (nI (x))]) ⟨hx, hb, hml, hown, hts⟩ (kX0_image (P := P) (i := i) (by omega) (by omega)) (va_cwS 2 hts gX0_compose_X0_image rfl rfl rfl eX0_image ⟨by decide, by decide⟩) hK rfl hl.1 rfl (Nat.le_of_ble_eq_true rfl) dX0_compose_19 ⟨Nat.zero_le _, Nat.zero_le _⟩ ?_
        refine pu_S (As := [.int (nI (Q)), .int (nI (im (P) (i)))]) (rest := [.int (nI (x))]) ⟨hx, hb, hml, hown, hts⟩ (kX0_image (P := Q) (i := im P i) (by omega) (Nat.le_trans (im_le _ _) (by decide))) (va_cwS 2 hts gX0_compose_X0_image rfl rfl rfl eX0_image ⟨by decide, by decide⟩) hK rfl hl.1 rfl (Nat.le_of_ble_eq_true rfl) dX0_compose_22 ⟨Nat.zero_le _, Nat.zero_le _⟩ ?_
        refine lv_iconst (v := nI (3)) hx hb dX0_compose_25 (by decide) ?_
        refine lv_iload hx hb dX0_compose_26 (lv_at hl 4 rfl) ?_
        refine lv_imul hx hb dX0_compose_28 ?_
        refine pu_tp (pk_mul _ _) ?_
        refine lv_ishl hx hb dX0_compose_29 ?_
        refine pu_tp (nb_shl _ (by omega)) ?_
        refine lv_ior hx hb dX0_compose_30 ?_
        refine pu_tp (nb_or _ _) ?_
        refine lv_istore_n (lv' := [(3, .int (nI (x ||| ((im (Q) (im P i)) * 2 ^ (3 * i))))), (0, .ref h), (1, .int (nI (P))), (2, .int (nI (Q))), (4, .int (nI (i)))]) hx hb dX0_compose_31 rfl hl (by decide) rfl (fun ls hl => ?_)
        refine lv_iinc (v := nI (i + 1)) (lv' := [(4, .int (nI (i + 1))), (3, .int (nI (x ||| ((im (Q) (im P i)) * 2 ^ (3 * i))))), (0, .ref h), (1, .int (nI (P))), (2, .int (nI (Q)))]) hx hb dX0_compose_32 hl (k := 4) rfl (nI_1 _) (by decide) rfl (fun ls hl => ?_)
        refine lv_goto (tgt := 5) hx hb dX0_compose_35 (by decide) ?_
        exact ih_5 (i + 1) (x ||| im Q (im P i) * 2 ^ (3 * i)) (by omega) hr ls (lv_sub hl [2, 3, 4, 1, 0] rfl)
  exact loop_5 n 0 0 (by omega) rfl ls (lv_sub hl [2, 3, 4, 1, 0] rfl)
theorem eX0_invert : yX0_invert.cls = RX0 ∧ yX0_invert.cls ≠ "java/lang/invoke/MethodHandle" ∧ yX0_invert.cls ≠ "java/lang/invoke/VarHandle" ∧ (parseMethodDescriptor yX0_invert.desc).map (fun d => d.parameters.length) = some 1 := by decide +kernel
set_option maxHeartbeats 4000000 in
set_option maxRecDepth 100000 in
theorem kX0_invert (hP : va_P D vwCl (gW cI cG h a g f ra (nI n) (nI id) (nI ct) fc ad fl R) H) (hn : n ≤ 7) {P : Nat} (hp : P < 2 ^ 32) : pI l yX0_invert wsX0_invert ({ frames := 1, cells := 0, slots := 0, locals := 21 } : Room) [.ref h, .int (nI (P))] D (gT cI cG cZ) H (nI (bk n P)) := by
  refine pI_ofW (cc := cX0_invert) (maxL := 4) (ret := (some .int)) (by decide) rfl (Or.inl rfl) (Nat.le_of_ble_eq_true rfl) ?_
  intro p e s m args below meth c QQ hx hb hml hown hts hK hret ls hl
  have hl : lv_has ls 4 [(0, .ref h), (1, .int (nI (P)))] := hl
  have hown : s.vm.findClass RX0 = some m.cls := hown
  have hin0 : ∀ w ∈ wsX00, w ∈ wsX0_invert := fun w h => List.mem_cons_of_mem _ (List.mem_append_right _ h)
  have hl_n : (Cond.fieldLink RX0 25 "PermGroup" "n" "I").before args s = true := hts _ (by decide +kernel)
  refine lv_iconst (v := nI (0)) hx hb dX0_invert_0 (by decide) ?_
  refine lv_istore_n (lv' := [(2, .int (nI (0))), (0, .ref h), (1, .int (nI (P)))]) hx hb dX0_invert_1 rfl hl (by decide) rfl (fun ls hl => ?_)
  refine lv_iconst (v := nI (0)) hx hb dX0_invert_2 (by decide) ?_
  refine lv_istore_n (lv' := [(3, .int (nI (0))), (2, .int (nI (0))), (0, .ref h), (1, .int (nI (P)))]) hx hb dX0_invert_3 rfl hl (by decide) rfl (fun ls hl => ?_)
  have loop_4 : ∀ (k i x : Nat), (i + k = n) → (nI (bk n P) = nI (bkF P k i x)) → ∀ (ls : Array Slot), lv_has ls 4 [(0, .ref h), (1, .int (nI (P))), (2, .int (nI (x))), (3, .int (nI (i)))] → W p l e ({ frames := 1, cells := 0, slots := 0, locals := 21 } : Room) s m args below meth c H [] 0 0 QQ (F0 m 4 ls []) := by
    intro k
    induction k with
    | zero =>
      intro i x hk hr ls hl
      refine lv_iload_n hx hb dX0_invert_4 rfl (lv_at hl 3 rfl) ?_
      refine lv_aload_n hx hb dX0_invert_5 rfl (lv_at hl 0 rfl) ?_
      refine va_get (D := D) (ci := 0) (v := .int (nI (n))) (C := RX0) (T := TX0) (N := 7) hx hb hts hin0 hown hK hP 0 rfl rfl 0 (by decide) hl_n (fun _ h9 => h9) rfl dX0_invert_6 ?_
      refine lv_icmp_ge (tgt := 30) hx hb dX0_invert_9 (by decide) (fun c_9 => ?_) (fun c_9 => ?_)
      ·
        have c_9 := (nI_leI (by omega) (by omega)).mp c_9
        refine lv_iload_n hx hb dX0_invert_30 rfl (lv_at hl 2 rfl) ?_
        exact hret _ _ _ (hr.symm) dX0_invert_31
      ·
        have c_9 : ¬ _ := fun h9 => c_9 ((nI_leI (by omega) (by omega)).mpr h9)
        exfalso; omega
    | succ k ih_4 =>
      intro i x hk hr ls hl
      refine lv_iload_n hx hb dX0_invert_4 rfl (lv_at hl 3 rfl) ?_
      refine lv_aload_n hx hb dX0_invert_5 rfl (lv_at hl 0 rfl) ?_
      refine va_get (D := D) (ci := 0) (v := .int (nI (n))) (C := RX0) (T := TX0) (N := 7) hx hb hts hin0 hown hK hP 0 rfl rfl 0 (by decide) hl_n (fun _ h9 => h9) rfl dX0_invert_6 ?_
      refine lv_icmp_ge (tgt := 30) hx hb dX0_invert_9 (by decide) (fun c_9 => ?_) (fun c_9 => ?_)
      ·
        have c_9 := (nI_leI (by omega) (by omega)).mp c_9
        exfalso; omega
      ·
        have c_9 : ¬ _ := fun h9 => c_9 ((nI_leI (by omega) (by omega)).mpr h9)
        refine lv_iload_n hx hb dX0_invert_12 rfl (lv_at hl 2 rfl) ?_
        refine lv_iload_n hx hb dX0_invert_13 rfl (lv_at hl 3 rfl) ?_
        refine lv_iconst (v := nI (3)) hx hb dX0_invert_14 (by decide) ?_
        refine lv_iload_n hx hb dX0_invert_15 rfl (lv_at hl 1 rfl) ?_
        refine lv_iload_n hx hb dX0_invert_16 rfl (lv_at hl 3 rfl) ?_
        refine pu_S (As := [.int (nI (P)), .int (nI (i))]) (rest := [.int (nI (3)), .int (nI (i)), .int (nI (x))]) ⟨hx, hb, hml, hown, hts⟩ (kX0_image (P := P) (i := i) (by omega) (by omega)) (va_cwS 2 hts gX0_invert_X0_image rfl rfl rfl eX0_image ⟨by decide, by decide⟩) hK rfl hl.1 rfl (Nat.le_of_ble_eq_true rfl) dX0_invert_17 ⟨Nat.zero_le _, Nat.zero_le _⟩ ?_
        refine lv_imul hx hb dX0_invert_20 ?_
        refine pu_tp (pk_mul _ _) ?_
        refine lv_ishl hx hb dX0_invert_21 ?_
        refine pu_tp (nb_shl _ (by have := im_le P i; omega)) ?_
        refine lv_ior hx hb dX0_invert_22 ?_
        refine pu_tp (nb_or _ _) ?_
        refine lv_istore_n (lv' := [(2, .int (nI (x ||| (i * 2 ^ (3 * (im (P) (i))))))), (0, .ref h), (1, .int (nI (P))), (3, .int (nI (i)))]) hx hb dX0_invert_23 rfl hl (by decide) rfl (fun ls hl => ?_)
        refine lv_iinc (v := nI (i + 1)) (lv' := [(3, .int (nI (i + 1))), (2, .int (nI (x ||| (i * 2 ^ (3 * (im (P) (i))))))), (0, .ref h), (1, .int (nI (P)))]) hx hb dX0_invert_24 hl (k := 3) rfl (nI_1 _) (by decide) rfl (fun ls hl => ?_)
        refine lv_goto (tgt := 4) hx hb dX0_invert_27 (by decide) ?_
        exact ih_4 (i + 1) (x ||| i * 2 ^ (3 * im P i)) (by omega) hr ls (lv_sub hl [2, 3, 1, 0] rfl)
  exact loop_4 n 0 0 (by omega) rfl ls (lv_sub hl [2, 3, 1, 0] rfl)
theorem eX0_isPermutation : yX0_isPermutation.cls = RX0 ∧ yX0_isPermutation.cls ≠ "java/lang/invoke/MethodHandle" ∧ yX0_isPermutation.cls ≠ "java/lang/invoke/VarHandle" ∧ (parseMethodDescriptor yX0_isPermutation.desc).map (fun d => d.parameters.length) = some 1 := by decide +kernel
set_option maxHeartbeats 4000000 in
set_option maxRecDepth 100000 in
theorem kX0_isPermutation (hP : va_P D vwCl (gW cI cG h a g f ra (nI n) (nI id) (nI ct) fc ad fl R) H) (hn : n ≤ 7) {P : Nat} (hp : P < 2 ^ 32) : pI l yX0_isPermutation wsX0_isPermutation ({ frames := 1, cells := 0, slots := 0, locals := 21 } : Room) [.ref h, .int (nI (P))] D (gT cI cG cZ) H (b01 (isP n P)) := by
  refine pI_ofW (cc := cX0_isPermutation) (maxL := 4) (ret := (some .boolean)) (by decide) rfl (Or.inr ⟨rfl, b01_or _⟩) (Nat.le_of_ble_eq_true rfl) ?_
  intro p e s m args below meth c QQ hx hb hml hown hts hK hret ls hl
  have hl : lv_has ls 4 [(0, .ref h), (1, .int (nI (P)))] := hl
  have hown : s.vm.findClass RX0 = some m.cls := hown
  have hin0 : ∀ w ∈ wsX00, w ∈ wsX0_isPermutation := fun w h => List.mem_cons_of_mem _ (List.mem_append_right _ h)
  have hl_n : (Cond.fieldLink RX0 25 "PermGroup" "n" "I").before args s = true := hts _ (by decide +kernel)
  refine lv_iload_n hx hb dX0_isPermutation_0 rfl (lv_at hl 1 rfl) ?_
  refine lv_iconst (v := nI (3)) hx hb dX0_isPermutation_1 (by decide) ?_
  refine lv_aload_n hx hb dX0_isPermutation_2 rfl (lv_at hl 0 rfl) ?_
  refine va_get (D := D) (ci := 0) (v := .int (nI (n))) (C := RX0) (T := TX0) (N := 7) hx hb hts hin0 hown hK hP 0 rfl rfl 0 (by decide) hl_n (fun _ h9 => h9) rfl dX0_isPermutation_3 ?_
  refine lv_imul hx hb dX0_isPermutation_6 ?_
  refine pu_tp (pk_mul _ _) ?_
  refine lv_iushr (v := nI (P / 2 ^ (3 * n))) hx hb dX0_isPermutation_7 (nb_ushr (by omega) (by omega)) ?_
  refine lv_if_eq (tgt := 13) hx hb dX0_isPermutation_8 (by decide) (fun c_8 => ?_) (fun c_8 => ?_)
  ·
    have c_8 := (nb_eq0 (bb_div P n hn hp)).mp c_8
    refine lv_iconst (v := nI (0)) hx hb dX0_isPermutation_13 (by decide) ?_
    refine lv_istore_n (lv' := [(2, .int (nI (0))), (0, .ref h), (1, .int (nI (P)))]) hx hb dX0_isPermutation_14 rfl hl (by decide) rfl (fun ls hl => ?_)
    refine lv_iconst (v := nI (0)) hx hb dX0_isPermutation_15 (by decide) ?_
    refine lv_istore_n (lv' := [(3, .int (nI (0))), (2, .int (nI (0))), (0, .ref h), (1, .int (nI (P)))]) hx hb dX0_isPermutation_16 rfl hl (by decide) rfl (fun ls hl => ?_)
    have loop_17 : ∀ (k i x : Nat), (i + k = n) → (mkF P n 0 0 = mkF P k i x) → (x < 2 ^ 8) → ∀ (ls : Array Slot), lv_has ls 4 [(0, .ref h), (1, .int (nI (P))), (2, .int (nI (x))), (3, .int (nI (i)))] → W p l e ({ frames := 1, cells := 0, slots := 0, locals := 21 } : Room) s m args below meth c H [] 0 0 QQ (F0 m 17 ls []) := by
      intro k
      induction k with
      | zero =>
        intro i x hk hr hxl ls hl
        refine lv_iload_n hx hb dX0_isPermutation_17 rfl (lv_at hl 3 rfl) ?_
        refine lv_aload_n hx hb dX0_isPermutation_18 rfl (lv_at hl 0 rfl) ?_
        refine va_get (D := D) (ci := 0) (v := .int (nI (n))) (C := RX0) (T := TX0) (N := 7) hx hb hts hin0 hown hK hP 0 rfl rfl 0 (by decide) hl_n (fun _ h9 => h9) rfl dX0_isPermutation_19 ?_
        refine lv_icmp_ge (tgt := 41) hx hb dX0_isPermutation_22 (by decide) (fun c_22 => ?_) (fun c_22 => ?_)
        ·
          have c_22 := (nI_leI (by omega) (by omega)).mp c_22
          refine lv_iload_n hx hb dX0_isPermutation_41 rfl (lv_at hl 2 rfl) ?_
          refine lv_iconst (v := nI (1)) hx hb dX0_isPermutation_42 (by decide) ?_
          refine lv_aload_n hx hb dX0_isPermutation_43 rfl (lv_at hl 0 rfl) ?_
          refine va_get (D := D) (ci := 0) (v := .int (nI (n))) (C := RX0) (T := TX0) (N := 7) hx hb hts hin0 hown hK hP 0 rfl rfl 0 (by decide) hl_n (fun _ h9 => h9) rfl dX0_isPermutation_44 ?_
          refine lv_ishl hx hb dX0_isPermutation_47 ?_
          refine pu_tp (nb_shl _ (by omega)) ?_
          refine lv_iconst (v := nI (1)) hx hb dX0_isPermutation_48 (by decide) ?_
          refine lv_isub hx hb dX0_isPermutation_49 ?_
          refine pu_tp (pk_sub (by have := Nat.two_pow_pos n; omega)) ?_
          refine lv_icmp_ne (tgt := 57) hx hb dX0_isPermutation_50 (by decide) (fun c_50 => ?_) (fun c_50 => ?_)
          ·
            have c_50 : ¬ _ := fun h9 => c_50 ((nb_eqI (by omega) (by have := bd_pow hn; omega)).mpr h9)
            refine lv_iconst (v := nI (0)) hx hb dX0_isPermutation_57 (by decide) ?_
            exact hret _ _ _ (by rw [isP_f2 (fun q => c_50 (hr.symm.trans q))]; rfl) dX0_isPermutation_58
          ·
            have c_50 := (nb_eqI (by omega) (by have := bd_pow hn; omega)).mp c_50
            refine lv_iconst (v := nI (1)) hx hb dX0_isPermutation_53 (by decide) ?_
            refine lv_goto (tgt := 58) hx hb dX0_isPermutation_54 (by decide) ?_
            exact hret _ _ _ (by rw [isP_t c_8 (hr.trans c_50)]; rfl) dX0_isPermutation_58
        ·
          have c_22 : ¬ _ := fun h9 => c_22 ((nI_leI (by omega) (by omega)).mpr h9)
          exfalso; omega
      | succ k ih_17 =>
        intro i x hk hr hxl ls hl
        refine lv_iload_n hx hb dX0_isPermutation_17 rfl (lv_at hl 3 rfl) ?_
        refine lv_aload_n hx hb dX0_isPermutation_18 rfl (lv_at hl 0 rfl) ?_
        refine va_get (D := D) (ci := 0) (v := .int (nI (n))) (C := RX0) (T := TX0) (N := 7) hx hb hts hin0 hown hK hP 0 rfl rfl 0 (by decide) hl_n (fun _ h9 => h9) rfl dX0_isPermutation_19 ?_
        refine lv_icmp_ge (tgt := 41) hx hb dX0_isPermutation_22 (by decide) (fun c_22 => ?_) (fun c_22 => ?_)
        ·
          have c_22 := (nI_leI (by omega) (by omega)).mp c_22
          exfalso; omega
        ·
          have c_22 : ¬ _ := fun h9 => c_22 ((nI_leI (by omega) (by omega)).mpr h9)
          refine lv_iload_n hx hb dX0_isPermutation_25 rfl (lv_at hl 2 rfl) ?_
          refine lv_iconst (v := nI (1)) hx hb dX0_isPermutation_26 (by decide) ?_
          refine lv_iload_n hx hb dX0_isPermutation_27 rfl (lv_at hl 1 rfl) ?_
          refine lv_iload_n hx hb dX0_isPermutation_28 rfl (lv_at hl 3 rfl) ?_
          refine pu_S (As := [.int (nI (P)), .int (nI (i))]) (rest := [.int (nI (1)), .int (nI (x))]) ⟨hx, hb, hml, hown, hts⟩ (kX0_image (P := P) (i := i) (by omega) (by omega)) (va_cwS 2 hts gX0_isPermutation_X0_image rfl rfl rfl eX0_image ⟨by decide, by decide⟩) hK rfl hl.1 rfl (Nat.le_of_ble_eq_true rfl) dX0_isPermutation_29 ⟨Nat.zero_le _, Nat.zero_le _⟩ ?_
          refine lv_ishl hx hb dX0_isPermutation_32 ?_
          refine pu_tp (nb_shl _ (by have := im_le P i; omega)) ?_
          refine lv_ior hx hb dX0_isPermutation_33 ?_
          refine pu_tp (nb_or _ _) ?_
          refine lv_istore_n (lv' := [(2, .int (nI (x ||| (1 * 2 ^ (im (P) (i)))))), (0, .ref h), (1, .int (nI (P))), (3, .int (nI (i)))]) hx hb dX0_isPermutation_34 rfl hl (by decide) rfl (fun ls hl => ?_)
          refine lv_iinc (v := nI (i + 1)) (lv' := [(3, .int (nI (i + 1))), (2, .int (nI (x ||| (1 * 2 ^ (im (P) (i)))))), (0, .ref h), (1, .int (nI (P)))]) hx hb dX0_isPermutation_35 hl (k := 3) rfl (nI_1 _) (by decide) rfl (fun ls hl => ?_)
          refine lv_goto (tgt := 17) hx hb dX0_isPermutation_38 (by decide) ?_
          exact ih_17 (i + 1) (x ||| 1 * 2 ^ (im P i)) (by omega) hr (Nat.or_lt_two_pow hxl (bd_pow (im_le _ _))) ls (lv_sub hl [2, 3, 1, 0] rfl)
    exact loop_17 n 0 0 (by omega) rfl (by decide) ls (lv_sub hl [2, 3, 1, 0] rfl)
  ·
    have c_8 : ¬ _ := fun h9 => c_8 ((nb_eq0 (bb_div P n hn hp)).mpr h9)
    refine lv_iconst (v := nI (0)) hx hb dX0_isPermutation_11 (by decide) ?_
    exact hret _ _ _ (by rw [isP_f1 c_8]; rfl) dX0_isPermutation_12
theorem eX0_isOdd : yX0_isOdd.cls = RX0 ∧ yX0_isOdd.cls ≠ "java/lang/invoke/MethodHandle" ∧ yX0_isOdd.cls ≠ "java/lang/invoke/VarHandle" ∧ (parseMethodDescriptor yX0_isOdd.desc).map (fun d => d.parameters.length) = some 1 := by decide +kernel
set_option maxHeartbeats 4000000 in
set_option maxRecDepth 100000 in
theorem kX0_isOdd (hP : va_P D vwCl (gW cI cG h a g f ra (nI n) (nI id) (nI ct) fc ad fl R) H) (hn : n ≤ 7) {P : Nat} (hp : P < 2 ^ 32) (hn1 : 1 ≤ n) : pI l yX0_isOdd wsX0_isOdd ({ frames := 1, cells := 0, slots := 0, locals := 21 } : Room) [.ref h, .int (nI (P))] D (gT cI cG cZ) H (b01 (isO n P)) := by
  refine pI_ofW (cc := cX0_isOdd) (maxL := 5) (ret := (some .boolean)) (by decide) rfl (Or.inr ⟨rfl, b01_or _⟩) (Nat.le_of_ble_eq_true rfl) ?_
  intro p e s m args below meth c QQ hx hb hml hown hts hK hret ls hl
  have hl : lv_has ls 5 [(0, .ref h), (1, .int (nI (P)))] := hl
  have hown : s.vm.findClass RX0 = some m.cls := hown
  have hin0 : ∀ w ∈ wsX00, w ∈ wsX0_isOdd := fun w h => List.mem_cons_of_mem _ (List.mem_append_right _ h)
  have hl_n : (Cond.fieldLink RX0 25 "PermGroup" "n" "I").before args s = true := hts _ (by decide +kernel)
  refine lv_iconst (v := nI (0)) hx hb dX0_isOdd_0 (by decide) ?_
  refine lv_istore_n (lv' := [(2, .int (nI (0))), (0, .ref h), (1, .int (nI (P)))]) hx hb dX0_isOdd_1 rfl hl (by decide) rfl (fun ls hl => ?_)
  refine lv_iconst (v := nI (1)) hx hb dX0_isOdd_2 (by decide) ?_
  refine lv_istore_n (lv' := [(3, .int (nI (1))), (2, .int (nI (0))), (0, .ref h), (1, .int (nI (P)))]) hx hb dX0_isOdd_3 rfl hl (by decide) rfl (fun ls hl => ?_)
  have loop_4 : ∀ (k j x : Nat), (j + k = n) → (odF P (n - 1) 1 0 = odF P k j x) → ∀ (ls : Array Slot), lv_has ls 5 [(0, .ref h), (1, .int (nI (P))), (2, .int (nI (x))), (3, .int (nI (j)))] → W p l e ({ frames := 1, cells := 0, slots := 0, locals := 21 } : Room) s m args below meth c H [] 0 0 QQ (F0 m 4 ls []) := by
    intro k
    induction k with
    | zero =>
      intro j x hk hr ls hl
      refine lv_iload_n hx hb dX0_isOdd_4 rfl (lv_at hl 3 rfl) ?_
      refine lv_aload_n hx hb dX0_isOdd_5 rfl (lv_at hl 0 rfl) ?_
      refine va_get (D := D) (ci := 0) (v := .int (nI (n))) (C := RX0) (T := TX0) (N := 7) hx hb hts hin0 hown hK hP 0 rfl rfl 0 (by decide) hl_n (fun _ h9 => h9) rfl dX0_isOdd_6 ?_
      refine lv_icmp_ge (tgt := 50) hx hb dX0_isOdd_9 (by decide) (fun c_9 => ?_) (fun c_9 => ?_)
      ·
        have c_9 := (nI_leI (by omega) (by omega)).mp c_9
        refine lv_iload_n hx hb dX0_isOdd_50 rfl (lv_at hl 2 rfl) ?_
        refine lv_iconst (v := nI (1)) hx hb dX0_isOdd_51 (by decide) ?_
        refine lv_iand hx hb dX0_isOdd_52 ?_
        refine pu_tp (nb_and1 _) ?_
        refine lv_iconst (v := nI (1)) hx hb dX0_isOdd_53 (by decide) ?_
        refine lv_icmp_ne (tgt := 61) hx hb dX0_isOdd_54 (by decide) (fun c_54 => ?_) (fun c_54 => ?_)
        ·
          have c_54 : ¬ _ := fun h9 => c_54 ((nb_eqI (by omega) (by omega)).mpr h9)
          refine lv_iconst (v := nI (0)) hx hb dX0_isOdd_61 (by decide) ?_
          exact hret _ _ _ (by rw [isO, hr]; show nI 0 = b01 (Nat.beq (x % 2) 1); rw [show x % 2 = 0 by omega]; rfl) dX0_isOdd_62
        ·
          have c_54 := (nb_eqI (by omega) (by omega)).mp c_54
          refine lv_iconst (v := nI (1)) hx hb dX0_isOdd_57 (by decide) ?_
          refine lv_goto (tgt := 62) hx hb dX0_isOdd_58 (by decide) ?_
          exact hret _ _ _ (by rw [isO, hr]; show nI 1 = b01 (Nat.beq (x % 2) 1); rw [c_54]; rfl) dX0_isOdd_62
      ·
        have c_9 : ¬ _ := fun h9 => c_9 ((nI_leI (by omega) (by omega)).mpr h9)
        exfalso; omega
    | succ k ih_4 =>
      intro j x hk hr ls hl
      refine lv_iload_n hx hb dX0_isOdd_4 rfl (lv_at hl 3 rfl) ?_
      refine lv_aload_n hx hb dX0_isOdd_5 rfl (lv_at hl 0 rfl) ?_
      refine va_get (D := D) (ci := 0) (v := .int (nI (n))) (C := RX0) (T := TX0) (N := 7) hx hb hts hin0 hown hK hP 0 rfl rfl 0 (by decide) hl_n (fun _ h9 => h9) rfl dX0_isOdd_6 ?_
      refine lv_icmp_ge (tgt := 50) hx hb dX0_isOdd_9 (by decide) (fun c_9 => ?_) (fun c_9 => ?_)
      ·
        have c_9 := (nI_leI (by omega) (by omega)).mp c_9
        exfalso; omega
      ·
        have c_9 : ¬ _ := fun h9 => c_9 ((nI_leI (by omega) (by omega)).mpr h9)
        refine lv_iconst (v := nI (0)) hx hb dX0_isOdd_12 (by decide) ?_
        refine lv_istore (lv' := [(4, .int (nI (0))), (0, .ref h), (1, .int (nI (P))), (2, .int (nI (x))), (3, .int (nI (j)))]) hx hb dX0_isOdd_13 hl (by decide) rfl (fun ls hl => ?_)
        have loop_15 : ∀ (k2 i z : Nat), (i + k2 = j) → (odI P j j 0 x = odI P j k2 i z) → ∀ (ls : Array Slot), lv_has ls 5 [(0, .ref h), (1, .int (nI (P))), (2, .int (nI (z))), (3, .int (nI (j))), (4, .int (nI (i)))] → W p l e ({ frames := 1, cells := 0, slots := 0, locals := 21 } : Room) s m args below meth c H [] 0 0 QQ (F0 m 15 ls []) := by
          intro k2
          induction k2 with
          | zero =>
            intro i z hk2 hr2 ls hl
            refine lv_iload hx hb dX0_isOdd_15 (lv_at hl 4 rfl) ?_
            refine lv_iload_n hx hb dX0_isOdd_17 rfl (lv_at hl 3 rfl) ?_
            refine lv_icmp_ge (tgt := 44) hx hb dX0_isOdd_18 (by decide) (fun c_18 => ?_) (fun c_18 => ?_)
            ·
              have c_18 := (nI_leI (by omega) (by omega)).mp c_18
              refine lv_iinc (v := nI (j + 1)) (lv' := [(3, .int (nI (j + 1))), (0, .ref h), (1, .int (nI (P))), (2, .int (nI (z))), (4, .int (nI (i)))]) hx hb dX0_isOdd_44 hl (k := 3) rfl (nI_1 _) (by decide) rfl (fun ls hl => ?_)
              refine lv_goto (tgt := 4) hx hb dX0_isOdd_47 (by decide) ?_
              exact ih_4 (j + 1) z (by omega) (by have hz : z = odI P j j 0 x := hr2.symm; rw [hz]; exact hr) ls (lv_sub hl [1, 2, 3, 0] rfl)
            ·
              have c_18 : ¬ _ := fun h9 => c_18 ((nI_leI (by omega) (by omega)).mpr h9)
              exfalso; omega
          | succ k2 ih_15 =>
            intro i z hk2 hr2 ls hl
            refine lv_iload hx hb dX0_isOdd_15 (lv_at hl 4 rfl) ?_
            refine lv_iload_n hx hb dX0_isOdd_17 rfl (lv_at hl 3 rfl) ?_
            refine lv_icmp_ge (tgt := 44) hx hb dX0_isOdd_18 (by decide) (fun c_18 => ?_) (fun c_18 => ?_)
            ·
              have c_18 := (nI_leI (by omega) (by omega)).mp c_18
              exfalso; omega
            ·
              have c_18 : ¬ _ := fun h9 => c_18 ((nI_leI (by omega) (by omega)).mpr h9)
              refine lv_iload_n hx hb dX0_isOdd_21 rfl (lv_at hl 1 rfl) ?_
              refine lv_iload hx hb dX0_isOdd_22 (lv_at hl 4 rfl) ?_
              refine pu_S (As := [.int (nI (P)), .int (nI (i))]) (rest := []) ⟨hx, hb, hml, hown, hts⟩ (kX0_image (P := P) (i := i) (by omega) (by omega)) (va_cwS 2 hts gX0_isOdd_X0_image rfl rfl rfl eX0_image ⟨by decide, by decide⟩) hK rfl hl.1 rfl (Nat.le_of_ble_eq_true rfl) dX0_isOdd_24 ⟨Nat.zero_le _, Nat.zero_le _⟩ ?_
              refine lv_iload_n hx hb dX0_isOdd_27 rfl (lv_at hl 1 rfl) ?_
              refine lv_iload_n hx hb dX0_isOdd_28 rfl (lv_at hl 3 rfl) ?_
              refine pu_S (As := [.int (nI (P)), .int (nI (j))]) (rest := [.int (nI (im (P) (i)))]) ⟨hx, hb, hml, hown, hts⟩ (kX0_image (P := P) (i := j) (by omega) (by omega)) (va_cwS 2 hts gX0_isOdd_X0_image rfl rfl rfl eX0_image ⟨by decide, by decide⟩) hK rfl hl.1 rfl (Nat.le_of_ble_eq_true rfl) dX0_isOdd_29 ⟨Nat.zero_le _, Nat.zero_le _⟩ ?_
              refine lv_icmp_le (tgt := 38) hx hb dX0_isOdd_32 (by decide) (fun c_32 => ?_) (fun c_32 => ?_)
              ·
                have c_32 := (nI_leI (Nat.lt_trans (im_lt _ _) (by decide)) (Nat.lt_trans (im_lt _ _) (by decide))).mp c_32
                refine lv_iinc (v := nI (i + 1)) (lv' := [(4, .int (nI (i + 1))), (0, .ref h), (1, .int (nI (P))), (2, .int (nI (z))), (3, .int (nI (j)))]) hx hb dX0_isOdd_38 hl (k := 4) rfl (nI_1 _) (by decide) rfl (fun ls hl => ?_)
                refine lv_goto (tgt := 15) hx hb dX0_isOdd_41 (by decide) ?_
                exact ih_15 (i + 1) z (by omega) (hr2.trans (odI_f (Nat.not_lt.mpr c_32))) ls (lv_sub hl [1, 2, 3, 4, 0] rfl)
              ·
                have c_32 : ¬ _ := fun h9 => c_32 ((nI_leI (Nat.lt_trans (im_lt _ _) (by decide)) (Nat.lt_trans (im_lt _ _) (by decide))).mpr h9)
                refine lv_iinc (v := nI (z + 1)) (lv' := [(2, .int (nI (z + 1))), (0, .ref h), (1, .int (nI (P))), (3, .int (nI (j))), (4, .int (nI (i)))]) hx hb dX0_isOdd_35 hl (k := 2) rfl (nI_1 _) (by decide) rfl (fun ls hl => ?_)
                refine lv_iinc (v := nI (i + 1)) (lv' := [(4, .int (nI (i + 1))), (2, .int (nI (z + 1))), (0, .ref h), (1, .int (nI (P))), (3, .int (nI (j)))]) hx hb dX0_isOdd_38 hl (k := 4) rfl (nI_1 _) (by decide) rfl (fun ls hl => ?_)
                refine lv_goto (tgt := 15) hx hb dX0_isOdd_41 (by decide) ?_
                exact ih_15 (i + 1) (z + 1) (by omega) (hr2.trans (odI_t (Nat.lt_of_not_le c_32))) ls (lv_sub hl [2, 3, 1, 4, 0] rfl)
        exact loop_15 j 0 x (by omega) rfl ls (lv_sub hl [1, 2, 3, 4, 0] rfl)
  exact loop_4 (n - 1) 1 0 (by omega) rfl ls (lv_sub hl [2, 3, 1, 0] rfl)
theorem eX0_imagesOf : yX0_imagesOf.cls = RX0 ∧ yX0_imagesOf.cls ≠ "java/lang/invoke/MethodHandle" ∧ yX0_imagesOf.cls ≠ "java/lang/invoke/VarHandle" ∧ (parseMethodDescriptor yX0_imagesOf.desc).map (fun d => d.parameters.length) = some 2 := by decide +kernel
set_option maxHeartbeats 4000000 in
set_option maxRecDepth 100000 in
theorem kX0_imagesOf (hP : va_P D vwCl (gW cI cG h a g f ra (nI n) (nI id) (nI ct) fc ad fl R) H) (hn : n ≤ 7) {S P : Nat} (hs : S < 2 ^ 32) (hp : P < 2 ^ 32) : pI l yX0_imagesOf wsX0_imagesOf ({ frames := 1, cells := 0, slots := 0, locals := 21 } : Room) [.ref h, .int (nI (S)), .int (nI (P))] D (gT cI cG cZ) H (nI (imF S P n 0 0)) := by
  refine pI_ofW (cc := cX0_imagesOf) (maxL := 5) (ret := (some .int)) (by decide) rfl (Or.inl rfl) (Nat.le_of_ble_eq_true rfl) ?_
  intro p e s m args below meth c QQ hx hb hml hown hts hK hret ls hl
  have hl : lv_has ls 5 [(0, .ref h), (1, .int (nI (S))), (2, .int (nI (P)))] := hl
  have hown : s.vm.findClass RX0 = some m.cls := hown
  have hin0 : ∀ w ∈ wsX00, w ∈ wsX0_imagesOf := fun w h => List.mem_cons_of_mem _ (List.mem_append_right _ h)
  have hl_n : (Cond.fieldLink RX0 25 "PermGroup" "n" "I").before args s = true := hts _ (by decide +kernel)
  refine lv_iconst (v := nI (0)) hx hb dX0_imagesOf_0 (by decide) ?_
  refine lv_istore_n (lv' := [(3, .int (nI (0))), (0, .ref h), (1, .int (nI (S))), (2, .int (nI (P)))]) hx hb dX0_imagesOf_1 rfl hl (by decide) rfl (fun ls hl => ?_)
  refine lv_iconst (v := nI (0)) hx hb dX0_imagesOf_2 (by decide) ?_
  refine lv_istore (lv' := [(4, .int (nI (0))), (3, .int (nI (0))), (0, .ref h), (1, .int (nI (S))), (2, .int (nI (P)))]) hx hb dX0_imagesOf_3 hl (by decide) rfl (fun ls hl => ?_)
  have loop_5 : ∀ (k i x : Nat), (i + k = n) → (nI (imF S P n 0 0) = nI (imF S P k i x)) → ∀ (ls : Array Slot), lv_has ls 5 [(0, .ref h), (1, .int (nI (S))), (2, .int (nI (P))), (3, .int (nI (x))), (4, .int (nI (i)))] → W p l e ({ frames := 1, cells := 0, slots := 0, locals := 21 } : Room) s m args below meth c H [] 0 0 QQ (F0 m 5 ls []) := by
    intro k
    induction k with
    | zero =>
      intro i x hk hr ls hl
      refine lv_iload hx hb dX0_imagesOf_5 (lv_at hl 4 rfl) ?_
      refine lv_aload_n hx hb dX0_imagesOf_7 rfl (lv_at hl 0 rfl) ?_
      refine va_get (D := D) (ci := 0) (v := .int (nI (n))) (C := RX0) (T := TX0) (N := 7) hx hb hts hin0 hown hK hP 0 rfl rfl 0 (by decide) hl_n (fun _ h9 => h9) rfl dX0_imagesOf_8 ?_
      refine lv_icmp_ge (tgt := 41) hx hb dX0_imagesOf_11 (by decide) (fun c_11 => ?_) (fun c_11 => ?_)
      ·
        have c_11 := (nI_leI (by omega) (by omega)).mp c_11
        refine lv_iload_n hx hb dX0_imagesOf_41 rfl (lv_at hl 3 rfl) ?_
        exact hret _ _ _ (hr.symm) dX0_imagesOf_42
      ·
        have c_11 : ¬ _ := fun h9 => c_11 ((nI_leI (by omega) (by omega)).mpr h9)
        exfalso; omega
    | succ k ih_5 =>
      intro i x hk hr ls hl
      refine lv_iload hx hb dX0_imagesOf_5 (lv_at hl 4 rfl) ?_
      refine lv_aload_n hx hb dX0_imagesOf_7 rfl (lv_at hl 0 rfl) ?_
      refine va_get (D := D) (ci := 0) (v := .int (nI (n))) (C := RX0) (T := TX0) (N := 7) hx hb hts hin0 hown hK hP 0 rfl rfl 0 (by decide) hl_n (fun _ h9 => h9) rfl dX0_imagesOf_8 ?_
      refine lv_icmp_ge (tgt := 41) hx hb dX0_imagesOf_11 (by decide) (fun c_11 => ?_) (fun c_11 => ?_)
      ·
        have c_11 := (nI_leI (by omega) (by omega)).mp c_11
        exfalso; omega
      ·
        have c_11 : ¬ _ := fun h9 => c_11 ((nI_leI (by omega) (by omega)).mpr h9)
        refine lv_iload_n hx hb dX0_imagesOf_14 rfl (lv_at hl 1 rfl) ?_
        refine lv_iload hx hb dX0_imagesOf_15 (lv_at hl 4 rfl) ?_
        refine lv_iushr (v := nI (S / 2 ^ i)) hx hb dX0_imagesOf_17 (nb_ushr (by omega) (by omega)) ?_
        refine lv_iconst (v := nI (1)) hx hb dX0_imagesOf_18 (by decide) ?_
        refine lv_iand hx hb dX0_imagesOf_19 ?_
        refine pu_tp (nb_and1 _) ?_
        refine lv_iconst (v := nI (1)) hx hb dX0_imagesOf_20 (by decide) ?_
        refine lv_icmp_ne (tgt := 35) hx hb dX0_imagesOf_21 (by decide) (fun c_21 => ?_) (fun c_21 => ?_)
        ·
          have c_21 : ¬ _ := fun h9 => c_21 ((nb_eqI (by omega) (by omega)).mpr h9)
          refine lv_iinc (v := nI (i + 1)) (lv' := [(4, .int (nI (i + 1))), (0, .ref h), (1, .int (nI (S))), (2, .int (nI (P))), (3, .int (nI (x)))]) hx hb dX0_imagesOf_35 hl (k := 4) rfl (nI_1 _) (by decide) rfl (fun ls hl => ?_)
          refine lv_goto (tgt := 5) hx hb dX0_imagesOf_38 (by decide) ?_
          exact ih_5 (i + 1) x (by omega) (hr.trans (congrArg nI (imF_f c_21))) ls (lv_sub hl [1, 2, 3, 4, 0] rfl)
        ·
          have c_21 := (nb_eqI (by omega) (by omega)).mp c_21
          refine lv_iload_n hx hb dX0_imagesOf_24 rfl (lv_at hl 3 rfl) ?_
          refine lv_iconst (v := nI (1)) hx hb dX0_imagesOf_25 (by decide) ?_
          refine lv_iload_n hx hb dX0_imagesOf_26 rfl (lv_at hl 2 rfl) ?_
          refine lv_iload hx hb dX0_imagesOf_27 (lv_at hl 4 rfl) ?_
          refine pu_S (As := [.int (nI (P)), .int (nI (i))]) (rest := [.int (nI (1)), .int (nI (x))]) ⟨hx, hb, hml, hown, hts⟩ (kX0_image (P := P) (i := i) (by omega) (by omega)) (va_cwS 2 hts gX0_imagesOf_X0_image rfl rfl rfl eX0_image ⟨by decide, by decide⟩) hK rfl hl.1 rfl (Nat.le_of_ble_eq_true rfl) dX0_imagesOf_29 ⟨Nat.zero_le _, Nat.zero_le _⟩ ?_
          refine lv_ishl hx hb dX0_imagesOf_32 ?_
          refine pu_tp (nb_shl _ (by have := im_le P i; omega)) ?_
          refine lv_ior hx hb dX0_imagesOf_33 ?_
          refine pu_tp (nb_or _ _) ?_
          refine lv_istore_n (lv' := [(3, .int (nI (x ||| (1 * 2 ^ (im (P) (i)))))), (0, .ref h), (1, .int (nI (S))), (2, .int (nI (P))), (4, .int (nI (i)))]) hx hb dX0_imagesOf_34 rfl hl (by decide) rfl (fun ls hl => ?_)
          refine lv_iinc (v := nI (i + 1)) (lv' := [(4, .int (nI (i + 1))), (3, .int (nI (x ||| (1 * 2 ^ (im (P) (i)))))), (0, .ref h), (1, .int (nI (S))), (2, .int (nI (P)))]) hx hb dX0_imagesOf_35 hl (k := 4) rfl (nI_1 _) (by decide) rfl (fun ls hl => ?_)
          refine lv_goto (tgt := 5) hx hb dX0_imagesOf_38 (by decide) ?_
          exact ih_5 (i + 1) (x ||| 1 * 2 ^ (im P i)) (by omega) (hr.trans (congrArg nI (imF_t c_21))) ls (lv_sub hl [2, 3, 4, 1, 0] rfl)
  exact loop_5 n 0 0 (by omega) rfl ls (lv_sub hl [2, 3, 4, 1, 0] rfl)
theorem eX0_entry : yX0_entry.cls = RX0 ∧ yX0_entry.cls ≠ "java/lang/invoke/MethodHandle" ∧ yX0_entry.cls ≠ "java/lang/invoke/VarHandle" ∧ (parseMethodDescriptor yX0_entry.desc).map (fun d => d.parameters.length) = some 2 := by decide +kernel
set_option maxHeartbeats 4000000 in
set_option maxRecDepth 100000 in
theorem kX0_entry (hP : va_P D vwCl (gW cI cG h a g f ra (nI n) (nI id) (nI ct) fc ad fl R) H) (hc : ct ≤ 12) {lv x : Nat} (hlv : lv < 7) (hx8 : x < 8) : pI l yX0_entry wsX0_entry ({ frames := 1, cells := 0, slots := 0, locals := 21 } : Room) [.ref h, .int (nI (lv)), .int (nI (x))] D (gT cI cG cZ) H (R ct (lv * 8 + x)) := by
  refine pI_ofW (cc := cX0_entry) (maxL := 3) (ret := (some .int)) (by decide) rfl (Or.inl rfl) (Nat.le_of_ble_eq_true rfl) ?_
  intro p e s m args below meth c QQ hx hb hml hown hts hK hret ls hl
  have hl : lv_has ls 3 [(0, .ref h), (1, .int (nI (lv))), (2, .int (nI (x)))] := hl
  have hown : s.vm.findClass RX0 = some m.cls := hown
  have hin0 : ∀ w ∈ wsX00, w ∈ wsX0_entry := fun w h => List.mem_cons_of_mem _ (List.mem_append_right _ h)
  have hl_chains : (Cond.fieldLink RX0 15 "PermGroup" "chains" "[[I").before args s = true := hts _ (by decide +kernel)
  have hl_count : (Cond.fieldLink RX0 33 "PermGroup" "count" "I").before args s = true := hts _ (by decide +kernel)
  refine lv_aload_n hx hb dX0_entry_0 rfl (lv_at hl 0 rfl) ?_
  refine va_get (D := D) (ci := 0) (v := .ref g) (C := RX0) (T := TX0) (N := 7) hx hb hts hin0 hown hK hP 0 rfl rfl 4 (by decide) hl_chains (fun _ h9 => h9) rfl dX0_entry_1 ?_
  refine lv_aload_n hx hb dX0_entry_4 rfl (lv_at hl 0 rfl) ?_
  refine va_get (D := D) (ci := 0) (v := .int (nI (ct))) (C := RX0) (T := TX0) (N := 7) hx hb hts hin0 hown hK hP 0 rfl rfl 2 (by decide) hl_count (fun _ h9 => h9) rfl dX0_entry_5 ?_
  refine ga_row hx hb hK hP (by omega) dX0_entry_8 ?_
  refine lv_iload_n hx hb dX0_entry_9 rfl (lv_at hl 1 rfl) ?_
  refine lv_iload_n hx hb dX0_entry_10 rfl (lv_at hl 2 rfl) ?_
  refine pu_S (As := [.int (nI (lv)), .int (nI (x))]) (rest := [.ref (ra ct)]) ⟨hx, hb, hml, hown, hts⟩ (kX0_slotOf (x := lv) (z := x)) (va_cwS 2 hts gX0_entry_X0_slotOf rfl rfl rfl eX0_slotOf ⟨by decide, by decide⟩) hK rfl hl.1 rfl (Nat.le_of_ble_eq_true rfl) dX0_entry_11 ⟨Nat.zero_le _, Nat.zero_le _⟩ ?_
  refine va_iald hx hb hK hP (ct + 4) 0 (gW_row (by omega)) rfl (vp_in_nI (by omega) (by omega)) dX0_entry_14 ?_
  refine pu_tp (nb_clamp (f := (R ct)) (by omega)) ?_
  exact hret _ _ _ (rfl) dX0_entry_15
theorem eX0_fixersOfFirst : yX0_fixersOfFirst.cls = RX0 ∧ yX0_fixersOfFirst.cls ≠ "java/lang/invoke/MethodHandle" ∧ yX0_fixersOfFirst.cls ≠ "java/lang/invoke/VarHandle" ∧ (parseMethodDescriptor yX0_fixersOfFirst.desc).map (fun d => d.parameters.length) = some 1 := by decide +kernel
set_option maxHeartbeats 4000000 in
set_option maxRecDepth 100000 in
theorem kX0_fixersOfFirst (hP : va_P D vwCl (gW cI cG h a g f ra (nI n) (nI id) (nI ct) fc ad fl R) H) (hn : n ≤ 7) (hc : ct ≤ 12) {k : Nat} (hk : k ≤ n) : pI l yX0_fixersOfFirst wsX0_fixersOfFirst ({ frames := 2, cells := 0, slots := 0, locals := 43 } : Room) [.ref h, .int (nI (k))] D (gT cI cG cZ) H (nI (fx (R ct) n k)) := by
  refine pI_ofW (cc := cX0_fixersOfFirst) (maxL := 6) (ret := (some .int)) (by decide) rfl (Or.inl rfl) (Nat.le_of_ble_eq_true rfl) ?_
  intro p e s m args below meth c QQ hx hb hml hown hts hK hret ls hl
  have hl : lv_has ls 6 [(0, .ref h), (1, .int (nI (k)))] := hl
  have hown : s.vm.findClass RX0 = some m.cls := hown
  have hin0 : ∀ w ∈ wsX00, w ∈ wsX0_fixersOfFirst := fun w h => List.mem_cons_of_mem _ (List.mem_append_right _ h)
  have hl_n : (Cond.fieldLink RX0 25 "PermGroup" "n" "I").before args s = true := hts _ (by decide +kernel)
  refine lv_iconst (v := nI (1)) hx hb dX0_fixersOfFirst_0 (by decide) ?_
  refine lv_istore_n (lv' := [(2, .int (nI (1))), (0, .ref h), (1, .int (nI (k)))]) hx hb dX0_fixersOfFirst_1 rfl hl (by decide) rfl (fun ls hl => ?_)
  refine lv_iload_n hx hb dX0_fixersOfFirst_2 rfl (lv_at hl 2 rfl) ?_
  refine lv_istore_n (lv' := [(3, .int (nI (k))), (2, .int (nI (1))), (0, .ref h), (1, .int (nI (k)))]) hx hb dX0_fixersOfFirst_3 rfl hl (by decide) rfl (fun ls hl => ?_)
  have loop_4 : ∀ (j lv x : Nat), (lv + j = n) → (nI (fx (R ct) n k) = nI (fxF (R ct) n j lv x)) → ∀ (ls : Array Slot), lv_has ls 6 [(0, .ref h), (2, .int (nI (x))), (3, .int (nI (lv)))] → W p l e ({ frames := 2, cells := 0, slots := 0, locals := 43 } : Room) s m args below meth c H [] 0 0 QQ (F0 m 4 ls []) := by
    intro j
    induction j with
    | zero =>
      intro lv x hj hr ls hl
      refine lv_iload_n hx hb dX0_fixersOfFirst_4 rfl (lv_at hl 2 rfl) ?_
      refine lv_aload_n hx hb dX0_fixersOfFirst_5 rfl (lv_at hl 0 rfl) ?_
      refine va_get (D := D) (ci := 0) (v := .int (nI (n))) (C := RX0) (T := TX0) (N := 7) hx hb hts hin0 hown hK hP 0 rfl rfl 0 (by decide) hl_n (fun _ h9 => h9) rfl dX0_fixersOfFirst_6 ?_
      refine lv_icmp_ge (tgt := 58) hx hb dX0_fixersOfFirst_9 (by decide) (fun c_9 => ?_) (fun c_9 => ?_)
      ·
        have c_9 := (nI_leI (by omega) (by omega)).mp c_9
        refine lv_iload_n hx hb dX0_fixersOfFirst_58 rfl (lv_at hl 1 rfl) ?_
        exact hret _ _ _ (hr.symm) dX0_fixersOfFirst_59
      ·
        have c_9 : ¬ _ := fun h9 => c_9 ((nI_leI (by omega) (by omega)).mpr h9)
        exfalso; omega
    | succ j ih_4 =>
      intro lv x hj hr ls hl
      refine lv_iload_n hx hb dX0_fixersOfFirst_4 rfl (lv_at hl 2 rfl) ?_
      refine lv_aload_n hx hb dX0_fixersOfFirst_5 rfl (lv_at hl 0 rfl) ?_
      refine va_get (D := D) (ci := 0) (v := .int (nI (n))) (C := RX0) (T := TX0) (N := 7) hx hb hts hin0 hown hK hP 0 rfl rfl 0 (by decide) hl_n (fun _ h9 => h9) rfl dX0_fixersOfFirst_6 ?_
      refine lv_icmp_ge (tgt := 58) hx hb dX0_fixersOfFirst_9 (by decide) (fun c_9 => ?_) (fun c_9 => ?_)
      ·
        have c_9 := (nI_leI (by omega) (by omega)).mp c_9
        exfalso; omega
      ·
        have c_9 : ¬ _ := fun h9 => c_9 ((nI_leI (by omega) (by omega)).mpr h9)
        refine lv_iconst (v := nI (0)) hx hb dX0_fixersOfFirst_12 (by decide) ?_
        refine lv_istore (lv' := [(4, .int (nI (0))), (0, .ref h), (2, .int (nI (x))), (3, .int (nI (lv)))]) hx hb dX0_fixersOfFirst_13 hl (by decide) rfl (fun ls hl => ?_)
        refine lv_iload_n hx hb dX0_fixersOfFirst_15 rfl (lv_at hl 3 rfl) ?_
        refine lv_istore (lv' := [(5, .int (nI (lv))), (4, .int (nI (0))), (0, .ref h), (2, .int (nI (x))), (3, .int (nI (lv)))]) hx hb dX0_fixersOfFirst_16 hl (by decide) rfl (fun ls hl => ?_)
        have loop_18 : ∀ (j2 y z : Nat), (y + j2 = n) → (cnF (R ct) lv (n - lv) lv 0 = cnF (R ct) lv j2 y z) → ∀ (ls : Array Slot), lv_has ls 6 [(0, .ref h), (2, .int (nI (x))), (3, .int (nI (lv))), (4, .int (nI (z))), (5, .int (nI (y)))] → W p l e ({ frames := 2, cells := 0, slots := 0, locals := 43 } : Room) s m args below meth c H [] 0 0 QQ (F0 m 18 ls []) := by
          intro j2
          induction j2 with
          | zero =>
            intro y z hj2 hr2 ls hl
            refine lv_iload hx hb dX0_fixersOfFirst_18 (lv_at hl 4 rfl) ?_
            refine lv_aload_n hx hb dX0_fixersOfFirst_20 rfl (lv_at hl 0 rfl) ?_
            refine va_get (D := D) (ci := 0) (v := .int (nI (n))) (C := RX0) (T := TX0) (N := 7) hx hb hts hin0 hown hK hP 0 rfl rfl 0 (by decide) hl_n (fun _ h9 => h9) rfl dX0_fixersOfFirst_21 ?_
            refine lv_icmp_ge (tgt := 47) hx hb dX0_fixersOfFirst_24 (by decide) (fun c_24 => ?_) (fun c_24 => ?_)
            ·
              have c_24 := (nI_leI (by omega) (by omega)).mp c_24
              refine lv_iload_n hx hb dX0_fixersOfFirst_47 rfl (lv_at hl 1 rfl) ?_
              refine lv_iload hx hb dX0_fixersOfFirst_48 (lv_at hl 3 rfl) ?_
              refine lv_imul hx hb dX0_fixersOfFirst_50 ?_
              refine pu_tp (pk_mul _ _) ?_
              refine lv_istore_n (lv' := [(2, .int (nI (x * z))), (0, .ref h), (3, .int (nI (lv))), (4, .int (nI (z))), (5, .int (nI (y)))]) hx hb dX0_fixersOfFirst_51 rfl hl (by decide) rfl (fun ls hl => ?_)
              refine lv_iinc (v := nI (lv + 1)) (lv' := [(3, .int (nI (lv + 1))), (2, .int (nI (x * z))), (0, .ref h), (4, .int (nI (z))), (5, .int (nI (y)))]) hx hb dX0_fixersOfFirst_52 hl (k := 2) rfl (nI_1 _) (by decide) rfl (fun ls hl => ?_)
              refine lv_goto (tgt := 4) hx hb dX0_fixersOfFirst_55 (by decide) ?_
              exact ih_4 (lv + 1) (x * z) (by omega) (by have hz : z = cnF (R ct) lv (n - lv) lv 0 := hr2.symm; rw [hz]; exact hr) ls (lv_sub hl [2, 1, 0] rfl)
            ·
              have c_24 : ¬ _ := fun h9 => c_24 ((nI_leI (by omega) (by omega)).mpr h9)
              exfalso; omega
          | succ j2 ih_18 =>
            intro y z hj2 hr2 ls hl
            refine lv_iload hx hb dX0_fixersOfFirst_18 (lv_at hl 4 rfl) ?_
            refine lv_aload_n hx hb dX0_fixersOfFirst_20 rfl (lv_at hl 0 rfl) ?_
            refine va_get (D := D) (ci := 0) (v := .int (nI (n))) (C := RX0) (T := TX0) (N := 7) hx hb hts hin0 hown hK hP 0 rfl rfl 0 (by decide) hl_n (fun _ h9 => h9) rfl dX0_fixersOfFirst_21 ?_
            refine lv_icmp_ge (tgt := 47) hx hb dX0_fixersOfFirst_24 (by decide) (fun c_24 => ?_) (fun c_24 => ?_)
            ·
              have c_24 := (nI_leI (by omega) (by omega)).mp c_24
              exfalso; omega
            ·
              have c_24 : ¬ _ := fun h9 => c_24 ((nI_leI (by omega) (by omega)).mpr h9)
              refine lv_aload_n hx hb dX0_fixersOfFirst_27 rfl (lv_at hl 0 rfl) ?_
              refine lv_iload_n hx hb dX0_fixersOfFirst_28 rfl (lv_at hl 2 rfl) ?_
              refine lv_iload hx hb dX0_fixersOfFirst_29 (lv_at hl 4 rfl) ?_
              refine pu_V (As := [.int (nI (lv)), .int (nI (y))]) (rest := []) (b := h) ⟨hx, hb, hml, hown, hts⟩ (kX0_entry hP hc (lv := lv) (x := y) (by omega) (by omega)) (cwV 2 hts gX0_fixersOfFirst_X0_entry rfl rfl rfl eX0_entry ⟨by decide, by decide⟩) (va_recv hK hP (ci := 0) (q0 := 0) rfl rfl) hK rfl hl.1 rfl (Nat.le_of_ble_eq_true rfl) dX0_fixersOfFirst_31 ⟨Nat.zero_le _, Nat.zero_le _⟩ ?_
              refine lv_iconst (v := -1) hx hb dX0_fixersOfFirst_34 (by decide) ?_
              refine lv_icmp_eq (tgt := 41) hx hb dX0_fixersOfFirst_35 (by decide) (fun c_35 => ?_) (fun c_35 => ?_)
              ·
                refine lv_iinc (v := nI (y + 1)) (lv' := [(5, .int (nI (y + 1))), (0, .ref h), (2, .int (nI (x))), (3, .int (nI (lv))), (4, .int (nI (z)))]) hx hb dX0_fixersOfFirst_41 hl (k := 4) rfl (nI_1 _) (by decide) rfl (fun ls hl => ?_)
                refine lv_goto (tgt := 18) hx hb dX0_fixersOfFirst_44 (by decide) ?_
                exact ih_18 (y + 1) z (by omega) (hr2.trans (cnF_n c_35)) ls (lv_sub hl [1, 2, 3, 4, 0] rfl)
              ·
                refine lv_iinc (v := nI (z + 1)) (lv' := [(4, .int (nI (z + 1))), (0, .ref h), (2, .int (nI (x))), (3, .int (nI (lv))), (5, .int (nI (y)))]) hx hb dX0_fixersOfFirst_38 hl (k := 3) rfl (nI_1 _) (by decide) rfl (fun ls hl => ?_)
                refine lv_iinc (v := nI (y + 1)) (lv' := [(5, .int (nI (y + 1))), (4, .int (nI (z + 1))), (0, .ref h), (2, .int (nI (x))), (3, .int (nI (lv)))]) hx hb dX0_fixersOfFirst_41 hl (k := 4) rfl (nI_1 _) (by decide) rfl (fun ls hl => ?_)
                refine lv_goto (tgt := 18) hx hb dX0_fixersOfFirst_44 (by decide) ?_
                exact ih_18 (y + 1) (z + 1) (by omega) (hr2.trans (cnF_y c_35)) ls (lv_sub hl [2, 3, 4, 1, 0] rfl)
        exact loop_18 (n - lv) lv 0 (by omega) rfl ls (lv_sub hl [2, 3, 4, 1, 0] rfl)
  exact loop_4 (n - k) k 1 (by omega) rfl ls (lv_sub hl [2, 1, 0] rfl)
theorem eX0_residue : yX0_residue.cls = RX0 ∧ yX0_residue.cls ≠ "java/lang/invoke/MethodHandle" ∧ yX0_residue.cls ≠ "java/lang/invoke/VarHandle" ∧ (parseMethodDescriptor yX0_residue.desc).map (fun d => d.parameters.length) = some 1 := by decide +kernel
set_option maxHeartbeats 4000000 in
set_option maxRecDepth 100000 in
theorem kX0_residue (hP : va_P D vwCl (gW cI cG h a g f ra (nI n) (nI id) (nI ct) fc ad fl R) H) (hn : n ≤ 7) (hc : ct ≤ 12) {P : Nat} (hp : P < 2 ^ 32) : pI l yX0_residue wsX0_residue ({ frames := 2, cells := 0, slots := 0, locals := 45 } : Room) [.ref h, .int (nI (P))] D (gT cI cG cZ) H (nI (rs (R ct) n P)) := by
  refine pI_ofW (cc := cX0_residue) (maxL := 6) (ret := (some .int)) (by decide) rfl (Or.inl rfl) (Nat.le_of_ble_eq_true rfl) ?_
  intro p e s m args below meth c QQ hx hb hml hown hts hK hret ls hl
  have hl : lv_has ls 6 [(0, .ref h), (1, .int (nI (P)))] := hl
  have hown : s.vm.findClass RX0 = some m.cls := hown
  have hin0 : ∀ w ∈ wsX00, w ∈ wsX0_residue := fun w h => List.mem_cons_of_mem _ (List.mem_append_right _ h)
  have hl_n : (Cond.fieldLink RX0 25 "PermGroup" "n" "I").before args s = true := hts _ (by decide +kernel)
  refine lv_iload_n hx hb dX0_residue_0 rfl (lv_at hl 1 rfl) ?_
  refine lv_istore_n (lv' := [(2, .int (nI (P))), (0, .ref h), (1, .int (nI (P)))]) hx hb dX0_residue_1 rfl hl (by decide) rfl (fun ls hl => ?_)
  refine lv_iconst (v := nI (0)) hx hb dX0_residue_2 (by decide) ?_
  refine lv_istore_n (lv' := [(3, .int (nI (0))), (2, .int (nI (P))), (0, .ref h), (1, .int (nI (P)))]) hx hb dX0_residue_3 rfl hl (by decide) rfl (fun ls hl => ?_)
  have loop_4 : ∀ (k lv r : Nat), (lv + k = n) → (nI (rs (R ct) n P) = nI (rsF (R ct) n k lv r)) → (r < 2 ^ 32) → ∀ (ls : Array Slot), lv_has ls 6 [(0, .ref h), (2, .int (nI (r))), (3, .int (nI (lv)))] → W p l e ({ frames := 2, cells := 0, slots := 0, locals := 45 } : Room) s m args below meth c H [] 0 0 QQ (F0 m 4 ls []) := by
    intro k
    induction k with
    | zero =>
      intro lv r hk hr hrl ls hl
      refine lv_iload_n hx hb dX0_residue_4 rfl (lv_at hl 2 rfl) ?_
      refine lv_aload_n hx hb dX0_residue_5 rfl (lv_at hl 0 rfl) ?_
      refine va_get (D := D) (ci := 0) (v := .int (nI (n))) (C := RX0) (T := TX0) (N := 7) hx hb hts hin0 hown hK hP 0 rfl rfl 0 (by decide) hl_n (fun _ h9 => h9) rfl dX0_residue_6 ?_
      refine lv_icmp_ge (tgt := 60) hx hb dX0_residue_9 (by decide) (fun c_9 => ?_) (fun c_9 => ?_)
      ·
        have c_9 := (nI_leI (by omega) (by omega)).mp c_9
        refine lv_iload_n hx hb dX0_residue_60 rfl (lv_at hl 1 rfl) ?_
        exact hret _ _ _ (hr.symm) dX0_residue_61
      ·
        have c_9 : ¬ _ := fun h9 => c_9 ((nI_leI (by omega) (by omega)).mpr h9)
        exfalso; omega
    | succ k ih_4 =>
      intro lv r hk hr hrl ls hl
      refine lv_iload_n hx hb dX0_residue_4 rfl (lv_at hl 2 rfl) ?_
      refine lv_aload_n hx hb dX0_residue_5 rfl (lv_at hl 0 rfl) ?_
      refine va_get (D := D) (ci := 0) (v := .int (nI (n))) (C := RX0) (T := TX0) (N := 7) hx hb hts hin0 hown hK hP 0 rfl rfl 0 (by decide) hl_n (fun _ h9 => h9) rfl dX0_residue_6 ?_
      refine lv_icmp_ge (tgt := 60) hx hb dX0_residue_9 (by decide) (fun c_9 => ?_) (fun c_9 => ?_)
      ·
        have c_9 := (nI_leI (by omega) (by omega)).mp c_9
        exfalso; omega
      ·
        have c_9 : ¬ _ := fun h9 => c_9 ((nI_leI (by omega) (by omega)).mpr h9)
        refine lv_iload_n hx hb dX0_residue_12 rfl (lv_at hl 1 rfl) ?_
        refine lv_iload_n hx hb dX0_residue_13 rfl (lv_at hl 2 rfl) ?_
        refine pu_S (As := [.int (nI (r)), .int (nI (lv))]) (rest := []) ⟨hx, hb, hml, hown, hts⟩ (kX0_image (P := r) (i := lv) (by omega) (by omega)) (va_cwS 2 hts gX0_residue_X0_image rfl rfl rfl eX0_image ⟨by decide, by decide⟩) hK rfl hl.1 rfl (Nat.le_of_ble_eq_true rfl) dX0_residue_14 ⟨Nat.zero_le _, Nat.zero_le _⟩ ?_
        refine lv_istore (lv' := [(4, .int (nI (im (r) (lv)))), (0, .ref h), (2, .int (nI (r))), (3, .int (nI (lv)))]) hx hb dX0_residue_17 hl (by decide) rfl (fun ls hl => ?_)
        refine lv_iload hx hb dX0_residue_19 (lv_at hl 0 rfl) ?_
        refine lv_iload_n hx hb dX0_residue_21 rfl (lv_at hl 3 rfl) ?_
        refine lv_icmp_eq (tgt := 54) hx hb dX0_residue_22 (by decide) (fun c_22 => ?_) (fun c_22 => ?_)
        ·
          have c_22 := (nb_eqI (Nat.lt_trans (im_lt _ _) (by decide)) (by omega)).mp c_22
          refine lv_iinc (v := nI (lv + 1)) (lv' := [(3, .int (nI (lv + 1))), (4, .int (nI (im (r) (lv)))), (0, .ref h), (2, .int (nI (r)))]) hx hb dX0_residue_54 hl (k := 3) rfl (nI_1 _) (by decide) rfl (fun ls hl => ?_)
          refine lv_goto (tgt := 4) hx hb dX0_residue_57 (by decide) ?_
          exact ih_4 (lv + 1) r (by omega) (hr.trans (congrArg nI (rsF_eq c_22))) hrl ls (lv_sub hl [2, 3, 0] rfl)
        ·
          have c_22 : ¬ _ := fun h9 => c_22 ((nb_eqI (Nat.lt_trans (im_lt _ _) (by decide)) (by omega)).mpr h9)
          refine lv_aload_n hx hb dX0_residue_25 rfl (lv_at hl 1 rfl) ?_
          refine lv_iload_n hx hb dX0_residue_26 rfl (lv_at hl 3 rfl) ?_
          refine lv_iload hx hb dX0_residue_27 (lv_at hl 0 rfl) ?_
          refine pu_V (As := [.int (nI (lv)), .int (nI (im (r) (lv)))]) (rest := []) (b := h) ⟨hx, hb, hml, hown, hts⟩ (kX0_entry hP hc (lv := lv) (x := im r lv) (by omega) (im_lt _ _)) (cwV 2 hts gX0_residue_X0_entry rfl rfl rfl eX0_entry ⟨by decide, by decide⟩) (va_recv hK hP (ci := 0) (q0 := 0) rfl rfl) hK rfl hl.1 rfl (Nat.le_of_ble_eq_true rfl) dX0_residue_29 ⟨Nat.zero_le _, Nat.zero_le _⟩ ?_
          refine lv_istore (lv' := [(5, .int (R ct (lv * 8 + im r lv))), (4, .int (nI (im (r) (lv)))), (0, .ref h), (2, .int (nI (r))), (3, .int (nI (lv)))]) hx hb dX0_residue_32 hl (by decide) rfl (fun ls hl => ?_)
          refine lv_iload hx hb dX0_residue_34 (lv_at hl 0 rfl) ?_
          refine lv_iconst (v := -1) hx hb dX0_residue_36 (by decide) ?_
          refine lv_icmp_ne (tgt := 42) hx hb dX0_residue_37 (by decide) (fun c_37 => ?_) (fun c_37 => ?_)
          ·
            refine lv_aload_n hx hb dX0_residue_42 rfl (lv_at hl 2 rfl) ?_
            refine lv_iload_n hx hb dX0_residue_43 rfl (lv_at hl 3 rfl) ?_
            refine lv_aload_n hx hb dX0_residue_44 rfl (lv_at hl 2 rfl) ?_
            refine lv_iload hx hb dX0_residue_45 (lv_at hl 0 rfl) ?_
            refine pu_tp (z := nI (tn (R ct (lv * 8 + im r lv)))) ((nI_tn _).symm) ?_
            refine pu_V (As := [.int (nI (tn (R ct (lv * 8 + im r lv))))]) (rest := [.int (nI (r)), .ref h]) (b := h) ⟨hx, hb, hml, hown, hts⟩ (kX0_invert hP hn (P := tn (R ct (lv * 8 + im r lv))) (tn_lt _)) (cwV 1 hts gX0_residue_X0_invert rfl rfl rfl eX0_invert ⟨by decide, by decide⟩) (va_recv hK hP (ci := 0) (q0 := 0) rfl rfl) hK rfl hl.1 rfl (Nat.le_of_ble_eq_true rfl) dX0_residue_47 ⟨Nat.zero_le _, Nat.zero_le _⟩ ?_
            refine pu_V (As := [.int (nI (r)), .int (nI (bk n (tn (R ct (lv * 8 + im r lv)))))]) (rest := []) (b := h) ⟨hx, hb, hml, hown, hts⟩ (kX0_compose hP hn (P := r) (Q := bk n (tn (R ct (lv * 8 + im r lv)))) (by omega) (Nat.lt_trans (bk_lt hn _) (by decide))) (cwV 2 hts gX0_residue_X0_compose rfl rfl rfl eX0_compose ⟨by decide, by decide⟩) (va_recv hK hP (ci := 0) (q0 := 0) rfl rfl) hK rfl hl.1 rfl (Nat.le_of_ble_eq_true rfl) dX0_residue_50 ⟨Nat.zero_le _, Nat.zero_le _⟩ ?_
            refine lv_istore_n (lv' := [(2, .int (nI (tm n (r) (bk n (tn (R ct (lv * 8 + im r lv))))))), (5, .int (R ct (lv * 8 + im r lv))), (4, .int (nI (im (r) (lv)))), (0, .ref h), (3, .int (nI (lv)))]) hx hb dX0_residue_53 rfl hl (by decide) rfl (fun ls hl => ?_)
            refine lv_iinc (v := nI (lv + 1)) (lv' := [(3, .int (nI (lv + 1))), (2, .int (nI (tm n (r) (bk n (tn (R ct (lv * 8 + im r lv))))))), (5, .int (R ct (lv * 8 + im r lv))), (4, .int (nI (im (r) (lv)))), (0, .ref h)]) hx hb dX0_residue_54 hl (k := 4) rfl (nI_1 _) (by decide) rfl (fun ls hl => ?_)
            refine lv_goto (tgt := 4) hx hb dX0_residue_57 (by decide) ?_
            exact ih_4 (lv + 1) (tm n r (bk n (tn (R ct (lv * 8 + im r lv))))) (by omega) (hr.trans (congrArg nI (rsF_go c_22 c_37))) (Nat.lt_trans (tm_lt hn _ _) (by decide)) ls (lv_sub hl [4, 1, 0] rfl)
          ·
            refine lv_iload_n hx hb dX0_residue_40 rfl (lv_at hl 3 rfl) ?_
            exact hret _ _ _ ((hr.trans (congrArg nI (rsF_no c_22 c_37))).symm) dX0_residue_41
  exact loop_4 n 0 P (by omega) rfl hp ls (lv_sub hl [2, 1, 0] rfl)
theorem eX0_isElement : yX0_isElement.cls = RX0 ∧ yX0_isElement.cls ≠ "java/lang/invoke/MethodHandle" ∧ yX0_isElement.cls ≠ "java/lang/invoke/VarHandle" ∧ (parseMethodDescriptor yX0_isElement.desc).map (fun d => d.parameters.length) = some 1 := by decide +kernel
set_option maxHeartbeats 4000000 in
set_option maxRecDepth 100000 in
theorem kX0_isElement (hP : va_P D vwCl (gW cI cG h a g f ra (nI n) (nI id) (nI ct) fc ad fl R) H) (hn : n ≤ 7) (hc : ct ≤ 12) (hid : id < 2 ^ 32) {P : Nat} (hp : P < 2 ^ 32) : pI l yX0_isElement wsX0_isElement ({ frames := 3, cells := 0, slots := 0, locals := 70 } : Room) [.ref h, .int (nI (P))] D (gT cI cG cZ) H (b01 (decide (rs (R ct) n P = id))) := by
  refine pI_ofW (cc := cX0_isElement) (maxL := 2) (ret := (some .boolean)) (by decide) rfl (Or.inr ⟨rfl, b01_or _⟩) (Nat.le_of_ble_eq_true rfl) ?_
  intro p e s m args below meth c QQ hx hb hml hown hts hK hret ls hl
  have hl : lv_has ls 2 [(0, .ref h), (1, .int (nI (P)))] := hl
  have hown : s.vm.findClass RX0 = some m.cls := hown
  have hin0 : ∀ w ∈ wsX00, w ∈ wsX0_isElement := fun w h => List.mem_cons_of_mem _ (List.mem_append_right _ h)
  have hl_identity : (Cond.fieldLink RX0 66 "PermGroup" "identity" "I").before args s = true := hts _ (by decide +kernel)
  refine lv_aload_n hx hb dX0_isElement_0 rfl (lv_at hl 0 rfl) ?_
  refine lv_iload_n hx hb dX0_isElement_1 rfl (lv_at hl 1 rfl) ?_
  refine pu_V (As := [.int (nI (P))]) (rest := []) (b := h) ⟨hx, hb, hml, hown, hts⟩ (kX0_residue hP hn hc hp) (cwV 1 hts gX0_isElement_X0_residue rfl rfl rfl eX0_residue ⟨by decide, by decide⟩) (va_recv hK hP (ci := 0) (q0 := 0) rfl rfl) hK rfl hl.1 rfl (Nat.le_of_ble_eq_true rfl) dX0_isElement_2 ⟨Nat.zero_le _, Nat.zero_le _⟩ ?_
  refine lv_aload_n hx hb dX0_isElement_5 rfl (lv_at hl 0 rfl) ?_
  refine va_get (D := D) (ci := 0) (v := .int (nI (id))) (C := RX0) (T := TX0) (N := 7) hx hb hts hin0 hown hK hP 0 rfl rfl 1 (by decide) hl_identity (fun _ h9 => h9) rfl dX0_isElement_6 ?_
  refine lv_icmp_ne (tgt := 16) hx hb dX0_isElement_9 (by decide) (fun c_9 => ?_) (fun c_9 => ?_)
  ·
    have c_9 : ¬ _ := fun h9 => c_9 ((nb_eqI (show rs (R ct) n P < 2 ^ 32 from rsF_lt _ hn _ _ _ hp) hid).mpr h9)
    refine lv_iconst (v := nI (0)) hx hb dX0_isElement_16 (by decide) ?_
    exact hret _ _ _ (by rw [decide_eq_false c_9]; rfl) dX0_isElement_17
  ·
    have c_9 := (nb_eqI (show rs (R ct) n P < 2 ^ 32 from rsF_lt _ hn _ _ _ hp) hid).mp c_9
    refine lv_iconst (v := nI (1)) hx hb dX0_isElement_12 (by decide) ?_
    refine lv_goto (tgt := 17) hx hb dX0_isElement_13 (by decide) ?_
    exact hret _ _ _ (by rw [decide_eq_true c_9]; rfl) dX0_isElement_17
theorem eX0_entriesBelow : yX0_entriesBelow.cls = RX0 ∧ yX0_entriesBelow.cls ≠ "java/lang/invoke/MethodHandle" ∧ yX0_entriesBelow.cls ≠ "java/lang/invoke/VarHandle" ∧ (parseMethodDescriptor yX0_entriesBelow.desc).map (fun d => d.parameters.length) = some 3 := by decide +kernel
set_option maxHeartbeats 4000000 in
set_option maxRecDepth 100000 in
theorem kX0_entriesBelow (hP : va_P D vwCl (gW cI cG h a g f ra (nI n) (nI id) (nI ct) fc ad fl R) H) (hn : n ≤ 7) (hc : ct ≤ 12) {lv fo lim : Nat} (hlv : lv < n) (hfo : fo < 2 ^ 32) (hlim : lim < 2 ^ 31) : pI l yX0_entriesBelow wsX0_entriesBelow ({ frames := 2, cells := 0, slots := 0, locals := 43 } : Room) [.ref h, .int (nI (lv)), .int (nI (fo)), .int (nI (lim))] D (gT cI cG cZ) H (nI (elF (R ct) lv fo lim (n - lv) lv 0)) := by
  refine pI_ofW (cc := cX0_entriesBelow) (maxL := 6) (ret := (some .int)) (by decide) rfl (Or.inl rfl) (Nat.le_of_ble_eq_true rfl) ?_
  intro p e s m args below meth c QQ hx hb hml hown hts hK hret ls hl
  have hl : lv_has ls 6 [(0, .ref h), (1, .int (nI (lv))), (2, .int (nI (fo))), (3, .int (nI (lim)))] := hl
  have hown : s.vm.findClass RX0 = some m.cls := hown
  have hin0 : ∀ w ∈ wsX00, w ∈ wsX0_entriesBelow := fun w h => List.mem_cons_of_mem _ (List.mem_append_right _ h)
  have hl_n : (Cond.fieldLink RX0 25 "PermGroup" "n" "I").before args s = true := hts _ (by decide +kernel)
  refine lv_iconst (v := nI (0)) hx hb dX0_entriesBelow_0 (by decide) ?_
  refine lv_istore (lv' := [(4, .int (nI (0))), (0, .ref h), (1, .int (nI (lv))), (2, .int (nI (fo))), (3, .int (nI (lim)))]) hx hb dX0_entriesBelow_1 hl (by decide) rfl (fun ls hl => ?_)
  refine lv_iload_n hx hb dX0_entriesBelow_3 rfl (lv_at hl 2 rfl) ?_
  refine lv_istore (lv' := [(5, .int (nI (lv))), (4, .int (nI (0))), (0, .ref h), (1, .int (nI (lv))), (2, .int (nI (fo))), (3, .int (nI (lim)))]) hx hb dX0_entriesBelow_4 hl (by decide) rfl (fun ls hl => ?_)
  have loop_6 : ∀ (j y z : Nat), (y + j = n) → (nI (elF (R ct) lv fo lim (n - lv) lv 0) = nI (elF (R ct) lv fo lim j y z)) → ∀ (ls : Array Slot), lv_has ls 6 [(0, .ref h), (1, .int (nI (lv))), (2, .int (nI (fo))), (3, .int (nI (lim))), (4, .int (nI (z))), (5, .int (nI (y)))] → W p l e ({ frames := 2, cells := 0, slots := 0, locals := 43 } : Room) s m args below meth c H [] 0 0 QQ (F0 m 6 ls []) := by
    intro j
    induction j with
    | zero =>
      intro y z hj hr ls hl
      refine lv_iload hx hb dX0_entriesBelow_6 (lv_at hl 5 rfl) ?_
      refine lv_aload_n hx hb dX0_entriesBelow_8 rfl (lv_at hl 0 rfl) ?_
      refine va_get (D := D) (ci := 0) (v := .int (nI (n))) (C := RX0) (T := TX0) (N := 7) hx hb hts hin0 hown hK hP 0 rfl rfl 0 (by decide) hl_n (fun _ h9 => h9) rfl dX0_entriesBelow_9 ?_
      refine lv_icmp_ge (tgt := 45) hx hb dX0_entriesBelow_12 (by decide) (fun c_12 => ?_) (fun c_12 => ?_)
      ·
        have c_12 := (nI_leI (by omega) (by omega)).mp c_12
        refine lv_iload hx hb dX0_entriesBelow_45 (lv_at hl 4 rfl) ?_
        exact hret _ _ _ (hr.symm) dX0_entriesBelow_47
      ·
        have c_12 : ¬ _ := fun h9 => c_12 ((nI_leI (by omega) (by omega)).mpr h9)
        exfalso; omega
    | succ j ih_6 =>
      intro y z hj hr ls hl
      refine lv_iload hx hb dX0_entriesBelow_6 (lv_at hl 5 rfl) ?_
      refine lv_aload_n hx hb dX0_entriesBelow_8 rfl (lv_at hl 0 rfl) ?_
      refine va_get (D := D) (ci := 0) (v := .int (nI (n))) (C := RX0) (T := TX0) (N := 7) hx hb hts hin0 hown hK hP 0 rfl rfl 0 (by decide) hl_n (fun _ h9 => h9) rfl dX0_entriesBelow_9 ?_
      refine lv_icmp_ge (tgt := 45) hx hb dX0_entriesBelow_12 (by decide) (fun c_12 => ?_) (fun c_12 => ?_)
      ·
        have c_12 := (nI_leI (by omega) (by omega)).mp c_12
        exfalso; omega
      ·
        have c_12 : ¬ _ := fun h9 => c_12 ((nI_leI (by omega) (by omega)).mpr h9)
        refine lv_aload_n hx hb dX0_entriesBelow_15 rfl (lv_at hl 0 rfl) ?_
        refine lv_iload_n hx hb dX0_entriesBelow_16 rfl (lv_at hl 1 rfl) ?_
        refine lv_iload hx hb dX0_entriesBelow_17 (lv_at hl 5 rfl) ?_
        refine pu_V (As := [.int (nI (lv)), .int (nI (y))]) (rest := []) (b := h) ⟨hx, hb, hml, hown, hts⟩ (kX0_entry hP hc (lv := lv) (x := y) (by omega) (by omega)) (cwV 2 hts gX0_entriesBelow_X0_entry rfl rfl rfl eX0_entry ⟨by decide, by decide⟩) (va_recv hK hP (ci := 0) (q0 := 0) rfl rfl) hK rfl hl.1 rfl (Nat.le_of_ble_eq_true rfl) dX0_entriesBelow_19 ⟨Nat.zero_le _, Nat.zero_le _⟩ ?_
        refine lv_iconst (v := -1) hx hb dX0_entriesBelow_22 (by decide) ?_
        refine lv_icmp_eq (tgt := 39) hx hb dX0_entriesBelow_23 (by decide) (fun c_23 => ?_) (fun c_23 => ?_)
        ·
          refine lv_iinc (v := nI (y + 1)) (lv' := [(5, .int (nI (y + 1))), (0, .ref h), (1, .int (nI (lv))), (2, .int (nI (fo))), (3, .int (nI (lim))), (4, .int (nI (z)))]) hx hb dX0_entriesBelow_39 hl (k := 5) rfl (nI_1 _) (by decide) rfl (fun ls hl => ?_)
          refine lv_goto (tgt := 6) hx hb dX0_entriesBelow_42 (by decide) ?_
          exact ih_6 (y + 1) z (by omega) (hr.trans (congrArg nI (by first | exact elF_n c_23 | exact elF_m c_23 (Nat.not_lt.mpr c_33)))) ls (lv_sub hl [1, 2, 3, 4, 5, 0] rfl)
        ·
          refine lv_iload_n hx hb dX0_entriesBelow_26 rfl (lv_at hl 2 rfl) ?_
          refine lv_iload hx hb dX0_entriesBelow_27 (lv_at hl 5 rfl) ?_
          refine pu_S (As := [.int (nI (fo)), .int (nI (y))]) (rest := []) ⟨hx, hb, hml, hown, hts⟩ (kX0_image (P := fo) (i := y) (by omega) (by omega)) (va_cwS 2 hts gX0_entriesBelow_X0_image rfl rfl rfl eX0_image ⟨by decide, by decide⟩) hK rfl hl.1 rfl (Nat.le_of_ble_eq_true rfl) dX0_entriesBelow_29 ⟨Nat.zero_le _, Nat.zero_le _⟩ ?_
          refine lv_iload_n hx hb dX0_entriesBelow_32 rfl (lv_at hl 3 rfl) ?_
          refine lv_icmp_ge (tgt := 39) hx hb dX0_entriesBelow_33 (by decide) (fun c_33 => ?_) (fun c_33 => ?_)
          ·
            have c_33 := (nI_leI (by omega) (Nat.lt_trans (im_lt _ _) (by decide))).mp c_33
            refine lv_iinc (v := nI (y + 1)) (lv' := [(5, .int (nI (y + 1))), (0, .ref h), (1, .int (nI (lv))), (2, .int (nI (fo))), (3, .int (nI (lim))), (4, .int (nI (z)))]) hx hb dX0_entriesBelow_39 hl (k := 5) rfl (nI_1 _) (by decide) rfl (fun ls hl => ?_)
            refine lv_goto (tgt := 6) hx hb dX0_entriesBelow_42 (by decide) ?_
            exact ih_6 (y + 1) z (by omega) (hr.trans (congrArg nI (by first | exact elF_n c_23 | exact elF_m c_23 (Nat.not_lt.mpr c_33)))) ls (lv_sub hl [1, 2, 3, 4, 5, 0] rfl)
          ·
            have c_33 : ¬ _ := fun h9 => c_33 ((nI_leI (by omega) (Nat.lt_trans (im_lt _ _) (by decide))).mpr h9)
            refine lv_iinc (v := nI (z + 1)) (lv' := [(4, .int (nI (z + 1))), (0, .ref h), (1, .int (nI (lv))), (2, .int (nI (fo))), (3, .int (nI (lim))), (5, .int (nI (y)))]) hx hb dX0_entriesBelow_36 hl (k := 4) rfl (nI_1 _) (by decide) rfl (fun ls hl => ?_)
            refine lv_iinc (v := nI (y + 1)) (lv' := [(5, .int (nI (y + 1))), (4, .int (nI (z + 1))), (0, .ref h), (1, .int (nI (lv))), (2, .int (nI (fo))), (3, .int (nI (lim)))]) hx hb dX0_entriesBelow_39 hl (k := 5) rfl (nI_1 _) (by decide) rfl (fun ls hl => ?_)
            refine lv_goto (tgt := 6) hx hb dX0_entriesBelow_42 (by decide) ?_
            exact ih_6 (y + 1) (z + 1) (by omega) (hr.trans (congrArg nI (elF_y c_23 (Nat.lt_of_not_le c_33)))) ls (lv_sub hl [2, 3, 4, 5, 1, 0] rfl)
  exact loop_6 (n - lv) lv 0 (by omega) rfl ls (lv_sub hl [2, 3, 4, 5, 1, 0] rfl)
theorem eX0_inCoset : yX0_inCoset.cls = RX0 ∧ yX0_inCoset.cls ≠ "java/lang/invoke/MethodHandle" ∧ yX0_inCoset.cls ≠ "java/lang/invoke/VarHandle" ∧ (parseMethodDescriptor yX0_inCoset.desc).map (fun d => d.parameters.length) = some 2 := by decide +kernel
set_option maxHeartbeats 4000000 in
set_option maxRecDepth 100000 in
theorem kX0_inCoset (hP : va_P D vwCl (gW cI cG h a g f ra (nI n) (nI id) (nI ct) fc ad fl R) H) (hn : n ≤ 7) (hc : ct ≤ 12) {P k : Nat} (hp : P < 2 ^ 32) (hk : k < 2 ^ 31) : pI l yX0_inCoset wsX0_inCoset ({ frames := 3, cells := 0, slots := 0, locals := 68 } : Room) [.ref h, .int (nI (P)), .int (nI (k))] D (gT cI cG cZ) H (nI (ic (R ct) n P k)) := by
  refine pI_ofW (cc := cX0_inCoset) (maxL := 10) (ret := (some .int)) (by decide) rfl (Or.inl rfl) (Nat.le_of_ble_eq_true rfl) ?_
  intro p e s m args below meth c QQ hx hb hml hown hts hK hret ls hl
  have hl : lv_has ls 10 [(0, .ref h), (1, .int (nI (P))), (2, .int (nI (k)))] := hl
  have hown : s.vm.findClass RX0 = some m.cls := hown
  have hin0 : ∀ w ∈ wsX00, w ∈ wsX0_inCoset := fun w h => List.mem_cons_of_mem _ (List.mem_append_right _ h)
  have hl_n : (Cond.fieldLink RX0 25 "PermGroup" "n" "I").before args s = true := hts _ (by decide +kernel)
  refine lv_iload_n hx hb dX0_inCoset_0 rfl (lv_at hl 1 rfl) ?_
  refine lv_istore_n (lv' := [(3, .int (nI (P))), (0, .ref h), (1, .int (nI (P))), (2, .int (nI (k)))]) hx hb dX0_inCoset_1 rfl hl (by decide) rfl (fun ls hl => ?_)
  refine lv_iload_n hx hb dX0_inCoset_2 rfl (lv_at hl 3 rfl) ?_
  refine lv_istore (lv' := [(4, .int (nI (k))), (3, .int (nI (P))), (0, .ref h), (1, .int (nI (P))), (2, .int (nI (k)))]) hx hb dX0_inCoset_3 hl (by decide) rfl (fun ls hl => ?_)
  refine lv_iconst (v := nI (0)) hx hb dX0_inCoset_5 (by decide) ?_
  refine lv_istore (lv' := [(5, .int (nI (0))), (4, .int (nI (k))), (3, .int (nI (P))), (0, .ref h), (1, .int (nI (P))), (2, .int (nI (k)))]) hx hb dX0_inCoset_6 hl (by decide) rfl (fun ls hl => ?_)
  have loop_8 : ∀ (j lv fo be : Nat), (lv + j = n) → (nI (ic (R ct) n P k) = nI (icF (R ct) n j lv fo be)) → (fo < 2 ^ 32) → (be < 2 ^ 31) → ∀ (ls : Array Slot), lv_has ls 10 [(0, .ref h), (3, .int (nI (fo))), (4, .int (nI (be))), (5, .int (nI (lv)))] → W p l e ({ frames := 3, cells := 0, slots := 0, locals := 68 } : Room) s m args below meth c H [] 0 0 QQ (F0 m 8 ls []) := by
    intro j
    induction j with
    | zero =>
      intro lv fo be hj hr hfo hbe ls hl
      refine lv_iload hx hb dX0_inCoset_8 (lv_at hl 3 rfl) ?_
      refine lv_aload_n hx hb dX0_inCoset_10 rfl (lv_at hl 0 rfl) ?_
      refine va_get (D := D) (ci := 0) (v := .int (nI (n))) (C := RX0) (T := TX0) (N := 7) hx hb hts hin0 hown hK hP 0 rfl rfl 0 (by decide) hl_n (fun _ h9 => h9) rfl dX0_inCoset_11 ?_
      refine lv_icmp_ge (tgt := 107) hx hb dX0_inCoset_14 (by decide) (fun c_14 => ?_) (fun c_14 => ?_)
      ·
        have c_14 := (nI_leI (by omega) (by omega)).mp c_14
        refine lv_iload_n hx hb dX0_inCoset_107 rfl (lv_at hl 1 rfl) ?_
        exact hret _ _ _ (hr.symm) dX0_inCoset_108
      ·
        have c_14 : ¬ _ := fun h9 => c_14 ((nI_leI (by omega) (by omega)).mpr h9)
        exfalso; omega
    | succ j ih_8 =>
      intro lv fo be hj hr hfo hbe ls hl
      refine lv_iload hx hb dX0_inCoset_8 (lv_at hl 3 rfl) ?_
      refine lv_aload_n hx hb dX0_inCoset_10 rfl (lv_at hl 0 rfl) ?_
      refine va_get (D := D) (ci := 0) (v := .int (nI (n))) (C := RX0) (T := TX0) (N := 7) hx hb hts hin0 hown hK hP 0 rfl rfl 0 (by decide) hl_n (fun _ h9 => h9) rfl dX0_inCoset_11 ?_
      refine lv_icmp_ge (tgt := 107) hx hb dX0_inCoset_14 (by decide) (fun c_14 => ?_) (fun c_14 => ?_)
      ·
        have c_14 := (nI_leI (by omega) (by omega)).mp c_14
        exfalso; omega
      ·
        have c_14 : ¬ _ := fun h9 => c_14 ((nI_leI (by omega) (by omega)).mpr h9)
        refine lv_aload_n hx hb dX0_inCoset_17 rfl (lv_at hl 0 rfl) ?_
        refine lv_iload hx hb dX0_inCoset_18 (lv_at hl 3 rfl) ?_
        refine lv_iconst (v := nI (1)) hx hb dX0_inCoset_20 (by decide) ?_
        refine lv_iadd hx hb dX0_inCoset_21 ?_
        refine pu_tp (nI_add _ _) ?_
        refine pu_V (As := [.int (nI (lv + 1))]) (rest := []) (b := h) ⟨hx, hb, hml, hown, hts⟩ (kX0_fixersOfFirst hP hn hc (k := lv + 1) (by omega)) (cwV 1 hts gX0_inCoset_X0_fixersOfFirst rfl rfl rfl eX0_fixersOfFirst ⟨by decide, by decide⟩) (va_recv hK hP (ci := 0) (q0 := 0) rfl rfl) hK rfl hl.1 rfl (Nat.le_of_ble_eq_true rfl) dX0_inCoset_22 ⟨Nat.zero_le _, Nat.zero_le _⟩ ?_
        refine lv_istore (lv' := [(6, .int (nI (fx (R ct) n (lv + 1)))), (0, .ref h), (3, .int (nI (fo))), (4, .int (nI (be))), (5, .int (nI (lv)))]) hx hb dX0_inCoset_25 hl (by decide) rfl (fun ls hl => ?_)
        refine lv_aload_n hx hb dX0_inCoset_27 rfl (lv_at hl 1 rfl) ?_
        refine lv_iload_n hx hb dX0_inCoset_28 rfl (lv_at hl 2 rfl) ?_
        refine pu_V (As := [.int (nI (fo))]) (rest := []) (b := h) ⟨hx, hb, hml, hown, hts⟩ (kX0_invert hP hn (P := fo) (by omega)) (cwV 1 hts gX0_inCoset_X0_invert rfl rfl rfl eX0_invert ⟨by decide, by decide⟩) (va_recv hK hP (ci := 0) (q0 := 0) rfl rfl) hK rfl hl.1 rfl (Nat.le_of_ble_eq_true rfl) dX0_inCoset_29 ⟨Nat.zero_le _, Nat.zero_le _⟩ ?_
        refine lv_istore (lv' := [(7, .int (nI (bk n (fo)))), (6, .int (nI (fx (R ct) n (lv + 1)))), (0, .ref h), (3, .int (nI (fo))), (4, .int (nI (be))), (5, .int (nI (lv)))]) hx hb dX0_inCoset_32 hl (by decide) rfl (fun ls hl => ?_)
        refine lv_iconst (v := nI (0)) hx hb dX0_inCoset_34 (by decide) ?_
        refine lv_istore (lv' := [(8, .int (nI (0))), (7, .int (nI (bk n (fo)))), (6, .int (nI (fx (R ct) n (lv + 1)))), (0, .ref h), (3, .int (nI (fo))), (4, .int (nI (be))), (5, .int (nI (lv)))]) hx hb dX0_inCoset_35 hl (by decide) rfl (fun ls hl => ?_)
        have loop_37 : ∀ (i2 y be2 : Nat), (y + i2 = n) → (icI (R ct) n lv (fx (R ct) n (lv + 1)) (bk n fo) n 0 fo be = icI (R ct) n lv (fx (R ct) n (lv + 1)) (bk n fo) i2 y fo be2) → (be2 < 2 ^ 31) → ∀ (ls : Array Slot), lv_has ls 10 [(0, .ref h), (3, .int (nI (fo))), (4, .int (nI (be2))), (5, .int (nI (lv))), (6, .int (nI (fx (R ct) n (lv + 1)))), (7, .int (nI (bk n (fo)))), (8, .int (nI (y)))] → W p l e ({ frames := 3, cells := 0, slots := 0, locals := 68 } : Room) s m args below meth c H [] 0 0 QQ (F0 m 37 ls []) := by
          intro i2
          induction i2 with
          | zero =>
            intro y be2 hi2 hr2 hbe2 ls hl
            refine lv_iload hx hb dX0_inCoset_37 (lv_at hl 6 rfl) ?_
            refine lv_aload_n hx hb dX0_inCoset_39 rfl (lv_at hl 0 rfl) ?_
            refine va_get (D := D) (ci := 0) (v := .int (nI (n))) (C := RX0) (T := TX0) (N := 7) hx hb hts hin0 hown hK hP 0 rfl rfl 0 (by decide) hl_n (fun _ h9 => h9) rfl dX0_inCoset_40 ?_
            refine lv_icmp_ge (tgt := 101) hx hb dX0_inCoset_43 (by decide) (fun c_43 => ?_) (fun c_43 => ?_)
            ·
              have c_43 := (nI_leI (by omega) (by omega)).mp c_43
              refine lv_iinc (v := nI (lv + 1)) (lv' := [(5, .int (nI (lv + 1))), (0, .ref h), (3, .int (nI (fo))), (4, .int (nI (be2))), (6, .int (nI (fx (R ct) n (lv + 1)))), (7, .int (nI (bk n (fo)))), (8, .int (nI (y)))]) hx hb dX0_inCoset_101 hl (k := 3) rfl (nI_1 _) (by decide) rfl (fun ls hl => ?_)
              refine lv_goto (tgt := 8) hx hb dX0_inCoset_104 (by decide) ?_
              exact ih_8 (lv + 1) fo be2 (by omega) (hr.trans (congrArg nI (icF_step hr2))) hfo hbe2 ls (lv_sub hl [1, 2, 3, 0] rfl)
            ·
              have c_43 : ¬ _ := fun h9 => c_43 ((nI_leI (by omega) (by omega)).mpr h9)
              exfalso; omega
          | succ i2 ih_37 =>
            intro y be2 hi2 hr2 hbe2 ls hl
            refine lv_iload hx hb dX0_inCoset_37 (lv_at hl 6 rfl) ?_
            refine lv_aload_n hx hb dX0_inCoset_39 rfl (lv_at hl 0 rfl) ?_
            refine va_get (D := D) (ci := 0) (v := .int (nI (n))) (C := RX0) (T := TX0) (N := 7) hx hb hts hin0 hown hK hP 0 rfl rfl 0 (by decide) hl_n (fun _ h9 => h9) rfl dX0_inCoset_40 ?_
            refine lv_icmp_ge (tgt := 101) hx hb dX0_inCoset_43 (by decide) (fun c_43 => ?_) (fun c_43 => ?_)
            ·
              have c_43 := (nI_leI (by omega) (by omega)).mp c_43
              exfalso; omega
            ·
              have c_43 : ¬ _ := fun h9 => c_43 ((nI_leI (by omega) (by omega)).mpr h9)
              refine lv_aload_n hx hb dX0_inCoset_46 rfl (lv_at hl 0 rfl) ?_
              refine lv_iload hx hb dX0_inCoset_47 (lv_at hl 3 rfl) ?_
              refine lv_iload hx hb dX0_inCoset_49 (lv_at hl 5 rfl) ?_
              refine lv_iload hx hb dX0_inCoset_51 (lv_at hl 6 rfl) ?_
              refine pu_S (As := [.int (nI (bk n (fo))), .int (nI (y))]) (rest := [.int (nI (lv)), .ref h]) ⟨hx, hb, hml, hown, hts⟩ (kX0_image (P := bk n fo) (i := y) (Nat.lt_trans (bk_lt hn _) (by decide)) (by omega)) (va_cwS 2 hts gX0_inCoset_X0_image rfl rfl rfl eX0_image ⟨by decide, by decide⟩) hK rfl hl.1 rfl (Nat.le_of_ble_eq_true rfl) dX0_inCoset_53 ⟨Nat.zero_le _, Nat.zero_le _⟩ ?_
              refine pu_V (As := [.int (nI (lv)), .int (nI (im (bk n fo) (y)))]) (rest := []) (b := h) ⟨hx, hb, hml, hown, hts⟩ (kX0_entry hP hc (lv := lv) (x := im (bk n fo) y) (by omega) (im_lt _ _)) (cwV 2 hts gX0_inCoset_X0_entry rfl rfl rfl eX0_entry ⟨by decide, by decide⟩) (va_recv hK hP (ci := 0) (q0 := 0) rfl rfl) hK rfl hl.1 rfl (Nat.le_of_ble_eq_true rfl) dX0_inCoset_56 ⟨Nat.zero_le _, Nat.zero_le _⟩ ?_
              refine lv_istore (lv' := [(9, .int (R ct (lv * 8 + im (bk n fo) y))), (0, .ref h), (3, .int (nI (fo))), (4, .int (nI (be2))), (5, .int (nI (lv))), (6, .int (nI (fx (R ct) n (lv + 1)))), (7, .int (nI (bk n (fo)))), (8, .int (nI (y)))]) hx hb dX0_inCoset_59 hl (by decide) rfl (fun ls hl => ?_)
              refine lv_iload hx hb dX0_inCoset_61 (lv_at hl 0 rfl) ?_
              refine lv_iconst (v := -1) hx hb dX0_inCoset_63 (by decide) ?_
              refine lv_icmp_ne (tgt := 70) hx hb dX0_inCoset_64 (by decide) (fun c_64 => ?_) (fun c_64 => ?_)
              ·
                refine lv_iload hx hb dX0_inCoset_70 (lv_at hl 3 rfl) ?_
                refine lv_iload hx hb dX0_inCoset_72 (lv_at hl 5 rfl) ?_
                refine lv_icmp_ge (tgt := 88) hx hb dX0_inCoset_74 (by decide) (fun c_74 => ?_) (fun c_74 => ?_)
                ·
                  have c_74 := (nI_leI (Nat.lt_trans (fx_lt _ hn _) (by decide)) hbe2).mp c_74
                  refine lv_iload hx hb dX0_inCoset_88 (lv_at hl 3 rfl) ?_
                  refine lv_iload hx hb dX0_inCoset_90 (lv_at hl 5 rfl) ?_
                  refine lv_isub hx hb dX0_inCoset_92 ?_
                  refine pu_tp (pk_sub c_74) ?_
                  refine lv_istore (lv' := [(4, .int (nI (be2 - (fx (R ct) n (lv + 1))))), (9, .int (R ct (lv * 8 + im (bk n fo) y))), (0, .ref h), (3, .int (nI (fo))), (5, .int (nI (lv))), (6, .int (nI (fx (R ct) n (lv + 1)))), (7, .int (nI (bk n (fo)))), (8, .int (nI (y)))]) hx hb dX0_inCoset_93 hl (by decide) rfl (fun ls hl => ?_)
                  refine lv_iinc (v := nI (y + 1)) (lv' := [(8, .int (nI (y + 1))), (4, .int (nI (be2 - (fx (R ct) n (lv + 1))))), (9, .int (R ct (lv * 8 + im (bk n fo) y))), (0, .ref h), (3, .int (nI (fo))), (5, .int (nI (lv))), (6, .int (nI (fx (R ct) n (lv + 1)))), (7, .int (nI (bk n (fo))))]) hx hb dX0_inCoset_95 hl (k := 7) rfl (nI_1 _) (by decide) rfl (fun ls hl => ?_)
                  refine lv_goto (tgt := 37) hx hb dX0_inCoset_98 (by decide) ?_
                  exact ih_37 (y + 1) (be2 - fx (R ct) n (lv + 1)) (by omega) (hr2.trans (icI_sub c_64 (Nat.not_lt.mpr c_74))) (by omega) ls (lv_sub hl [3, 4, 1, 5, 6, 7, 0] rfl)
                ·
                  have c_74 : ¬ _ := fun h9 => c_74 ((nI_leI (Nat.lt_trans (fx_lt _ hn _) (by decide)) hbe2).mpr h9)
                  refine lv_aload_n hx hb dX0_inCoset_77 rfl (lv_at hl 1 rfl) ?_
                  refine lv_iload hx hb dX0_inCoset_78 (lv_at hl 0 rfl) ?_
                  refine pu_tp (z := nI (tn (R ct (lv * 8 + im (bk n fo) y)))) ((nI_tn _).symm) ?_
                  refine lv_iload_n hx hb dX0_inCoset_80 rfl (lv_at hl 2 rfl) ?_
                  refine pu_V (As := [.int (nI (tn (R ct (lv * 8 + im (bk n fo) y)))), .int (nI (fo))]) (rest := []) (b := h) ⟨hx, hb, hml, hown, hts⟩ (kX0_compose hP hn (P := tn (R ct (lv * 8 + im (bk n fo) y))) (Q := fo) (tn_lt _) (by omega)) (cwV 2 hts gX0_inCoset_X0_compose rfl rfl rfl eX0_compose ⟨by decide, by decide⟩) (va_recv hK hP (ci := 0) (q0 := 0) rfl rfl) hK rfl hl.1 rfl (Nat.le_of_ble_eq_true rfl) dX0_inCoset_81 ⟨Nat.zero_le _, Nat.zero_le _⟩ ?_
                  refine lv_istore_n (lv' := [(3, .int (nI (tm n (tn (R ct (lv * 8 + im (bk n fo) y))) (fo)))), (9, .int (R ct (lv * 8 + im (bk n fo) y))), (0, .ref h), (4, .int (nI (be2))), (5, .int (nI (lv))), (6, .int (nI (fx (R ct) n (lv + 1)))), (7, .int (nI (bk n (fo)))), (8, .int (nI (y)))]) hx hb dX0_inCoset_84 rfl hl (by decide) rfl (fun ls hl => ?_)
                  refine lv_goto (tgt := 101) hx hb dX0_inCoset_85 (by decide) ?_
                  refine lv_iinc (v := nI (lv + 1)) (lv' := [(5, .int (nI (lv + 1))), (3, .int (nI (tm n (tn (R ct (lv * 8 + im (bk n fo) y))) (fo)))), (9, .int (R ct (lv * 8 + im (bk n fo) y))), (0, .ref h), (4, .int (nI (be2))), (6, .int (nI (fx (R ct) n (lv + 1)))), (7, .int (nI (bk n (fo)))), (8, .int (nI (y)))]) hx hb dX0_inCoset_101 hl (k := 4) rfl (nI_1 _) (by decide) rfl (fun ls hl => ?_)
                  refine lv_goto (tgt := 8) hx hb dX0_inCoset_104 (by decide) ?_
                  exact ih_8 (lv + 1) (tm n (tn (R ct (lv * 8 + im (bk n fo) y))) fo) be2 (by omega) (hr.trans (congrArg nI (icF_step (hr2.trans (icI_hit c_64 (Nat.lt_of_not_le c_74)))))) (Nat.lt_trans (tm_lt hn _ _) (by decide)) hbe2 ls (lv_sub hl [3, 1, 4, 0] rfl)
              ·
                refine lv_goto (tgt := 95) hx hb dX0_inCoset_67 (by decide) ?_
                refine lv_iinc (v := nI (y + 1)) (lv' := [(8, .int (nI (y + 1))), (9, .int (R ct (lv * 8 + im (bk n fo) y))), (0, .ref h), (3, .int (nI (fo))), (4, .int (nI (be2))), (5, .int (nI (lv))), (6, .int (nI (fx (R ct) n (lv + 1)))), (7, .int (nI (bk n (fo))))]) hx hb dX0_inCoset_95 hl (k := 7) rfl (nI_1 _) (by decide) rfl (fun ls hl => ?_)
                refine lv_goto (tgt := 37) hx hb dX0_inCoset_98 (by decide) ?_
                exact ih_37 (y + 1) be2 (by omega) (hr2.trans (icI_none c_64)) hbe2 ls (lv_sub hl [2, 3, 4, 5, 6, 7, 0] rfl)
        exact loop_37 n 0 be (by omega) rfl hbe ls (lv_sub hl [3, 4, 5, 6, 2, 1, 0] rfl)
  exact loop_8 n 0 P k (by omega) rfl hp hk ls (lv_sub hl [3, 2, 1, 0] rfl)
theorem eX0_elementsBefore : yX0_elementsBefore.cls = RX0 ∧ yX0_elementsBefore.cls ≠ "java/lang/invoke/MethodHandle" ∧ yX0_elementsBefore.cls ≠ "java/lang/invoke/VarHandle" ∧ (parseMethodDescriptor yX0_elementsBefore.desc).map (fun d => d.parameters.length) = some 1 := by decide +kernel
set_option maxHeartbeats 4000000 in
set_option maxRecDepth 100000 in
theorem kX0_elementsBefore (hP : va_P D vwCl (gW cI cG h a g f ra (nI n) (nI id) (nI ct) fc ad fl R) H) (hn : n ≤ 7) (hc : ct ≤ 12) (hid : id < 2 ^ 32) {P : Nat} (hp : P < 2 ^ 32) : pI l yX0_elementsBefore wsX0_elementsBefore ({ frames := 3, cells := 0, slots := 0, locals := 68 } : Room) [.ref h, .int (nI (P))] D (gT cI cG cZ) H (nI (eb (R ct) n id P)) := by
  refine pI_ofW (cc := cX0_elementsBefore) (maxL := 6) (ret := (some .int)) (by decide) rfl (Or.inl rfl) (Nat.le_of_ble_eq_true rfl) ?_
  intro p e s m args below meth c QQ hx hb hml hown hts hK hret ls hl
  have hl : lv_has ls 6 [(0, .ref h), (1, .int (nI (P)))] := hl
  have hown : s.vm.findClass RX0 = some m.cls := hown
  have hin0 : ∀ w ∈ wsX00, w ∈ wsX0_elementsBefore := fun w h => List.mem_cons_of_mem _ (List.mem_append_right _ h)
  have hl_identity : (Cond.fieldLink RX0 66 "PermGroup" "identity" "I").before args s = true := hts _ (by decide +kernel)
  have hl_n : (Cond.fieldLink RX0 25 "PermGroup" "n" "I").before args s = true := hts _ (by decide +kernel)
  refine lv_iconst (v := nI (0)) hx hb dX0_elementsBefore_0 (by decide) ?_
  refine lv_istore_n (lv' := [(2, .int (nI (0))), (0, .ref h), (1, .int (nI (P)))]) hx hb dX0_elementsBefore_1 rfl hl (by decide) rfl (fun ls hl => ?_)
  refine lv_aload_n hx hb dX0_elementsBefore_2 rfl (lv_at hl 1 rfl) ?_
  refine va_get (D := D) (ci := 0) (v := .int (nI (id))) (C := RX0) (T := TX0) (N := 7) hx hb hts hin0 hown hK hP 0 rfl rfl 1 (by decide) hl_identity (fun _ h9 => h9) rfl dX0_elementsBefore_3 ?_
  refine lv_istore_n (lv' := [(3, .int (nI (id))), (2, .int (nI (0))), (0, .ref h), (1, .int (nI (P)))]) hx hb dX0_elementsBefore_6 rfl hl (by decide) rfl (fun ls hl => ?_)
  refine lv_iconst (v := nI (0)) hx hb dX0_elementsBefore_7 (by decide) ?_
  refine lv_istore (lv' := [(4, .int (nI (0))), (3, .int (nI (id))), (2, .int (nI (0))), (0, .ref h), (1, .int (nI (P)))]) hx hb dX0_elementsBefore_8 hl (by decide) rfl (fun ls hl => ?_)
  have loop_10 : ∀ (j lv be fo : Nat), (lv + j = n) → (nI (eb (R ct) n id P) = nI (ebF (R ct) n P j lv be fo)) → (fo < 2 ^ 32) → ∀ (ls : Array Slot), lv_has ls 6 [(0, .ref h), (1, .int (nI (P))), (2, .int (nI (be))), (3, .int (nI (fo))), (4, .int (nI (lv)))] → W p l e ({ frames := 3, cells := 0, slots := 0, locals := 68 } : Room) s m args below meth c H [] 0 0 QQ (F0 m 10 ls []) := by
    intro j
    induction j with
    | zero =>
      intro lv be fo hj hr hfo ls hl
      refine lv_iload hx hb dX0_elementsBefore_10 (lv_at hl 4 rfl) ?_
      refine lv_aload_n hx hb dX0_elementsBefore_12 rfl (lv_at hl 0 rfl) ?_
      refine va_get (D := D) (ci := 0) (v := .int (nI (n))) (C := RX0) (T := TX0) (N := 7) hx hb hts hin0 hown hK hP 0 rfl rfl 0 (by decide) hl_n (fun _ h9 => h9) rfl dX0_elementsBefore_13 ?_
      refine lv_icmp_ge (tgt := 76) hx hb dX0_elementsBefore_16 (by decide) (fun c_16 => ?_) (fun c_16 => ?_)
      ·
        have c_16 := (nI_leI (by omega) (by omega)).mp c_16
        refine lv_iload_n hx hb dX0_elementsBefore_76 rfl (lv_at hl 2 rfl) ?_
        exact hret _ _ _ (hr.symm) dX0_elementsBefore_77
      ·
        have c_16 : ¬ _ := fun h9 => c_16 ((nI_leI (by omega) (by omega)).mpr h9)
        exfalso; omega
    | succ j ih_10 =>
      intro lv be fo hj hr hfo ls hl
      refine lv_iload hx hb dX0_elementsBefore_10 (lv_at hl 4 rfl) ?_
      refine lv_aload_n hx hb dX0_elementsBefore_12 rfl (lv_at hl 0 rfl) ?_
      refine va_get (D := D) (ci := 0) (v := .int (nI (n))) (C := RX0) (T := TX0) (N := 7) hx hb hts hin0 hown hK hP 0 rfl rfl 0 (by decide) hl_n (fun _ h9 => h9) rfl dX0_elementsBefore_13 ?_
      refine lv_icmp_ge (tgt := 76) hx hb dX0_elementsBefore_16 (by decide) (fun c_16 => ?_) (fun c_16 => ?_)
      ·
        have c_16 := (nI_leI (by omega) (by omega)).mp c_16
        exfalso; omega
      ·
        have c_16 : ¬ _ := fun h9 => c_16 ((nI_leI (by omega) (by omega)).mpr h9)
        refine lv_iload_n hx hb dX0_elementsBefore_19 rfl (lv_at hl 1 rfl) ?_
        refine lv_iload hx hb dX0_elementsBefore_20 (lv_at hl 4 rfl) ?_
        refine pu_S (As := [.int (nI (P)), .int (nI (lv))]) (rest := []) ⟨hx, hb, hml, hown, hts⟩ (kX0_image (P := P) (i := lv) (by omega) (by omega)) (va_cwS 2 hts gX0_elementsBefore_X0_image rfl rfl rfl eX0_image ⟨by decide, by decide⟩) hK rfl hl.1 rfl (Nat.le_of_ble_eq_true rfl) dX0_elementsBefore_22 ⟨Nat.zero_le _, Nat.zero_le _⟩ ?_
        refine lv_istore (lv' := [(5, .int (nI (im (P) (lv)))), (0, .ref h), (1, .int (nI (P))), (2, .int (nI (be))), (3, .int (nI (fo))), (4, .int (nI (lv)))]) hx hb dX0_elementsBefore_25 hl (by decide) rfl (fun ls hl => ?_)
        refine lv_iload_n hx hb dX0_elementsBefore_27 rfl (lv_at hl 3 rfl) ?_
        refine lv_aload_n hx hb dX0_elementsBefore_28 rfl (lv_at hl 1 rfl) ?_
        refine lv_iload hx hb dX0_elementsBefore_29 (lv_at hl 5 rfl) ?_
        refine lv_iload_n hx hb dX0_elementsBefore_31 rfl (lv_at hl 4 rfl) ?_
        refine lv_iload hx hb dX0_elementsBefore_32 (lv_at hl 0 rfl) ?_
        refine pu_V (As := [.int (nI (lv)), .int (nI (fo)), .int (nI (im (P) (lv)))]) (rest := [.int (nI (be))]) (b := h) ⟨hx, hb, hml, hown, hts⟩ (kX0_entriesBelow hP hn hc (lv := lv) (fo := fo) (lim := im P lv) (by omega) hfo (Nat.lt_trans (im_lt _ _) (by decide))) (cwV 3 hts gX0_elementsBefore_X0_entriesBelow rfl rfl rfl eX0_entriesBelow ⟨by decide, by decide⟩) (va_recv hK hP (ci := 0) (q0 := 0) rfl rfl) hK rfl hl.1 rfl (Nat.le_of_ble_eq_true rfl) dX0_elementsBefore_34 ⟨Nat.zero_le _, Nat.zero_le _⟩ ?_
        refine lv_aload_n hx hb dX0_elementsBefore_37 rfl (lv_at hl 1 rfl) ?_
        refine lv_iload hx hb dX0_elementsBefore_38 (lv_at hl 5 rfl) ?_
        refine lv_iconst (v := nI (1)) hx hb dX0_elementsBefore_40 (by decide) ?_
        refine lv_iadd hx hb dX0_elementsBefore_41 ?_
        refine pu_tp (nI_add _ _) ?_
        refine pu_V (As := [.int (nI (lv + 1))]) (rest := [.int (nI (elF (R ct) lv fo (im P lv) (n - lv) lv 0)), .int (nI (be))]) (b := h) ⟨hx, hb, hml, hown, hts⟩ (kX0_fixersOfFirst hP hn hc (k := lv + 1) (by omega)) (cwV 1 hts gX0_elementsBefore_X0_fixersOfFirst rfl rfl rfl eX0_fixersOfFirst ⟨by decide, by decide⟩) (va_recv hK hP (ci := 0) (q0 := 0) rfl rfl) hK rfl hl.1 rfl (Nat.le_of_ble_eq_true rfl) dX0_elementsBefore_42 ⟨Nat.zero_le _, Nat.zero_le _⟩ ?_
        refine lv_imul hx hb dX0_elementsBefore_45 ?_
        refine pu_tp (pk_mul _ _) ?_
        refine lv_iadd hx hb dX0_elementsBefore_46 ?_
        refine pu_tp (nI_add _ _) ?_
        refine lv_istore_n (lv' := [(2, .int (nI (be + ((elF (R ct) lv fo (im P lv) (n - lv) lv 0) * (fx (R ct) n (lv + 1)))))), (5, .int (nI (im (P) (lv)))), (0, .ref h), (1, .int (nI (P))), (3, .int (nI (fo))), (4, .int (nI (lv)))]) hx hb dX0_elementsBefore_47 rfl hl (by decide) rfl (fun ls hl => ?_)
        refine lv_aload_n hx hb dX0_elementsBefore_48 rfl (lv_at hl 2 rfl) ?_
        refine lv_aload_n hx hb dX0_elementsBefore_49 rfl (lv_at hl 2 rfl) ?_
        refine lv_iload hx hb dX0_elementsBefore_50 (lv_at hl 5 rfl) ?_
        refine lv_aload_n hx hb dX0_elementsBefore_52 rfl (lv_at hl 2 rfl) ?_
        refine lv_iload_n hx hb dX0_elementsBefore_53 rfl (lv_at hl 4 rfl) ?_
        refine pu_V (As := [.int (nI (fo))]) (rest := [.int (nI (lv)), .ref h, .ref h]) (b := h) ⟨hx, hb, hml, hown, hts⟩ (kX0_invert hP hn (P := fo) (by omega)) (cwV 1 hts gX0_elementsBefore_X0_invert rfl rfl rfl eX0_invert ⟨by decide, by decide⟩) (va_recv hK hP (ci := 0) (q0 := 0) rfl rfl) hK rfl hl.1 rfl (Nat.le_of_ble_eq_true rfl) dX0_elementsBefore_54 ⟨Nat.zero_le _, Nat.zero_le _⟩ ?_
        refine lv_iload hx hb dX0_elementsBefore_57 (lv_at hl 1 rfl) ?_
        refine pu_S (As := [.int (nI (bk n (fo))), .int (nI (im (P) (lv)))]) (rest := [.int (nI (lv)), .ref h, .ref h]) ⟨hx, hb, hml, hown, hts⟩ (kX0_image (P := bk n fo) (i := im P lv) (Nat.lt_trans (bk_lt hn _) (by decide)) (Nat.le_trans (im_le _ _) (by decide))) (va_cwS 2 hts gX0_elementsBefore_X0_image rfl rfl rfl eX0_image ⟨by decide, by decide⟩) hK rfl hl.1 rfl (Nat.le_of_ble_eq_true rfl) dX0_elementsBefore_59 ⟨Nat.zero_le _, Nat.zero_le _⟩ ?_
        refine pu_V (As := [.int (nI (lv)), .int (nI (im (bk n fo) (im P lv)))]) (rest := [.ref h]) (b := h) ⟨hx, hb, hml, hown, hts⟩ (kX0_entry hP hc (lv := lv) (x := im (bk n fo) (im P lv)) (by omega) (im_lt _ _)) (cwV 2 hts gX0_elementsBefore_X0_entry rfl rfl rfl eX0_entry ⟨by decide, by decide⟩) (va_recv hK hP (ci := 0) (q0 := 0) rfl rfl) hK rfl hl.1 rfl (Nat.le_of_ble_eq_true rfl) dX0_elementsBefore_62 ⟨Nat.zero_le _, Nat.zero_le _⟩ ?_
        refine pu_tp (z := nI (tn (R ct (lv * 8 + im (bk n fo) (im P lv))))) ((nI_tn _).symm) ?_
        refine lv_iload_n hx hb dX0_elementsBefore_65 rfl (lv_at hl 4 rfl) ?_
        refine pu_V (As := [.int (nI (tn (R ct (lv * 8 + im (bk n fo) (im P lv))))), .int (nI (fo))]) (rest := []) (b := h) ⟨hx, hb, hml, hown, hts⟩ (kX0_compose hP hn (P := tn (R ct (lv * 8 + im (bk n fo) (im P lv)))) (Q := fo) (tn_lt _) (by omega)) (cwV 2 hts gX0_elementsBefore_X0_compose rfl rfl rfl eX0_compose ⟨by decide, by decide⟩) (va_recv hK hP (ci := 0) (q0 := 0) rfl rfl) hK rfl hl.1 rfl (Nat.le_of_ble_eq_true rfl) dX0_elementsBefore_66 ⟨Nat.zero_le _, Nat.zero_le _⟩ ?_
        refine lv_istore_n (lv' := [(3, .int (nI (tm n (tn (R ct (lv * 8 + im (bk n fo) (im P lv)))) (fo)))), (2, .int (nI (be + ((elF (R ct) lv fo (im P lv) (n - lv) lv 0) * (fx (R ct) n (lv + 1)))))), (5, .int (nI (im (P) (lv)))), (0, .ref h), (1, .int (nI (P))), (4, .int (nI (lv)))]) hx hb dX0_elementsBefore_69 rfl hl (by decide) rfl (fun ls hl => ?_)
        refine lv_iinc (v := nI (lv + 1)) (lv' := [(4, .int (nI (lv + 1))), (3, .int (nI (tm n (tn (R ct (lv * 8 + im (bk n fo) (im P lv)))) (fo)))), (2, .int (nI (be + ((elF (R ct) lv fo (im P lv) (n - lv) lv 0) * (fx (R ct) n (lv + 1)))))), (5, .int (nI (im (P) (lv)))), (0, .ref h), (1, .int (nI (P)))]) hx hb dX0_elementsBefore_70 hl (k := 5) rfl (nI_1 _) (by decide) rfl (fun ls hl => ?_)
        refine lv_goto (tgt := 10) hx hb dX0_elementsBefore_73 (by decide) ?_
        exact ih_10 (lv + 1) (be + elF (R ct) lv fo (im P lv) (n - lv) lv 0 * fx (R ct) n (lv + 1)) (tm n (tn (R ct (lv * 8 + im (bk n fo) (im P lv)))) fo) (by omega) hr (Nat.lt_trans (tm_lt hn _ _) (by decide)) ls (lv_sub hl [4, 5, 2, 1, 0] rfl)
  exact loop_10 n 0 0 id (by omega) rfl hid ls (lv_sub hl [3, 4, 2, 1, 0] rfl)
end CXA
