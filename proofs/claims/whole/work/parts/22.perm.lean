/-! ===== permutations as numbers ===== -/
theorem im_or (a b i : Nat) : im (a ||| b) i = im a i ||| im b i := by
  unfold im
  rw [Nat.or_div_two_pow]
  exact Nat.or_mod_two_pow (n := 3)
theorem im_zero (i : Nat) : im 0 i = 0 := by unfold im; rw [Nat.zero_div]
theorem im_sh {v i j : Nat} (h : v < 8) : im (v * 2 ^ (3 * j)) i = if i = j then v else 0 := by
  unfold im
  by_cases e : i = j
  · rw [if_pos e, e, Nat.mul_div_cancel _ (Nat.two_pow_pos _), Nat.mod_eq_of_lt h]
  · rw [if_neg e]
    rcases Nat.lt_or_ge i j with hl | hl
    · obtain ⟨d, hd⟩ : ∃ d, j = i + 1 + d := ⟨j - (i + 1), by omega⟩
      have e1 : v * 2 ^ (3 * j) = v * 2 ^ (3 * d) * 8 * 2 ^ (3 * i) := by
        rw [hd, show 3 * (i + 1 + d) = 3 * d + 3 + 3 * i by omega, Nat.pow_add, Nat.pow_add, ← Nat.mul_assoc, ← Nat.mul_assoc]
      rw [e1, Nat.mul_div_cancel _ (Nat.two_pow_pos _), Nat.mul_mod_left]
    · obtain ⟨d, hd⟩ : ∃ d, i = j + 1 + d := ⟨i - (j + 1), by omega⟩
      have e1 : (2 : Nat) ^ (3 * i) = 2 ^ (3 * j) * 2 ^ (3 * d + 3) := by rw [← Nat.pow_add]; congr 1; omega
      have h8 : 8 ≤ 2 ^ (3 * d + 3) := by
        have : (2 : Nat) ^ 3 ≤ 2 ^ (3 * d + 3) := Nat.pow_le_pow_right (by decide) (by omega)
        simpa using this
      rw [e1, ← Nat.div_div_eq_div_mul, Nat.mul_div_cancel _ (Nat.two_pow_pos _), Nat.div_eq_of_lt (by omega)]
theorem im_div8 (P i : Nat) : im (P / 8) i = im P (i + 1) := by
  unfold im
  rw [Nat.div_div_eq_div_mul, show 3 * (i + 1) = 3 + 3 * i by omega, Nat.pow_add]
theorem im_ext : ∀ n {P Q : Nat}, P < 2 ^ (3 * n) → Q < 2 ^ (3 * n) → (∀ i, i < n → im P i = im Q i) → P = Q
  | 0, P, Q, hP, hQ, _ => by
      have h1 : P < 1 := hP
      have h2 : Q < 1 := hQ
      omega
  | n + 1, P, Q, hP, hQ, h => by
      have e : 2 ^ (3 * (n + 1)) = 2 ^ (3 * n) * 8 := by rw [show 3 * (n + 1) = 3 * n + 3 by omega, Nat.pow_add]
      rw [e] at hP hQ
      have h1 : P / 8 = Q / 8 := im_ext n (Nat.div_lt_of_lt_mul (by rw [Nat.mul_comm]; exact hP)) (Nat.div_lt_of_lt_mul (by rw [Nat.mul_comm]; exact hQ)) (fun i hi => by rw [im_div8, im_div8]; exact h (i + 1) (by omega))
      have h2 : P % 8 = Q % 8 := by
        have := h 0 (by omega)
        unfold im at this
        simpa using this
      omega
theorem im_high {P n i : Nat} (h : P < 2 ^ (3 * n)) (hi : n ≤ i) : im P i = 0 := by
  unfold im
  rw [Nat.div_eq_of_lt (Nat.lt_of_lt_of_le h (Nat.pow_le_pow_right (by decide) (by omega)))]
theorem bd_sh {v i n : Nat} (hv : v < 8) (hi : i < n) : v * 2 ^ (3 * i) < 2 ^ (3 * n) := by
  calc v * 2 ^ (3 * i) < 8 * 2 ^ (3 * i) := Nat.mul_lt_mul_of_pos_right hv (Nat.two_pow_pos _)
    _ = 2 ^ (3 * i + 3) := by rw [Nat.pow_add, Nat.mul_comm]
    _ ≤ 2 ^ (3 * n) := Nat.pow_le_pow_right (by decide) (by omega)
theorem cpF_bd (P Q n : Nat) : ∀ k i a, i + k ≤ n → a < 2 ^ (3 * n) → cpF P Q k i a < 2 ^ (3 * n)
  | 0, _, _, _, h => h
  | k + 1, i, a, h1, h => cpF_bd P Q n k (i + 1) _ (by omega) (Nat.or_lt_two_pow h (bd_sh (im_lt _ _) (by omega)))
theorem tm_bd (n P Q : Nat) : tm n P Q < 2 ^ (3 * n) := cpF_bd P Q n n 0 0 (by omega) (Nat.two_pow_pos _)
theorem cpF_im (P Q : Nat) : ∀ k i a j, im (cpF P Q k i a) j = if i ≤ j ∧ j < i + k then im a j ||| im Q (im P j) else im a j
  | 0, i, a, j => by rw [if_neg (by omega)]; rfl
  | k + 1, i, a, j => by
      show im (cpF P Q k (i + 1) (a ||| im Q (im P i) * 2 ^ (3 * i))) j = _
      rw [cpF_im P Q k (i + 1), im_or, im_sh (im_lt _ _)]
      by_cases e : j = i
      · subst e
        rw [if_neg (by omega), if_pos rfl, if_pos (by omega)]
      · rw [if_neg e, Nat.or_zero]
        by_cases c : i + 1 ≤ j ∧ j < i + 1 + k
        · rw [if_pos c, if_pos (by omega)]
        · rw [if_neg c, if_neg (by omega)]
theorem tm_im (n P Q j : Nat) : im (tm n P Q) j = if j < n then im Q (im P j) else 0 := by
  unfold tm
  rw [cpF_im, im_zero, Nat.zero_or]
  by_cases c : j < n
  · rw [if_pos (by omega), if_pos c]
  · rw [if_neg (by omega), if_neg c]
theorem mkF_bit (P : Nat) : ∀ k i a y, (mkF P k i a).testBit y = true ↔ a.testBit y = true ∨ ∃ j, i ≤ j ∧ j < i + k ∧ im P j = y
  | 0, i, a, y => by
      show a.testBit y = true ↔ _
      constructor
      · exact Or.inl
      · rintro (h | ⟨j, h1, h2, -⟩)
        · exact h
        · omega
  | k + 1, i, a, y => by
      show (mkF P k (i + 1) (a ||| 1 * 2 ^ im P i)).testBit y = true ↔ _
      rw [mkF_bit P k (i + 1), Nat.testBit_or, Bool.or_eq_true, Nat.one_mul, Nat.testBit_two_pow, decide_eq_true_eq]
      constructor
      · rintro ((h | h) | ⟨j, h1, h2, h3⟩)
        · exact Or.inl h
        · exact Or.inr ⟨i, by omega, by omega, h⟩
        · exact Or.inr ⟨j, by omega, by omega, h3⟩
      · rintro (h | ⟨j, h1, h2, h3⟩)
        · exact Or.inl (Or.inl h)
        · by_cases e : j = i
          · subst e; exact Or.inl (Or.inr h3)
          · exact Or.inr ⟨j, by omega, by omega, h3⟩
/-- what isP says: the images are the points -/
def PM (n P : Nat) : Prop := P < 2 ^ (3 * n) ∧ (∀ j, j < n → im P j < n) ∧ ∀ y, y < n → ∃ j, j < n ∧ im P j = y
theorem isP_PM {n P : Nat} : isP n P = true ↔ PM n P := by
  rw [isP_iff, Nat.one_mul]
  constructor
  · rintro ⟨h1, h2⟩
    have hb : ∀ y, (∃ j, j < n ∧ im P j = y) ↔ y < n := by
      intro y
      have h3 := mkF_bit P n 0 0 y
      rw [h2, Nat.testBit_two_pow_sub_one, decide_eq_true_eq] at h3
      constructor
      · rintro ⟨j, h4, h5⟩
        exact h3.mpr (Or.inr ⟨j, by omega, by omega, h5⟩)
      · intro h4
        rcases h3.mp h4 with h5 | ⟨j, -, h5, h6⟩
        · simp at h5
        · exact ⟨j, by omega, h6⟩
    refine ⟨?_, fun j hj => (hb _).mp ⟨j, hj, rfl⟩, fun y hy => (hb y).mpr hy⟩
    rcases Nat.lt_or_ge P (2 ^ (3 * n)) with h | h
    · exact h
    · have := Nat.div_pos h (Nat.two_pow_pos (3 * n)); omega
  · rintro ⟨h1, h2, h3⟩
    refine ⟨Nat.div_eq_of_lt h1, ?_⟩
    apply Nat.eq_of_testBit_eq
    intro y
    have h4 := mkF_bit P n 0 0 y
    rw [Nat.testBit_two_pow_sub_one]
    by_cases c : y < n
    · rw [decide_eq_true c]
      obtain ⟨j, h5, h6⟩ := h3 y c
      exact h4.mpr (Or.inr ⟨j, by omega, by omega, h6⟩)
    · rw [decide_eq_false c]
      cases hb : (mkF P n 0 0).testBit y with
      | false => rfl
      | true =>
        rcases h4.mp hb with h5 | ⟨j, -, h5, h6⟩
        · simp at h5
        · exact absurd (h6 ▸ h2 j (by omega)) c
/-- onto is one to one -/
theorem PM_inj {n P : Nat} (h : PM n P) {i j : Nat} (hi : i < n) (hj : j < n) (e : im P i = im P j) : i = j := by
  rcases Nat.decEq i j with ne | he
  · exfalso
    have hsub : List.range n ⊆ ((List.range n).erase j).map (im P) := by
      intro y hy
      obtain ⟨k, hk, ek⟩ := h.2.2 y (List.mem_range.mp hy)
      by_cases c : k = j
      · exact List.mem_map.mpr ⟨i, (List.mem_erase_of_ne ne).mpr (List.mem_range.mpr hi), by rw [e, ← c]; exact ek⟩
      · exact List.mem_map.mpr ⟨k, (List.mem_erase_of_ne c).mpr (List.mem_range.mpr hk), ek⟩
    have hl := List.Nodup.length_le_of_subset List.nodup_range hsub
    rw [List.length_map, List.length_range, List.length_erase_of_mem (List.mem_range.mpr hj), List.length_range] at hl
    omega
  · exact he
theorem PM_tm {n P Q : Nat} (hP : PM n P) (hQ : PM n Q) : PM n (tm n P Q) := by
  refine ⟨tm_bd n P Q, fun j hj => ?_, fun y hy => ?_⟩
  · rw [tm_im, if_pos hj]
    exact hQ.2.1 _ (hP.2.1 j hj)
  · obtain ⟨i, hi, ei⟩ := hQ.2.2 y hy
    obtain ⟨j, hj, ej⟩ := hP.2.2 i hi
    exact ⟨j, hj, by rw [tm_im, if_pos hj, ej]; exact ei⟩
theorem PM_ext {n P Q : Nat} (hP : PM n P) (hQ : PM n Q) (h : ∀ i, i < n → im P i = im Q i) : P = Q := im_ext n hP.1 hQ.1 h
theorem idF_bd (n : Nat) : ∀ k i a, i + k ≤ n → n ≤ 8 → a < 2 ^ (3 * n) → idF k i a < 2 ^ (3 * n)
  | 0, _, _, _, _, h => h
  | k + 1, i, a, h1, h8, h => idF_bd n k (i + 1) _ (by omega) h8 (Nat.or_lt_two_pow h (bd_sh (by omega) (by omega)))
theorem idF_im : ∀ k i a j, i + k ≤ 8 → im (idF k i a) j = if i ≤ j ∧ j < i + k then im a j ||| j else im a j
  | 0, i, a, j, _ => by rw [if_neg (by omega)]; rfl
  | k + 1, i, a, j, h8 => by
      show im (idF k (i + 1) (a ||| i * 2 ^ (3 * i))) j = _
      rw [idF_im k (i + 1) _ j (by omega), im_or, im_sh (by omega)]
      by_cases e : j = i
      · subst e
        rw [if_neg (by omega), if_pos rfl, if_pos (by omega)]
      · rw [if_neg e, Nat.or_zero]
        by_cases c : i + 1 ≤ j ∧ j < i + 1 + k
        · rw [if_pos c, if_pos (by omega)]
        · rw [if_neg c, if_neg (by omega)]
theorem idn_im {n : Nat} (hn : n ≤ 7) (j : Nat) : im (idn n) j = if j < n then j else 0 := by
  unfold idn
  rw [idF_im n 0 0 j (by omega), im_zero, Nat.zero_or]
  by_cases c : j < n
  · rw [if_pos (by omega), if_pos c]
  · rw [if_neg (by omega), if_neg c]
theorem PM_id {n : Nat} (hn : n ≤ 7) : PM n (idn n) := by
  refine ⟨idF_bd n n 0 0 (by omega) (by omega) (Nat.two_pow_pos _), fun j hj => ?_, fun y hy => ⟨y, hy, ?_⟩⟩
  · rw [idn_im hn, if_pos hj]; exact hj
  · rw [idn_im hn, if_pos hy]
theorem bkF_bd (P n : Nat) (hP : ∀ j, j < n → im P j < n) : ∀ k i a, i + k ≤ n → n ≤ 7 → a < 2 ^ (3 * n) → bkF P k i a < 2 ^ (3 * n)
  | 0, _, _, _, _, h => h
  | k + 1, i, a, h1, h7, h => bkF_bd P n hP k (i + 1) _ (by omega) h7 (Nat.or_lt_two_pow h (bd_sh (by omega) (hP i (by omega))))
theorem bkF_no (P : Nat) : ∀ k i a y, i + k ≤ 8 → (∀ j, i ≤ j → j < i + k → im P j ≠ y) → im (bkF P k i a) y = im a y
  | 0, _, _, _, _, _ => rfl
  | k + 1, i, a, y, h8, h => by
      show im (bkF P k (i + 1) (a ||| i * 2 ^ (3 * im P i))) y = _
      rw [bkF_no P k (i + 1) _ y (by omega) (fun j h1 h2 => h j (by omega) (by omega)), im_or, im_sh (by omega), if_neg (fun e => h i (by omega) (by omega) e.symm), Nat.or_zero]
theorem bkF_at (P n : Nat) (hinj : ∀ i j, i < n → j < n → im P i = im P j → i = j) : ∀ k i a j, i + k ≤ n → n ≤ 7 → i ≤ j → j < i + k → im (bkF P k i a) (im P j) = im a (im P j) ||| j
  | 0, i, a, j, _, _, h1, h2 => by omega
  | k + 1, i, a, j, hk, h7, h1, h2 => by
      show im (bkF P k (i + 1) (a ||| i * 2 ^ (3 * im P i))) (im P j) = _
      by_cases e : j = i
      · subst e
        rw [bkF_no P k (j + 1) _ _ (by omega) (fun q h3 h4 h5 => by have := hinj q j (by omega) (by omega) h5; omega), im_or, im_sh (by omega), if_pos rfl]
      · rw [bkF_at P n hinj k (i + 1) _ j (by omega) h7 (by omega) (by omega), im_or, im_sh (by omega), if_neg (fun h5 => e (hinj j i (by omega) (by omega) h5)), Nat.or_zero]
theorem bk_im {n P : Nat} (hn : n ≤ 7) (hP : PM n P) {j : Nat} (hj : j < n) : im (bk n P) (im P j) = j := by
  unfold bk
  rw [bkF_at P n (fun i j hi hj e => PM_inj hP hi hj e) n 0 0 j (by omega) hn (by omega) (by omega), im_zero, Nat.zero_or]
theorem PM_bk {n P : Nat} (hn : n ≤ 7) (hP : PM n P) : PM n (bk n P) := by
  refine ⟨bkF_bd P n hP.2.1 n 0 0 (by omega) hn (Nat.two_pow_pos _), fun y hy => ?_, fun j hj => ⟨im P j, hP.2.1 j hj, bk_im hn hP hj⟩⟩
  obtain ⟨j, hj, ej⟩ := hP.2.2 y hy
  rw [← ej, bk_im hn hP hj]
  exact hj
theorem im_bk {n P : Nat} (hn : n ≤ 7) (hP : PM n P) {y : Nat} (hy : y < n) : im P (im (bk n P) y) = y := by
  obtain ⟨j, hj, ej⟩ := hP.2.2 y hy
  rw [← ej, bk_im hn hP hj]
/-! ===== the group laws ===== -/
theorem tm_assoc {n P Q S : Nat} (hP : PM n P) (hQ : PM n Q) (hS : PM n S) : tm n (tm n P Q) S = tm n P (tm n Q S) := by
  refine PM_ext (PM_tm (PM_tm hP hQ) hS) (PM_tm hP (PM_tm hQ hS)) (fun i hi => ?_)
  rw [tm_im, if_pos hi, tm_im, if_pos hi, tm_im, if_pos hi, tm_im, if_pos (hP.2.1 i hi)]
theorem tm_id {n P : Nat} (hn : n ≤ 7) (hP : PM n P) : tm n P (idn n) = P := by
  refine PM_ext (PM_tm hP (PM_id hn)) hP (fun i hi => ?_)
  rw [tm_im, if_pos hi, idn_im hn, if_pos (hP.2.1 i hi)]
theorem id_tm {n P : Nat} (hn : n ≤ 7) (hP : PM n P) : tm n (idn n) P = P := by
  refine PM_ext (PM_tm (PM_id hn) hP) hP (fun i hi => ?_)
  rw [tm_im, if_pos hi, idn_im hn, if_pos hi]
theorem tm_bk {n P : Nat} (hn : n ≤ 7) (hP : PM n P) : tm n P (bk n P) = idn n := by
  refine PM_ext (PM_tm hP (PM_bk hn hP)) (PM_id hn) (fun i hi => ?_)
  rw [tm_im, if_pos hi, bk_im hn hP hi, idn_im hn, if_pos hi]
theorem bk_tm {n P : Nat} (hn : n ≤ 7) (hP : PM n P) : tm n (bk n P) P = idn n := by
  refine PM_ext (PM_tm (PM_bk hn hP) hP) (PM_id hn) (fun i hi => ?_)
  rw [tm_im, if_pos hi, im_bk hn hP hi, idn_im hn, if_pos hi]
theorem tm_cancel {n P Q S : Nat} (hn : n ≤ 7) (hP : PM n P) (hQ : PM n Q) (hS : PM n S) (h : tm n P S = tm n Q S) : P = Q := by
  have h1 := congrArg (fun z => tm n z (bk n S)) h
  rw [tm_assoc hP hS (PM_bk hn hS), tm_assoc hQ hS (PM_bk hn hS), tm_bk hn hS, tm_id hn hP, tm_id hn hQ] at h1
  exact h1
theorem tm_bk_eq {n P Q : Nat} (hn : n ≤ 7) (hP : PM n P) (hQ : PM n Q) : tm n (tm n P (bk n Q)) Q = P := by
  rw [tm_assoc hP (PM_bk hn hQ) hQ, bk_tm hn hQ, tm_id hn hP]
theorem PM_lt {n P : Nat} (hn : n ≤ 7) (h : PM n P) : P < 2 ^ 24 := isP_lt hn (isP_PM.mpr h)
