/-! ===== the numbers of permutations, and their order ===== -/
theorem ckA1 {m : Nat} (h : m < 1) : ck 1 m = true := by
  exact ckR_at 1 0 ck1_0 m (by omega) (by omega)
theorem ckA2 {m : Nat} (h : m < 2) : ck 2 m = true := by
  exact ckR_at 2 0 ck2_0 m (by omega) (by omega)
theorem ckA3 {m : Nat} (h : m < 6) : ck 3 m = true := by
  exact ckR_at 6 0 ck3_0 m (by omega) (by omega)
theorem ckA4 {m : Nat} (h : m < 24) : ck 4 m = true := by
  exact ckR_at 24 0 ck4_0 m (by omega) (by omega)
theorem ckA5 {m : Nat} (h : m < 120) : ck 5 m = true := by
  exact ckR_at 120 0 ck5_0 m (by omega) (by omega)
theorem ckA6 {m : Nat} (h : m < 720) : ck 6 m = true := by
  rcases Nat.lt_or_ge m 120 with q | q
  · exact ckR_at 120 0 ck6_0 m (by omega) (by omega)
  rcases Nat.lt_or_ge m 240 with q | q
  · exact ckR_at 120 120 ck6_1 m (by omega) (by omega)
  rcases Nat.lt_or_ge m 360 with q | q
  · exact ckR_at 120 240 ck6_2 m (by omega) (by omega)
  rcases Nat.lt_or_ge m 480 with q | q
  · exact ckR_at 120 360 ck6_3 m (by omega) (by omega)
  rcases Nat.lt_or_ge m 600 with q | q
  · exact ckR_at 120 480 ck6_4 m (by omega) (by omega)
  exact ckR_at 120 600 ck6_5 m (by omega) (by omega)
theorem ckA7 {m : Nat} (h : m < 5040) : ck 7 m = true := by
  rcases Nat.lt_or_ge m 120 with q | q
  · exact ckR_at 120 0 ck7_0 m (by omega) (by omega)
  rcases Nat.lt_or_ge m 240 with q | q
  · exact ckR_at 120 120 ck7_1 m (by omega) (by omega)
  rcases Nat.lt_or_ge m 360 with q | q
  · exact ckR_at 120 240 ck7_2 m (by omega) (by omega)
  rcases Nat.lt_or_ge m 480 with q | q
  · exact ckR_at 120 360 ck7_3 m (by omega) (by omega)
  rcases Nat.lt_or_ge m 600 with q | q
  · exact ckR_at 120 480 ck7_4 m (by omega) (by omega)
  rcases Nat.lt_or_ge m 720 with q | q
  · exact ckR_at 120 600 ck7_5 m (by omega) (by omega)
  rcases Nat.lt_or_ge m 840 with q | q
  · exact ckR_at 120 720 ck7_6 m (by omega) (by omega)
  rcases Nat.lt_or_ge m 960 with q | q
  · exact ckR_at 120 840 ck7_7 m (by omega) (by omega)
  rcases Nat.lt_or_ge m 1080 with q | q
  · exact ckR_at 120 960 ck7_8 m (by omega) (by omega)
  rcases Nat.lt_or_ge m 1200 with q | q
  · exact ckR_at 120 1080 ck7_9 m (by omega) (by omega)
  rcases Nat.lt_or_ge m 1320 with q | q
  · exact ckR_at 120 1200 ck7_10 m (by omega) (by omega)
  rcases Nat.lt_or_ge m 1440 with q | q
  · exact ckR_at 120 1320 ck7_11 m (by omega) (by omega)
  rcases Nat.lt_or_ge m 1560 with q | q
  · exact ckR_at 120 1440 ck7_12 m (by omega) (by omega)
  rcases Nat.lt_or_ge m 1680 with q | q
  · exact ckR_at 120 1560 ck7_13 m (by omega) (by omega)
  rcases Nat.lt_or_ge m 1800 with q | q
  · exact ckR_at 120 1680 ck7_14 m (by omega) (by omega)
  rcases Nat.lt_or_ge m 1920 with q | q
  · exact ckR_at 120 1800 ck7_15 m (by omega) (by omega)
  rcases Nat.lt_or_ge m 2040 with q | q
  · exact ckR_at 120 1920 ck7_16 m (by omega) (by omega)
  rcases Nat.lt_or_ge m 2160 with q | q
  · exact ckR_at 120 2040 ck7_17 m (by omega) (by omega)
  rcases Nat.lt_or_ge m 2280 with q | q
  · exact ckR_at 120 2160 ck7_18 m (by omega) (by omega)
  rcases Nat.lt_or_ge m 2400 with q | q
  · exact ckR_at 120 2280 ck7_19 m (by omega) (by omega)
  rcases Nat.lt_or_ge m 2520 with q | q
  · exact ckR_at 120 2400 ck7_20 m (by omega) (by omega)
  rcases Nat.lt_or_ge m 2640 with q | q
  · exact ckR_at 120 2520 ck7_21 m (by omega) (by omega)
  rcases Nat.lt_or_ge m 2760 with q | q
  · exact ckR_at 120 2640 ck7_22 m (by omega) (by omega)
  rcases Nat.lt_or_ge m 2880 with q | q
  · exact ckR_at 120 2760 ck7_23 m (by omega) (by omega)
  rcases Nat.lt_or_ge m 3000 with q | q
  · exact ckR_at 120 2880 ck7_24 m (by omega) (by omega)
  rcases Nat.lt_or_ge m 3120 with q | q
  · exact ckR_at 120 3000 ck7_25 m (by omega) (by omega)
  rcases Nat.lt_or_ge m 3240 with q | q
  · exact ckR_at 120 3120 ck7_26 m (by omega) (by omega)
  rcases Nat.lt_or_ge m 3360 with q | q
  · exact ckR_at 120 3240 ck7_27 m (by omega) (by omega)
  rcases Nat.lt_or_ge m 3480 with q | q
  · exact ckR_at 120 3360 ck7_28 m (by omega) (by omega)
  rcases Nat.lt_or_ge m 3600 with q | q
  · exact ckR_at 120 3480 ck7_29 m (by omega) (by omega)
  rcases Nat.lt_or_ge m 3720 with q | q
  · exact ckR_at 120 3600 ck7_30 m (by omega) (by omega)
  rcases Nat.lt_or_ge m 3840 with q | q
  · exact ckR_at 120 3720 ck7_31 m (by omega) (by omega)
  rcases Nat.lt_or_ge m 3960 with q | q
  · exact ckR_at 120 3840 ck7_32 m (by omega) (by omega)
  rcases Nat.lt_or_ge m 4080 with q | q
  · exact ckR_at 120 3960 ck7_33 m (by omega) (by omega)
  rcases Nat.lt_or_ge m 4200 with q | q
  · exact ckR_at 120 4080 ck7_34 m (by omega) (by omega)
  rcases Nat.lt_or_ge m 4320 with q | q
  · exact ckR_at 120 4200 ck7_35 m (by omega) (by omega)
  rcases Nat.lt_or_ge m 4440 with q | q
  · exact ckR_at 120 4320 ck7_36 m (by omega) (by omega)
  rcases Nat.lt_or_ge m 4560 with q | q
  · exact ckR_at 120 4440 ck7_37 m (by omega) (by omega)
  rcases Nat.lt_or_ge m 4680 with q | q
  · exact ckR_at 120 4560 ck7_38 m (by omega) (by omega)
  rcases Nat.lt_or_ge m 4800 with q | q
  · exact ckR_at 120 4680 ck7_39 m (by omega) (by omega)
  rcases Nat.lt_or_ge m 4920 with q | q
  · exact ckR_at 120 4800 ck7_40 m (by omega) (by omega)
  exact ckR_at 120 4920 ck7_41 m (by omega) (by omega)
theorem ckA {n m : Nat} (h1 : 1 ≤ n) (h7 : n ≤ 7) (h : m < fac n) : ck n m = true := by
  match n, h1, h7, h with
  | 1, _, _, h => exact ckA1 h
  | 2, _, _, h => exact ckA2 h
  | 3, _, _, h => exact ckA3 h
  | 4, _, _, h => exact ckA4 h
  | 5, _, _, h => exact ckA5 h
  | 6, _, _, h => exact ckA6 h
  | 7, _, _, h => exact ckA7 h
theorem tr7_0 : tr 7 (tC 7) 6 1 0 1 = true := by
  refine List.all_eq_true.mpr (fun z hz => ?_)
  have hz := List.mem_range.mp hz
  match z, hz with
  | 0, _ => exact (Bool.or_eq_true _ _).mpr (Or.inl rfl)
  | 1, _ => exact (Bool.or_eq_true _ _).mpr (Or.inr tr7_0_1)
  | 2, _ => exact (Bool.or_eq_true _ _).mpr (Or.inr tr7_0_2)
  | 3, _ => exact (Bool.or_eq_true _ _).mpr (Or.inr tr7_0_3)
  | 4, _ => exact (Bool.or_eq_true _ _).mpr (Or.inr tr7_0_4)
  | 5, _ => exact (Bool.or_eq_true _ _).mpr (Or.inr tr7_0_5)
  | 6, _ => exact (Bool.or_eq_true _ _).mpr (Or.inr tr7_0_6)
theorem tr7_1 : tr 7 (tC 7) 6 1 1 2 = true := by
  refine List.all_eq_true.mpr (fun z hz => ?_)
  have hz := List.mem_range.mp hz
  match z, hz with
  | 0, _ => exact (Bool.or_eq_true _ _).mpr (Or.inr tr7_1_0)
  | 1, _ => exact (Bool.or_eq_true _ _).mpr (Or.inl rfl)
  | 2, _ => exact (Bool.or_eq_true _ _).mpr (Or.inr tr7_1_2)
  | 3, _ => exact (Bool.or_eq_true _ _).mpr (Or.inr tr7_1_3)
  | 4, _ => exact (Bool.or_eq_true _ _).mpr (Or.inr tr7_1_4)
  | 5, _ => exact (Bool.or_eq_true _ _).mpr (Or.inr tr7_1_5)
  | 6, _ => exact (Bool.or_eq_true _ _).mpr (Or.inr tr7_1_6)
theorem tr7_2 : tr 7 (tC 7) 6 1 2 4 = true := by
  refine List.all_eq_true.mpr (fun z hz => ?_)
  have hz := List.mem_range.mp hz
  match z, hz with
  | 0, _ => exact (Bool.or_eq_true _ _).mpr (Or.inr tr7_2_0)
  | 1, _ => exact (Bool.or_eq_true _ _).mpr (Or.inr tr7_2_1)
  | 2, _ => exact (Bool.or_eq_true _ _).mpr (Or.inl rfl)
  | 3, _ => exact (Bool.or_eq_true _ _).mpr (Or.inr tr7_2_3)
  | 4, _ => exact (Bool.or_eq_true _ _).mpr (Or.inr tr7_2_4)
  | 5, _ => exact (Bool.or_eq_true _ _).mpr (Or.inr tr7_2_5)
  | 6, _ => exact (Bool.or_eq_true _ _).mpr (Or.inr tr7_2_6)
theorem tr7_3 : tr 7 (tC 7) 6 1 3 8 = true := by
  refine List.all_eq_true.mpr (fun z hz => ?_)
  have hz := List.mem_range.mp hz
  match z, hz with
  | 0, _ => exact (Bool.or_eq_true _ _).mpr (Or.inr tr7_3_0)
  | 1, _ => exact (Bool.or_eq_true _ _).mpr (Or.inr tr7_3_1)
  | 2, _ => exact (Bool.or_eq_true _ _).mpr (Or.inr tr7_3_2)
  | 3, _ => exact (Bool.or_eq_true _ _).mpr (Or.inl rfl)
  | 4, _ => exact (Bool.or_eq_true _ _).mpr (Or.inr tr7_3_4)
  | 5, _ => exact (Bool.or_eq_true _ _).mpr (Or.inr tr7_3_5)
  | 6, _ => exact (Bool.or_eq_true _ _).mpr (Or.inr tr7_3_6)
theorem tr7_4 : tr 7 (tC 7) 6 1 4 16 = true := by
  refine List.all_eq_true.mpr (fun z hz => ?_)
  have hz := List.mem_range.mp hz
  match z, hz with
  | 0, _ => exact (Bool.or_eq_true _ _).mpr (Or.inr tr7_4_0)
  | 1, _ => exact (Bool.or_eq_true _ _).mpr (Or.inr tr7_4_1)
  | 2, _ => exact (Bool.or_eq_true _ _).mpr (Or.inr tr7_4_2)
  | 3, _ => exact (Bool.or_eq_true _ _).mpr (Or.inr tr7_4_3)
  | 4, _ => exact (Bool.or_eq_true _ _).mpr (Or.inl rfl)
  | 5, _ => exact (Bool.or_eq_true _ _).mpr (Or.inr tr7_4_5)
  | 6, _ => exact (Bool.or_eq_true _ _).mpr (Or.inr tr7_4_6)
theorem tr7_5 : tr 7 (tC 7) 6 1 5 32 = true := by
  refine List.all_eq_true.mpr (fun z hz => ?_)
  have hz := List.mem_range.mp hz
  match z, hz with
  | 0, _ => exact (Bool.or_eq_true _ _).mpr (Or.inr tr7_5_0)
  | 1, _ => exact (Bool.or_eq_true _ _).mpr (Or.inr tr7_5_1)
  | 2, _ => exact (Bool.or_eq_true _ _).mpr (Or.inr tr7_5_2)
  | 3, _ => exact (Bool.or_eq_true _ _).mpr (Or.inr tr7_5_3)
  | 4, _ => exact (Bool.or_eq_true _ _).mpr (Or.inr tr7_5_4)
  | 5, _ => exact (Bool.or_eq_true _ _).mpr (Or.inl rfl)
  | 6, _ => exact (Bool.or_eq_true _ _).mpr (Or.inr tr7_5_6)
theorem tr7_6 : tr 7 (tC 7) 6 1 6 64 = true := by
  refine List.all_eq_true.mpr (fun z hz => ?_)
  have hz := List.mem_range.mp hz
  match z, hz with
  | 0, _ => exact (Bool.or_eq_true _ _).mpr (Or.inr tr7_6_0)
  | 1, _ => exact (Bool.or_eq_true _ _).mpr (Or.inr tr7_6_1)
  | 2, _ => exact (Bool.or_eq_true _ _).mpr (Or.inr tr7_6_2)
  | 3, _ => exact (Bool.or_eq_true _ _).mpr (Or.inr tr7_6_3)
  | 4, _ => exact (Bool.or_eq_true _ _).mpr (Or.inr tr7_6_4)
  | 5, _ => exact (Bool.or_eq_true _ _).mpr (Or.inr tr7_6_5)
  | 6, _ => exact (Bool.or_eq_true _ _).mpr (Or.inl rfl)
theorem tr7 : tr 7 (tC 7) 7 0 0 0 = true := by
  refine List.all_eq_true.mpr (fun z hz => ?_)
  have hz := List.mem_range.mp hz
  match z, hz with
  | 0, _ => exact (Bool.or_eq_true _ _).mpr (Or.inr tr7_0)
  | 1, _ => exact (Bool.or_eq_true _ _).mpr (Or.inr tr7_1)
  | 2, _ => exact (Bool.or_eq_true _ _).mpr (Or.inr tr7_2)
  | 3, _ => exact (Bool.or_eq_true _ _).mpr (Or.inr tr7_3)
  | 4, _ => exact (Bool.or_eq_true _ _).mpr (Or.inr tr7_4)
  | 5, _ => exact (Bool.or_eq_true _ _).mpr (Or.inr tr7_5)
  | 6, _ => exact (Bool.or_eq_true _ _).mpr (Or.inr tr7_6)
theorem trA {n : Nat} (h1 : 1 ≤ n) (h7 : n ≤ 7) : tr n (tC n) n 0 0 0 = true := by
  match n, h1, h7 with
  | 1, _, _ => exact tr1
  | 2, _, _ => exact tr2
  | 3, _, _ => exact tr3
  | 4, _, _ => exact tr4
  | 5, _, _ => exact tr5
  | 6, _, _ => exact tr6
  | 7, _, _ => exact tr7
def lx (n P Q : Nat) : Prop := ∃ i, i < n ∧ (∀ j, j < i → im P j = im Q j) ∧ im P i < im Q i
theorem lexB_lx {n P Q : Nat} : ∀ k i, i + k = n → (∀ j, j < i → im P j = im Q j) → lexB k i P Q = true → lx n P Q
  | 0, i, _, _, h => by exact absurd (show false = true from h) (by decide)
  | k + 1, i, hk, he, h => by
      have h1 : (Nat.blt (im P i) (im Q i) || (Nat.beq (im P i) (im Q i) && lexB k (i + 1) P Q)) = true := h
      rw [Bool.or_eq_true] at h1
      rcases h1 with h1 | h1
      · exact ⟨i, by omega, he, Nat.blt_eq.mp h1⟩
      · rw [Bool.and_eq_true] at h1
        have e := Nat.eq_of_beq_eq_true h1.1
        refine lexB_lx k (i + 1) (by omega) (fun j hj => ?_) h1.2
        by_cases c : j = i
        · rw [c]; exact e
        · exact he j (by omega)
theorem lx_irr {n P : Nat} (h : lx n P P) : False := by
  obtain ⟨i, -, -, h⟩ := h
  omega
theorem lx_trans {n P Q S : Nat} (h1 : lx n P Q) (h2 : lx n Q S) : lx n P S := by
  obtain ⟨i, hi, hi1, hi2⟩ := h1
  obtain ⟨j, hj, hj1, hj2⟩ := h2
  rcases Nat.lt_trichotomy i j with h | h | h
  · exact ⟨i, hi, fun k hk => (hi1 k hk).trans (hj1 k (by omega)), by rw [← hj1 i h]; exact hi2⟩
  · subst h
    exact ⟨i, hi, fun k hk => (hi1 k hk).trans (hj1 k hk), by omega⟩
  · exact ⟨j, hj, fun k hk => (hi1 k (by omega)).trans (hj1 k hk), by rw [hi1 j h]; exact hj2⟩
theorem lx_tri {n P Q : Nat} (hP : PM n P) (hQ : PM n Q) : lx n P Q ∨ P = Q ∨ lx n Q P := by
  have key : ∀ k, k ≤ n → (∀ j, j < k → im P j = im Q j) ∨ lx n P Q ∨ lx n Q P := by
    intro k
    induction k with
    | zero => intro _; exact Or.inl (fun j hj => absurd hj (Nat.not_lt_zero _))
    | succ k ih =>
      intro hk
      rcases ih (by omega) with h | h
      · rcases Nat.lt_trichotomy (im P k) (im Q k) with c | c | c
        · exact Or.inr (Or.inl ⟨k, by omega, h, c⟩)
        · refine Or.inl (fun j hj => ?_)
          by_cases e : j = k
          · rw [e]; exact c
          · exact h j (by omega)
        · exact Or.inr (Or.inr ⟨k, by omega, fun j hj => (h j hj).symm, c⟩)
      · exact Or.inr h
  rcases key n (Nat.le_refl _) with h | h | h
  · exact Or.inr (Or.inl (PM_ext hP hQ h))
  · exact Or.inl h
  · exact Or.inr (Or.inr h)
section ORD
variable {n : Nat}
theorem ck_parts {m : Nat} (h : ck n m = true) : isP n (pe n m) = true ∧ nu n (pe n m) = m ∧ (m + 1 = fac n ∨ lexB n 0 (pe n m) (pe n (m + 1)) = true) := by
  unfold ck at h
  rw [Bool.and_eq_true, Bool.and_eq_true, Bool.or_eq_true] at h
  exact ⟨h.1, Nat.eq_of_beq_eq_true h.2.1, h.2.2.imp Nat.eq_of_beq_eq_true id⟩
theorem pe_PM (h1 : 1 ≤ n) (h7 : n ≤ 7) {m : Nat} (h : m < fac n) : PM n (pe n m) := isP_PM.mp (ck_parts (ckA h1 h7 h)).1
theorem nu_pe (h1 : 1 ≤ n) (h7 : n ≤ 7) {m : Nat} (h : m < fac n) : nu n (pe n m) = m := (ck_parts (ckA h1 h7 h)).2.1
theorem tC_parts (h1 : 1 ≤ n) (h7 : n ≤ 7) {P : Nat} (hP : PM n P) : nu n P < fac n ∧ pe n (nu n P) = P := by
  have h := tr_all (trA h1 h7) hP
  unfold tC at h
  rw [Bool.and_eq_true] at h
  exact ⟨Nat.blt_eq.mp h.1, Nat.eq_of_beq_eq_true h.2⟩
theorem nu_lt (h1 : 1 ≤ n) (h7 : n ≤ 7) {P : Nat} (hP : PM n P) : nu n P < fac n := (tC_parts h1 h7 hP).1
theorem pe_nu (h1 : 1 ≤ n) (h7 : n ≤ 7) {P : Nat} (hP : PM n P) : pe n (nu n P) = P := (tC_parts h1 h7 hP).2
theorem pe_lx (h1 : 1 ≤ n) (h7 : n ≤ 7) {a : Nat} : ∀ d, a + d + 1 < fac n → lx n (pe n a) (pe n (a + d + 1))
  | 0, h => by
      rcases (ck_parts (ckA h1 h7 (show a < fac n by omega))).2.2 with e | e
      · omega
      · exact lexB_lx n 0 (by omega) (fun j hj => absurd hj (Nat.not_lt_zero _)) e
  | d + 1, h => by
      have h2 := pe_lx h1 h7 (a := a) d (by omega)
      rcases (ck_parts (ckA h1 h7 (show a + d + 1 < fac n by omega))).2.2 with e | e
      · omega
      · exact lx_trans h2 (lexB_lx n 0 (by omega) (fun j hj => absurd hj (Nat.not_lt_zero _)) e)
theorem nu_lx (h1 : 1 ≤ n) (h7 : n ≤ 7) {P Q : Nat} (hP : PM n P) (hQ : PM n Q) : nu n P < nu n Q ↔ lx n P Q := by
  have key : ∀ {P Q : Nat}, PM n P → PM n Q → nu n P < nu n Q → lx n P Q := by
    intro P Q hP hQ h
    have hq := nu_lt h1 h7 hQ
    have h2 := pe_lx h1 h7 (a := nu n P) (nu n Q - nu n P - 1) (by omega)
    rw [show nu n P + (nu n Q - nu n P - 1) + 1 = nu n Q by omega, pe_nu h1 h7 hP, pe_nu h1 h7 hQ] at h2
    exact h2
  refine ⟨key hP hQ, fun h => ?_⟩
  rcases Nat.lt_trichotomy (nu n P) (nu n Q) with c | c | c
  · exact c
  · have e : P = Q := by rw [← pe_nu h1 h7 hP, ← pe_nu h1 h7 hQ, c]
    exact absurd (e ▸ h) (fun q => lx_irr q)
  · exact absurd (lx_trans h (key hQ hP c)) (fun q => lx_irr q)
theorem nu_inj (h1 : 1 ≤ n) (h7 : n ≤ 7) {P Q : Nat} (hP : PM n P) (hQ : PM n Q) (h : nu n P = nu n Q) : P = Q := by rw [← pe_nu h1 h7 hP, ← pe_nu h1 h7 hQ, h]
theorem nu_id (h1 : 1 ≤ n) (h7 : n ≤ 7) : nu n (idn n) = 0 ∧ pe n 0 = idn n := by
  match n, h1, h7 with
  | 1, _, _ => decide
  | 2, _, _ => decide
  | 3, _, _ => decide
  | 4, _, _ => decide
  | 5, _, _ => decide +kernel
  | 6, _, _ => decide +kernel
  | 7, _, _ => decide +kernel
end ORD
