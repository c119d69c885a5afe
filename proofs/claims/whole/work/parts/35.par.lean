/-! ===== odd and even, counted out ===== -/
def sT (n i : Nat) : Nat := idn n + 2 ^ (3 * i) - 2 ^ (3 * (i + 1))
def ckS (n m : Nat) : Nat → Nat → Bool
  | 0, _ => true
  | k + 1, i => Bool.xor (isO n (tm n (pe n m) (sT n i))) (isO n (pe n m)) && ckS n m k (i + 1)
def ckD (n m : Nat) : Nat → Nat → Bool
  | 0, _ => false
  | k + 1, i => Nat.blt (nu n (tm n (pe n m) (sT n i))) m || ckD n m k (i + 1)
def ckE (n m : Nat) : Bool := (!(Bool.xor (isO n (pe n m)) (Nat.beq (erI n (pe n m) n 0 0 % 2) 1))) && (ckS n m (n - 1) 0 && (Nat.beq m 0 || ckD n m (n - 1) 0))
def ckF (n : Nat) : Nat → Nat → Bool
  | 0, _ => true
  | k + 1, m => ckE n m && ckF n k (m + 1)
theorem ckF_at {n : Nat} : ∀ k m, ckF n k m = true → ∀ q, m ≤ q → q < m + k → ckE n q = true
  | 0, m, _, q, h1, h2 => by omega
  | k + 1, m, h, q, h1, h2 => by
      have h3 : (ckE n m && ckF n k (m + 1)) = true := h
      rw [Bool.and_eq_true] at h3
      by_cases e : q = m
      · rw [e]; exact h3.1
      · exact ckF_at k (m + 1) h3.2 q (by omega) (by omega)
theorem cf1_0 : ckF 1 1 0 = true := by decide +kernel
theorem cf2_0 : ckF 2 2 0 = true := by decide +kernel
theorem cf3_0 : ckF 3 6 0 = true := by decide +kernel
theorem cf4_0 : ckF 4 24 0 = true := by decide +kernel
theorem cf5_0 : ckF 5 120 0 = true := by decide +kernel
theorem cf6_0 : ckF 6 120 0 = true := by decide +kernel
theorem cf6_1 : ckF 6 120 120 = true := by decide +kernel
theorem cf6_2 : ckF 6 120 240 = true := by decide +kernel
theorem cf6_3 : ckF 6 120 360 = true := by decide +kernel
theorem cf6_4 : ckF 6 120 480 = true := by decide +kernel
theorem cf6_5 : ckF 6 120 600 = true := by decide +kernel
theorem cf7_0 : ckF 7 120 0 = true := by decide +kernel
theorem cf7_1 : ckF 7 120 120 = true := by decide +kernel
theorem cf7_2 : ckF 7 120 240 = true := by decide +kernel
theorem cf7_3 : ckF 7 120 360 = true := by decide +kernel
theorem cf7_4 : ckF 7 120 480 = true := by decide +kernel
theorem cf7_5 : ckF 7 120 600 = true := by decide +kernel
theorem cf7_6 : ckF 7 120 720 = true := by decide +kernel
theorem cf7_7 : ckF 7 120 840 = true := by decide +kernel
theorem cf7_8 : ckF 7 120 960 = true := by decide +kernel
theorem cf7_9 : ckF 7 120 1080 = true := by decide +kernel
theorem cf7_10 : ckF 7 120 1200 = true := by decide +kernel
theorem cf7_11 : ckF 7 120 1320 = true := by decide +kernel
theorem cf7_12 : ckF 7 120 1440 = true := by decide +kernel
theorem cf7_13 : ckF 7 120 1560 = true := by decide +kernel
theorem cf7_14 : ckF 7 120 1680 = true := by decide +kernel
theorem cf7_15 : ckF 7 120 1800 = true := by decide +kernel
theorem cf7_16 : ckF 7 120 1920 = true := by decide +kernel
theorem cf7_17 : ckF 7 120 2040 = true := by decide +kernel
theorem cf7_18 : ckF 7 120 2160 = true := by decide +kernel
theorem cf7_19 : ckF 7 120 2280 = true := by decide +kernel
theorem cf7_20 : ckF 7 120 2400 = true := by decide +kernel
theorem cf7_21 : ckF 7 120 2520 = true := by decide +kernel
theorem cf7_22 : ckF 7 120 2640 = true := by decide +kernel
theorem cf7_23 : ckF 7 120 2760 = true := by decide +kernel
theorem cf7_24 : ckF 7 120 2880 = true := by decide +kernel
theorem cf7_25 : ckF 7 120 3000 = true := by decide +kernel
theorem cf7_26 : ckF 7 120 3120 = true := by decide +kernel
theorem cf7_27 : ckF 7 120 3240 = true := by decide +kernel
theorem cf7_28 : ckF 7 120 3360 = true := by decide +kernel
theorem cf7_29 : ckF 7 120 3480 = true := by decide +kernel
theorem cf7_30 : ckF 7 120 3600 = true := by decide +kernel
theorem cf7_31 : ckF 7 120 3720 = true := by decide +kernel
theorem cf7_32 : ckF 7 120 3840 = true := by decide +kernel
theorem cf7_33 : ckF 7 120 3960 = true := by decide +kernel
theorem cf7_34 : ckF 7 120 4080 = true := by decide +kernel
theorem cf7_35 : ckF 7 120 4200 = true := by decide +kernel
theorem cf7_36 : ckF 7 120 4320 = true := by decide +kernel
theorem cf7_37 : ckF 7 120 4440 = true := by decide +kernel
theorem cf7_38 : ckF 7 120 4560 = true := by decide +kernel
theorem cf7_39 : ckF 7 120 4680 = true := by decide +kernel
theorem cf7_40 : ckF 7 120 4800 = true := by decide +kernel
theorem cf7_41 : ckF 7 120 4920 = true := by decide +kernel
theorem cfA1 {m : Nat} (h : m < 1) : ckE 1 m = true := by
  exact ckF_at 1 0 cf1_0 m (by omega) (by omega)
theorem cfA2 {m : Nat} (h : m < 2) : ckE 2 m = true := by
  exact ckF_at 2 0 cf2_0 m (by omega) (by omega)
theorem cfA3 {m : Nat} (h : m < 6) : ckE 3 m = true := by
  exact ckF_at 6 0 cf3_0 m (by omega) (by omega)
theorem cfA4 {m : Nat} (h : m < 24) : ckE 4 m = true := by
  exact ckF_at 24 0 cf4_0 m (by omega) (by omega)
theorem cfA5 {m : Nat} (h : m < 120) : ckE 5 m = true := by
  exact ckF_at 120 0 cf5_0 m (by omega) (by omega)
theorem cfA6 {m : Nat} (h : m < 720) : ckE 6 m = true := by
  rcases Nat.lt_or_ge m 120 with q | q
  · exact ckF_at 120 0 cf6_0 m (by omega) (by omega)
  rcases Nat.lt_or_ge m 240 with q | q
  · exact ckF_at 120 120 cf6_1 m (by omega) (by omega)
  rcases Nat.lt_or_ge m 360 with q | q
  · exact ckF_at 120 240 cf6_2 m (by omega) (by omega)
  rcases Nat.lt_or_ge m 480 with q | q
  · exact ckF_at 120 360 cf6_3 m (by omega) (by omega)
  rcases Nat.lt_or_ge m 600 with q | q
  · exact ckF_at 120 480 cf6_4 m (by omega) (by omega)
  exact ckF_at 120 600 cf6_5 m (by omega) (by omega)
theorem cfA7 {m : Nat} (h : m < 5040) : ckE 7 m = true := by
  rcases Nat.lt_or_ge m 120 with q | q
  · exact ckF_at 120 0 cf7_0 m (by omega) (by omega)
  rcases Nat.lt_or_ge m 240 with q | q
  · exact ckF_at 120 120 cf7_1 m (by omega) (by omega)
  rcases Nat.lt_or_ge m 360 with q | q
  · exact ckF_at 120 240 cf7_2 m (by omega) (by omega)
  rcases Nat.lt_or_ge m 480 with q | q
  · exact ckF_at 120 360 cf7_3 m (by omega) (by omega)
  rcases Nat.lt_or_ge m 600 with q | q
  · exact ckF_at 120 480 cf7_4 m (by omega) (by omega)
  rcases Nat.lt_or_ge m 720 with q | q
  · exact ckF_at 120 600 cf7_5 m (by omega) (by omega)
  rcases Nat.lt_or_ge m 840 with q | q
  · exact ckF_at 120 720 cf7_6 m (by omega) (by omega)
  rcases Nat.lt_or_ge m 960 with q | q
  · exact ckF_at 120 840 cf7_7 m (by omega) (by omega)
  rcases Nat.lt_or_ge m 1080 with q | q
  · exact ckF_at 120 960 cf7_8 m (by omega) (by omega)
  rcases Nat.lt_or_ge m 1200 with q | q
  · exact ckF_at 120 1080 cf7_9 m (by omega) (by omega)
  rcases Nat.lt_or_ge m 1320 with q | q
  · exact ckF_at 120 1200 cf7_10 m (by omega) (by omega)
  rcases Nat.lt_or_ge m 1440 with q | q
  · exact ckF_at 120 1320 cf7_11 m (by omega) (by omega)
  rcases Nat.lt_or_ge m 1560 with q | q
  · exact ckF_at 120 1440 cf7_12 m (by omega) (by omega)
  rcases Nat.lt_or_ge m 1680 with q | q
  · exact ckF_at 120 1560 cf7_13 m (by omega) (by omega)
  rcases Nat.lt_or_ge m 1800 with q | q
  · exact ckF_at 120 1680 cf7_14 m (by omega) (by omega)
  rcases Nat.lt_or_ge m 1920 with q | q
  · exact ckF_at 120 1800 cf7_15 m (by omega) (by omega)
  rcases Nat.lt_or_ge m 2040 with q | q
  · exact ckF_at 120 1920 cf7_16 m (by omega) (by omega)
  rcases Nat.lt_or_ge m 2160 with q | q
  · exact ckF_at 120 2040 cf7_17 m (by omega) (by omega)
  rcases Nat.lt_or_ge m 2280 with q | q
  · exact ckF_at 120 2160 cf7_18 m (by omega) (by omega)
  rcases Nat.lt_or_ge m 2400 with q | q
  · exact ckF_at 120 2280 cf7_19 m (by omega) (by omega)
  rcases Nat.lt_or_ge m 2520 with q | q
  · exact ckF_at 120 2400 cf7_20 m (by omega) (by omega)
  rcases Nat.lt_or_ge m 2640 with q | q
  · exact ckF_at 120 2520 cf7_21 m (by omega) (by omega)
  rcases Nat.lt_or_ge m 2760 with q | q
  · exact ckF_at 120 2640 cf7_22 m (by omega) (by omega)
  rcases Nat.lt_or_ge m 2880 with q | q
  · exact ckF_at 120 2760 cf7_23 m (by omega) (by omega)
  rcases Nat.lt_or_ge m 3000 with q | q
  · exact ckF_at 120 2880 cf7_24 m (by omega) (by omega)
  rcases Nat.lt_or_ge m 3120 with q | q
  · exact ckF_at 120 3000 cf7_25 m (by omega) (by omega)
  rcases Nat.lt_or_ge m 3240 with q | q
  · exact ckF_at 120 3120 cf7_26 m (by omega) (by omega)
  rcases Nat.lt_or_ge m 3360 with q | q
  · exact ckF_at 120 3240 cf7_27 m (by omega) (by omega)
  rcases Nat.lt_or_ge m 3480 with q | q
  · exact ckF_at 120 3360 cf7_28 m (by omega) (by omega)
  rcases Nat.lt_or_ge m 3600 with q | q
  · exact ckF_at 120 3480 cf7_29 m (by omega) (by omega)
  rcases Nat.lt_or_ge m 3720 with q | q
  · exact ckF_at 120 3600 cf7_30 m (by omega) (by omega)
  rcases Nat.lt_or_ge m 3840 with q | q
  · exact ckF_at 120 3720 cf7_31 m (by omega) (by omega)
  rcases Nat.lt_or_ge m 3960 with q | q
  · exact ckF_at 120 3840 cf7_32 m (by omega) (by omega)
  rcases Nat.lt_or_ge m 4080 with q | q
  · exact ckF_at 120 3960 cf7_33 m (by omega) (by omega)
  rcases Nat.lt_or_ge m 4200 with q | q
  · exact ckF_at 120 4080 cf7_34 m (by omega) (by omega)
  rcases Nat.lt_or_ge m 4320 with q | q
  · exact ckF_at 120 4200 cf7_35 m (by omega) (by omega)
  rcases Nat.lt_or_ge m 4440 with q | q
  · exact ckF_at 120 4320 cf7_36 m (by omega) (by omega)
  rcases Nat.lt_or_ge m 4560 with q | q
  · exact ckF_at 120 4440 cf7_37 m (by omega) (by omega)
  rcases Nat.lt_or_ge m 4680 with q | q
  · exact ckF_at 120 4560 cf7_38 m (by omega) (by omega)
  rcases Nat.lt_or_ge m 4800 with q | q
  · exact ckF_at 120 4680 cf7_39 m (by omega) (by omega)
  rcases Nat.lt_or_ge m 4920 with q | q
  · exact ckF_at 120 4800 cf7_40 m (by omega) (by omega)
  exact ckF_at 120 4920 cf7_41 m (by omega) (by omega)
theorem cfA {n m : Nat} (h1 : 1 ≤ n) (h7 : n ≤ 7) (h : m < fac n) : ckE n m = true := by
  match n, h1, h7, h with
  | 1, _, _, h => exact cfA1 h
  | 2, _, _, h => exact cfA2 h
  | 3, _, _, h => exact cfA3 h
  | 4, _, _, h => exact cfA4 h
  | 5, _, _, h => exact cfA5 h
  | 6, _, _, h => exact cfA6 h
  | 7, _, _, h => exact cfA7 h
theorem sT_PM : ∀ n, n ≤ 7 → ∀ i, i < n - 1 → isP n (sT n i) = true := by decide +kernel
theorem isO_id : ∀ n, n ≤ 7 → isO n (idn n) = false := by decide +kernel
