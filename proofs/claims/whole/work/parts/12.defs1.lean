/-! ===== what the reference's methods compute, loop by loop ===== -/
def fac : Nat → Nat
  | 0 => 1 | 1 => 1 | 2 => 2 | 3 => 6 | 4 => 24 | 5 => 120 | 6 => 720 | 7 => 5040 | _ => 0
def facI : Nat → Int32
  | 0 => 1 | 1 => 1 | 2 => 2 | 3 => 6 | 4 => 24 | 5 => 120 | 6 => 720 | 7 => 5040 | _ => 0
theorem facI_eq {i : Nat} (h : i ≤ 7) : facI i = nI (fac i) := by
  match i, h with
  | 0, _ => rfl
  | 1, _ => rfl
  | 2, _ => rfl
  | 3, _ => rfl
  | 4, _ => rfl
  | 5, _ => rfl
  | 6, _ => rfl
  | 7, _ => rfl
theorem fac_bd : ∀ i, i ≤ 7 → 0 < fac i ∧ fac i ≤ 5040 := by decide
def frI (P z : Nat) : Nat → Nat → Bool → Bool
  | 0, _, u => u
  | k + 1, j, u => frI P z k (j + 1) (if im P j = z then true else u)
def frF (P i : Nat) : Nat → Nat → Nat → Nat
  | 0, _, c => c
  | k + 1, z, c => frF P i k (z + 1) (if frI P z i 0 false = true then c else c + 1)
def fr (P i y : Nat) : Nat := frF P i y 0 0
def nuF (n P : Nat) : Nat → Nat → Nat → Nat
  | 0, _, a => a
  | k + 1, i, a => nuF n P k (i + 1) (a + fr P i (im P i) * fac (n - 1 - i))
def nu (n P : Nat) : Nat := nuF n P n 0 0
def usF (P y : Nat) : Nat → Nat → Bool
  | 0, _ => false
  | k + 1, j => if im P j = y then true else usF P y k (j + 1)
def us (P i y : Nat) : Bool := usF P y i 0
def peY (P i pl : Nat) : Nat → Nat → Nat
  | 0, y => y
  | k + 1, y => if fr P i y = pl ∧ us P i y = false then y else peY P i pl k (y + 1)
def peF (n : Nat) : Nat → Nat → Nat → Nat → Nat
  | 0, _, p, _ => p
  | k + 1, i, p, r => peF n k (i + 1) (p ||| peY p i (r / fac (n - 1 - i)) 7 0 * 2 ^ (3 * i)) (r % fac (n - 1 - i))
def pe (n m : Nat) : Nat := peF n n 0 0 m
def blF (iv : Nat → Int32) : Nat → Nat → Nat → Nat
  | 0, _, c => c
  | k + 1, m, c => blF iv k (m + 1) (if iv m = 0 then c else c + 1)
def bl (iv : Nat → Int32) (k : Nat) : Nat := blF iv k 0 0
theorem frI_t {P z k j : Nat} {u : Bool} (c : im P j = z) : frI P z (k + 1) j u = frI P z k (j + 1) true := by show frI P z k (j + 1) (if im P j = z then true else u) = _; rw [if_pos c]
theorem frI_f {P z k j : Nat} {u : Bool} (c : ¬ im P j = z) : frI P z (k + 1) j u = frI P z k (j + 1) u := by show frI P z k (j + 1) (if im P j = z then true else u) = _; rw [if_neg c]
theorem frF_t {P i k z c : Nat} (h : frI P z i 0 false = true) : frF P i (k + 1) z c = frF P i k (z + 1) c := by show frF P i k (z + 1) (if frI P z i 0 false = true then c else c + 1) = _; rw [if_pos h]
theorem frF_f {P i k z c : Nat} (h : frI P z i 0 false = false) : frF P i (k + 1) z c = frF P i k (z + 1) (c + 1) := by show frF P i k (z + 1) (if frI P z i 0 false = true then c else c + 1) = _; rw [if_neg (by rw [h]; decide)]
theorem frF_le (P i : Nat) : ∀ k z c, frF P i k z c ≤ c + k
  | 0, _, _ => Nat.le_refl _
  | k + 1, z, c => by
      have h := frF_le P i k (z + 1) (if frI P z i 0 false = true then c else c + 1)
      show frF P i k (z + 1) (if frI P z i 0 false = true then c else c + 1) ≤ c + (k + 1)
      split at h <;> rename_i q
      · rw [if_pos q]; omega
      · rw [if_neg q]; omega
theorem fr_le (P i y : Nat) : fr P i y ≤ y := by have := frF_le P i y 0 0; unfold fr; omega
theorem peY_hit {P i pl k y : Nat} (c : fr P i y = pl) (d : us P i y = false) : peY P i pl (k + 1) y = y := if_pos ⟨c, d⟩
theorem peY_n1 {P i pl k y : Nat} (c : ¬ fr P i y = pl) : peY P i pl (k + 1) y = peY P i pl k (y + 1) := if_neg (fun q => c q.1)
theorem peY_n2 {P i pl k y : Nat} (d : us P i y = true) : peY P i pl (k + 1) y = peY P i pl k (y + 1) := if_neg (fun q => by rw [d] at q; exact absurd q.2 (by decide))
theorem peY_le (P i pl : Nat) : ∀ k y, y + k = 7 → peY P i pl k y ≤ 7
  | 0, y, h => by show y ≤ 7; omega
  | k + 1, y, h => by
      show (if fr P i y = pl ∧ us P i y = false then y else peY P i pl k (y + 1)) ≤ 7
      split
      · omega
      · exact peY_le P i pl k (y + 1) (by omega)
theorem peF_lt (n : Nat) : ∀ k i p r, i + k ≤ 8 → p < 2 ^ 24 → peF n k i p r < 2 ^ 24
  | 0, _, _, _, _, h => h
  | k + 1, i, p, r, h1, h => peF_lt n k (i + 1) _ _ (by omega) (Nat.or_lt_two_pow h (bd_mul (Nat.lt_succ_of_le (peY_le _ _ _ 7 0 rfl)) (by omega) rfl))
theorem pe_lt {n : Nat} (hn : n ≤ 7) (m : Nat) : pe n m < 2 ^ 24 := peF_lt n n 0 0 m (by omega) (by decide)
theorem blF_y {iv : Nat → Int32} {k m c : Nat} (h : ¬ iv m = 0) : blF iv (k + 1) m c = blF iv k (m + 1) (c + 1) := by show blF iv k (m + 1) (if iv m = 0 then c else c + 1) = _; rw [if_neg h]
theorem blF_n {iv : Nat → Int32} {k m c : Nat} (h : iv m = 0) : blF iv (k + 1) m c = blF iv k (m + 1) c := by show blF iv k (m + 1) (if iv m = 0 then c else c + 1) = _; rw [if_pos h]
theorem blF_le (iv : Nat → Int32) : ∀ k m c, blF iv k m c ≤ c + k
  | 0, _, _ => Nat.le_refl _
  | k + 1, m, c => by
      have h := blF_le iv k (m + 1) (if iv m = 0 then c else c + 1)
      show blF iv k (m + 1) (if iv m = 0 then c else c + 1) ≤ c + (k + 1)
      split at h <;> rename_i q
      · rw [if_pos q]; omega
      · rw [if_neg q]; omega
theorem bl_le (iv : Nat → Int32) (k : Nat) : bl iv k ≤ k := by have := blF_le iv k 0 0; unfold bl; omega
theorem isP_big {n P : Nat} (hn : n ≤ 7) (h : 2 ^ 31 ≤ P) : isP n P = false := isP_f1 (fun q => by
  have h1 : P < 2 ^ (3 * n) := by
    rcases Nat.lt_or_ge P (2 ^ (3 * n)) with h2 | h2
    · exact h2
    · have := Nat.div_pos h2 (Nat.two_pow_pos (3 * n)); omega
  have h3 : 2 ^ (3 * n) ≤ 2 ^ 21 := Nat.pow_le_pow_right (by decide) (by omega)
  have h4 : (2 : Nat) ^ 21 < 2 ^ 31 := by decide
  omega)
theorem nb_nn {P : Nat} (hp : P < 2 ^ 32) (h : ¬ nI P < 0) : P < 2 ^ 31 := by
  rcases Nat.lt_or_ge P (2 ^ 31) with q | q
  · exact q
  · exact absurd (nb_neg q hp) h
theorem nb_ng {P : Nat} (hp : P < 2 ^ 32) (h : nI P < 0) : 2 ^ 31 ≤ P := by
  rcases Nat.lt_or_ge P (2 ^ 31) with q | q
  · exact absurd h (nI_pos q)
  · exact q
theorem isP_lt {n P : Nat} (hn : n ≤ 7) (h : isP n P = true) : P < 2 ^ 24 := by
  have h0 := (isP_iff.mp h).1
  have h1 : P < 2 ^ (3 * n) := by
    rcases Nat.lt_or_ge P (2 ^ (3 * n)) with h2 | h2
    · exact h2
    · have := Nat.div_pos h2 (Nat.two_pow_pos (3 * n)); omega
  exact Nat.lt_of_lt_of_le h1 (Nat.pow_le_pow_right (by decide) (by omega))
/-! ===== the reference's cells ===== -/
abbrev mW (cI cZ : ClassId) (h fa ge inn wa : Nat) (ct n th : Int32) (gn iv wv : Nat → Int32) : va_W :=
  [(h, .inr (1, [.ref fa, .ref ge, .int ct, .int n, .ref inn, .ref wa, .int th])), (fa, .inl (cI, 8, .inl facI)), (ge, .inl (cI, 12, .inl gn)), (inn, .inl (cZ, 5040, .inl iv)), (wa, .inl (cI, 5040, .inl wv))]
