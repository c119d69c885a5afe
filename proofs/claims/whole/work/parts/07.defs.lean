/-! ===== what the methods compute, loop by loop (k: rounds left), on numbers ===== -/
def im (P i : Nat) : Nat := P / 2 ^ (3 * i) % 8
def cpF (P Q : Nat) : Nat → Nat → Nat → Nat
  | 0, _, a => a
  | k + 1, i, a => cpF P Q k (i + 1) (a ||| im Q (im P i) * 2 ^ (3 * i))
def tm (n P Q : Nat) : Nat := cpF P Q n 0 0
def bkF (P : Nat) : Nat → Nat → Nat → Nat
  | 0, _, a => a
  | k + 1, i, a => bkF P k (i + 1) (a ||| i * 2 ^ (3 * im P i))
def bk (n P : Nat) : Nat := bkF P n 0 0
def mkF (P : Nat) : Nat → Nat → Nat → Nat
  | 0, _, a => a
  | k + 1, i, a => mkF P k (i + 1) (a ||| 1 * 2 ^ im P i)
def isP (n P : Nat) : Bool := Nat.beq (P / 2 ^ (3 * n)) 0 && Nat.beq (mkF P n 0 0) (1 * 2 ^ n - 1)
def odI (P j : Nat) : Nat → Nat → Nat → Nat
  | 0, _, a => a
  | k + 1, i, a => odI P j k (i + 1) (if im P j < im P i then a + 1 else a)
def odF (P : Nat) : Nat → Nat → Nat → Nat
  | 0, _, a => a
  | k + 1, j, a => odF P k (j + 1) (odI P j j 0 a)
def isO (n P : Nat) : Bool := Nat.beq (odF P (n - 1) 1 0 % 2) 1
def imF (S P : Nat) : Nat → Nat → Nat → Nat
  | 0, _, a => a
  | k + 1, i, a => imF S P k (i + 1) (if S / 2 ^ i % 2 = 1 then a ||| 1 * 2 ^ im P i else a)
def cnF (f : Nat → Int32) (lv : Nat) : Nat → Nat → Nat → Nat
  | 0, _, a => a
  | k + 1, x, a => cnF f lv k (x + 1) (if f (lv * 8 + x) = -1 then a else a + 1)
def fxF (f : Nat → Int32) (n : Nat) : Nat → Nat → Nat → Nat
  | 0, _, a => a
  | k + 1, lv, a => fxF f n k (lv + 1) (a * cnF f lv (n - lv) lv 0)
def fx (f : Nat → Int32) (n k : Nat) : Nat := fxF f n (n - k) k 1
def rsF (f : Nat → Int32) (n : Nat) : Nat → Nat → Nat → Nat
  | 0, _, r => r
  | k + 1, lv, r => if im r lv = lv then rsF f n k (lv + 1) r else if f (lv * 8 + im r lv) = -1 then r else rsF f n k (lv + 1) (tm n r (bk n (tn (f (lv * 8 + im r lv)))))
def rs (f : Nat → Int32) (n P : Nat) : Nat := rsF f n n 0 P
def icI (f : Nat → Int32) (n lv al bb : Nat) : Nat → Nat → Nat → Nat → Nat × Nat
  | 0, _, fo, be => (fo, be)
  | k + 1, y, fo, be => if f (lv * 8 + im bb y) = -1 then icI f n lv al bb k (y + 1) fo be else if be < al then (tm n (tn (f (lv * 8 + im bb y))) fo, be) else icI f n lv al bb k (y + 1) fo (be - al)
def icF (f : Nat → Int32) (n : Nat) : Nat → Nat → Nat → Nat → Nat
  | 0, _, fo, _ => fo
  | k + 1, lv, fo, be => icF f n k (lv + 1) (icI f n lv (fx f n (lv + 1)) (bk n fo) n 0 fo be).1 (icI f n lv (fx f n (lv + 1)) (bk n fo) n 0 fo be).2
def ic (f : Nat → Int32) (n P k : Nat) : Nat := icF f n n 0 P k
def elF (f : Nat → Int32) (lv fo lim : Nat) : Nat → Nat → Nat → Nat
  | 0, _, a => a
  | k + 1, x, a => elF f lv fo lim k (x + 1) (if f (lv * 8 + x) = -1 then a else if im fo x < lim then a + 1 else a)
def ebF (f : Nat → Int32) (n P : Nat) : Nat → Nat → Nat → Nat → Nat
  | 0, _, be, _ => be
  | k + 1, lv, be, fo => ebF f n P k (lv + 1) (be + elF f lv fo (im P lv) (n - lv) lv 0 * fx f n (lv + 1)) (tm n (tn (f (lv * 8 + im (bk n fo) (im P lv)))) fo)
def eb (f : Nat → Int32) (n id P : Nat) : Nat := ebF f n P n 0 0 id
def obI (ad : Nat → Int32) (n : Nat) : Nat → Nat → Nat → Nat
  | 0, _, r => r
  | j + 1, k, r => obI ad n j (k + 1) (r ||| imF r (tn (ad k)) n 0 0)
def obF (ad : Nat → Int32) (n ct : Nat) : Nat → Nat → Nat → Nat
  | 0, _, r => r
  | j + 1, t, r => obF ad n ct j (t + 1) (obI ad n ct 0 r)
def evF (ad : Nat → Int32) (n al : Nat) : Nat → Nat → Nat
  | 0, _ => al
  | j + 1, k => if isO n (tn (ad k)) = true then al / 2 else evF ad n al j (k + 1)
def idF : Nat → Nat → Nat → Nat
  | 0, _, a => a
  | k + 1, i, a => idF k (i + 1) (a ||| i * 2 ^ (3 * i))
def idn (n : Nat) : Nat := idF n 0 0
def b01 (b : Bool) : Int32 := if b = true then 1 else 0
theorem b01_or (b : Bool) : b01 b = 0 ∨ b01 b = 1 := by cases b <;> simp [b01]
/-! ===== bounds ===== -/
theorem im_lt (P i : Nat) : im P i < 8 := Nat.mod_lt _ (by decide)
theorem im_le (P i : Nat) : im P i ≤ 7 := Nat.le_of_lt_succ (im_lt P i)
theorem bd_mul {a k n : Nat} (h : a < 8) (hk : k ≤ 7) (hn : n = 24) : a * 2 ^ (3 * k) < 2 ^ n := by
  subst hn
  calc a * 2 ^ (3 * k) < 8 * 2 ^ (3 * k) := Nat.mul_lt_mul_of_pos_right h (Nat.two_pow_pos _)
    _ ≤ 8 * 2 ^ 21 := Nat.mul_le_mul_left _ (Nat.pow_le_pow_right (by decide) (by omega))
    _ = 2 ^ 24 := by decide
theorem cpF_lt (P Q : Nat) : ∀ k i a, i + k ≤ 8 → a < 2 ^ 24 → cpF P Q k i a < 2 ^ 24
  | 0, _, _, _, h => h
  | k + 1, i, a, h1, h => cpF_lt P Q k (i + 1) _ (by omega) (Nat.or_lt_two_pow h (bd_mul (im_lt _ _) (by omega) rfl))
theorem tm_lt {n : Nat} (h : n ≤ 7) (P Q : Nat) : tm n P Q < 2 ^ 24 := cpF_lt P Q n 0 0 (by omega) (by decide)
theorem bkF_lt (P : Nat) : ∀ k i a, i + k ≤ 8 → a < 2 ^ 24 → bkF P k i a < 2 ^ 24
  | 0, _, _, _, h => h
  | k + 1, i, a, h1, h => bkF_lt P k (i + 1) _ (by omega) (Nat.or_lt_two_pow h (bd_mul (by omega) (im_le _ _) rfl))
theorem bk_lt {n : Nat} (h : n ≤ 7) (P : Nat) : bk n P < 2 ^ 24 := bkF_lt P n 0 0 (by omega) (by decide)
theorem bd_pow {k : Nat} (h : k ≤ 7) : 1 * 2 ^ k < 2 ^ 8 := by
  rw [Nat.one_mul]
  exact Nat.pow_lt_pow_right (by decide) (by omega)
theorem mkF_lt (P : Nat) : ∀ k i a, a < 2 ^ 8 → mkF P k i a < 2 ^ 8
  | 0, _, _, h => h
  | k + 1, i, a, h => mkF_lt P k (i + 1) _ (Nat.or_lt_two_pow h (bd_pow (im_le _ _)))
theorem imF_lt (S P : Nat) : ∀ k i a, a < 2 ^ 8 → imF S P k i a < 2 ^ 8
  | 0, _, _, h => h
  | k + 1, i, a, h => imF_lt S P k (i + 1) _ (by
      by_cases c : S / 2 ^ i % 2 = 1
      · rw [if_pos c]; exact Nat.or_lt_two_pow h (bd_pow (im_le _ _))
      · rw [if_neg c]; exact h)
theorem cnF_le (f : Nat → Int32) (lv : Nat) : ∀ k x a, cnF f lv k x a ≤ a + k
  | 0, _, _ => Nat.le_refl _
  | k + 1, x, a => by
      have h := cnF_le f lv k (x + 1) (if f (lv * 8 + x) = -1 then a else a + 1)
      show cnF f lv k (x + 1) (if f (lv * 8 + x) = -1 then a else a + 1) ≤ a + (k + 1)
      split at h <;> rename_i c
      · rw [if_pos c]; omega
      · rw [if_neg c]; omega
theorem fxF_le (f : Nat → Int32) {n : Nat} (hn : n ≤ 7) : ∀ k lv a, fxF f n k lv a ≤ a * 7 ^ k
  | 0, _, a => by show a ≤ a * 7 ^ 0; omega
  | k + 1, lv, a => by
      have h := fxF_le f hn k (lv + 1) (a * cnF f lv (n - lv) lv 0)
      have h2 : cnF f lv (n - lv) lv 0 ≤ 7 := Nat.le_trans (cnF_le f lv (n - lv) lv 0) (by omega)
      refine Nat.le_trans h ?_
      rw [Nat.pow_succ, Nat.mul_comm (7 ^ k) 7, ← Nat.mul_assoc]
      exact Nat.mul_le_mul_right _ (Nat.mul_le_mul_left _ h2)
theorem fx_lt (f : Nat → Int32) {n : Nat} (hn : n ≤ 7) (k : Nat) : fx f n k < 2 ^ 24 := by
  refine Nat.lt_of_le_of_lt (fxF_le f hn (n - k) k 1) ?_
  rw [Nat.one_mul]
  exact Nat.lt_of_le_of_lt (Nat.pow_le_pow_right (by decide) (show n - k ≤ 7 by omega)) (by decide)
theorem odI_le (P j : Nat) : ∀ k i a, odI P j k i a ≤ a + k
  | 0, _, _ => Nat.le_refl _
  | k + 1, i, a => by
      have h := odI_le P j k (i + 1) (if im P j < im P i then a + 1 else a)
      show odI P j k (i + 1) (if im P j < im P i then a + 1 else a) ≤ a + (k + 1)
      split at h <;> rename_i c
      · rw [if_pos c]; omega
      · rw [if_neg c]; omega
theorem rsF_lt (f : Nat → Int32) {n : Nat} (hn : n ≤ 7) : ∀ k lv r, r < 2 ^ 32 → rsF f n k lv r < 2 ^ 32
  | 0, _, _, h => h
  | k + 1, lv, r, h => by
      show (if im r lv = lv then rsF f n k (lv + 1) r else if f (lv * 8 + im r lv) = -1 then r else rsF f n k (lv + 1) (tm n r (bk n (tn (f (lv * 8 + im r lv)))))) < 2 ^ 32
      split
      · exact rsF_lt f hn k (lv + 1) r h
      · split
        · exact h
        · exact rsF_lt f hn k (lv + 1) _ (Nat.lt_trans (tm_lt hn _ _) (by decide))
theorem idF_lt : ∀ k i a, i + k ≤ 8 → a < 2 ^ 24 → idF k i a < 2 ^ 24
  | 0, _, _, _, h => h
  | k + 1, i, a, h1, h => idF_lt k (i + 1) _ (by omega) (Nat.or_lt_two_pow h (bd_mul (by omega) (by omega) rfl))
theorem idn_lt {n : Nat} (h : n ≤ 7) : idn n < 2 ^ 24 := idF_lt n 0 0 (by omega) (by decide)
/-! ===== the class's cells ===== -/
abbrev gW (cI cG : ClassId) (h a g f : Nat) (ra : Nat → Nat) (n id ct fc : Int32) (ad fl : Nat → Int32) (R : Nat → Nat → Int32) : va_W :=
  (h, .inr (0, [.int n, .int id, .int ct, .ref a, .ref g, .ref f, .int fc])) :: (a, .inl (cI, 12, .inl ad)) :: (g, .inl (cG, 13, .inr (.inr (.inr (.inr (fun i => if i < 13 then some (ra i) else none)))))) :: (f, .inl (cI, 21, .inl fl)) :: (List.range 13).map (fun i => (ra i, .inl (cI, 56, .inl (R i))))
abbrev gT (cI cG cZ : ClassId) : List (ClassId × FieldType) := [(cI, .int), (cG, .array .int), (cZ, .boolean)]
theorem gW_row {cI cG : ClassId} {h a g f : Nat} {ra : Nat → Nat} {n id ct fc : Int32} {ad fl : Nat → Int32} {R : Nat → Nat → Int32} {i : Nat} (hi : i < 13) : (gW cI cG h a g f ra n id ct fc ad fl R)[i + 4]? = some (ra i, .inl (cI, 56, .inl (R i))) := by
  show ((List.range 13).map (fun i => ((ra i, .inl (cI, 56, .inl (R i))) : Nat × va_E)))[i]? = _
  rw [List.getElem?_map, List.getElem?_range hi]
  rfl
