/-! ===== pigeons; powers; the group that some generate ===== -/
theorem pigeon (f : Nat → Nat) (N : Nat) (h : ∀ i, i ≤ N → f i < N) : ∃ i j, i < j ∧ j ≤ N ∧ f i = f j := by
  refine Classical.byContradiction (fun hc => ?_)
  have hne : ∀ i j, i < j → j ≤ N → f i ≠ f j := fun i j h1 h2 e => hc ⟨i, j, h1, h2, e⟩
  have hnd : ((List.range (N + 1)).map f).Nodup := by
    refine List.pairwise_map.mpr (List.Pairwise.imp_of_mem ?_ List.pairwise_lt_range)
    intro a b ha hb hab
    exact hne a b hab (by have := List.mem_range.mp hb; omega)
  have hsub : (List.range (N + 1)).map f ⊆ List.range N := by
    intro y hy
    obtain ⟨i, hi, rfl⟩ := List.mem_map.mp hy
    exact List.mem_range.mpr (h i (by have := List.mem_range.mp hi; omega))
  have := List.Nodup.length_le_of_subset hnd hsub
  rw [List.length_map, List.length_range, List.length_range] at this
  omega
def pw (n P : Nat) : Nat → Nat
  | 0 => idn n
  | k + 1 => tm n (pw n P k) P
theorem PM_pw {n P : Nat} (hn : n ≤ 7) (hP : PM n P) : ∀ k, PM n (pw n P k)
  | 0 => PM_id hn
  | k + 1 => PM_tm (PM_pw hn hP k) hP
theorem pw_add {n P : Nat} (hn : n ≤ 7) (hP : PM n P) (a : Nat) : ∀ b, tm n (pw n P a) (pw n P b) = pw n P (a + b)
  | 0 => tm_id hn (PM_pw hn hP a)
  | b + 1 => by
      show tm n (pw n P a) (tm n (pw n P b) P) = tm n (pw n P (a + b)) P
      rw [← tm_assoc (PM_pw hn hP a) (PM_pw hn hP b) hP, pw_add hn hP a b]
/-- the inverse is a power -/
theorem bk_pw {n P : Nat} (hn : n ≤ 7) (hP : PM n P) : ∃ d, bk n P = pw n P d := by
  obtain ⟨i, j, hij, -, e⟩ := pigeon (pw n P) (2 ^ (3 * n)) (fun i _ => (PM_pw hn hP i).1)
  obtain ⟨d, hd⟩ : ∃ d, j = d + 1 + i := ⟨j - i - 1, by omega⟩
  refine ⟨d, ?_⟩
  have h1 : tm n (pw n P (d + 1)) (pw n P i) = tm n (idn n) (pw n P i) := by
    rw [pw_add hn hP, ← hd, ← e, id_tm hn (PM_pw hn hP i)]
  have h2 := tm_cancel hn (PM_pw hn hP (d + 1)) (PM_id hn) (PM_pw hn hP i) h1
  have h3 : tm n (pw n P d) P = tm n (bk n P) P := by rw [bk_tm hn hP]; exact h2
  exact (tm_cancel hn (PM_pw hn hP d) (PM_bk hn hP) hP h3).symm
def inG (n ct : Nat) (g : Nat → Nat) (P : Nat) : Prop := ∃ w : List Nat, (∀ j ∈ w, j < ct) ∧ P = w.foldl (fun q j => tm n q (g j)) (idn n)
section GRP
variable {n ct : Nat} {g : Nat → Nat}
theorem fold_PM (hg : ∀ j, j < ct → PM n (g j)) : ∀ (w : List Nat) (X : Nat), (∀ j ∈ w, j < ct) → PM n X → PM n (w.foldl (fun q j => tm n q (g j)) X)
  | [], _, _, hX => hX
  | j :: w, X, hw, hX => fold_PM hg w (tm n X (g j)) (fun i hi => hw i (List.mem_cons_of_mem _ hi)) (PM_tm hX (hg j (hw j List.mem_cons_self)))
theorem fold_mul (hg : ∀ j, j < ct → PM n (g j)) {P : Nat} (hP : PM n P) : ∀ (w : List Nat) (X : Nat), (∀ j ∈ w, j < ct) → PM n X → w.foldl (fun q j => tm n q (g j)) (tm n P X) = tm n P (w.foldl (fun q j => tm n q (g j)) X)
  | [], _, _, _ => rfl
  | j :: w, X, hw, hX => by
      have hj := hg j (hw j List.mem_cons_self)
      show w.foldl (fun q j => tm n q (g j)) (tm n (tm n P X) (g j)) = tm n P (w.foldl (fun q j => tm n q (g j)) (tm n X (g j)))
      rw [tm_assoc hP hX hj, fold_mul hg hP w (tm n X (g j)) (fun i hi => hw i (List.mem_cons_of_mem _ hi)) (PM_tm hX hj)]
theorem inG_PM (hn : n ≤ 7) (hg : ∀ j, j < ct → PM n (g j)) {P : Nat} (h : inG n ct g P) : PM n P := by
  obtain ⟨w, hw, rfl⟩ := h
  exact fold_PM hg w _ hw (PM_id hn)
theorem inG_id : inG n ct g (idn n) := ⟨[], fun _ h => absurd h List.not_mem_nil, rfl⟩
theorem inG_mg {P j : Nat} (h : inG n ct g P) (hj : j < ct) : inG n ct g (tm n P (g j)) := by
  obtain ⟨w, hw, rfl⟩ := h
  refine ⟨w ++ [j], fun i hi => ?_, by rw [List.foldl_append]; rfl⟩
  rcases List.mem_append.mp hi with h | h
  · exact hw i h
  · rw [List.mem_singleton.mp h]; exact hj
theorem inG_gen (hn : n ≤ 7) (hg : ∀ j, j < ct → PM n (g j)) {j : Nat} (hj : j < ct) : inG n ct g (g j) := by
  have := inG_mg (g := g) (inG_id (n := n) (ct := ct)) hj
  rw [id_tm hn (hg j hj)] at this
  exact this
theorem inG_mul (hn : n ≤ 7) (hg : ∀ j, j < ct → PM n (g j)) {P Q : Nat} (hP : inG n ct g P) (hQ : inG n ct g Q) : inG n ct g (tm n P Q) := by
  have hPM := inG_PM hn hg hP
  obtain ⟨w1, hw1, rfl⟩ := hP
  obtain ⟨w2, hw2, rfl⟩ := hQ
  refine ⟨w1 ++ w2, fun i hi => (List.mem_append.mp hi).elim (hw1 i) (hw2 i), ?_⟩
  rw [List.foldl_append, ← fold_mul hg hPM w2 (idn n) hw2 (PM_id hn), tm_id hn hPM]
theorem inG_pw (hn : n ≤ 7) (hg : ∀ j, j < ct → PM n (g j)) {P : Nat} (hP : inG n ct g P) : ∀ k, inG n ct g (pw n P k)
  | 0 => inG_id
  | k + 1 => inG_mul hn hg (inG_pw hn hg hP k) hP
theorem inG_bk (hn : n ≤ 7) (hg : ∀ j, j < ct → PM n (g j)) {P : Nat} (hP : inG n ct g P) : inG n ct g (bk n P) := by
  obtain ⟨d, hd⟩ := bk_pw hn (inG_PM hn hg hP)
  rw [hd]
  exact inG_pw hn hg hP d
theorem inG_min {S : Nat → Prop} (h0 : S (idn n)) (h1 : ∀ P j, S P → j < ct → S (tm n P (g j))) {P : Nat} (h : inG n ct g P) : S P := by
  obtain ⟨w, hw, rfl⟩ := h
  have key : ∀ (w : List Nat) (X : Nat), (∀ j ∈ w, j < ct) → S X → S (w.foldl (fun q j => tm n q (g j)) X) := by
    intro w
    induction w with
    | nil => intro X _ hX; exact hX
    | cons j w ih => intro X hw hX; exact ih _ (fun i hi => hw i (List.mem_cons_of_mem _ hi)) (h1 X j hX (hw j List.mem_cons_self))
  exact key w _ hw h0
theorem inG_mono {ct' : Nat} {g' : Nat → Nat} (hle : ct ≤ ct') (hg : ∀ j, j < ct → g' j = g j) {P : Nat} (h : inG n ct g P) : inG n ct' g' P :=
  inG_min (S := inG n ct' g') inG_id (fun P j hP hj => by rw [← hg j hj]; exact inG_mg hP (by omega)) h
theorem inG_congr {g' : Nat → Nat} (hg : ∀ j, j < ct → g' j = g j) {P : Nat} : inG n ct g' P ↔ inG n ct g P :=
  ⟨inG_mono (Nat.le_refl _) (fun j hj => (hg j hj).symm), inG_mono (Nat.le_refl _) hg⟩
end GRP
/-! ===== the order of permutations ===== -/
def lexB : Nat → Nat → Nat → Nat → Bool
  | 0, _, _, _ => false
  | k + 1, i, P, Q => Nat.blt (im P i) (im Q i) || (Nat.beq (im P i) (im Q i) && lexB k (i + 1) P Q)
def ck (n m : Nat) : Bool := isP n (pe n m) && (Nat.beq (nu n (pe n m)) m && (Nat.beq (m + 1) (fac n) || lexB n 0 (pe n m) (pe n (m + 1))))
def ckR (n : Nat) : Nat → Nat → Bool
  | 0, _ => true
  | k + 1, m => ck n m && ckR n k (m + 1)
def tC (n P : Nat) : Bool := Nat.blt (nu n P) (fac n) && Nat.beq (pe n (nu n P)) P
def tr (n : Nat) (c : Nat → Bool) : Nat → Nat → Nat → Nat → Bool
  | 0, _, P, _ => c P
  | k + 1, i, P, mb => (List.range n).all (fun y => mb.testBit y || tr n c k (i + 1) (P ||| y * 2 ^ (3 * i)) (mb ||| 2 ^ y))
theorem tr_ok {n : Nat} {c : Nat → Bool} {P : Nat} (hP : PM n P) : ∀ k i Pp mb, i + k = n → tr n c k i Pp mb = true → (∀ j, im Pp j = if j < i then im P j else 0) → (∀ y, mb.testBit y = true ↔ ∃ j, j < i ∧ im P j = y) → Pp < 2 ^ (3 * n) → c P = true
  | 0, i, Pp, mb, hk, ht, hI, _, hb => by
      have e : Pp = P := im_ext n hb hP.1 (fun j hj => by rw [hI j, if_pos (by omega)])
      rw [← e]; exact ht
  | k + 1, i, Pp, mb, hk, ht, hI, hM, hb => by
      have hy := hP.2.1 i (by omega)
      have h1 := List.all_eq_true.mp ht (im P i) (List.mem_range.mpr hy)
      have h2 : mb.testBit (im P i) = false := by
        cases hb9 : mb.testBit (im P i) with
        | false => rfl
        | true =>
          obtain ⟨j, hj, ej⟩ := (hM _).mp hb9
          have := PM_inj hP (show j < n by omega) (show i < n by omega) ej
          omega
      rw [h2, Bool.false_or] at h1
      refine tr_ok hP k (i + 1) _ _ (by omega) h1 (fun j => ?_) (fun y => ?_) (Nat.or_lt_two_pow hb (bd_sh (im_lt _ _) (by omega)))
      · rw [im_or, hI j, im_sh (im_lt _ _)]
        by_cases e : j = i
        · subst e; rw [if_neg (by omega), if_pos rfl, if_pos (by omega), Nat.zero_or]
        · rw [if_neg e, Nat.or_zero]
          by_cases c9 : j < i
          · rw [if_pos c9, if_pos (by omega)]
          · rw [if_neg c9, if_neg (by omega)]
      · rw [Nat.testBit_or, Bool.or_eq_true, hM y, Nat.testBit_two_pow, decide_eq_true_eq]
        constructor
        · rintro (⟨j, h3, h4⟩ | h3)
          · exact ⟨j, by omega, h4⟩
          · exact ⟨i, by omega, h3⟩
        · rintro ⟨j, h3, h4⟩
          by_cases e : j = i
          · subst e; exact Or.inr h4
          · exact Or.inl ⟨j, by omega, h4⟩
theorem tr_all {n : Nat} {c : Nat → Bool} (h : tr n c n 0 0 0 = true) {P : Nat} (hP : PM n P) : c P = true :=
  tr_ok hP n 0 0 0 (by omega) h (fun j => by rw [im_zero, if_neg (by omega)]) (fun y => by rw [Nat.zero_testBit]; exact ⟨fun q => absurd q (by decide), fun ⟨j, hj, _⟩ => absurd hj (Nat.not_lt_zero _)⟩) (Nat.two_pow_pos _)
theorem ckR_at {n : Nat} : ∀ k m, ckR n k m = true → ∀ q, m ≤ q → q < m + k → ck n q = true
  | 0, m, _, q, h1, h2 => by omega
  | k + 1, m, h, q, h1, h2 => by
      have h3 : (ck n m && ckR n k (m + 1)) = true := h
      rw [Bool.and_eq_true] at h3
      by_cases e : q = m
      · rw [e]; exact h3.1
      · exact ckR_at k (m + 1) h3.2 q (by omega) (by omega)
