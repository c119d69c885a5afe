/-! ===== orbits ===== -/
theorem bit_iff (S i : Nat) : S / 2 ^ i % 2 = 1 ↔ S.testBit i = true := by rw [Nat.testBit_eq_decide_div_mod_eq, decide_eq_true_eq]
theorem imF_bit (S P : Nat) : ∀ k i a y, (imF S P k i a).testBit y = true ↔ a.testBit y = true ∨ ∃ j, i ≤ j ∧ j < i + k ∧ S.testBit j = true ∧ im P j = y
  | 0, i, a, y => ⟨Or.inl, fun h => h.elim id (fun ⟨j, h1, h2, _⟩ => by omega)⟩
  | k + 1, i, a, y => by
      by_cases c : S / 2 ^ i % 2 = 1
      · rw [imF_t c, imF_bit S P k (i + 1), Nat.testBit_or, Bool.or_eq_true, Nat.one_mul, Nat.testBit_two_pow, decide_eq_true_eq]
        constructor
        · rintro ((h | h) | ⟨j, h1, h2, h3, h4⟩)
          · exact Or.inl h
          · exact Or.inr ⟨i, by omega, by omega, (bit_iff S i).mp c, h⟩
          · exact Or.inr ⟨j, by omega, by omega, h3, h4⟩
        · rintro (h | ⟨j, h1, h2, h3, h4⟩)
          · exact Or.inl (Or.inl h)
          · by_cases e : j = i
            · subst e; exact Or.inl (Or.inr h4)
            · exact Or.inr ⟨j, by omega, by omega, h3, h4⟩
      · rw [imF_f c, imF_bit S P k (i + 1)]
        constructor
        · rintro (h | ⟨j, h1, h2, h3, h4⟩)
          · exact Or.inl h
          · exact Or.inr ⟨j, by omega, by omega, h3, h4⟩
        · rintro (h | ⟨j, h1, h2, h3, h4⟩)
          · exact Or.inl h
          · by_cases e : j = i
            · subst e; exact absurd ((bit_iff S j).mpr h3) c
            · exact Or.inr ⟨j, by omega, by omega, h3, h4⟩
def sub2 (a b : Nat) : Prop := ∀ y, a.testBit y = true → b.testBit y = true
theorem sub2_rf (a : Nat) : sub2 a a := fun _ h => h
theorem sub2_tr {a b c : Nat} (h1 : sub2 a b) (h2 : sub2 b c) : sub2 a c := fun y h => h2 y (h1 y h)
theorem sub2_as {a b : Nat} (h1 : sub2 a b) (h2 : sub2 b a) : a = b := by
  apply Nat.eq_of_testBit_eq
  intro y
  cases ha : a.testBit y with
  | true => rw [h1 y ha]
  | false =>
    cases hb : b.testBit y with
    | true => rw [h2 y hb] at ha; exact absurd ha (by decide)
    | false => rfl
theorem sub2_or (a b : Nat) : sub2 a (a ||| b) := fun y h => by rw [Nat.testBit_or, h]; rfl
section ORB
variable {n ct : Nat} {ad : Nat → Int32}
theorem obI_sub : ∀ j k r, sub2 r (obI ad n j k r)
  | 0, _, r => sub2_rf r
  | j + 1, k, r => sub2_tr (sub2_or r _) (obI_sub j (k + 1) _)
theorem obF_sub : ∀ j t r, sub2 r (obF ad n ct j t r)
  | 0, _, r => sub2_rf r
  | j + 1, t, r => sub2_tr (obI_sub ct 0 r) (obF_sub j (t + 1) _)
def clo (n ct : Nat) (ad : Nat → Int32) (r : Nat) : Prop := ∀ k i, k < ct → i < n → r.testBit i = true → r.testBit (im (tn (ad k)) i) = true
theorem obI_fix : ∀ j k r, obI ad n j k r = r → ∀ q i, k ≤ q → q < k + j → i < n → r.testBit i = true → r.testBit (im (tn (ad q)) i) = true
  | 0, k, r, _, q, i, h1, h2, _, _ => by omega
  | j + 1, k, r, h, q, i, h1, h2, hi, hb => by
      have h : obI ad n j (k + 1) (r ||| imF r (tn (ad k)) n 0 0) = r := h
      have e : r ||| imF r (tn (ad k)) n 0 0 = r := sub2_as (fun y hy => by
        have := obI_sub (ad := ad) (n := n) j (k + 1) (r ||| imF r (tn (ad k)) n 0 0) y hy
        rw [h] at this
        exact this) (sub2_or _ _)
      by_cases c : q = k
      · subst c
        have : (r ||| imF r (tn (ad q)) n 0 0).testBit (im (tn (ad q)) i) = true := by
          rw [Nat.testBit_or, Bool.or_eq_true]
          exact Or.inr ((imF_bit _ _ _ _ _ _).mpr (Or.inr ⟨i, Nat.zero_le _, by omega, hb, rfl⟩))
        rw [e] at this
        exact this
      · rw [e] at h
        exact obI_fix j (k + 1) r h q i (by omega) (by omega) hi hb
theorem obF_fix {r : Nat} (h : obI ad n ct 0 r = r) : ∀ j t, obF ad n ct j t r = r
  | 0, _ => rfl
  | j + 1, t => by
      show obF ad n ct j (t + 1) (obI ad n ct 0 r) = r
      rw [h]
      exact obF_fix h j (t + 1)
def pcn (n r : Nat) : Nat := cy (fun y => r.testBit y) n 0
theorem cy_le {p q : Nat → Bool} : ∀ k y, (∀ j, p j = true → q j = true) → cy p k y ≤ cy q k y
  | 0, _, _ => Nat.le_refl _
  | k + 1, y, h => by
      show (if p y = true then 1 else 0) + cy p k (y + 1) ≤ (if q y = true then 1 else 0) + cy q k (y + 1)
      have := cy_le k (y + 1) h
      by_cases c : p y = true
      · rw [if_pos c, if_pos (h y c)]; omega
      · rw [if_neg c]; omega
theorem cy_max (p : Nat → Bool) : ∀ k y, cy p k y ≤ k
  | 0, _ => Nat.le_refl _
  | k + 1, y => by
      show (if p y = true then 1 else 0) + cy p k (y + 1) ≤ k + 1
      have := cy_max p k (y + 1)
      split <;> omega
theorem pcn_lt {r s : Nat} (h : sub2 r s) {y : Nat} (hy : y < n) (h1 : r.testBit y = false) (h2 : s.testBit y = true) : pcn n r + 1 ≤ pcn n s := by
  unfold pcn
  have a1 := cy_app (fun y => r.testBit y) y (n - y) 0
  have a2 := cy_app (fun y => s.testBit y) y (n - y) 0
  have b1 := cy_app (fun y => r.testBit y) 1 (n - y - 1) y
  have b2 := cy_app (fun y => s.testBit y) 1 (n - y - 1) y
  rw [show y + (n - y) = n by omega, Nat.zero_add] at a1 a2
  rw [show 1 + (n - y - 1) = n - y by omega] at b1 b2
  rw [cy_one (p := fun y => s.testBit y) h2] at b2
  rw [cy_none (p := fun y => r.testBit y) 1 y (fun j c1 c2 => by rw [show j = y by omega]; exact h1)] at b1
  have c1 := cy_le (p := fun y => r.testBit y) (q := fun y => s.testBit y) y 0 h
  have c2 := cy_le (p := fun y => r.testBit y) (q := fun y => s.testBit y) (n - y - 1) (y + 1) h
  omega
/-- only points are reached -/
def pts (n r : Nat) : Prop := ∀ y, r.testBit y = true → y < n
theorem obI_pts (hg : ∀ j, j < ct → PM n (gC ad j)) : ∀ j k r, k + j ≤ ct → pts n r → pts n (obI ad n j k r)
  | 0, _, _, _, h => h
  | j + 1, k, r, hk, h => obI_pts hg j (k + 1) _ (by omega) (fun y hy => by
      rw [Nat.testBit_or, Bool.or_eq_true] at hy
      rcases hy with hy | hy
      · exact h y hy
      · rcases (imF_bit _ _ _ _ _ _).mp hy with q | ⟨i, -, q2, -, q4⟩
        · simp at q
        · rw [← q4]; exact (hg k (by omega)).2.1 i (by omega))
theorem obF_grow (hg : ∀ j, j < ct → PM n (gC ad j)) : ∀ j t r, pts n r → pts n (obF ad n ct j t r) ∧ (clo n ct ad (obF ad n ct j t r) ∨ pcn n r + j ≤ pcn n (obF ad n ct j t r))
  | 0, _, r, h => ⟨h, Or.inr (Nat.le_refl _)⟩
  | j + 1, t, r, h => by
      have hp := obI_pts hg ct 0 r (by omega) h
      by_cases e : obI ad n ct 0 r = r
      · have e2 : obF ad n ct (j + 1) t r = r := obF_fix e (j + 1) t
        rw [e2]
        exact ⟨h, Or.inl (fun k i hk hi hb => obI_fix ct 0 r e k i (Nat.zero_le _) (by omega) hi hb)⟩
      · obtain ⟨h1, h2⟩ := obF_grow hg j (t + 1) (obI ad n ct 0 r) hp
        refine ⟨h1, h2.imp id (fun q => ?_)⟩
        have hs : sub2 r (obI ad n ct 0 r) := obI_sub ct 0 r
        have : ∃ y, r.testBit y = false ∧ (obI ad n ct 0 r).testBit y = true := Classical.byContradiction (fun hc => e (sub2_as (fun y hy => by
          cases hb : r.testBit y with
          | true => rfl
          | false => exact absurd ⟨y, hb, hy⟩ hc) hs))
        obtain ⟨y, y1, y2⟩ := this
        have := pcn_lt hs (hp y y2) y1 y2
        show pcn n r + (j + 1) ≤ pcn n (obF ad n ct j (t + 1) (obI ad n ct 0 r))
        omega
theorem obI_in (hg : ∀ j, j < ct → PM n (gC ad j)) {X : Nat} (hX : X < n) : ∀ j k r, k + j ≤ ct → (∀ y, r.testBit y = true → ∃ P, inG n ct (gC ad) P ∧ im P X = y) → ∀ y, (obI ad n j k r).testBit y = true → ∃ P, inG n ct (gC ad) P ∧ im P X = y
  | 0, _, _, _, h => h
  | j + 1, k, r, hk, h => obI_in hg hX j (k + 1) _ (by omega) (fun y hy => by
      rw [Nat.testBit_or, Bool.or_eq_true] at hy
      rcases hy with hy | hy
      · exact h y hy
      · rcases (imF_bit _ _ _ _ _ _).mp hy with q | ⟨i, -, q2, q3, q4⟩
        · simp at q
        · obtain ⟨P, p1, p2⟩ := h i q3
          exact ⟨tm n P (gC ad k), inG_mg p1 (by omega), by rw [tm_im, if_pos hX, p2]; exact q4⟩)
theorem obF_in (hg : ∀ j, j < ct → PM n (gC ad j)) {X : Nat} (hX : X < n) : ∀ j t r, (∀ y, r.testBit y = true → ∃ P, inG n ct (gC ad) P ∧ im P X = y) → ∀ y, (obF ad n ct j t r).testBit y = true → ∃ P, inG n ct (gC ad) P ∧ im P X = y
  | 0, _, _, h => h
  | j + 1, t, r, h => obF_in hg hX j (t + 1) _ (obI_in hg hX ct 0 r (by omega) h)
theorem orF_bit (iv : Nat → Int32) (X : Nat) : ∀ j k s y, (orF n iv X j k s).testBit y = true ↔ s.testBit y = true ∨ ∃ m, k ≤ m ∧ m < k + j ∧ ¬ iv m = 0 ∧ im (pe n m) X = y
  | 0, k, s, y => ⟨Or.inl, fun h => h.elim id (fun ⟨j, h1, h2, _⟩ => by omega)⟩
  | j + 1, k, s, y => by
      by_cases c : iv k = 0
      · rw [orF_n c, orF_bit iv X j (k + 1)]
        constructor
        · rintro (h | ⟨m, h1, h2, h3⟩)
          · exact Or.inl h
          · exact Or.inr ⟨m, by omega, by omega, h3⟩
        · rintro (h | ⟨m, h1, h2, h3, h4⟩)
          · exact Or.inl h
          · by_cases e : m = k
            · subst e; exact absurd c h3
            · exact Or.inr ⟨m, by omega, by omega, h3, h4⟩
      · rw [orF_y c, orF_bit iv X j (k + 1), Nat.testBit_or, Bool.or_eq_true, Nat.one_mul, Nat.testBit_two_pow, decide_eq_true_eq]
        constructor
        · rintro ((h | h) | ⟨m, h1, h2, h3⟩)
          · exact Or.inl h
          · exact Or.inr ⟨k, by omega, by omega, c, h⟩
          · exact Or.inr ⟨m, by omega, by omega, h3⟩
        · rintro (h | ⟨m, h1, h2, h3, h4⟩)
          · exact Or.inl (Or.inl h)
          · by_cases e : m = k
            · subst e; exact Or.inl (Or.inr h4)
            · exact Or.inr ⟨m, by omega, by omega, h3, h4⟩
theorem tie_orbit {iv gn : Nat → Int32} (h1 : 1 ≤ n) (h7 : n ≤ 7) (hg : ∀ j, j < ct → PM n (gC ad j)) (he : ∀ j, j < ct → gC gn j = gC ad j) (hF : FP n ct gn iv) {X : Nat} (hX : X < n) : orF n iv X (fac n) 0 0 = obF ad n ct n 0 (1 * 2 ^ X) := by
  have hfl := fac_le h7
  have hb0 : ∀ y, (1 * 2 ^ X).testBit y = true ↔ X = y := fun y => by rw [Nat.one_mul, Nat.testBit_two_pow, decide_eq_true_eq]
  have hG : ∀ P, inG n ct (gC gn) P ↔ inG n ct (gC ad) P := fun P => inG_congr he
  refine sub2_as (fun y hy => ?_) (fun y hy => ?_)
  · rcases (orF_bit iv X (fac n) 0 0 y).mp hy with q | ⟨m, -, q2, q3, q4⟩
    · simp at q
    · have hP := (hG _).mp ((FP_nz hF (show m < 5040 by omega)).mp q3).2
      obtain ⟨p1, p2⟩ := obF_grow hg n 0 (1 * 2 ^ X) (fun y hy => by rw [← (hb0 y).mp hy]; exact hX)
      have hclo : clo n ct ad (obF ad n ct n 0 (1 * 2 ^ X)) := by
        rcases p2 with p2 | p2
        · exact p2
        · exfalso
          have a1 : pcn n (obF ad n ct n 0 (1 * 2 ^ X)) ≤ n := cy_max _ _ _
          have a2 : 1 ≤ pcn n (1 * 2 ^ X) := by
            have := cy_lt (p := fun y => (1 * 2 ^ X).testBit y) hX ((hb0 X).mpr rfl)
            unfold pcn
            omega
          omega
      have key : PM n (pe n m) ∧ (obF ad n ct n 0 (1 * 2 ^ X)).testBit (im (pe n m) X) = true := inG_min (S := fun P => PM n P ∧ (obF ad n ct n 0 (1 * 2 ^ X)).testBit (im P X) = true) ⟨PM_id h7, by rw [idn_im h7, if_pos hX]; exact obF_sub n 0 _ X ((hb0 X).mpr rfl)⟩ (fun P j hP hj => ⟨PM_tm hP.1 (hg j hj), by rw [tm_im, if_pos hX]; exact hclo j _ hj (hP.1.2.1 X hX) hP.2⟩) hP
      rw [← q4]
      exact key.2
  · obtain ⟨P, p1, p2⟩ := obF_in hg hX n 0 (1 * 2 ^ X) (fun y hy => ⟨idn n, inG_id, by rw [idn_im h7, if_pos hX]; exact (hb0 y).mp hy⟩) y hy
    have hPM := inG_PM h7 hg p1
    have hl := nu_lt h1 h7 hPM
    exact (orF_bit iv X (fac n) 0 0 y).mpr (Or.inr ⟨nu n P, Nat.zero_le _, by omega, (FP_nu h1 h7 hF hPM).mpr ((hG P).mpr p1), by rw [pe_nu h1 h7 hPM]; exact p2⟩)
end ORB
