/-! ===== odd and even ===== -/
section PAR
variable {n : Nat}
theorem ckE_parts {m : Nat} (h : ckE n m = true) : isO n (pe n m) = Nat.beq (erI n (pe n m) n 0 0 % 2) 1 ∧ ckS n m (n - 1) 0 = true ∧ (m = 0 ∨ ckD n m (n - 1) 0 = true) := by
  unfold ckE at h
  rw [Bool.and_eq_true, Bool.and_eq_true, Bool.or_eq_true] at h
  refine ⟨?_, h.2.1, h.2.2.imp Nat.eq_of_beq_eq_true id⟩
  have h1 := h.1
  cases hA : isO n (pe n m) <;> cases hB : Nat.beq (erI n (pe n m) n 0 0 % 2) 1 <;> simp_all
theorem ckS_at {m : Nat} : ∀ k i, ckS n m k i = true → ∀ q, i ≤ q → q < i + k → isO n (tm n (pe n m) (sT n q)) = !(isO n (pe n m))
  | 0, i, _, q, h1, h2 => by omega
  | k + 1, i, h, q, h1, h2 => by
      have h : (Bool.xor (isO n (tm n (pe n m) (sT n i))) (isO n (pe n m)) && ckS n m k (i + 1)) = true := h
      rw [Bool.and_eq_true] at h
      by_cases e : q = i
      · subst e
        have h3 := h.1
        cases hA : isO n (tm n (pe n m) (sT n q)) <;> cases hB : isO n (pe n m) <;> simp_all
      · exact ckS_at k (i + 1) h.2 q (by omega) (by omega)
theorem ckD_at {m : Nat} : ∀ k i, ckD n m k i = true → ∃ q, i ≤ q ∧ q < i + k ∧ nu n (tm n (pe n m) (sT n q)) < m
  | 0, i, h => absurd (show false = true from h) (by decide)
  | k + 1, i, h => by
      have h : (Nat.blt (nu n (tm n (pe n m) (sT n i))) m || ckD n m k (i + 1)) = true := h
      rw [Bool.or_eq_true] at h
      rcases h with h | h
      · exact ⟨i, by omega, by omega, Nat.blt_eq.mp h⟩
      · obtain ⟨q, h1, h2, h3⟩ := ckD_at k (i + 1) h
        exact ⟨q, by omega, by omega, h3⟩
theorem isO_er (h1 : 1 ≤ n) (h7 : n ≤ 7) {P : Nat} (hP : PM n P) : isO n P = Nat.beq (erI n P n 0 0 % 2) 1 := by
  have := (ckE_parts (cfA h1 h7 (nu_lt h1 h7 hP))).1
  rw [pe_nu h1 h7 hP] at this
  exact this
theorem isO_sT (h1 : 1 ≤ n) (h7 : n ≤ 7) {P i : Nat} (hP : PM n P) (hi : i < n - 1) : isO n (tm n P (sT n i)) = !(isO n P) := by
  have := ckS_at (n - 1) 0 (ckE_parts (cfA h1 h7 (nu_lt h1 h7 hP))).2.1 i (by omega) (by omega)
  rw [pe_nu h1 h7 hP] at this
  exact this
/-- the product of two: odd where just one is -/
theorem isO_tm (h1 : 1 ≤ n) (h7 : n ≤ 7) {P : Nat} (hP : PM n P) : ∀ k Q, nu n Q < k → PM n Q → isO n (tm n P Q) = Bool.xor (isO n P) (isO n Q) := by
  intro k
  induction k with
  | zero => intro Q h; omega
  | succ k ih =>
    intro Q hk hQ
    rcases (ckE_parts (cfA h1 h7 (nu_lt h1 h7 hQ))).2.2 with e | e
    · have eQ : Q = idn n := nu_inj h1 h7 hQ (PM_id h7) (by rw [e, (nu_id h1 h7).1])
      rw [eQ, tm_id h7 hP, isO_id n h7, Bool.xor_false]
    · obtain ⟨i, -, hi, hlt⟩ := ckD_at (n - 1) 0 e
      rw [pe_nu h1 h7 hQ] at hlt
      have hi : i < n - 1 := by omega
      have hS : PM n (sT n i) := isP_PM.mp (sT_PM n h7 i hi)
      have h3 := ih (tm n Q (sT n i)) (by omega) (PM_tm hQ hS)
      rw [← tm_assoc hP hQ hS, isO_sT h1 h7 (PM_tm hP hQ) hi, isO_sT h1 h7 hQ hi] at h3
      cases hA : isO n (tm n P Q) <;> cases hB : isO n P <;> cases hC : isO n Q <;> simp_all
theorem erF_cy (iv : Nat → Int32) : ∀ j k c, erF n iv j k c = c + cy (fun k => decide (¬ iv k = 0) && decide (erI n (pe n k) n 0 0 % 2 = 0)) j k
  | 0, _, _ => rfl
  | j + 1, k, c => by
      by_cases q : iv k = 0
      · rw [erF_n q, erF_cy iv j (k + 1) c]
        show _ = c + ((if (decide (¬ iv k = 0) && decide (erI n (pe n k) n 0 0 % 2 = 0)) = true then 1 else 0) + _)
        rw [if_neg (by simp [q])]
        omega
      · by_cases d : erI n (pe n k) n 0 0 % 2 = 0
        · rw [erF_y q d, erF_cy iv j (k + 1) (c + 1)]
          show _ = c + ((if (decide (¬ iv k = 0) && decide (erI n (pe n k) n 0 0 % 2 = 0)) = true then 1 else 0) + _)
          rw [if_pos (by simp [q, d])]
          omega
        · rw [erF_m q d, erF_cy iv j (k + 1) c]
          show _ = c + ((if (decide (¬ iv k = 0) && decide (erI n (pe n k) n 0 0 % 2 = 0)) = true then 1 else 0) + _)
          rw [if_neg (by simp [d])]
          omega
theorem cy_split (p q : Nat → Bool) : ∀ k y, cy p k y = cy (fun j => p j && q j) k y + cy (fun j => p j && !(q j)) k y
  | 0, _ => rfl
  | k + 1, y => by
      show (if p y = true then 1 else 0) + cy p k (y + 1) = ((if (p y && q y) = true then 1 else 0) + cy (fun j => p j && q j) k (y + 1)) + ((if (p y && !(q y)) = true then 1 else 0) + cy (fun j => p j && !(q j)) k (y + 1))
      have := cy_split p q k (y + 1)
      cases hp : p y <;> cases hq : q y <;> simp <;> omega
/-- no more of these than of those, when each of these has one of those of its own -/
theorem cy_inj {p q : Nat → Bool} {M : Nat} (φ : Nat → Nat) (h1 : ∀ m, m < M → p m = true → φ m < M ∧ q (φ m) = true) (h2 : ∀ a b, a < M → b < M → p a = true → p b = true → φ a = φ b → a = b) : cy p M 0 ≤ cy q M 0 := by
  rw [cy_countP, cy_countP, ← List.range_eq_range', List.countP_eq_length_filter, List.countP_eq_length_filter]
  have hnd : (((List.range M).filter p).map φ).Nodup := by
    refine List.pairwise_map.mpr (List.Pairwise.imp_of_mem ?_ (List.Pairwise.filter p List.pairwise_lt_range))
    intro a b ha hb hab e
    have ha := List.mem_filter.mp ha
    have hb := List.mem_filter.mp hb
    have := h2 a b (List.mem_range.mp ha.1) (List.mem_range.mp hb.1) ha.2 hb.2 e
    omega
  have hsub : ((List.range M).filter p).map φ ⊆ (List.range M).filter q := by
    intro z hz
    obtain ⟨m, hm, rfl⟩ := List.mem_map.mp hz
    have hm := List.mem_filter.mp hm
    have := h1 m (List.mem_range.mp hm.1) hm.2
    exact List.mem_filter.mpr ⟨List.mem_range.mpr this.1, this.2⟩
  have := List.Nodup.length_le_of_subset hnd hsub
  rw [List.length_map] at this
  exact this
theorem evF_none {ad : Nat → Int32} {al : Nat} : ∀ j k, (∀ q, k ≤ q → q < k + j → isO n (tn (ad q)) = false) → evF ad n al j k = al
  | 0, _, _ => rfl
  | j + 1, k, h => by
      have e : evF ad n al (j + 1) k = evF ad n al j (k + 1) := if_neg (by rw [h k (by omega) (by omega)]; decide)
      rw [e]
      exact evF_none j (k + 1) (fun q h1 h2 => h q (by omega) (by omega))
theorem evF_some {ad : Nat → Int32} {al t : Nat} (ht : isO n (tn (ad t)) = true) : ∀ j k, k ≤ t → t < k + j → evF ad n al j k = al / 2
  | 0, k, h1, h2 => by omega
  | j + 1, k, h1, h2 => by
      by_cases c : isO n (tn (ad k)) = true
      · exact if_pos c
      · have e : evF ad n al (j + 1) k = evF ad n al j (k + 1) := if_neg c
        rw [e]
        have hne : k ≠ t := fun e => c (by rw [e]; exact ht)
        exact evF_some ht j (k + 1) (by omega) (by omega)
theorem tie_even {ct : Nat} {f ad gn iv : Nat → Int32} (h1 : 1 ≤ n) (h7 : n ≤ 7) (hg : ∀ j, j < ct → PM n (gC gn j)) (he : ∀ j, j < ct → tn (ad j) = gC gn j) (hV : VC n f (inG n ct (gC gn))) (hF : FP n ct gn iv) : erF n iv (fac n) 0 0 = evF ad n (fx f n 0) ct 0 := by
  have hfl := fac_le h7
  have hN := tie_order h1 h7 hg hV hF
  rw [bl_cy] at hN
  have hsp := cy_split (fun k => decide (¬ iv k = 0)) (fun k => decide (erI n (pe n k) n 0 0 % 2 = 0)) (fac n) 0
  rw [hN] at hsp
  rw [erF_cy, Nat.zero_add]
  have ev : ∀ P, PM n P → (isO n P = false ↔ erI n P n 0 0 % 2 = 0) := fun P hP => by
    rw [isO_er h1 h7 hP]
    constructor
    · intro h
      rcases Nat.mod_two_eq_zero_or_one (erI n P n 0 0) with e | e
      · exact e
      · rw [e] at h; exact absurd h (by decide)
    · intro h; rw [h]; rfl
  by_cases hc : ∃ t, t < ct ∧ isO n (gC gn t) = true
  · obtain ⟨t, ht, hodd⟩ := hc
    have hs := hg t ht
    rw [evF_some (t := t) (by rw [he t ht]; exact hodd) ct 0 (Nat.zero_le _) (by omega)]
    -- φ: the product with the odd one
    have mem : ∀ m, m < fac n → ¬ iv m = 0 → PM n (pe n m) ∧ nu n (tm n (pe n m) (gC gn t)) < fac n ∧ ¬ iv (nu n (tm n (pe n m) (gC gn t))) = 0 ∧ pe n (nu n (tm n (pe n m) (gC gn t))) = tm n (pe n m) (gC gn t) ∧ isO n (tm n (pe n m) (gC gn t)) = !(isO n (pe n m)) := fun m hm hz => by
      have hin := ((FP_nz hF (show m < 5040 by omega)).mp hz).2
      have hP := inG_PM h7 hg hin
      have hPM := PM_tm hP hs
      refine ⟨hP, nu_lt h1 h7 hPM, (FP_nu h1 h7 hF hPM).mpr (inG_mg hin ht), pe_nu h1 h7 hPM, ?_⟩
      rw [isO_tm h1 h7 hP _ _ (Nat.lt_succ_self _) hs, hodd, Bool.xor_true]
    have inj : ∀ a b, a < fac n → b < fac n → ¬ iv a = 0 → ¬ iv b = 0 → nu n (tm n (pe n a) (gC gn t)) = nu n (tm n (pe n b) (gC gn t)) → a = b := fun a b ha hb hza hzb e => by
      obtain ⟨a1, a2, a3, a4, -⟩ := mem a ha hza
      obtain ⟨b1, b2, b3, b4, -⟩ := mem b hb hzb
      have e2 : tm n (pe n a) (gC gn t) = tm n (pe n b) (gC gn t) := by rw [← a4, ← b4, e]
      have e3 := tm_cancel h7 a1 b1 hs e2
      rw [← nu_pe h1 h7 ha, ← nu_pe h1 h7 hb, e3]
    have le1 : cy (fun k => decide (¬ iv k = 0) && decide (erI n (pe n k) n 0 0 % 2 = 0)) (fac n) 0 ≤ cy (fun k => decide (¬ iv k = 0) && !(decide (erI n (pe n k) n 0 0 % 2 = 0))) (fac n) 0 := by
      refine cy_inj (fun m => nu n (tm n (pe n m) (gC gn t))) (fun m hm hp => ?_) (fun a b ha hb hpa hpb e => ?_)
      · rw [Bool.and_eq_true] at hp
        obtain ⟨m1, m2, m3, m4, m5⟩ := mem m hm (of_decide_eq_true hp.1)
        refine ⟨m2, ?_⟩
        rw [Bool.and_eq_true, m4]
        refine ⟨decide_eq_true m3, ?_⟩
        have hev := (ev _ m1).mpr (of_decide_eq_true hp.2)
        rw [hev] at m5
        have : ¬ erI n (tm n (pe n m) (gC gn t)) n 0 0 % 2 = 0 := fun q => by
          have := (ev _ (PM_tm m1 hs)).mpr q
          rw [m5] at this
          exact absurd this (by decide)
        rw [decide_eq_false this]; rfl
      · rw [Bool.and_eq_true] at hpa hpb
        exact inj a b ha hb (of_decide_eq_true hpa.1) (of_decide_eq_true hpb.1) e
    have le2 : cy (fun k => decide (¬ iv k = 0) && !(decide (erI n (pe n k) n 0 0 % 2 = 0))) (fac n) 0 ≤ cy (fun k => decide (¬ iv k = 0) && decide (erI n (pe n k) n 0 0 % 2 = 0)) (fac n) 0 := by
      refine cy_inj (fun m => nu n (tm n (pe n m) (gC gn t))) (fun m hm hp => ?_) (fun a b ha hb hpa hpb e => ?_)
      · rw [Bool.and_eq_true] at hp
        obtain ⟨m1, m2, m3, m4, m5⟩ := mem m hm (of_decide_eq_true hp.1)
        refine ⟨m2, ?_⟩
        rw [Bool.and_eq_true, m4]
        refine ⟨decide_eq_true m3, ?_⟩
        have hno : ¬ erI n (pe n m) n 0 0 % 2 = 0 := fun q => by
          have := hp.2
          rw [decide_eq_true q] at this
          exact absurd this (by decide)
        have hod : isO n (pe n m) = true := by
          cases hb : isO n (pe n m) with
          | true => rfl
          | false => exact absurd ((ev _ m1).mp hb) hno
        rw [hod] at m5
        exact decide_eq_true ((ev _ (PM_tm m1 hs)).mp m5)
      · rw [Bool.and_eq_true] at hpa hpb
        exact inj a b ha hb (of_decide_eq_true hpa.1) (of_decide_eq_true hpb.1) e
    omega
  · rw [evF_none ct 0 (fun q _ hq => by
      rw [he q (by omega)]
      cases hb : isO n (gC gn q) with
      | false => rfl
      | true => exact absurd ⟨q, by omega, hb⟩ hc)]
    have all : ∀ P, inG n ct (gC gn) P → PM n P ∧ isO n P = false := fun P hP => inG_min (S := fun P => PM n P ∧ isO n P = false) ⟨PM_id h7, isO_id n h7⟩ (fun P j hPs hj => ⟨PM_tm hPs.1 (hg j hj), by
      rw [isO_tm h1 h7 hPs.1 _ _ (Nat.lt_succ_self _) (hg j hj), hPs.2]
      cases hb : isO n (gC gn j) with
      | false => rfl
      | true => exact absurd ⟨j, hj, hb⟩ hc⟩) hP
    have z : cy (fun k => decide (¬ iv k = 0) && !(decide (erI n (pe n k) n 0 0 % 2 = 0))) (fac n) 0 = 0 := cy_none _ _ (fun m _ hm => by
      by_cases c : iv m = 0
      · simp [c]
      · have hin := ((FP_nz hF (show m < 5040 by omega)).mp c).2
        have := all _ hin
        rw [decide_eq_true ((ev _ this.1).mp this.2)]
        simp)
    omega
end PAR
