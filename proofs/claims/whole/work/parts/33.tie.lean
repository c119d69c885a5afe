/-! ===== both sides answer alike: order, contains, element, rank, least, fixing ===== -/
theorem blF_cy (iv : Nat → Int32) : ∀ k m c, blF iv k m c = c + cy (fun m => decide (¬ iv m = 0)) k m
  | 0, _, _ => rfl
  | k + 1, m, c => by
      by_cases q : iv m = 0
      · rw [blF_n q, blF_cy iv k (m + 1) c]
        show _ = c + ((if decide (¬ iv m = 0) = true then 1 else 0) + _)
        rw [if_neg (by simpa using q)]
        omega
      · rw [blF_y q, blF_cy iv k (m + 1) (c + 1)]
        show _ = c + ((if decide (¬ iv m = 0) = true then 1 else 0) + _)
        rw [if_pos (by simpa using q)]
        omega
theorem bl_cy (iv : Nat → Int32) (k : Nat) : bl iv k = cy (fun m => decide (¬ iv m = 0)) k 0 := by unfold bl; rw [blF_cy, Nat.zero_add]
/-- a rising enumeration counts -/
theorem enum_cy {p : Nat → Bool} {e : Nat → Nat} {N M : Nat} (h1 : ∀ a b, a < b → b < N → e a < e b) (h2 : ∀ k, k < N → e k < M ∧ p (e k) = true) (h3 : ∀ m, m < M → p m = true → ∃ k, k < N ∧ e k = m) : cy p M 0 = N ∧ ∀ k, k < N → cy p (e k) 0 = k := by
  have mono : ∀ a b, a < N → b < N → e a < e b → a < b := fun a b ha hb h => by
    rcases Nat.lt_trichotomy a b with q | q | q
    · exact q
    · subst q; omega
    · have := h1 b a q ha; omega
  have f : ∀ {m : Nat}, ¬ p m = true → p m = false := fun {m} h => by cases hb : p m <;> simp_all
  have key : ∀ k, k < N → cy p (e k) 0 = k := by
    intro k
    induction k with
    | zero =>
      intro hk
      refine cy_none _ _ (fun m _ hm => f (fun hp => ?_))
      obtain ⟨q, hq, eq⟩ := h3 m (by have := (h2 0 hk).1; omega) hp
      have := mono q 0 hq hk (by omega)
      omega
    | succ k ih =>
      intro hk
      have hlt := h1 k (k + 1) (by omega) hk
      have ha := cy_app p (e k) (e (k + 1) - e k) 0
      rw [show e k + (e (k + 1) - e k) = e (k + 1) by omega, Nat.zero_add, ih (by omega)] at ha
      have hb := cy_app p 1 (e (k + 1) - e k - 1) (e k)
      rw [show 1 + (e (k + 1) - e k - 1) = e (k + 1) - e k by omega, cy_one (h2 k (by omega)).2, cy_none (e (k + 1) - e k - 1) (e k + 1) (fun m a1 a2 => f (fun hp => by
        obtain ⟨q, hq, eq⟩ := h3 m (by have := (h2 (k + 1) hk).1; omega) hp
        have c1 := mono k q (by omega) hq (by omega)
        have c2 := mono q (k + 1) hq hk (by omega)
        omega))] at hb
      omega
  refine ⟨?_, key⟩
  by_cases hN : N = 0
  · subst hN
    refine cy_none _ _ (fun m _ hm => f (fun hp => ?_))
    obtain ⟨q, hq, -⟩ := h3 m (by omega) hp
    omega
  · have hk : N - 1 < N := by omega
    have hm := (h2 (N - 1) hk).1
    have ha := cy_app p (e (N - 1)) (M - e (N - 1)) 0
    rw [show e (N - 1) + (M - e (N - 1)) = M by omega, Nat.zero_add, key (N - 1) hk] at ha
    have hb := cy_app p 1 (M - e (N - 1) - 1) (e (N - 1))
    rw [show 1 + (M - e (N - 1) - 1) = M - e (N - 1) by omega, cy_one (h2 (N - 1) hk).2, cy_none (M - e (N - 1) - 1) (e (N - 1) + 1) (fun m a1 a2 => f (fun hp => by
      obtain ⟨q, hq, eq⟩ := h3 m (by omega) hp
      have c1 := mono (N - 1) q hk hq (by omega)
      omega))] at hb
    omega
theorem elS_at {iv : Nat → Int32} {t : Nat} (ht : ¬ iv t = 0) : ∀ k m l, m ≤ t → t < m + k → cy (fun m => decide (¬ iv m = 0)) (t - m) m = l → elS iv k m l = t
  | 0, m, l, h1, h2, _ => by omega
  | k + 1, m, l, h1, h2, h3 => by
      by_cases e : m = t
      · subst e
        rw [Nat.sub_self] at h3
        exact elS_h ht (show l = 0 from h3.symm)
      · rw [show t - m = (t - (m + 1)) + 1 by omega] at h3
        have h3 : (if decide (¬ iv m = 0) = true then 1 else 0) + cy (fun m => decide (¬ iv m = 0)) (t - (m + 1)) (m + 1) = l := h3
        by_cases c : iv m = 0
        · rw [elS_n c]
          rw [if_neg (by simpa using c), Nat.zero_add] at h3
          exact elS_at ht k (m + 1) l (by omega) (by omega) h3
        · rw [if_pos (by simpa using c)] at h3
          rw [elS_s c (by omega)]
          exact elS_at ht k (m + 1) (l - 1) (by omega) (by omega) (by omega)
theorem leF_at {n P t : Nat} {iv : Nat → Int32} : ∀ j k be, t ≤ be → (∀ q, k ≤ q → q < k + j → ¬ iv q = 0 → t ≤ nu n (tm n (pe n q) P)) → (t = be ∨ ∃ q, k ≤ q ∧ q < k + j ∧ ¬ iv q = 0 ∧ nu n (tm n (pe n q) P) = t) → leF n iv P j k be = t
  | 0, k, be, _, _, h => by
      rcases h with h | ⟨q, h1, h2, -⟩
      · exact h.symm
      · omega
  | j + 1, k, be, h1, h2, h3 => by
      have h2' : ∀ q, k + 1 ≤ q → q < k + 1 + j → ¬ iv q = 0 → t ≤ nu n (tm n (pe n q) P) := fun q a b c => h2 q (by omega) (by omega) c
      have h3' : ∀ be', (k ≤ k → ¬ iv k = 0 → nu n (tm n (pe n k) P) = t → t = be') → (t = be → t = be') → (t = be' ∨ ∃ q, k + 1 ≤ q ∧ q < k + 1 + j ∧ ¬ iv q = 0 ∧ nu n (tm n (pe n q) P) = t) := fun be' a b => by
        rcases h3 with h | ⟨q, c1, c2, c3, c4⟩
        · exact Or.inl (b h)
        · by_cases e : q = k
          · subst e; exact Or.inl (a (Nat.le_refl _) c3 c4)
          · exact Or.inr ⟨q, by omega, by omega, c3, c4⟩
      by_cases c : iv k = 0
      · rw [leF_n c]
        exact leF_at j (k + 1) be h1 h2' (h3' be (fun _ q _ => absurd c q) id)
      · have hk := h2 k (Nat.le_refl _) (by omega) c
        by_cases d : nu n (tm n (pe n k) P) < be
        · rw [leF_y c d]
          exact leF_at j (k + 1) _ hk h2' (h3' _ (fun _ _ e => e.symm) (fun e => by omega))
        · rw [leF_m c d]
          exact leF_at j (k + 1) be h1 h2' (h3' be (fun _ _ e => by omega) id)
theorem fiI_FX (P : Nat) : ∀ j i b, fiI P j i b = true ↔ b = true ∧ ∀ q, i ≤ q → q < i + j → im P q = q
  | 0, i, b => ⟨fun h => ⟨h, fun q h1 h2 => by omega⟩, fun h => h.1⟩
  | j + 1, i, b => by
      by_cases c : im P i = i
      · rw [fiI_t c, fiI_FX P j (i + 1) b]
        refine ⟨fun h => ⟨h.1, fun q h1 h2 => ?_⟩, fun h => ⟨h.1, fun q h1 h2 => h.2 q (by omega) (by omega)⟩⟩
        by_cases e : q = i
        · rw [e]; exact c
        · exact h.2 q (by omega) (by omega)
      · rw [fiI_f c, fiI_FX P j (i + 1) false]
        exact ⟨fun h => absurd h.1 (by decide), fun h => absurd (h.2 i (Nat.le_refl _) (by omega)) c⟩
theorem fiF_cy (n : Nat) (iv : Nat → Int32) (X : Nat) : ∀ j k c, fiF n iv X j k c = c + cy (fun k => decide (¬ iv k = 0) && fiI (pe n k) X 0 true) j k
  | 0, _, _ => rfl
  | j + 1, k, c => by
      by_cases q : iv k = 0
      · rw [fiF_n q, fiF_cy n iv X j (k + 1) c]
        show _ = c + ((if (decide (¬ iv k = 0) && fiI (pe n k) X 0 true) = true then 1 else 0) + _)
        rw [if_neg (by simp [q])]
        omega
      · cases d : fiI (pe n k) X 0 true with
        | true =>
          rw [fiF_y q d, fiF_cy n iv X j (k + 1) (c + 1)]
          show _ = c + ((if (decide (¬ iv k = 0) && fiI (pe n k) X 0 true) = true then 1 else 0) + _)
          rw [if_pos (by simp [q, d])]
          omega
        | false =>
          rw [fiF_m q d, fiF_cy n iv X j (k + 1) c]
          show _ = c + ((if (decide (¬ iv k = 0) && fiI (pe n k) X 0 true) = true then 1 else 0) + _)
          rw [if_neg (by simp [d])]
          omega
theorem rs_drop {n : Nat} {f : Nat → Int32} : ∀ d c a P, c + d = a → a ≤ n → FX a P → rsF f n (n - c) c P = rsF f n (n - a) a P
  | 0, c, a, P, hc, _, _ => by rw [show c = a by omega]
  | d + 1, c, a, P, hc, ha, hF => by
      rw [show n - c = (n - (c + 1)) + 1 by omega, rsF_eq (hF c (by omega))]
      exact rs_drop d (c + 1) a P (by omega) ha hF
section TIE
variable {n ct : Nat} {f gn iv : Nat → Int32}
theorem FP_nz (hF : FP n ct gn iv) {m : Nat} (hm : m < 5040) : ¬ iv m = 0 ↔ m < fac n ∧ inG n ct (gC gn) (pe n m) := by
  rw [← hF.2 m hm]
  rcases hF.1 m hm with e | e <;> simp [e]
theorem FP_nu (h1 : 1 ≤ n) (h7 : n ≤ 7) (hF : FP n ct gn iv) {P : Nat} (hP : PM n P) : ¬ iv (nu n P) = 0 ↔ inG n ct (gC gn) P := by
  have hl := nu_lt h1 h7 hP
  have := fac_le h7
  rw [FP_nz hF (by omega), pe_nu h1 h7 hP]
  exact ⟨fun q => q.2, fun q => ⟨hl, q⟩⟩
/-- the part that leaves the points below lv alone, counted -/
theorem tie_lv (h1 : 1 ≤ n) (h7 : n ≤ 7) (hg : ∀ j, j < ct → PM n (gC gn j)) (hV : VC n f (inG n ct (gC gn))) (hF : FP n ct gn iv) {lv : Nat} (hl : lv ≤ n) :
    cy (fun k => decide (¬ iv k = 0) && fiI (pe n k) lv 0 true) (fac n) 0 = fx f n lv ∧ ∀ k, k < fx f n lv → cy (fun k => decide (¬ iv k = 0) && fiI (pe n k) lv 0 true) (nu n (icF f n (n - lv) lv (idn n) k)) 0 = k := by
  have hG := GG_inG h7 hg
  have hfl := fac_le h7
  obtain ⟨A, B, C⟩ := ic_all h7 hV.1 (n - lv) lv (by omega) (idn n) (PM_id h7)
  have mem : ∀ k, k < fx f n lv → MM n f lv (icF f n (n - lv) lv (idn n) k) := fun k hk => by
    obtain ⟨X, hX, e⟩ := A k hk
    rw [e, tm_id h7 hX.1]
    exact hX
  have up : ∀ X, MM n f lv X → inG n ct (gC gn) X := fun X hX => (VC_MM h7 hG hV).mp (MM_le h7 hV.1 lv 0 (by omega) (by rw [Nat.zero_add]; exact hX))
  refine enum_cy (fun a b hab hb => (nu_lx h1 h7 (mem a (by omega)).1 (mem b hb).1).mpr (B a b hab hb)) (fun k hk => ?_) (fun m hm hp => ?_)
  · have hM := mem k hk
    refine ⟨nu_lt h1 h7 hM.1, ?_⟩
    rw [Bool.and_eq_true, pe_nu h1 h7 hM.1]
    exact ⟨decide_eq_true ((FP_nu h1 h7 hF hM.1).mpr (up _ hM)), (fiI_FX _ lv 0 true).mpr ⟨rfl, fun q _ h2 => hM.2.1 q (by omega)⟩⟩
  · rw [Bool.and_eq_true] at hp
    have hz := (FP_nz hF (show m < 5040 by omega)).mp (of_decide_eq_true hp.1)
    have hPM := pe_PM h1 h7 hm
    have hfx : FX lv (pe n m) := fun q hq => ((fiI_FX _ lv 0 true).mp hp.2).2 q (Nat.zero_le _) (by omega)
    have h0 := (VC_MM h7 hG hV).mpr hz.2
    have hM : MM n f lv (pe n m) := ⟨hPM, hfx, by rw [← rs_drop lv 0 lv _ (by omega) hl hfx]; exact h0.2.2⟩
    obtain ⟨c1, c2⟩ := C _ hM
    rw [tm_id h7 hPM] at c1 c2
    exact ⟨_, c1, by rw [c2, nu_pe h1 h7 hm]⟩
theorem fi0 (iv : Nat → Int32) : (fun k => decide (¬ iv k = 0) && fiI (pe n k) 0 0 true) = (fun k => decide (¬ iv k = 0)) := by
  funext k
  show (decide (¬ iv k = 0) && true) = _
  rw [Bool.and_true]
theorem tie_order (h1 : 1 ≤ n) (h7 : n ≤ 7) (hg : ∀ j, j < ct → PM n (gC gn j)) (hV : VC n f (inG n ct (gC gn))) (hF : FP n ct gn iv) : bl iv (fac n) = fx f n 0 := by
  have := (tie_lv h1 h7 hg hV hF (Nat.zero_le n)).1
  rw [fi0] at this
  rw [bl_cy]
  exact this
theorem tie_fixing (h1 : 1 ≤ n) (h7 : n ≤ 7) (hg : ∀ j, j < ct → PM n (gC gn j)) (hV : VC n f (inG n ct (gC gn))) (hF : FP n ct gn iv) {X : Nat} (hX : X ≤ n) : fiF n iv X (fac n) 0 0 = fx f n X := by
  rw [fiF_cy, Nat.zero_add]
  exact (tie_lv h1 h7 hg hV hF hX).1
theorem tie_contains (h1 : 1 ≤ n) (h7 : n ≤ 7) (hg : ∀ j, j < ct → PM n (gC gn j)) (hV : VC n f (inG n ct (gC gn))) (hF : FP n ct gn iv) {P : Nat} (hP : PM n P) : b01 (decide (rs f n P = idn n)) = iv (nu n P) := by
  have hG := GG_inG h7 hg
  have hl := nu_lt h1 h7 hP
  have hfl := fac_le h7
  by_cases c : rs f n P = idn n
  · rw [decide_eq_true c]
    have := (FP_nu h1 h7 hF hP).mpr ((VC_iff h7 hG hV hP).mp c)
    rcases hF.1 (nu n P) (by omega) with e | e
    · exact absurd e this
    · rw [e]; rfl
  · rw [decide_eq_false c]
    have : iv (nu n P) = 0 := Classical.byContradiction (fun q => c ((VC_iff h7 hG hV hP).mpr ((FP_nu h1 h7 hF hP).mp q)))
    rw [this]; rfl
theorem tie_element (h1 : 1 ≤ n) (h7 : n ≤ 7) (hg : ∀ j, j < ct → PM n (gC gn j)) (hV : VC n f (inG n ct (gC gn))) (hF : FP n ct gn iv) {k : Nat} (hk : k < fx f n 0) : pe n (elS iv 5040 0 k) = ic f n (idn n) k := by
  have hG := GG_inG h7 hg
  have hfl := fac_le h7
  obtain ⟨A, -, -⟩ := ic_all h7 hV.1 n 0 (by omega) (idn n) (PM_id h7)
  obtain ⟨X, hX, e⟩ := A k hk
  rw [tm_id h7 hX.1] at e
  have hPM : PM n (ic f n (idn n) k) := by rw [show ic f n (idn n) k = X from e]; exact hX.1
  have hin : inG n ct (gC gn) (ic f n (idn n) k) := by rw [show ic f n (idn n) k = X from e]; exact (VC_MM h7 hG hV).mp hX
  have hl := nu_lt h1 h7 hPM
  have hc := (tie_lv h1 h7 hg hV hF (Nat.zero_le n)).2 k hk
  rw [fi0] at hc
  rw [elS_at (t := nu n (ic f n (idn n) k)) ((FP_nu h1 h7 hF hPM).mpr hin) 5040 0 k (Nat.zero_le _) (by omega) hc, pe_nu h1 h7 hPM]
theorem tie_rank (h1 : 1 ≤ n) (h7 : n ≤ 7) (hg : ∀ j, j < ct → PM n (gC gn j)) (hV : VC n f (inG n ct (gC gn))) (hF : FP n ct gn iv) {P : Nat} (hP : inG n ct (gC gn) P) : bl iv (nu n P) = eb f n (idn n) P := by
  have hG := GG_inG h7 hg
  obtain ⟨-, -, C⟩ := ic_all h7 hV.1 n 0 (by omega) (idn n) (PM_id h7)
  have hM := (VC_MM h7 hG hV).mpr hP
  obtain ⟨c1, c2⟩ := C P hM
  rw [tm_id h7 hM.1] at c1 c2
  have hc := (tie_lv h1 h7 hg hV hF (Nat.zero_le n)).2 _ c1
  rw [fi0] at hc
  have hc : cy (fun k => decide (¬ iv k = 0)) (nu n (icF f n n 0 (idn n) (ebF f n P n 0 0 (idn n)))) 0 = ebF f n P n 0 0 (idn n) := hc
  rw [c2] at hc
  rw [bl_cy]
  exact hc
theorem tie_least (h1 : 1 ≤ n) (h7 : n ≤ 7) (hg : ∀ j, j < ct → PM n (gC gn j)) (hV : VC n f (inG n ct (gC gn))) (hF : FP n ct gn iv) {P : Nat} (hP : PM n P) : pe n (leF n iv P (fac n) 0 5040) = ic f n P 0 := by
  have hG := GG_inG h7 hg
  have hfl := fac_le h7
  obtain ⟨A, B, C⟩ := ic_all h7 hV.1 n 0 (by omega) P hP
  have hpos : 0 < fx f n 0 := by
    have := (C (idn n) (MM_id h7 (Nat.zero_le n))).1
    omega
  obtain ⟨X, hX, e⟩ := A 0 hpos
  have e : ic f n P 0 = tm n X P := e
  have hPM : PM n (ic f n P 0) := by rw [e]; exact PM_tm hX.1 hP
  have hl := nu_lt h1 h7 hPM
  have hXG := (VC_MM h7 hG hV).mp hX
  have hXl := nu_lt h1 h7 hX.1
  rw [leF_at (t := nu n (ic f n P 0)) (fac n) 0 5040 (by omega) (fun q _ hq hz => ?_) (Or.inr ⟨nu n X, Nat.zero_le _, by omega, (FP_nu h1 h7 hF hX.1).mpr hXG, by rw [pe_nu h1 h7 hX.1, e]⟩), pe_nu h1 h7 hPM]
  have hqG := ((FP_nz hF (show q < 5040 by omega)).mp hz).2
  obtain ⟨c1, c2⟩ := C _ ((VC_MM h7 hG hV).mpr hqG)
  have hqP := PM_tm (inG_PM h7 hg hqG) hP
  rw [← c2] at hqP ⊢
  by_cases c : ebF f n (tm n (pe n q) P) n 0 0 P = 0
  · rw [c]; exact Nat.le_refl _
  · exact Nat.le_of_lt ((nu_lx h1 h7 hPM hqP).mpr (B 0 _ (by omega) c1))
/-- an empty table is the group of the identity -/
theorem VC_begin (h7 : n ≤ 7) (hf : ∀ j, j < 56 → f j = bgR n j) (g : Nat → Nat) : VC n f (inG n 0 g) := by
  have hid := idn_lt h7
  have hd : ∀ lv, lv < n → f (lv * 8 + lv) = nI (idn n) := fun lv hl => by rw [hf _ (by omega), bgR, if_pos (by omega)]
  have hno : ∀ lv x, lv < n → x < 8 → x ≠ lv → f (lv * 8 + x) = -1 := fun lv x hl hx hne => by rw [hf _ (by omega), bgR, if_neg (by omega)]
  refine ⟨⟨fun lv hl => ⟨by unfold EN; rw [hd lv hl]; exact nb_m1 (by omega), by unfold en; rw [hd lv hl, tn_nI (by omega)]⟩, fun lv x hl hx hE => ?_⟩, fun P hP => ?_⟩
  · by_cases c : x = lv
    · subst c
      have e : en f x x = idn n := by unfold en; rw [hd x hl, tn_nI (by omega)]
      rw [e]
      exact ⟨hl, PM_id h7, FX_id h7 (by omega), by rw [idn_im h7, if_pos hl], inG_id⟩
    · exact absurd (hno lv x hl hx c) hE
  · obtain ⟨w, hw, rfl⟩ := hP
    cases w with
    | nil => exact rs_id h7 n 0 (by omega)
    | cons j w => exact absurd (hw j List.mem_cons_self) (Nat.not_lt_zero _)
end TIE
