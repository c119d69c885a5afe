/-! ===== tables of entries, and what is left of a permutation when they are taken off ===== -/
def GG (n : Nat) (G : Nat → Prop) : Prop := G (idn n) ∧ (∀ P, G P → PM n P) ∧ (∀ P Q, G P → G Q → G (tm n P Q)) ∧ ∀ P, G P → G (bk n P)
theorem GG_inG {n ct : Nat} {g : Nat → Nat} (hn : n ≤ 7) (hg : ∀ j, j < ct → PM n (g j)) : GG n (inG n ct g) :=
  ⟨inG_id, fun _ h => inG_PM hn hg h, fun _ _ h1 h2 => inG_mul hn hg h1 h2, fun _ h => inG_bk hn hg h⟩
def FX (lv P : Nat) : Prop := ∀ j, j < lv → im P j = j
theorem FX_0 (P : Nat) : FX 0 P := fun _ h => absurd h (Nat.not_lt_zero _)
theorem FX_tm {n lv P Q : Nat} (hl : lv ≤ n) (h1 : FX lv P) (h2 : FX lv Q) : FX lv (tm n P Q) := fun j hj => by
  rw [tm_im, if_pos (by omega), h1 j hj, h2 j hj]
theorem FX_bk {n lv P : Nat} (hn : n ≤ 7) (hl : lv ≤ n) (hP : PM n P) (h : FX lv P) : FX lv (bk n P) := fun j hj => by
  have := bk_im hn hP (show j < n by omega)
  rw [h j hj] at this
  exact this
theorem FX_id {n lv : Nat} (hn : n ≤ 7) (hl : lv ≤ n) : FX lv (idn n) := fun j hj => by rw [idn_im hn, if_pos (by omega)]
theorem FX_n {n P : Nat} (hn : n ≤ 7) (hP : PM n P) (h : FX n P) : P = idn n := PM_ext hP (PM_id hn) (fun i hi => by rw [h i hi, idn_im hn, if_pos hi])
theorem FX_s {lv P : Nat} (h : FX lv P) (e : im P lv = lv) : FX (lv + 1) P := fun j hj => by
  by_cases c : j = lv
  · rw [c]; exact e
  · exact h j (by omega)
theorem FX_up {lv P : Nat} (h : FX (lv + 1) P) : FX lv P := fun j hj => h j (by omega)
theorem FX_le {a b P : Nat} (hab : a ≤ b) (h : FX b P) : FX a P := fun j hj => h j (by omega)
theorem FX_ge {n lv P : Nat} (hP : PM n P) (h : FX lv P) (hl : lv < n) : lv ≤ im P lv := by
  rcases Nat.lt_or_ge (im P lv) lv with c | c
  · have e := h _ c
    have := PM_inj hP (hP.2.1 lv hl) hl e
    omega
  · exact c
def EN (f : Nat → Int32) (lv x : Nat) : Prop := ¬ f (lv * 8 + x) = -1
def en (f : Nat → Int32) (lv x : Nat) : Nat := tn (f (lv * 8 + x))
def CW (n : Nat) (f : Nat → Int32) (G : Nat → Prop) : Prop :=
  (∀ lv, lv < n → EN f lv lv ∧ en f lv lv = idn n) ∧
  ∀ lv x, lv < n → x < 8 → EN f lv x → x < n ∧ PM n (en f lv x) ∧ FX lv (en f lv x) ∧ im (en f lv x) lv = x ∧ G (en f lv x)
theorem CW_mono {n : Nat} {f : Nat → Int32} {G G' : Nat → Prop} (h : CW n f G) (hG : ∀ P, G P → G' P) : CW n f G' :=
  ⟨h.1, fun lv x h1 h2 h3 => ⟨(h.2 lv x h1 h2 h3).1, (h.2 lv x h1 h2 h3).2.1, (h.2 lv x h1 h2 h3).2.2.1, (h.2 lv x h1 h2 h3).2.2.2.1, hG _ (h.2 lv x h1 h2 h3).2.2.2.2⟩⟩
def exT2 (n : Nat) (f f' : Nat → Int32) : Prop := ∀ lv x, lv < n → x < 8 → EN f lv x → f' (lv * 8 + x) = f (lv * 8 + x)
section SFT
variable {n : Nat} {f f' : Nat → Int32} {G : Nat → Prop}
theorem st_FX {lv r u : Nat} (hn : n ≤ 7) (hl : lv < n) (hr : PM n r) (hu : PM n u) (h1 : FX lv r) (h2 : FX lv u) (e : im u lv = im r lv) : FX (lv + 1) (tm n r (bk n u)) := by
  refine FX_s (FX_tm (by omega) h1 (FX_bk hn (by omega) hu h2)) ?_
  rw [tm_im, if_pos hl, ← e, bk_im hn hu hl]
theorem rs_facts (hn : n ≤ 7) (hG : GG n G) (hC : CW n f G) : ∀ k lv r, lv + k = n → PM n r → FX lv r → PM n (rsF f n k lv r) ∧ (G r ↔ G (rsF f n k lv r)) ∧ (rsF f n k lv r = idn n ∨ ∃ v, lv ≤ v ∧ v < n ∧ FX v (rsF f n k lv r) ∧ im (rsF f n k lv r) v ≠ v ∧ f (v * 8 + im (rsF f n k lv r) v) = -1)
  | 0, lv, r, hk, hr, hf => by
      have e : lv = n := by omega
      subst e
      exact ⟨hr, Iff.rfl, Or.inl (FX_n hn hr hf)⟩
  | k + 1, lv, r, hk, hr, hf => by
      by_cases c : im r lv = lv
      · rw [rsF_eq c]
        obtain ⟨h1, h2, h3⟩ := rs_facts hn hG hC k (lv + 1) r (by omega) hr (FX_s hf c)
        exact ⟨h1, h2, h3.imp id (fun ⟨v, a1, a2⟩ => ⟨v, by omega, a2⟩)⟩
      · by_cases d : f (lv * 8 + im r lv) = -1
        · rw [rsF_no c d]
          exact ⟨hr, Iff.rfl, Or.inr ⟨lv, Nat.le_refl _, by omega, hf, c, d⟩⟩
        · rw [rsF_go c d]
          obtain ⟨-, u1, u2, u3, u4⟩ := hC.2 lv (im r lv) (by omega) (im_lt _ _) d
          have hPM := PM_tm hr (PM_bk hn u1)
          obtain ⟨h1, h2, h3⟩ := rs_facts hn hG hC k (lv + 1) (tm n r (bk n (en f lv (im r lv)))) (by omega) hPM (st_FX hn (by omega) hr u1 hf u2 u3)
          refine ⟨h1, Iff.trans ⟨fun q => hG.2.2.1 _ _ q (hG.2.2.2 _ u4), fun q => ?_⟩ h2, h3.imp id (fun ⟨v, a1, a2⟩ => ⟨v, by omega, a2⟩)⟩
          have := hG.2.2.1 _ _ q u4
          rw [tm_bk_eq hn hr u1] at this
          exact this
theorem rs_id (hn : n ≤ 7) : ∀ k lv, lv + k = n → rsF f n k lv (idn n) = idn n
  | 0, _, _ => rfl
  | k + 1, lv, hk => by
      rw [rsF_eq (by rw [idn_im hn, if_pos (by omega)])]
      exact rs_id hn k (lv + 1) (by omega)
theorem rs_mono (hn : n ≤ 7) (hx : exT2 n f f') : ∀ k lv r, lv + k = n → rsF f n k lv r = idn n → rsF f' n k lv r = idn n
  | 0, _, _, _, h => h
  | k + 1, lv, r, hk, h => by
      by_cases c : im r lv = lv
      · rw [rsF_eq c] at h ⊢
        exact rs_mono hn hx k (lv + 1) r (by omega) h
      · by_cases d : f (lv * 8 + im r lv) = -1
        · rw [rsF_no c d] at h
          rw [h, idn_im hn, if_pos (by omega)] at c
          exact absurd rfl c
        · have e := hx lv (im r lv) (by omega) (im_lt _ _) d
          rw [rsF_go c d] at h
          rw [rsF_go c (by rw [e]; exact d), e]
          exact rs_mono hn hx k (lv + 1) _ (by omega) h
/-- when what is left is entered, nothing is left -/
theorem rs_enter (hn : n ≤ 7) (hC : CW n f G) {s v : Nat} (hv : v < n) (hs : PM n s) (hsf : FX v s) (hsv : im s v ≠ v) (hfv : f (v * 8 + im s v) = -1) (hf' : f' = upd f (v * 8 + im s v) (nI s)) : ∀ k lv r, lv + k = n → PM n r → FX lv r → rsF f n k lv r = s → rsF f' n k lv r = idn n
  | 0, lv, r, hk, hr, hf, e => by
      have e2 : lv = n := by omega
      subst e2
      exact FX_n hn hr hf
  | k + 1, lv, r, hk, hr, hf, e => by
      by_cases c : im r lv = lv
      · rw [rsF_eq c] at e ⊢
        exact rs_enter hn hC hv hs hsf hsv hfv hf' k (lv + 1) r (by omega) hr (FX_s hf c) e
      · by_cases d : f (lv * 8 + im r lv) = -1
        · rw [rsF_no c d] at e
          have ev : v = lv := by
            rcases Nat.lt_trichotomy v lv with q | q | q
            · exact absurd (e ▸ hf v q) hsv
            · exact q
            · exact absurd (e ▸ hsf lv q) c
          have hval : f' (lv * 8 + im r lv) = nI r := by rw [hf', ev, ← e]; exact pk_us
          have hlt := PM_lt hn hr
          rw [rsF_go c (by rw [hval]; exact nb_m1 (by omega)), hval, tn_nI (by omega), tm_bk hn hr]
          exact rs_id hn k (lv + 1) (by omega)
        · obtain ⟨-, u1, u2, u3, -⟩ := hC.2 lv (im r lv) (by omega) (im_lt _ _) d
          have hne : lv * 8 + im r lv ≠ v * 8 + im s v := fun q => d (by rw [q]; exact hfv)
          have hval : f' (lv * 8 + im r lv) = f (lv * 8 + im r lv) := by rw [hf']; exact pk_un hne
          rw [rsF_go c d] at e
          rw [rsF_go c (by rw [hval]; exact d), hval]
          exact rs_enter hn hC hv hs hsf hsv hfv hf' k (lv + 1) _ (by omega) (PM_tm hr (PM_bk hn u1)) (st_FX hn (by omega) hr u1 hf u2 u3) e
theorem enL_id (hn : n ≤ 7) : ∀ k lv u, lv + k = n → enL (idn n) k lv u = u
  | 0, _, _, _ => rfl
  | k + 1, lv, u, hk => by
      show (if im (idn n) lv = lv then enL (idn n) k (lv + 1) u else _) = u
      rw [if_pos (by rw [idn_im hn, if_pos (by omega)])]
      exact enL_id hn k (lv + 1) u (by omega)
theorem enL_at {s v : Nat} (hsf : FX v s) (hsv : im s v ≠ v) : ∀ k lv u, lv ≤ v → v < lv + k → enL s k lv u = ntS (v * 8 + im s v) (upd u.1 (v * 8 + im s v) (nI s), u.2.1, u.2.2)
  | 0, _, _, h1, h2 => by omega
  | k + 1, lv, u, h1, h2 => by
      show (if im s lv = lv then enL s k (lv + 1) u else ntS (lv * 8 + im s lv) (upd u.1 (lv * 8 + im s lv) (nI s), u.2.1, u.2.2)) = _
      by_cases c : lv = v
      · subst c
        rw [if_neg hsv]
      · rw [if_pos (hsf lv (by omega))]
        exact enL_at hsf hsv k (lv + 1) u (by omega) (by omega)
/-! ===== when products of entries leave nothing, the products of the levels are a group ===== -/
/-- the permutations that the entries of the levels from lv on make -/
def MM (n : Nat) (f : Nat → Int32) (lv P : Nat) : Prop := PM n P ∧ FX lv P ∧ rsF f n (n - lv) lv P = idn n
theorem MM_id (hn : n ≤ 7) {lv : Nat} (hl : lv ≤ n) : MM n f lv (idn n) := ⟨PM_id hn, FX_id hn hl, rs_id hn _ _ (by omega)⟩
/-- taken apart: one of the next level, then an entry -/
theorem MM_split (hn : n ≤ 7) (hC : CW n f G) {lv P : Nat} (hl : lv < n) (h : MM n f lv P) : ∃ X, MM n f (lv + 1) X ∧ EN f lv (im P lv) ∧ P = tm n X (en f lv (im P lv)) := by
  obtain ⟨h1, h2, h3⟩ := h
  rw [show n - lv = (n - (lv + 1)) + 1 by omega] at h3
  by_cases c : im P lv = lv
  · rw [rsF_eq c] at h3
    refine ⟨P, ⟨h1, FX_s h2 c, h3⟩, by rw [c]; exact (hC.1 lv hl).1, by rw [c, (hC.1 lv hl).2, tm_id hn h1]⟩
  · by_cases d : f (lv * 8 + im P lv) = -1
    · rw [rsF_no c d] at h3
      rw [h3, idn_im hn, if_pos hl] at c
      exact absurd rfl c
    · obtain ⟨-, u1, u2, u3, -⟩ := hC.2 lv (im P lv) hl (im_lt _ _) d
      rw [rsF_go c d] at h3
      exact ⟨tm n P (bk n (en f lv (im P lv))), ⟨PM_tm h1 (PM_bk hn u1), st_FX hn hl h1 u1 h2 u2 u3, h3⟩, d, (tm_bk_eq hn h1 u1).symm⟩
theorem MM_cons (hn : n ≤ 7) (hC : CW n f G) {lv X x : Nat} (hl : lv < n) (hX : MM n f (lv + 1) X) (hx : x < 8) (hE : EN f lv x) : MM n f lv (tm n X (en f lv x)) := by
  obtain ⟨-, u1, u2, u3, -⟩ := hC.2 lv x hl hx hE
  have e : im (tm n X (en f lv x)) lv = x := by rw [tm_im, if_pos hl, hX.2.1 lv (by omega), u3]
  refine ⟨PM_tm hX.1 u1, FX_tm (by omega) (FX_up hX.2.1) u2, ?_⟩
  rw [show n - lv = (n - (lv + 1)) + 1 by omega]
  by_cases c : x = lv
  · subst c
    rw [rsF_eq e, (hC.1 x hl).2, tm_id hn hX.1]
    exact hX.2.2
  · rw [rsF_go (by rw [e]; exact c) (by rw [e]; exact hE), e]
    show rsF f n (n - (lv + 1)) (lv + 1) (tm n (tm n X (en f lv x)) (bk n (en f lv x))) = _
    rw [tm_assoc hX.1 u1 (PM_bk hn u1), tm_bk hn u1, tm_id hn hX.1]
    exact hX.2.2
/-- a higher level's is a lower level's too -/
theorem MM_down (hn : n ≤ 7) (hC : CW n f G) {lv X : Nat} (hl : lv < n) (hX : MM n f (lv + 1) X) : MM n f lv X := by
  have h := MM_cons hn hC hl hX (show lv < 8 by omega) (hC.1 lv hl).1
  rw [(hC.1 lv hl).2, tm_id hn hX.1] at h
  exact h
theorem MM_le (hn : n ≤ 7) (hC : CW n f G) {X : Nat} : ∀ d a, a + d ≤ n → MM n f (a + d) X → MM n f a X
  | 0, _, _, h => h
  | d + 1, a, hd, h => MM_le hn hC d a (by omega) (MM_down hn hC (by omega) h)
/-- entries make themselves -/
theorem MM_en (hn : n ≤ 7) (hC : CW n f G) {lv x : Nat} (hl : lv < n) (hx : x < 8) (hE : EN f lv x) : MM n f lv (en f lv x) := by
  have h := MM_cons hn hC hl (MM_id hn (f := f) (show lv + 1 ≤ n by omega)) hx hE
  rw [id_tm hn (hC.2 lv x hl hx hE).2.1] at h
  exact h
/-- all levels' products of two entries are made of entries -/
def CL (n : Nat) (f : Nat → Int32) : Prop := ∀ a x b y, a ≤ b → b < n → x < 8 → y < 8 → EN f a x → EN f b y → MM n f a (tm n (en f a x) (en f b y))
theorem MM_mul1 (hn : n ≤ 7) (hC : CW n f G) (hL : CL n f) : ∀ k lv, lv + k = n → ∀ P b y, MM n f lv P → lv ≤ b → b < n → y < 8 → EN f b y → MM n f lv (tm n P (en f b y))
  | 0, lv, hk, P, b, y, _, h1, h2, _, _ => by omega
  | k + 1, lv, hk, P, b, y, hP, h1, h2, hy, hE => by
      have ih := MM_mul1 hn hC hL k (lv + 1) (by omega)
      -- the next level's are closed under products
      have mul : ∀ d c, c + d = n → lv + 1 ≤ c → ∀ X Y, MM n f (lv + 1) X → MM n f c Y → MM n f (lv + 1) (tm n X Y) := by
        intro d
        induction d with
        | zero =>
          intro c hc _ X Y hX hY
          have e : c = n := by omega
          subst e
          rw [FX_n hn hY.1 hY.2.1, tm_id hn hX.1]
          exact hX
        | succ d ihd =>
          intro c hc hlc X Y hX hY
          obtain ⟨Z, hZ, hZE, hYe⟩ := MM_split hn hC (show c < n by omega) hY
          have hu := (hC.2 c (im Y c) (by omega) (im_lt _ _) hZE).2.1
          have h3 := ih _ c (im Y c) (ihd (c + 1) (by omega) (by omega) X Z hX hZ) hlc (by omega) (im_lt _ _) hZE
          rw [tm_assoc hX.1 hZ.1 hu, ← hYe] at h3
          exact h3
      obtain ⟨X, hX, hXE, hPe⟩ := MM_split hn hC (show lv < n by omega) hP
      have hu := (hC.2 lv (im P lv) (by omega) (im_lt _ _) hXE).2.1
      have ht := (hC.2 b y h2 hy hE).2.1
      have hut := hL lv (im P lv) b y h1 h2 (im_lt _ _) hy hXE hE
      obtain ⟨Y, hY, hYE, hYe⟩ := MM_split hn hC (show lv < n by omega) hut
      have hv := (hC.2 lv _ (by omega) (im_lt _ _) hYE).2.1
      have h4 := MM_cons hn hC (show lv < n by omega) (mul (n - (lv + 1)) (lv + 1) (by omega) (Nat.le_refl _) X Y hX hY) (im_lt _ _) hYE
      rw [tm_assoc hX.1 hY.1 hv, ← hYe, ← tm_assoc hX.1 hu ht, ← hPe] at h4
      exact h4
theorem MM_mul (hn : n ≤ 7) (hC : CW n f G) (hL : CL n f) {lv : Nat} : ∀ d c, c + d = n → lv ≤ c → ∀ X Y, MM n f lv X → MM n f c Y → MM n f lv (tm n X Y)
  | 0, c, hc, _, X, Y, hX, hY => by
      have e : c = n := by omega
      subst e
      rw [FX_n hn hY.1 hY.2.1, tm_id hn hX.1]
      exact hX
  | d + 1, c, hc, hlc, X, Y, hX, hY => by
      obtain ⟨Z, hZ, hZE, hYe⟩ := MM_split hn hC (show c < n by omega) hY
      have hu := (hC.2 c (im Y c) (by omega) (im_lt _ _) hZE).2.1
      have h3 := MM_mul1 hn hC hL (n - lv) lv (by omega) _ c (im Y c) (MM_mul hn hC hL d (c + 1) (by omega) (by omega) X Z hX hZ) hlc (by omega) (im_lt _ _) hZE
      rw [tm_assoc hX.1 hZ.1 hu, ← hYe] at h3
      exact h3
end SFT
/-- the table is the group's -/
def VC (n : Nat) (f : Nat → Int32) (G : Nat → Prop) : Prop := CW n f G ∧ ∀ P, G P → rs f n P = idn n
theorem VC_of {n ct : Nat} {f : Nat → Int32} {g : Nat → Nat} (hn : n ≤ 7) (hg : ∀ j, j < ct → PM n (g j)) (hC : CW n f (inG n ct g)) (hL : CL n f) (hs : ∀ j, j < ct → rs f n (g j) = idn n) : VC n f (inG n ct g) := by
  refine ⟨hC, fun P hP => ?_⟩
  have key : ∀ P, inG n ct g P → MM n f 0 P := fun P hP => inG_min (S := MM n f 0) (MM_id hn (Nat.zero_le _)) (fun P j h hj => MM_mul hn hC hL n 0 (by omega) (Nat.le_refl _) P (g j) h ⟨hg j hj, FX_0 _, hs j hj⟩) hP
  exact (key P hP).2.2
theorem VC_iff {n : Nat} {f : Nat → Int32} {G : Nat → Prop} (hn : n ≤ 7) (hG : GG n G) (h : VC n f G) {P : Nat} (hP : PM n P) : rs f n P = idn n ↔ G P := by
  refine ⟨fun q => ?_, h.2 P⟩
  have := (rs_facts hn hG h.1 n 0 P (by omega) hP (FX_0 _)).2.1
  rw [this, show rsF f n n 0 P = idn n from q]
  exact hG.1
theorem VC_MM {n : Nat} {f : Nat → Int32} {G : Nat → Prop} (hn : n ≤ 7) (hG : GG n G) (h : VC n f G) {P : Nat} : MM n f 0 P ↔ G P :=
  ⟨fun q => (VC_iff hn hG h q.1).mp q.2.2, fun q => ⟨hG.2.1 P q, FX_0 _, h.2 P q⟩⟩
