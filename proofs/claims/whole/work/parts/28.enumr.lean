/-! ===== counting ===== -/
def cy (p : Nat → Bool) : Nat → Nat → Nat
  | 0, _ => 0
  | k + 1, y => (if p y = true then 1 else 0) + cy p k (y + 1)
theorem cy_countP (p : Nat → Bool) : ∀ k y, cy p k y = (List.range' y k).countP p
  | 0, _ => rfl
  | k + 1, y => by
      rw [List.range'_succ, List.countP_cons, ← cy_countP p k (y + 1)]
      show (if p y = true then 1 else 0) + cy p k (y + 1) = _
      omega
theorem cy_app (p : Nat → Bool) : ∀ a b y, cy p (a + b) y = cy p a y + cy p b (y + a)
  | 0, b, y => by rw [Nat.zero_add]; show _ = 0 + cy p b (y + 0); rw [Nat.zero_add]; rfl
  | a + 1, b, y => by
      rw [show a + 1 + b = (a + b) + 1 by omega]
      show (if p y = true then 1 else 0) + cy p (a + b) (y + 1) = (if p y = true then 1 else 0) + cy p a (y + 1) + cy p b (y + (a + 1))
      rw [cy_app p a b (y + 1), show y + 1 + a = y + (a + 1) by omega]
      omega
theorem cy_congr {p q : Nat → Bool} : ∀ k y, (∀ j, y ≤ j → j < y + k → p j = q j) → cy p k y = cy q k y
  | 0, _, _ => rfl
  | k + 1, y, h => by
      show (if p y = true then 1 else 0) + cy p k (y + 1) = (if q y = true then 1 else 0) + cy q k (y + 1)
      rw [h y (by omega) (by omega), cy_congr k (y + 1) (fun j h1 h2 => h j (by omega) (by omega))]
theorem cy_none {p : Nat → Bool} : ∀ k y, (∀ j, y ≤ j → j < y + k → p j = false) → cy p k y = 0
  | 0, _, _ => rfl
  | k + 1, y, h => by
      show (if p y = true then 1 else 0) + cy p k (y + 1) = 0
      rw [h y (by omega) (by omega), cy_none k (y + 1) (fun j h1 h2 => h j (by omega) (by omega))]
      rfl
theorem cy_one {p : Nat → Bool} {y : Nat} (h : p y = true) : cy p 1 y = 1 := by
  show (if p y = true then 1 else 0) + 0 = 1
  rw [if_pos h]
/-- counted in another order -/
theorem cy_perm {n b : Nat} (hb : PM n b) (p : Nat → Bool) : cy (fun y => p (im b y)) n 0 = cy p n 0 := by
  rw [cy_countP, cy_countP, ← List.range_eq_range']
  have hp : ((List.range n).map (im b)).Perm (List.range n) := by
    refine (List.perm_ext_iff_of_nodup ?_ List.nodup_range).mpr (fun a => ?_)
    · refine List.pairwise_map.mpr (List.Pairwise.imp_of_mem ?_ List.pairwise_lt_range)
      intro x y hx hy hxy e
      have := PM_inj hb (List.mem_range.mp hx) (List.mem_range.mp hy) e
      omega
    · rw [List.mem_map, List.mem_range]
      constructor
      · rintro ⟨i, hi, rfl⟩; exact hb.2.1 i (List.mem_range.mp hi)
      · intro ha
        obtain ⟨j, hj, e⟩ := hb.2.2 a ha
        exact ⟨j, List.mem_range.mpr hj, e⟩
  rw [← hp.countP_eq p, List.countP_map]
  rfl
theorem cnF_cy (f : Nat → Int32) (lv : Nat) : ∀ k x a, cnF f lv k x a = a + cy (fun x => decide (¬ f (lv * 8 + x) = -1)) k x
  | 0, _, _ => rfl
  | k + 1, x, a => by
      by_cases c : f (lv * 8 + x) = -1
      · rw [cnF_n c, cnF_cy f lv k (x + 1) a]
        show _ = a + ((if decide (¬ f (lv * 8 + x) = -1) = true then 1 else 0) + _)
        rw [if_neg (by simpa using c)]
        omega
      · rw [cnF_y c, cnF_cy f lv k (x + 1) (a + 1)]
        show _ = a + ((if decide (¬ f (lv * 8 + x) = -1) = true then 1 else 0) + _)
        rw [if_pos (by simpa using c)]
        omega
theorem elF_cy (f : Nat → Int32) (lv fo lim : Nat) : ∀ k x a, elF f lv fo lim k x a = a + cy (fun x => decide (¬ f (lv * 8 + x) = -1) && decide (im fo x < lim)) k x
  | 0, _, _ => rfl
  | k + 1, x, a => by
      by_cases c : f (lv * 8 + x) = -1
      · rw [elF_n c, elF_cy f lv fo lim k (x + 1) a]
        show _ = a + ((if (decide (¬ f (lv * 8 + x) = -1) && decide (im fo x < lim)) = true then 1 else 0) + _)
        rw [if_neg (by simp [c])]
        omega
      · by_cases d : im fo x < lim
        · rw [elF_y c d, elF_cy f lv fo lim k (x + 1) (a + 1)]
          show _ = a + ((if (decide (¬ f (lv * 8 + x) = -1) && decide (im fo x < lim)) = true then 1 else 0) + _)
          rw [if_pos (by simp [c, d])]
          omega
        · rw [elF_m c d, elF_cy f lv fo lim k (x + 1) a]
          show _ = a + ((if (decide (¬ f (lv * 8 + x) = -1) && decide (im fo x < lim)) = true then 1 else 0) + _)
          rw [if_neg (by simp [d])]
          omega
theorem fxF_mul (f : Nat → Int32) (n : Nat) : ∀ k lv a, fxF f n k lv a = a * fxF f n k lv 1
  | 0, _, a => by show a = a * 1; omega
  | k + 1, lv, a => by
      show fxF f n k (lv + 1) (a * cnF f lv (n - lv) lv 0) = a * fxF f n k (lv + 1) (1 * cnF f lv (n - lv) lv 0)
      rw [fxF_mul f n k (lv + 1) (a * cnF f lv (n - lv) lv 0), fxF_mul f n k (lv + 1) (1 * cnF f lv (n - lv) lv 0), Nat.one_mul, Nat.mul_assoc]
theorem fx_step {f : Nat → Int32} {n lv : Nat} (h : lv < n) : fx f n lv = cnF f lv (n - lv) lv 0 * fx f n (lv + 1) := by
  unfold fx
  rw [show n - lv = (n - (lv + 1)) + 1 by omega]
  show fxF f n (n - (lv + 1)) (lv + 1) (1 * cnF f lv (n - lv) lv 0) = _
  rw [fxF_mul, Nat.one_mul, show n - (lv + 1) + 1 = n - lv by omega]
theorem fx_n (f : Nat → Int32) (n : Nat) : fx f n n = 1 := by unfold fx; rw [Nat.sub_self]; rfl
section ENR
variable {n : Nat} {f : Nat → Int32} {G : Nat → Prop}
def av (f : Nat → Int32) (lv b : Nat) : Nat → Bool := fun y => decide (¬ f (lv * 8 + im b y) = -1)
theorem cn_av (hn : n ≤ 7) (hC : CW n f G) {lv fo : Nat} (hl : lv < n) (hfo : PM n fo) : cnF f lv (n - lv) lv 0 = cy (av f lv (bk n fo)) n 0 := by
  have e : cy (av f lv (bk n fo)) n 0 = cy (fun x => decide (¬ f (lv * 8 + x) = -1)) n 0 := cy_perm (PM_bk hn hfo) (fun x => decide (¬ f (lv * 8 + x) = -1))
  rw [cnF_cy, e, Nat.zero_add]
  have h := cy_app (fun x => decide (¬ f (lv * 8 + x) = -1)) lv (n - lv) 0
  rw [show lv + (n - lv) = n by omega, Nat.zero_add] at h
  rw [h, cy_none lv 0 (fun j _ hj => ?_), Nat.zero_add]
  have : f (lv * 8 + j) = -1 := Classical.byContradiction (fun q => by
    obtain ⟨-, u1, u2, u3, -⟩ := hC.2 lv j hl (by omega) q
    have := FX_ge u1 u2 hl
    omega)
  simp [this]
theorem el_av (hn : n ≤ 7) (hC : CW n f G) {lv fo y : Nat} (hl : lv < n) (hfo : PM n fo) (hy : y ≤ n) : elF f lv fo y (n - lv) lv 0 = cy (av f lv (bk n fo)) y 0 := by
  have hbk := PM_bk hn hfo
  have e := cy_perm hbk (fun x => decide (¬ f (lv * 8 + x) = -1) && decide (im fo x < y))
  rw [elF_cy, Nat.zero_add]
  have h := cy_app (fun x => decide (¬ f (lv * 8 + x) = -1) && decide (im fo x < y)) lv (n - lv) 0
  rw [show lv + (n - lv) = n by omega, Nat.zero_add, cy_none lv 0 (fun j _ hj => by
    have : f (lv * 8 + j) = -1 := Classical.byContradiction (fun q => by
      obtain ⟨-, u1, u2, u3, -⟩ := hC.2 lv j hl (by omega) q
      have := FX_ge u1 u2 hl
      omega)
    simp [this]), Nat.zero_add] at h
  rw [← h, ← e]
  have h2 := cy_app (fun z => (decide (¬ f (lv * 8 + im (bk n fo) z) = -1) && decide (im fo (im (bk n fo) z) < y))) y (n - y) 0
  rw [show y + (n - y) = n by omega, Nat.zero_add] at h2
  rw [h2, cy_none (n - y) y (fun j h3 h4 => by
    rw [im_bk hn hfo (by omega)]
    simp [show ¬ j < y by omega]), Nat.add_zero]
  refine cy_congr y 0 (fun j _ hj => ?_)
  rw [im_bk hn hfo (by omega)]
  simp [av, show j < y by omega]
/-- the search along a level, by the digit -/
theorem icI_at {lv al fo ys r : Nat} {b : Nat} (hav : av f lv b ys = true) (hr : r < al) : ∀ k y, y ≤ ys → ys < y + k → icI f n lv al b k y fo (cy (av f lv b) (ys - y) y * al + r) = (tm n (en f lv (im b ys)) fo, r)
  | 0, y, h1, h2 => by omega
  | k + 1, y, h1, h2 => by
      by_cases e : y = ys
      · subst e
        rw [Nat.sub_self]
        show icI f n lv al b (k + 1) y fo (0 * al + r) = _
        rw [Nat.zero_mul, Nat.zero_add, icI_hit (of_decide_eq_true hav) hr]
        rfl
      · rw [show ys - y = (ys - (y + 1)) + 1 by omega]
        show icI f n lv al b (k + 1) y fo (((if av f lv b y = true then 1 else 0) + cy (av f lv b) (ys - (y + 1)) (y + 1)) * al + r) = _
        by_cases c : av f lv b y = true
        · have hge : al ≤ (1 + cy (av f lv b) (ys - (y + 1)) (y + 1)) * al := by rw [Nat.add_mul, Nat.one_mul]; omega
          rw [if_pos c, icI_sub (of_decide_eq_true c) (by omega), Nat.add_mul, Nat.one_mul, show al + cy (av f lv b) (ys - (y + 1)) (y + 1) * al + r - al = cy (av f lv b) (ys - (y + 1)) (y + 1) * al + r by omega]
          exact icI_at hav hr k (y + 1) (by omega) (by omega)
        · have c2 : f (lv * 8 + im b y) = -1 := Classical.byContradiction (fun q => c (decide_eq_true q))
          rw [if_neg c, icI_none c2, Nat.zero_add]
          exact icI_at hav hr k (y + 1) (by omega) (by omega)
theorem dig {p : Nat → Bool} {al : Nat} : ∀ k y be, be < cy p k y * al → ∃ ys r, y ≤ ys ∧ ys < y + k ∧ p ys = true ∧ r < al ∧ be = cy p (ys - y) y * al + r
  | 0, y, be, h => by
      have : be < 0 * al := h
      omega
  | k + 1, y, be, h => by
      have h : be < ((if p y = true then 1 else 0) + cy p k (y + 1)) * al := h
      by_cases c : p y = true
      · rw [if_pos c, Nat.add_mul, Nat.one_mul] at h
        by_cases d : be < al
        · exact ⟨y, be, by omega, by omega, c, d, by rw [Nat.sub_self]; show be = 0 * al + be; omega⟩
        · obtain ⟨ys, r, h1, h2, h3, h4, h5⟩ := dig (p := p) (al := al) k (y + 1) (be - al) (by omega)
          refine ⟨ys, r, by omega, by omega, h3, h4, ?_⟩
          rw [show ys - y = (ys - (y + 1)) + 1 by omega]
          show be = ((if p y = true then 1 else 0) + cy p (ys - (y + 1)) (y + 1)) * al + r
          rw [if_pos c, Nat.add_mul, Nat.one_mul]
          omega
      · rw [if_neg c, Nat.zero_add] at h
        obtain ⟨ys, r, h1, h2, h3, h4, h5⟩ := dig (p := p) (al := al) k (y + 1) be h
        refine ⟨ys, r, by omega, by omega, h3, h4, ?_⟩
        rw [show ys - y = (ys - (y + 1)) + 1 by omega]
        show be = ((if p y = true then 1 else 0) + cy p (ys - (y + 1)) (y + 1)) * al + r
        rw [if_neg c, Nat.zero_add]
        exact h5
theorem cy_lt {p : Nat → Bool} {a b : Nat} (hab : a < b) (h : p a = true) : cy p a 0 + 1 ≤ cy p b 0 := by
  have h1 := cy_app p a (b - a) 0
  rw [show a + (b - a) = b by omega, Nat.zero_add] at h1
  have h2 := cy_app p 1 (b - a - 1) a
  rw [show 1 + (b - a - 1) = b - a by omega, cy_one h] at h2
  omega
theorem ebF_add (P : Nat) : ∀ k lv be fo, ebF f n P k lv be fo = be + ebF f n P k lv 0 fo
  | 0, _, _, _ => rfl
  | k + 1, lv, be, fo => by
      show ebF f n P k (lv + 1) (be + elF f lv fo (im P lv) (n - lv) lv 0 * fx f n (lv + 1)) _ = be + ebF f n P k (lv + 1) (0 + elF f lv fo (im P lv) (n - lv) lv 0 * fx f n (lv + 1)) _
      rw [ebF_add P k (lv + 1) (be + elF f lv fo (im P lv) (n - lv) lv 0 * fx f n (lv + 1)), ebF_add P k (lv + 1) (0 + elF f lv fo (im P lv) (n - lv) lv 0 * fx f n (lv + 1))]
      omega
theorem im_cos {lv X fo j : Nat} (hl : lv ≤ n) (hX : FX lv X) (hj : j < lv) : im (tm n X fo) j = im fo j := by rw [tm_im, if_pos (by omega), hX j hj]
/-- ENUMERATION of a coset, level by level -/
theorem ic_all (hn : n ≤ 7) (hC : CW n f G) : ∀ k lv, lv + k = n → ∀ fo, PM n fo →
    (∀ be, be < fx f n lv → ∃ X, MM n f lv X ∧ icF f n k lv fo be = tm n X fo) ∧
    (∀ a b, a < b → b < fx f n lv → lx n (icF f n k lv fo a) (icF f n k lv fo b)) ∧
    ∀ X, MM n f lv X → ebF f n (tm n X fo) k lv 0 fo < fx f n lv ∧ icF f n k lv fo (ebF f n (tm n X fo) k lv 0 fo) = tm n X fo
  | 0, lv, hk, fo, hfo => by
      have e : lv = n := by omega
      subst e
      rw [fx_n]
      refine ⟨fun be _ => ⟨idn lv, MM_id hn (Nat.le_refl _), (id_tm hn hfo).symm⟩, fun a b h1 h2 => by omega, fun X hX => ?_⟩
      rw [FX_n hn hX.1 hX.2.1]
      exact ⟨Nat.lt_succ_self 0, (id_tm hn hfo).symm⟩
  | k + 1, lv, hk, fo, hfo => by
      have hl : lv < n := by omega
      have hbk := PM_bk hn hfo
      have hN : fx f n lv = cy (av f lv (bk n fo)) n 0 * fx f n (lv + 1) := by rw [fx_step hl, cn_av hn hC hl hfo]
      -- one digit
      have step : ∀ be, be < fx f n lv → ∃ y r, y < n ∧ av f lv (bk n fo) y = true ∧ r < fx f n (lv + 1) ∧ be = cy (av f lv (bk n fo)) y 0 * fx f n (lv + 1) + r ∧ icF f n (k + 1) lv fo be = icF f n k (lv + 1) (tm n (en f lv (im (bk n fo) y)) fo) r := by
        intro be hbe
        rw [hN] at hbe
        obtain ⟨y, r, -, h2, h3, h4, h5⟩ := dig n 0 be hbe
        have h5 : be = cy (av f lv (bk n fo)) y 0 * fx f n (lv + 1) + r := h5
        refine ⟨y, r, by omega, h3, h4, h5, icF_step ?_⟩
        rw [h5]
        exact icI_at h3 h4 n 0 (by omega) (by omega)
      have ent : ∀ y, y < n → av f lv (bk n fo) y = true → EN f lv (im (bk n fo) y) ∧ PM n (en f lv (im (bk n fo) y)) ∧ PM n (tm n (en f lv (im (bk n fo) y)) fo) ∧ FX lv (en f lv (im (bk n fo) y)) ∧ im (tm n (en f lv (im (bk n fo) y)) fo) lv = y := by
        intro y hy h
        have hE0 : ¬ f (lv * 8 + im (bk n fo) y) = -1 := of_decide_eq_true h
        have hE : EN f lv (im (bk n fo) y) := hE0
        obtain ⟨-, u1, u2, u3, -⟩ := hC.2 lv _ hl (im_lt _ _) hE
        exact ⟨hE, u1, PM_tm u1 hfo, u2, by rw [tm_im, if_pos hl, u3, im_bk hn hfo hy]⟩
      refine ⟨fun be hbe => ?_, fun a b hab hb => ?_, fun X hX => ?_⟩
      · obtain ⟨y, r, h1, h2, h3, -, h5⟩ := step be hbe
        obtain ⟨e1, e2, e3, -, -⟩ := ent y h1 h2
        obtain ⟨X, hX, eX⟩ := (ic_all hn hC k (lv + 1) (by omega) _ e3).1 r h3
        refine ⟨tm n X (en f lv (im (bk n fo) y)), MM_cons hn hC hl hX (im_lt _ _) e1, ?_⟩
        rw [h5, eX, tm_assoc hX.1 e2 hfo]
      · obtain ⟨y, r, h1, h2, h3, h4, h5⟩ := step a (by omega)
        obtain ⟨y', r', h1', h2', h3', h4', h5'⟩ := step b hb
        obtain ⟨e1, e2, e3, e4, e5⟩ := ent y h1 h2
        obtain ⟨e1', e2', e3', e4', e5'⟩ := ent y' h1' h2'
        rcases Nat.lt_trichotomy y y' with c | c | c
        · rw [h5, h5']
          obtain ⟨X, hX, eX⟩ := (ic_all hn hC k (lv + 1) (by omega) _ e3).1 r h3
          obtain ⟨X', hX', eX'⟩ := (ic_all hn hC k (lv + 1) (by omega) _ e3').1 r' h3'
          rw [eX, eX']
          refine ⟨lv, hl, fun j hj => ?_, ?_⟩
          · rw [im_cos (show lv + 1 ≤ n by omega) hX.2.1 (by omega), im_cos (show lv + 1 ≤ n by omega) hX'.2.1 (by omega), im_cos (by omega) e4 hj, im_cos (by omega) e4' hj]
          · rw [im_cos (show lv + 1 ≤ n by omega) hX.2.1 (by omega), im_cos (show lv + 1 ≤ n by omega) hX'.2.1 (by omega), e5, e5']
            exact c
        · subst c
          rw [h5, h5']
          exact (ic_all hn hC k (lv + 1) (by omega) _ e3).2.1 r r' (by omega) h3'
        · exfalso
          have := Nat.mul_le_mul_right (fx f n (lv + 1)) (cy_lt (p := av f lv (bk n fo)) c h2')
          rw [Nat.add_mul, Nat.one_mul] at this
          omega
      · obtain ⟨Z, hZ, hE, eX⟩ := MM_split hn hC hl hX
        obtain ⟨x1, u1, u2, u3, -⟩ := hC.2 lv _ hl (im_lt _ _) hE
        have hx : im X lv < n := hX.1.2.1 lv hl
        have hy : im (tm n X fo) lv = im fo (im X lv) := by rw [tm_im, if_pos hl]
        have hyn : im fo (im X lv) < n := hfo.2.1 _ hx
        have hb : im (bk n fo) (im fo (im X lv)) = im X lv := bk_im hn hfo hx
        have hav : av f lv (bk n fo) (im fo (im X lv)) = true := by unfold av; rw [hb]; exact decide_eq_true hE
        have e3 := PM_tm u1 hfo
        have eP : tm n X fo = tm n Z (tm n (en f lv (im X lv)) fo) := by rw [← tm_assoc hZ.1 u1 hfo, ← eX]
        obtain ⟨c1, c2⟩ := (ic_all hn hC k (lv + 1) (by omega) _ e3).2.2 Z hZ
        rw [← eP] at c1 c2
        have eb1 : ebF f n (tm n X fo) (k + 1) lv 0 fo = cy (av f lv (bk n fo)) (im fo (im X lv)) 0 * fx f n (lv + 1) + ebF f n (tm n X fo) k (lv + 1) 0 (tm n (en f lv (im X lv)) fo) := by
          show ebF f n (tm n X fo) k (lv + 1) (0 + elF f lv fo (im (tm n X fo) lv) (n - lv) lv 0 * fx f n (lv + 1)) (tm n (en f lv (im (bk n fo) (im (tm n X fo) lv))) fo) = _
          rw [ebF_add, hy, hb, el_av hn hC hl hfo (by omega), Nat.zero_add]
        rw [eb1]
        have hlt := Nat.mul_le_mul_right (fx f n (lv + 1)) (cy_lt (p := av f lv (bk n fo)) hyn hav)
        rw [Nat.add_mul, Nat.one_mul] at hlt
        refine ⟨by rw [hN]; omega, ?_⟩
        have := icI_at (n := n) (fo := fo) hav c1 n 0 (by omega) (by omega)
        rw [hb] at this
        rw [icF_step (be := cy (av f lv (bk n fo)) (im fo (im X lv)) 0 * fx f n (lv + 1) + ebF f n (tm n X fo) k (lv + 1) 0 (tm n (en f lv (im X lv)) fo)) this]
        exact c2
end ENR
