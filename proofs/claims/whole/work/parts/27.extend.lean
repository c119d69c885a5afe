/-! ===== the noted slots ===== -/
def OD (n s : Nat) : Prop := s / 8 < s % 8 ∧ s % 8 < n
def ODl (n : Nat) : List Nat := (List.range 56).filter (fun s => Nat.blt (s / 8) (s % 8) && Nat.blt (s % 8) n)
theorem ODl_mem {n s : Nat} (hn : n ≤ 7) : s ∈ ODl n ↔ OD n s := by
  unfold ODl OD
  rw [List.mem_filter, List.mem_range, Bool.and_eq_true, Nat.blt_eq, Nat.blt_eq]
  constructor
  · exact fun h => h.2
  · exact fun h => ⟨by omega, h⟩
theorem ODl_len : ∀ n, n ≤ 7 → (ODl n).length = n * (n - 1) / 2 := by decide +kernel
theorem OD_21 {n : Nat} (hn : n ≤ 7) : n * (n - 1) / 2 ≤ 21 := by
  have : n * (n - 1) ≤ 7 * 6 := Nat.mul_le_mul hn (by omega)
  omega
/-- what is noted: filled slots off the diagonal, each once, and below B all of them -/
def LIp (n B : Nat) (u : CS) : Prop := (∀ j, j < u.2.2 → ∃ s, s < B ∧ OD n s ∧ u.2.1 j = nI s ∧ ¬ u.1 s = -1) ∧ (∀ i j, i < u.2.2 → j < u.2.2 → u.2.1 i = u.2.1 j → i = j) ∧ ∀ s, s < B → OD n s → ¬ u.1 s = -1 → ∃ j, j < u.2.2 ∧ u.2.1 j = nI s
def LI (n : Nat) (u : CS) : Prop := LIp n 56 u
theorem OD_lt {n s : Nat} (hn : n ≤ 7) (h : OD n s) : s < 56 := by unfold OD at h; omega
theorem LI_nodup {n B : Nat} {u : CS} (hB : B ≤ 56) (h : LIp n B u) : ((List.range u.2.2).map (fun j => tn (u.2.1 j))).Nodup := by
  refine List.pairwise_map.mpr (List.Pairwise.imp_of_mem ?_ List.pairwise_lt_range)
  intro a b ha hb hab e
  have := h.2.1 a b (List.mem_range.mp ha) (List.mem_range.mp hb) (by rw [← nI_tn (u.2.1 a), ← nI_tn (u.2.1 b), e])
  omega
theorem LI_sub {n B : Nat} {u : CS} (hn : n ≤ 7) (h : LIp n B u) : (List.range u.2.2).map (fun j => tn (u.2.1 j)) ⊆ ODl n := by
  intro s hs
  obtain ⟨j, hj, rfl⟩ := List.mem_map.mp hs
  obtain ⟨z, -, h2, h3, -⟩ := h.1 j (List.mem_range.mp hj)
  have := OD_lt hn h2
  show tn (u.2.1 j) ∈ ODl n
  rw [h3, tn_nI (by omega)]
  exact (ODl_mem hn).mpr h2
/-- a slot that isn't noted leaves room -/
theorem LI_room {n B s : Nat} {u : CS} (hn : n ≤ 7) (hB : B ≤ 56) (h : LIp n B u) (hs : OD n s) (hno : ∀ j, j < u.2.2 → u.2.1 j ≠ nI s) : u.2.2 < n * (n - 1) / 2 := by
  have hnd : (s :: (List.range u.2.2).map (fun j => tn (u.2.1 j))).Nodup := by
    refine List.nodup_cons.mpr ⟨fun hm => ?_, LI_nodup hB h⟩
    obtain ⟨j, hj, e⟩ := List.mem_map.mp hm
    exact hno j (List.mem_range.mp hj) (by rw [← e]; exact (nI_tn _).symm)
  have hsub : (s :: (List.range u.2.2).map (fun j => tn (u.2.1 j))) ⊆ ODl n := by
    intro z hz
    rcases List.mem_cons.mp hz with rfl | hz
    · exact (ODl_mem hn).mpr hs
    · exact LI_sub hn h hz
  have := List.Nodup.length_le_of_subset hnd hsub
  rw [List.length_cons, List.length_map, List.length_range, ODl_len n hn] at this
  omega
theorem LI_le {n B : Nat} {u : CS} (hn : n ≤ 7) (hB : B ≤ 56) (h : LIp n B u) : u.2.2 ≤ n * (n - 1) / 2 := by
  have := List.Nodup.length_le_of_subset (LI_nodup hB h) (LI_sub hn h)
  rw [List.length_map, List.length_range, ODl_len n hn] at this
  exact this
/-- when full, every slot is filled -/
theorem LI_full {n s : Nat} {u : CS} (hn : n ≤ 7) (h : LI n u) (hf : n * (n - 1) / 2 ≤ u.2.2) (hs : OD n s) : ¬ u.1 s = -1 := by
  refine Classical.byContradiction (fun hc => ?_)
  have hc : u.1 s = -1 := Classical.byContradiction hc
  have := LI_room hn (Nat.le_refl _) h hs (fun j hj e => by
    obtain ⟨z, h1, h2, h3, h4⟩ := h.1 j hj
    have hz := OD_lt hn h2
    have hs' := OD_lt hn hs
    have : z = s := nI_inj32 (by omega) (by omega) (h3.symm.trans e)
    rw [this] at h4
    exact h4 hc)
  omega
theorem sOK_LI {n : Nat} {u : CS} (hn : n ≤ 7) (h : LI n u) : sOK u := ⟨Nat.le_trans (LI_le hn (Nat.le_refl _) h) (OD_21 hn), fun j hj => by
  obtain ⟨s, h1, h2, h3, -⟩ := h.1 j hj
  exact ⟨s, h1, h3⟩⟩
/-! ===== listFilled ===== -/
theorem LIp_jump {n B B' : Nat} {u : CS} (h : LIp n B u) (hB : B ≤ B') (hno : ∀ s, B ≤ s → s < B' → ¬ OD n s) : LIp n B' u :=
  ⟨fun j hj => by
    obtain ⟨s, h1, h2⟩ := h.1 j hj
    exact ⟨s, by omega, h2⟩, h.2.1, fun s h1 h2 h3 => by
    rcases Nat.lt_or_ge s B with q | q
    · exact h.2.2 s q h2 h3
    · exact absurd h2 (hno s q h1)⟩
theorem LIp_skip {n B : Nat} {u : CS} (h : LIp n B u) (hs : u.1 B = -1) : LIp n (B + 1) u :=
  ⟨fun j hj => by
    obtain ⟨s, h1, h2⟩ := h.1 j hj
    exact ⟨s, by omega, h2⟩, h.2.1, fun s h1 h2 h3 => by
    by_cases e : s = B
    · rw [e] at h3; exact absurd hs h3
    · exact h.2.2 s (by omega) h2 h3⟩
theorem LIp_note {n B : Nat} {u : CS} (hn : n ≤ 7) (hB : B < 56) (h : LIp n B u) (ho : OD n B) (hs : ¬ u.1 B = -1) : LIp n (B + 1) (ntS B u) := by
  have hno : ∀ j, j < u.2.2 → u.2.1 j ≠ nI B := fun j hj e => by
    obtain ⟨z, h1, h2, h3, -⟩ := h.1 j hj
    have := nI_inj32 (show z < 2 ^ 32 by omega) (show B < 2 ^ 32 by omega) (h3.symm.trans e)
    omega
  have hr := LI_room hn (by omega) h ho hno
  have h21 := OD_21 hn
  have e : ntS B u = (u.1, upd u.2.1 u.2.2 (nI B), u.2.2 + 1) := if_pos (by omega)
  rw [e]
  refine ⟨fun j hj => ?_, fun i j hi hj hij => ?_, fun s h1 h2 h3 => ?_⟩
  · by_cases c : j = u.2.2
    · exact ⟨B, by omega, ho, by show upd u.2.1 u.2.2 (nI B) j = _; rw [c]; exact pk_us, hs⟩
    · obtain ⟨s, a1, a2, a3, a4⟩ := h.1 j (by have : j < u.2.2 + 1 := hj; omega)
      exact ⟨s, by omega, a2, by show upd u.2.1 u.2.2 (nI B) j = _; rw [pk_un c]; exact a3, a4⟩
  · have hi : i < u.2.2 + 1 := hi
    have hj : j < u.2.2 + 1 := hj
    have hij : upd u.2.1 u.2.2 (nI B) i = upd u.2.1 u.2.2 (nI B) j := hij
    by_cases ci : i = u.2.2 <;> by_cases cj : j = u.2.2
    · omega
    · rw [ci, pk_us, pk_un cj] at hij
      exact absurd hij.symm (hno j (by omega))
    · rw [cj, pk_us, pk_un ci] at hij
      exact absurd hij (hno i (by omega))
    · rw [pk_un ci, pk_un cj] at hij
      exact h.2.1 i j (by omega) (by omega) hij
  · by_cases c : s = B
    · exact ⟨u.2.2, Nat.lt_succ_self _, by show upd u.2.1 u.2.2 (nI B) u.2.2 = _; rw [c]; exact pk_us⟩
    · obtain ⟨j, a1, a2⟩ := h.2.2 s (by omega) h2 h3
      exact ⟨j, Nat.lt_succ_of_lt a1, by show upd u.2.1 u.2.2 (nI B) j = _; rw [pk_un (by omega)]; exact a2⟩
theorem lfI_inv {n lv : Nat} (hn : n ≤ 7) (hlv : lv < n) : ∀ k x u, x + k = n → lv < x → LIp n (lv * 8 + x) u → LIp n (lv * 8 + n) (lfI lv k x u) ∧ (lfI lv k x u).1 = u.1
  | 0, x, u, hk, hx, h => by
      have e : x = n := by omega
      subst e
      exact ⟨h, rfl⟩
  | k + 1, x, u, hk, hx, h => by
      have ho : OD n (lv * 8 + x) := by unfold OD; omega
      by_cases c : u.1 (lv * 8 + x) = -1
      · rw [lfI_n c]
        exact lfI_inv hn hlv k (x + 1) u (by omega) (by omega) (LIp_skip h c)
      · rw [lfI_y c]
        obtain ⟨h1, h2⟩ := lfI_inv hn hlv k (x + 1) _ (by omega) (by omega) (LIp_note hn (B := lv * 8 + x) (by omega) h ho c)
        exact ⟨h1, h2.trans (ntS_1 _ _)⟩
theorem lfF_inv {n : Nat} (hn : n ≤ 7) : ∀ k lv u, lv + k = n → LIp n (lv * 8) u → LI n (lfF n k lv u) ∧ (lfF n k lv u).1 = u.1
  | 0, lv, u, hk, h => by
      have e : lv = n := by omega
      subst e
      exact ⟨LIp_jump h (by omega) (fun s h1 h2 h3 => by unfold OD at h3; omega), rfl⟩
  | k + 1, lv, u, hk, h => by
      have h1 : LIp n (lv * 8 + (lv + 1)) u := LIp_jump h (by omega) (fun s a1 a2 a3 => by unfold OD at a3; omega)
      obtain ⟨h2, h3⟩ := lfI_inv hn (by omega) (n - (lv + 1)) (lv + 1) u (by omega) (by omega) h1
      obtain ⟨h4, h5⟩ := lfF_inv hn k (lv + 1) _ (by omega) (LIp_jump h2 (by omega) (fun s a1 a2 a3 => by unfold OD at a3; omega))
      exact ⟨h4, h5.trans h3⟩
theorem lf_inv {n : Nat} (hn : n ≤ 7) (f fl : Nat → Int32) : LI n (lfF n n 0 (f, fl, 0)) ∧ (lfF n n 0 (f, fl, 0)).1 = f :=
  lfF_inv hn n 0 (f, fl, 0) (by omega) ⟨fun j hj => absurd hj (Nat.not_lt_zero _), fun i j hi => absurd hi (Nat.not_lt_zero _), fun s hs => by omega⟩
/-! ===== entering ===== -/
/-- from u to v: more entries, more notes -/
def ST (n : Nat) (G : Nat → Prop) (u v : CS) : Prop := LI n v ∧ CW n v.1 G ∧ exT2 n u.1 v.1 ∧ (∀ j, j < u.2.2 → v.2.1 j = u.2.1 j) ∧ u.2.2 ≤ v.2.2
theorem ST_rf {n : Nat} {G : Nat → Prop} {u : CS} (h1 : LI n u) (h2 : CW n u.1 G) : ST n G u u := ⟨h1, h2, fun _ _ _ _ _ => rfl, fun _ _ => rfl, Nat.le_refl _⟩
theorem exT2_tr {n : Nat} {f f' f'' : Nat → Int32} (h1 : exT2 n f f') (h2 : exT2 n f' f'') : exT2 n f f'' := fun lv x a b c => by
  have e := h1 lv x a b c
  rw [h2 lv x a b (by unfold EN; rw [e]; exact c), e]
theorem ST_tr {n : Nat} {G : Nat → Prop} {u v w : CS} (h1 : ST n G u v) (h2 : ST n G v w) : ST n G u w :=
  ⟨h2.1, h2.2.1, exT2_tr h1.2.2.1 h2.2.2.1, fun j hj => (h2.2.2.2.1 j (Nat.lt_of_lt_of_le hj h1.2.2.2.2)).trans (h1.2.2.2.1 j hj), Nat.le_trans h1.2.2.2.2 h2.2.2.2.2⟩
theorem CW_upd {n : Nat} {f : Nat → Int32} {G : Nat → Prop} (hn : n ≤ 7) (hC : CW n f G) {s v : Nat} (hv : v < n) (hs : PM n s) (hsf : FX v s) (hfv : f (v * 8 + im s v) = -1) (hGs : G s) : CW n (upd f (v * 8 + im s v) (nI s)) G := by
  have hlt := PM_lt hn hs
  have h8 := im_lt s v
  refine ⟨fun lv hl => ?_, fun lv x hl hx hE => ?_⟩
  · have hd := hC.1 lv hl
    have hne : lv * 8 + lv ≠ v * 8 + im s v := fun q => hd.1 (by rw [q]; exact hfv)
    unfold EN en at hd ⊢
    rw [pk_un hne]
    exact hd
  · by_cases c : lv = v ∧ x = im s v
    · obtain ⟨rfl, rfl⟩ := c
      have e : en (upd f (lv * 8 + im s lv) (nI s)) lv (im s lv) = s := by unfold en; rw [pk_us, tn_nI (by omega)]
      rw [e]
      exact ⟨hs.2.1 lv hl, hs, hsf, rfl, hGs⟩
    · have hne : lv * 8 + x ≠ v * 8 + im s v := by omega
      have e : upd f (v * 8 + im s v) (nI s) (lv * 8 + x) = f (lv * 8 + x) := pk_un hne
      unfold EN at hE
      rw [e] at hE
      have := hC.2 lv x hl hx hE
      unfold en at this ⊢
      rw [e]
      exact this
theorem en_inv {n P : Nat} {G : Nat → Prop} {u : CS} (hn : n ≤ 7) (hG : GG n G) (hL : LI n u) (hC : CW n u.1 G) (hP : G P) : ST n G u (enS n P u) ∧ rs (enS n P u).1 n P = idn n := by
  have hPM := hG.2.1 P hP
  obtain ⟨h1, h2, h3⟩ := rs_facts hn hG hC n 0 P (by omega) hPM (FX_0 _)
  have hGs : G (rs u.1 n P) := h2.mp hP
  rcases h3 with e | ⟨v, -, hv, hsf, hsv, hfv⟩
  · have e : rs u.1 n P = idn n := e
    have e2 : enS n P u = u := by unfold enS; rw [e]; exact enL_id hn n 0 u (by omega)
    rw [e2]
    exact ⟨ST_rf hL hC, e⟩
  · generalize hs : rs u.1 n P = s at hGs
    rw [show rsF u.1 n n 0 P = s from hs] at h1 hsf hsv hfv
    have e2 : enS n P u = ntS (v * 8 + im s v) (upd u.1 (v * 8 + im s v) (nI s), u.2.1, u.2.2) := by unfold enS; rw [hs]; exact enL_at hsf hsv n 0 u (by omega) (by omega)
    have hge := FX_ge h1 hsf hv
    have hxn := h1.2.1 v hv
    have hlt := PM_lt hn h1
    have ho : OD n (v * 8 + im s v) := by unfold OD; omega
    have hno : ∀ j, j < u.2.2 → u.2.1 j ≠ nI (v * 8 + im s v) := fun j hj q => by
      obtain ⟨z, a1, a2, a3, a4⟩ := hL.1 j hj
      have : z = v * 8 + im s v := nI_inj32 (by omega) (by omega) (a3.symm.trans q)
      rw [this] at a4
      exact a4 hfv
    have hr := LI_room hn (Nat.le_refl _) hL ho hno
    have h21 := OD_21 hn
    have e3 : enS n P u = (upd u.1 (v * 8 + im s v) (nI s), upd u.2.1 u.2.2 (nI (v * 8 + im s v)), u.2.2 + 1) := by rw [e2]; exact if_pos (show u.2.2 < 21 by omega)
    have hx : exT2 n u.1 (upd u.1 (v * 8 + im s v) (nI s)) := fun lv x a b c => pk_un (fun q => c (by rw [q]; exact hfv))
    have hC' := CW_upd hn hC hv h1 hsf hfv hGs
    rw [e3]
    refine ⟨⟨⟨fun j hj => ?_, fun i j hi hj hij => ?_, fun z a1 a2 a3 => ?_⟩, hC', hx, fun j hj => pk_un (by omega), Nat.le_succ _⟩, ?_⟩
    · by_cases c : j = u.2.2
      · refine ⟨v * 8 + im s v, by omega, ho, by show upd u.2.1 u.2.2 _ j = _; rw [c]; exact pk_us, ?_⟩
        show ¬ upd u.1 (v * 8 + im s v) (nI s) (v * 8 + im s v) = -1
        rw [pk_us]
        exact nb_m1 (by omega)
      · obtain ⟨z, a1, a2, a3, a4⟩ := hL.1 j (by have : j < u.2.2 + 1 := hj; omega)
        refine ⟨z, a1, a2, by show upd u.2.1 u.2.2 _ j = _; rw [pk_un c]; exact a3, ?_⟩
        show ¬ upd u.1 (v * 8 + im s v) (nI s) z = -1
        rw [pk_un (fun q => a4 (by rw [q]; exact hfv))]
        exact a4
    · have hi : i < u.2.2 + 1 := hi
      have hj : j < u.2.2 + 1 := hj
      have hij : upd u.2.1 u.2.2 (nI (v * 8 + im s v)) i = upd u.2.1 u.2.2 (nI (v * 8 + im s v)) j := hij
      by_cases ci : i = u.2.2 <;> by_cases cj : j = u.2.2
      · omega
      · rw [ci, pk_us, pk_un cj] at hij
        exact absurd hij.symm (hno j (by omega))
      · rw [cj, pk_us, pk_un ci] at hij
        exact absurd hij (hno i (by omega))
      · rw [pk_un ci, pk_un cj] at hij
        exact hL.2.1 i j (by omega) (by omega) hij
    · by_cases c : z = v * 8 + im s v
      · exact ⟨u.2.2, Nat.lt_succ_self _, by show upd u.2.1 u.2.2 _ u.2.2 = _; rw [c]; exact pk_us⟩
      · have a3 : ¬ upd u.1 (v * 8 + im s v) (nI s) z = -1 := a3
        rw [pk_un c] at a3
        obtain ⟨j, b1, b2⟩ := hL.2.2 z a1 a2 a3
        exact ⟨j, Nat.lt_succ_of_lt b1, by show upd u.2.1 u.2.2 _ j = _; rw [pk_un (by omega)]; exact b2⟩
    · exact rs_enter hn hC hv h1 hsf hsv hfv rfl n 0 P (by omega) hPM (FX_0 _) hs
/-! ===== products of noted entries ===== -/
def PC (n : Nat) (u : CS) (a b : Nat) : Prop := tn (u.2.1 a) / 8 ≤ tn (u.2.1 b) / 8 → rs u.1 n (tm n (tn (u.1 (tn (u.2.1 a)))) (tn (u.1 (tn (u.2.1 b))))) = idn n
/-- a noted slot and its entry -/
theorem nt_at {n a : Nat} {G : Nat → Prop} {u : CS} (hn : n ≤ 7) (hL : LI n u) (hC : CW n u.1 G) (ha : a < u.2.2) : ∃ lv x, lv < n ∧ lv < x ∧ x < n ∧ tn (u.2.1 a) = lv * 8 + x ∧ EN u.1 lv x ∧ tn (u.1 (tn (u.2.1 a))) = en u.1 lv x := by
  obtain ⟨s, h1, h2, h3, h4⟩ := hL.1 a ha
  have e : tn (u.2.1 a) = s := by rw [h3, tn_nI (by omega)]
  have hs : s = s / 8 * 8 + s % 8 := by omega
  unfold OD at h2
  refine ⟨s / 8, s % 8, by omega, h2.1, h2.2, by rw [e]; exact hs, by unfold EN; rw [← hs]; exact h4, by unfold en; rw [e, ← hs]⟩
theorem PC_mono {n a b : Nat} {G : Nat → Prop} {u v : CS} (hn : n ≤ 7) (hL : LI n u) (hC : CW n u.1 G) (h : ST n G u v) (ha : a < u.2.2) (hb : b < u.2.2) (hp : PC n u a b) : PC n v a b := by
  obtain ⟨l1, x1, a1, a2, a3, a4, a5, -⟩ := nt_at hn hL hC ha
  obtain ⟨l2, x2, b1, b2, b3, b4, b5, -⟩ := nt_at hn hL hC hb
  have ea := h.2.2.2.1 a ha
  have eb := h.2.2.2.1 b hb
  have fa : v.1 (tn (u.2.1 a)) = u.1 (tn (u.2.1 a)) := by rw [a4]; exact h.2.2.1 l1 x1 a1 (by omega) a5
  have fb : v.1 (tn (u.2.1 b)) = u.1 (tn (u.2.1 b)) := by rw [b4]; exact h.2.2.1 l2 x2 b1 (by omega) b5
  unfold PC at hp ⊢
  rw [ea, eb, fa, fb]
  intro q
  exact rs_mono hn h.2.2.1 n 0 _ (by omega) (hp q)
theorem exT_inv {n a b : Nat} {G : Nat → Prop} {u : CS} (hn : n ≤ 7) (hG : GG n G) (hL : LI n u) (hC : CW n u.1 G) (ha : a < u.2.2) (hb : b < u.2.2) : ST n G u (exT n a b u) ∧ PC n (exT n a b u) a b := by
  obtain ⟨l1, x1, a1, a2, a3, a4, a5, a6⟩ := nt_at hn hL hC ha
  obtain ⟨l2, x2, b1, b2, b3, b4, b5, b6⟩ := nt_at hn hL hC hb
  by_cases c : tn (u.2.1 a) / 8 ≤ tn (u.2.1 b) / 8
  · have e : exT n a b u = enS n (tm n (tn (u.1 (tn (u.2.1 a)))) (tn (u.1 (tn (u.2.1 b))))) u := if_pos c
    have hGp : G (tm n (tn (u.1 (tn (u.2.1 a)))) (tn (u.1 (tn (u.2.1 b))))) := by
      rw [a6, b6]
      exact hG.2.2.1 _ _ (hC.2 l1 x1 a1 (by omega) a5).2.2.2.2 (hC.2 l2 x2 b1 (by omega) b5).2.2.2.2
    obtain ⟨h1, h2⟩ := en_inv hn hG hL hC hGp
    rw [← e] at h1 h2
    refine ⟨h1, fun _ => ?_⟩
    have ea := h1.2.2.2.1 a ha
    have eb := h1.2.2.2.1 b hb
    have fa : (exT n a b u).1 (tn (u.2.1 a)) = u.1 (tn (u.2.1 a)) := by rw [a4]; exact h1.2.2.1 l1 x1 a1 (by omega) a5
    have fb : (exT n a b u).1 (tn (u.2.1 b)) = u.1 (tn (u.2.1 b)) := by rw [b4]; exact h1.2.2.1 l2 x2 b1 (by omega) b5
    rw [ea, eb, fa, fb]
    exact h2
  · have e : exT n a b u = u := if_neg c
    rw [e]
    exact ⟨ST_rf hL hC, fun q => absurd q c⟩
theorem exI_inv {n a : Nat} {G : Nat → Prop} (hn : n ≤ 7) (hG : GG n G) : ∀ k b u, b + k = a + 1 → LI n u → CW n u.1 G → a < u.2.2 → (∀ j, j < b → PC n u a j ∧ PC n u j a) → ST n G u (exI n a k b u) ∧ ∀ j, j < a + 1 → PC n (exI n a k b u) a j ∧ PC n (exI n a k b u) j a
  | 0, b, u, hk, hL, hC, ha, h => by
      have e : b = a + 1 := by omega
      subst e
      exact ⟨ST_rf hL hC, h⟩
  | k + 1, b, u, hk, hL, hC, ha, h => by
      obtain ⟨s1, p1⟩ := exT_inv hn hG hL hC ha (show b < u.2.2 by omega)
      have ha1 : a < (exT n a b u).2.2 := Nat.lt_of_lt_of_le ha s1.2.2.2.2
      obtain ⟨s2, p2⟩ := exT_inv hn hG s1.1 s1.2.1 (show b < (exT n a b u).2.2 by omega) ha1
      have s12 := ST_tr s1 s2
      have ha2 : a < (exT n b a (exT n a b u)).2.2 := Nat.lt_of_lt_of_le ha s12.2.2.2.2
      obtain ⟨h1, h2⟩ := exI_inv hn hG k (b + 1) (exT n b a (exT n a b u)) (by omega) s2.1 s2.2.1 ha2 (fun j hj => by
        by_cases c : j = b
        · subst c
          exact ⟨PC_mono hn s1.1 s1.2.1 s2 ha1 (by omega) p1, p2⟩
        · have := h j (by omega)
          exact ⟨PC_mono hn hL hC s12 ha (by omega) this.1, PC_mono hn hL hC s12 (by omega) ha this.2⟩)
      exact ⟨ST_tr s12 h1, h2⟩
/-- at the end all pairs are done, or every slot is filled -/
theorem exF_inv {n : Nat} {G : Nat → Prop} (hn : n ≤ 7) (hG : GG n G) : ∀ k a u, a + k = 21 → LI n u → CW n u.1 G → (∀ i j, i < a → j < a → i < u.2.2 → j < u.2.2 → PC n u i j) → ST n G u (exF n k a u) ∧ ((∀ i j, i < (exF n k a u).2.2 → j < (exF n k a u).2.2 → PC n (exF n k a u) i j) ∨ n * (n - 1) / 2 ≤ (exF n k a u).2.2)
  | 0, a, u, hk, hL, hC, h => by
      have h21 := (sOK_LI hn hL).1
      exact ⟨ST_rf hL hC, Or.inl (fun i j hi hj => h i j (by have : i < u.2.2 := hi; omega) (by have : j < u.2.2 := hj; omega) hi hj)⟩
  | k + 1, a, u, hk, hL, hC, h => by
      by_cases c : u.2.2 ≤ a ∨ n * (n - 1) / 2 ≤ u.2.2
      · have e : exF n (k + 1) a u = u := if_pos c
        rw [e]
        refine ⟨ST_rf hL hC, c.imp (fun c i j hi hj => h i j (by omega) (by omega) hi hj) id⟩
      · have e : exF n (k + 1) a u = exF n k (a + 1) (exI n a (a + 1) 0 u) := if_neg c
        rw [e]
        have ha : a < u.2.2 := by omega
        obtain ⟨s1, p1⟩ := exI_inv hn hG (a + 1) 0 u (by omega) hL hC ha (fun j hj => absurd hj (Nat.not_lt_zero _))
        obtain ⟨h1, h2⟩ := exF_inv hn hG k (a + 1) (exI n a (a + 1) 0 u) (by omega) s1.1 s1.2.1 (fun i j hi hj hi2 hj2 => by
          by_cases ci : i = a
          · subst ci; exact (p1 j hj).1
          · by_cases cj : j = a
            · subst cj; exact (p1 i hi).2
            · exact PC_mono hn hL hC s1 (by omega) (by omega) (h i j (by omega) (by omega) (by omega) (by omega)))
        exact ⟨ST_tr s1 h1, h2⟩
/-- all pairs done, or all filled: closed -/
theorem CL_of {n : Nat} {G : Nat → Prop} {u : CS} (hn : n ≤ 7) (hG : GG n G) (hL : LI n u) (hC : CW n u.1 G) (h : (∀ i j, i < u.2.2 → j < u.2.2 → PC n u i j) ∨ n * (n - 1) / 2 ≤ u.2.2) : CL n u.1 := by
  intro a x b y hab hb hx hy hE1 hE2
  obtain ⟨c1, c2, c3, c4, c5⟩ := hC.2 a x (by omega) hx hE1
  obtain ⟨d1, d2, d3, d4, d5⟩ := hC.2 b y hb hy hE2
  have hax : a ≤ x := by have := FX_ge c2 c3 (show a < n by omega); omega
  have hby : b ≤ y := by have := FX_ge d2 d3 hb; omega
  by_cases e1 : x = a
  · subst e1
    rw [(hC.1 x (by omega)).2, id_tm hn d2]
    obtain ⟨d, hd⟩ : ∃ d, b = x + d := ⟨b - x, by omega⟩
    have := MM_en hn hC hb hy hE2
    rw [hd] at this ⊢
    exact MM_le hn hC d x (by omega) this
  · by_cases e2 : y = b
    · subst e2
      rw [(hC.1 y hb).2, tm_id hn c2]
      exact MM_en hn hC (by omega) hx hE1
    · have hPM := PM_tm c2 d2
      have hFX : FX a (tm n (en u.1 a x) (en u.1 b y)) := FX_tm (by omega) c3 (FX_le hab d3)
      have key : rs u.1 n (tm n (en u.1 a x) (en u.1 b y)) = idn n := by
        rcases h with h | h
        · obtain ⟨i, hi, ei⟩ := hL.2.2 (a * 8 + x) (by omega) (by unfold OD; omega) hE1
          obtain ⟨j, hj, ej⟩ := hL.2.2 (b * 8 + y) (by omega) (by unfold OD; omega) hE2
          have := h i j hi hj
          unfold PC at this
          rw [ei, ej, tn_nI (by omega), tn_nI (by omega)] at this
          exact this (by omega)
        · rcases (rs_facts hn hG hC n 0 _ (by omega) hPM (FX_0 _)).2.2 with q | ⟨v, -, hv, q1, q2, q3⟩
          · exact q
          · have hs := (rs_facts hn hG hC n 0 _ (by omega) hPM (FX_0 _)).1
            have hge := FX_ge hs q1 hv
            have hxn := hs.2.1 v hv
            exact absurd q3 (LI_full hn hL h (by unfold OD; omega))
      have drop : ∀ d c P, c + d = a → FX a P → rsF u.1 n (n - c) c P = rsF u.1 n (n - a) a P := by
        intro d
        induction d with
        | zero => intro c P hc _; rw [show c = a by omega]
        | succ d ih =>
          intro c P hc hF
          rw [show n - c = (n - (c + 1)) + 1 by omega, rsF_eq (hF c (by omega))]
          exact ih (c + 1) P (by omega) hF
      refine ⟨hPM, hFX, ?_⟩
      rw [← drop a 0 _ (by omega) hFX]
      exact key
/-- extendBy keeps its word -/
theorem ex_VC {n ct P : Nat} {f fl : Nat → Int32} {g : Nat → Nat} (hn : n ≤ 7) (hg : ∀ j, j < ct → PM n (g j)) (hP : PM n P) (h : VC n f (inG n ct g)) : VC n (exS n P f fl).1 (inG n (ct + 1) (fun j => if j = ct then P else g j)) := by
  have hg' : ∀ j, j < ct + 1 → PM n ((fun j => if j = ct then P else g j) j) := fun j hj => by
    by_cases c : j = ct
    · simp only [c, if_pos]; exact hP
    · simp only [if_neg c]; exact hg j (by omega)
  have hG := GG_inG hn hg'
  have hsub : ∀ Q, inG n ct g Q → inG n (ct + 1) (fun j => if j = ct then P else g j) Q := fun Q hQ => inG_mono (by omega) (fun j hj => by simp only [if_neg (show ¬ j = ct by omega)]) hQ
  obtain ⟨hL0, e0⟩ := lf_inv hn f fl
  have hC0 : CW n (lfF n n 0 (f, fl, 0)).1 (inG n (ct + 1) (fun j => if j = ct then P else g j)) := by rw [e0]; exact CW_mono h.1 hsub
  have hGP : inG n (ct + 1) (fun j => if j = ct then P else g j) P := by
    have := inG_gen hn hg' (show ct < ct + 1 by omega)
    simpa using this
  obtain ⟨s1, r1⟩ := en_inv hn hG hL0 hC0 hGP
  have old : ∀ i j, i < (lfF n n 0 (f, fl, 0)).2.2 → j < (lfF n n 0 (f, fl, 0)).2.2 → PC n (enS n P (lfF n n 0 (f, fl, 0))) i j := fun i j hi hj => by
    refine PC_mono hn hL0 hC0 s1 hi hj (fun _ => ?_)
    obtain ⟨l1, x1, a1, a2, a3, a4, a5, a6⟩ := nt_at hn hL0 hC0 hi
    obtain ⟨l2, x2, b1, b2, b3, b4, b5, b6⟩ := nt_at hn hL0 hC0 hj
    rw [a6, b6]
    rw [e0] at a5 b5 ⊢
    exact h.2 _ (inG_mul hn hg (h.1.2 l1 x1 a1 (by omega) a5).2.2.2.2 (h.1.2 l2 x2 b1 (by omega) b5).2.2.2.2)
  have h21 := (sOK_LI hn hL0).1
  obtain ⟨s2, p2⟩ := exF_inv hn hG (21 - (lfF n n 0 (f, fl, 0)).2.2) (lfF n n 0 (f, fl, 0)).2.2 (enS n P (lfF n n 0 (f, fl, 0))) (by omega) s1.1 s1.2.1 (fun i j hi hj _ _ => old i j hi hj)
  have s12 := ST_tr s1 s2
  refine VC_of hn hg' s2.2.1 (CL_of hn hG s2.1 s2.2.1 p2) (fun j hj => ?_)
  by_cases c : j = ct
  · simp only [c, if_pos]
    exact rs_mono hn s2.2.2.1 n 0 P (by omega) r1
  · simp only [if_neg c]
    have hj' : j < ct := by omega
    have q := h.2 _ (inG_gen hn hg hj')
    have e2 := s12.2.2.1
    rw [e0] at e2
    exact rs_mono hn e2 n 0 _ (by omega) q
