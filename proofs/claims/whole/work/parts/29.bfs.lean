/-! ===== the reference's search ===== -/
theorem fac_le {n : Nat} (h7 : n ≤ 7) : fac n ≤ 5040 := (fac_bd n h7).2
def gC (gn : Nat → Int32) : Nat → Nat := fun j => tn (gn j)
def FP (n ct : Nat) (gn iv : Nat → Int32) : Prop := (∀ m, m < 5040 → iv m = 0 ∨ iv m = 1) ∧ ∀ m, m < 5040 → (iv m = 1 ↔ m < fac n ∧ inG n ct (gC gn) (pe n m))
def BI (n ct : Nat) (gn : Nat → Int32) (k : Nat) (iv wv : Nat → Int32) (la : Nat) : Prop :=
  la ≤ 5040 ∧ k ≤ la ∧ (∀ m, m < 5040 → iv m = 0 ∨ iv m = 1) ∧ (∀ j, j < la → ∃ m, m < fac n ∧ wv j = nI m ∧ iv m = 1 ∧ inG n ct (gC gn) (pe n m)) ∧
  (∀ i j, i < la → j < la → wv i = wv j → i = j) ∧ (∀ m, m < 5040 → iv m = 1 → ∃ j, j < la ∧ wv j = nI m) ∧ iv 0 = 1 ∧
  ∀ j t, j < k → t < ct → iv (nu n (tm n (pe n (tn (wv j))) (tn (gn t)))) = 1
def BJ (n ct : Nat) (gn : Nat → Int32) (k t Pp : Nat) (iv wv : Nat → Int32) (la : Nat) : Prop :=
  BI n ct gn k iv wv la ∧ k < la ∧ Pp = pe n (tn (wv k)) ∧ ∀ q, q < t → iv (nu n (tm n Pp (tn (gn q)))) = 1
section BFS
variable {n ct : Nat} {gn : Nat → Int32}
theorem BI_wv {k la j : Nat} {iv wv : Nat → Int32} (h7 : n ≤ 7) (h : BI n ct gn k iv wv la) (hj : j < la) : tn (wv j) < fac n ∧ inG n ct (gC gn) (pe n (tn (wv j))) ∧ iv (tn (wv j)) = 1 := by
  obtain ⟨m, h1, h2, h3, h4⟩ := h.2.2.2.1 j hj
  have := fac_le h7
  rw [h2, tn_nI (by omega)]
  exact ⟨h1, h4, h3⟩
theorem BI_0 (h1 : 1 ≤ n) (h7 : n ≤ 7) {iv wv : Nat → Int32} (hz : ∀ j, j < 5040 → iv j = 0) : BI n ct gn 0 (upd iv 0 (nI 1)) (upd wv 0 (nI 0)) 1 := by
  have hid := nu_id h1 h7
  refine ⟨by omega, by omega, fun m hm => ?_, fun j hj => ⟨0, (fac_bd n h7).1, by rw [show j = 0 by omega]; exact pk_us, pk_us, by rw [hid.2]; exact inG_id⟩, fun i j hi hj _ => by omega, fun m hm e => ?_, pk_us, fun j t hj => by omega⟩
  · by_cases c : m = 0
    · rw [c]; exact Or.inr pk_us
    · rw [pk_un c]; exact Or.inl (hz m hm)
  · by_cases c : m = 0
    · rw [c]; exact ⟨0, by omega, pk_us⟩
    · rw [pk_un c, hz m hm] at e
      exact absurd e (by decide)
theorem BJ_in {k la : Nat} {iv wv : Nat → Int32} (h : BI n ct gn k iv wv la) (hk : k < la) : BJ n ct gn k 0 (pe n (tn (wv k))) iv wv la :=
  ⟨h, hk, rfl, fun q hq => absurd hq (Nat.not_lt_zero _)⟩
theorem BJ_out {k la Pp : Nat} {iv wv : Nat → Int32} (h : BJ n ct gn k ct Pp iv wv la) : BI n ct gn (k + 1) iv wv la := by
  obtain ⟨⟨b1, b2, b3, b4, b5, b6, b7, b8⟩, hk, hP, ht⟩ := h
  refine ⟨b1, by omega, b3, b4, b5, b6, b7, fun j t hj htt => ?_⟩
  by_cases c : j = k
  · rw [c, ← hP]; exact ht t htt
  · exact b8 j t (by omega) htt
theorem BJ_prod (h1 : 1 ≤ n) (h7 : n ≤ 7) (hg : ∀ j, j < ct → PM n (gC gn j)) {k t la Pp : Nat} {iv wv : Nat → Int32} (h : BJ n ct gn k t Pp iv wv la) (ht : t < ct) : PM n Pp ∧ PM n (tm n Pp (tn (gn t))) ∧ nu n (tm n Pp (tn (gn t))) < fac n ∧ inG n ct (gC gn) (tm n Pp (tn (gn t))) := by
  obtain ⟨a1, a2, -⟩ := BI_wv h7 h.1 h.2.1
  have hG : inG n ct (gC gn) Pp := by rw [h.2.2.1]; exact a2
  have hG2 : inG n ct (gC gn) (tm n Pp (gC gn t)) := inG_mg hG ht
  have hPM := inG_PM h7 hg hG2
  exact ⟨inG_PM h7 hg hG, hPM, nu_lt h1 h7 hPM, hG2⟩
theorem BJ_skip {k t la Pp : Nat} {iv wv : Nat → Int32} (h : BJ n ct gn k t Pp iv wv la) (hm : iv (nu n (tm n Pp (tn (gn t)))) = 1) : BJ n ct gn k (t + 1) Pp iv wv la :=
  ⟨h.1, h.2.1, h.2.2.1, fun q hq => by
    by_cases c : q = t
    · rw [c]; exact hm
    · exact h.2.2.2 q (by omega)⟩
theorem BI_room (h7 : n ≤ 7) {k la m : Nat} {iv wv : Nat → Int32} (h : BI n ct gn k iv wv la) (hm : m < fac n) (hi : iv m = 0) : la < 5040 := by
  have hf := fac_le h7
  have hnd : (m :: (List.range la).map (fun j => tn (wv j))).Nodup := by
    refine List.nodup_cons.mpr ⟨fun hq => ?_, List.pairwise_map.mpr (List.Pairwise.imp_of_mem ?_ List.pairwise_lt_range)⟩
    · obtain ⟨j, hj, e⟩ := List.mem_map.mp hq
      have := (BI_wv h7 h (List.mem_range.mp hj)).2.2
      rw [e, hi] at this
      exact absurd this (by decide)
    · intro a b ha hb hab e
      have := h.2.2.2.2.1 a b (List.mem_range.mp ha) (List.mem_range.mp hb) (by rw [← nI_tn (wv a), ← nI_tn (wv b), e])
      omega
  have hsub : (m :: (List.range la).map (fun j => tn (wv j))) ⊆ List.range 5040 := by
    intro z hz
    rcases List.mem_cons.mp hz with rfl | hz
    · exact List.mem_range.mpr (by omega)
    · obtain ⟨j, hj, rfl⟩ := List.mem_map.mp hz
      have := (BI_wv h7 h (List.mem_range.mp hj)).1
      exact List.mem_range.mpr (by omega)
  have := List.Nodup.length_le_of_subset hnd hsub
  rw [List.length_cons, List.length_map, List.length_range, List.length_range] at this
  omega
theorem BJ_push (h1 : 1 ≤ n) (h7 : n ≤ 7) (hg : ∀ j, j < ct → PM n (gC gn j)) {k t la Pp m : Nat} {iv wv : Nat → Int32} (h : BJ n ct gn k t Pp iv wv la) (ht : t < ct) (em : m = nu n (tm n Pp (tn (gn t)))) (hi : iv m = 0) : BJ n ct gn k (t + 1) Pp (upd iv m (nI 1)) (upd wv la (nI m)) (la + 1) := by
  obtain ⟨p1, p2, p3, p4⟩ := BJ_prod h1 h7 hg h ht
  rw [← em] at p3
  have hroom := BI_room h7 h.1 p3 hi
  have hf := fac_le h7
  obtain ⟨⟨b1, b2, b3, b4, b5, b6, b7, b8⟩, hk, hP, hq⟩ := h
  have keep : ∀ z, iv z = 1 → upd iv m (nI 1) z = 1 := fun z hz => by
    by_cases c : z = m
    · rw [c]; exact pk_us
    · rw [pk_un c]; exact hz
  have hwk : ∀ j, j < la → upd wv la (nI m) j = wv j := fun j hj => pk_un (by omega)
  refine ⟨⟨by omega, by omega, fun z hz => ?_, fun j hj => ?_, fun i j hi2 hj e => ?_, fun z hz e => ?_, keep 0 b7, fun j t' hj ht' => ?_⟩, by omega, by rw [hwk k hk]; exact hP, fun q hq2 => ?_⟩
  · by_cases c : z = m
    · rw [c]; exact Or.inr pk_us
    · rw [pk_un c]; exact b3 z hz
  · by_cases c : j = la
    · refine ⟨m, p3, by rw [c]; exact pk_us, pk_us, ?_⟩
      rw [em, pe_nu h1 h7 p2]
      exact p4
    · obtain ⟨z, a1, a2, a3, a4⟩ := b4 j (by omega)
      exact ⟨z, a1, by rw [pk_un c]; exact a2, keep z a3, a4⟩
  · have nw : ∀ j, j < la → wv j ≠ nI m := fun j hj e => by
      obtain ⟨z, a1, a2, a3, -⟩ := b4 j hj
      have : z = m := nI_inj32 (by omega) (by omega) (a2.symm.trans e)
      rw [this, hi] at a3
      exact absurd a3 (by decide)
    by_cases ci : i = la <;> by_cases cj : j = la
    · omega
    · rw [ci, pk_us, pk_un cj] at e
      exact absurd e.symm (nw j (by omega))
    · rw [cj, pk_us, pk_un ci] at e
      exact absurd e (nw i (by omega))
    · rw [pk_un ci, pk_un cj] at e
      exact b5 i j (by omega) (by omega) e
  · by_cases c : z = m
    · exact ⟨la, by omega, by rw [c]; exact pk_us⟩
    · rw [pk_un c] at e
      obtain ⟨j, a1, a2⟩ := b6 z hz e
      exact ⟨j, by omega, by rw [hwk j a1]; exact a2⟩
  · rw [hwk j (by omega)]
    exact keep _ (b8 j t' hj ht')
  · by_cases c : q = t
    · rw [c, ← em]; exact pk_us
    · exact keep _ (hq q (by omega))
theorem BI_end (h1 : 1 ≤ n) (h7 : n ≤ 7) (hg : ∀ j, j < ct → PM n (gC gn j)) {k la : Nat} {iv wv : Nat → Int32} (h : BI n ct gn k iv wv la) (hk : la ≤ k) : FP n ct gn iv := by
  have hf := fac_le h7
  obtain ⟨b1, b2, b3, b4, b5, b6, b7, b8⟩ := h
  refine ⟨b3, fun m hm => ⟨fun e => ?_, fun ⟨e1, e2⟩ => ?_⟩⟩
  · obtain ⟨j, a1, a2⟩ := b6 m hm e
    obtain ⟨z, c1, c2, -, c4⟩ := b4 j a1
    have : z = m := nI_inj32 (by omega) (by omega) (c2.symm.trans a2)
    rw [this] at c1 c4
    exact ⟨c1, c4⟩
  · have key : ∀ P, inG n ct (gC gn) P → PM n P ∧ iv (nu n P) = 1 := fun P hP => inG_min (S := fun P => PM n P ∧ iv (nu n P) = 1) ⟨PM_id h7, by rw [(nu_id h1 h7).1]; exact b7⟩ (fun P j hPs hj => by
      refine ⟨PM_tm hPs.1 (hg j hj), ?_⟩
      have hlt := nu_lt h1 h7 hPs.1
      obtain ⟨i, a1, a2⟩ := b6 (nu n P) (by omega) hPs.2
      have := b8 i j (by omega) hj
      rw [a2, tn_nI (by omega), pe_nu h1 h7 hPs.1] at this
      exact this) hP
    have := (key _ e2).2
    rw [nu_pe h1 h7 e1] at this
    exact this
end BFS
