/-! ===== both sides' states agree ===== -/
theorem rsF_cg {n : Nat} {f f' : Nat → Int32} (hn : n ≤ 7) (hf : ∀ j, j < 56 → f' j = f j) : ∀ k lv r, lv + k = n → rsF f' n k lv r = rsF f n k lv r
  | 0, _, _, _ => rfl
  | k + 1, lv, r, hk => by
      have e := hf (lv * 8 + im r lv) (by have := im_lt r lv; omega)
      show (if im r lv = lv then rsF f' n k (lv + 1) r else if f' (lv * 8 + im r lv) = -1 then r else rsF f' n k (lv + 1) (tm n r (bk n (tn (f' (lv * 8 + im r lv)))))) = (if im r lv = lv then rsF f n k (lv + 1) r else if f (lv * 8 + im r lv) = -1 then r else rsF f n k (lv + 1) (tm n r (bk n (tn (f (lv * 8 + im r lv))))))
      rw [e, rsF_cg hn hf k (lv + 1) r (by omega), rsF_cg hn hf k (lv + 1) _ (by omega)]
theorem VC_cg {n : Nat} {f f' : Nat → Int32} {G : Nat → Prop} (hn : n ≤ 7) (hf : ∀ j, j < 56 → f' j = f j) (h : VC n f G) : VC n f' G := by
  refine ⟨⟨fun lv hl => ?_, fun lv x hl hx hE => ?_⟩, fun P hP => ?_⟩
  · have := h.1.1 lv hl
    unfold EN en at this ⊢
    rw [hf _ (by omega)]
    exact this
  · unfold EN at hE
    rw [hf _ (by omega)] at hE
    have := h.1.2 lv x hl hx hE
    unfold en at this ⊢
    rw [hf _ (by omega)]
    exact this
  · unfold rs
    rw [rsF_cg hn hf n 0 P (by omega)]
    exact h.2 P hP
theorem VC_G {n : Nat} {f : Nat → Int32} {G G' : Nat → Prop} (hG : ∀ P, G P ↔ G' P) (h : VC n f G) : VC n f G' := ⟨CW_mono h.1 (fun P q => (hG P).mp q), fun P q => h.2 P ((hG P).mpr q)⟩
def SR (n id ct : Nat) (ad gn : Nat → Int32) (R : Nat → Nat → Int32) : Prop :=
  1 ≤ n ∧ n ≤ 7 ∧ ct ≤ 12 ∧ id = idn n ∧ (∀ j, j < ct → ad j = gn j) ∧ (∀ j, j < ct → PM n (gC gn j)) ∧ ∀ k, k ≤ ct → VC n (R k) (inG n k (gC gn))
section SRS
variable {n id ct : Nat} {ad gn : Nat → Int32} {R : Nat → Nat → Int32}
theorem SR_points {nn : Nat} {R' : Nat → Nat → Int32} (h1 : 1 ≤ nn) (h7 : nn ≤ 7) (hf : ∀ j, j < 56 → R' 0 j = bgR nn j) : SR nn (idn nn) 0 ad gn R' :=
  ⟨h1, h7, by omega, rfl, fun j hj => absurd hj (Nat.not_lt_zero _), fun j hj => absurd hj (Nat.not_lt_zero _), fun k hk => by rw [show k = 0 by omega]; exact VC_begin h7 hf _⟩
theorem SR_drop (h : SR n id ct ad gn R) : SR n id (ct - 1) ad gn R := by
  obtain ⟨a1, a2, a3, a4, a5, a6, a7⟩ := h
  exact ⟨a1, a2, by omega, a4, fun j hj => a5 j (by omega), fun j hj => a6 j (by omega), fun k hk => a7 k (by omega)⟩
theorem SR_add (h : SR n id ct ad gn R) {P : Nat} (hp : P < 2 ^ 32) (hP : isP n P = true) (hc : ct < 12) (fl : Nat → Int32) : SR n id (ct + 1) (upd ad ct (nI P)) (upd gn ct (nI P)) (upR R (ct + 1) (exS n P (va_cpy (R ct) (R (ct + 1)) 0 0 56) fl).1) := by
  obtain ⟨a1, a2, a3, a4, a5, a6, a7⟩ := h
  have hg : ∀ j, j ≠ ct → gC (upd gn ct (nI P)) j = gC gn j := fun j hj => by unfold gC; rw [pk_un hj]
  have hg2 : gC (upd gn ct (nI P)) ct = P := by unfold gC; rw [pk_us, tn_nI hp]
  refine ⟨a1, a2, by omega, a4, fun j hj => ?_, fun j hj => ?_, fun k hk => ?_⟩
  · by_cases e : j = ct
    · rw [e, pk_us, pk_us]
    · rw [pk_un e, pk_un e]; exact a5 j (by omega)
  · by_cases e : j = ct
    · rw [e, hg2]; exact isP_PM.mp hP
    · rw [hg j e]; exact a6 j (by omega)
  · by_cases e : k = ct + 1
    · subst e
      rw [upR_s]
      have hV : VC n (va_cpy (R ct) (R (ct + 1)) 0 0 56) (inG n ct (gC gn)) := VC_cg a2 (fun j hj => by rw [pk_cpy_in (by omega) (by omega)]; show R ct (0 + (j - 0)) = R ct j; congr 1; omega) (a7 ct (Nat.le_refl _))
      refine VC_G (fun Q => inG_congr (fun j hj => ?_)) (ex_VC (fl := fl) a2 a6 (isP_PM.mp hP) hV)
      by_cases c : j = ct
      · rw [if_pos c, c, hg2]
      · rw [if_neg c, hg j c]
    · rw [upR_n R _ e]
      exact VC_G (fun Q => inG_congr (fun j hj => (hg j (by omega)).symm)) (a7 k (by omega))
theorem SR_gC (h : SR n id ct ad gn R) : ∀ j, j < ct → gC ad j = gC gn j := fun j hj => by unfold gC; rw [h.2.2.2.2.1 j hj]
end SRS
/-! ===== cells apart ===== -/
theorem kp {D : va_G} {w w0 : va_W} {H H1 : Heap} (hP : va_P D vwCl w H) (hk : ∀ q : Nat, q < H.size → ¬ inW w0 q → H1[q]? = H[q]?) (hap : ∀ q, inW w q → inW w0 q → False) : va_P D vwCl w H1 :=
  hP.kept (fun k q hq => hk q.1 ((hP k q hq).lt) (fun h0 => hap q.1 ⟨k, q.2, hq⟩ h0))
def gAd (h a g f : Nat) (ra : Nat → Nat) (q : Nat) : Prop := q = h ∨ q = a ∨ q = g ∨ q = f ∨ ∃ i, i < 13 ∧ q = ra i
def mAd (h fa ge inn wa q : Nat) : Prop := q = h ∨ q = fa ∨ q = ge ∨ q = inn ∨ q = wa
theorem gAd_of {cI cG : ClassId} {h a g f : Nat} {ra : Nat → Nat} {n id ct fc : Int32} {ad fl : Nat → Int32} {R : Nat → Nat → Int32} {q : Nat} (hq : inW (gW cI cG h a g f ra n id ct fc ad fl R) q) : gAd h a g f ra q := by
  obtain ⟨k, e, hk⟩ := hq
  match k, hk with
  | 0, hk => cases hk; exact Or.inl rfl
  | 1, hk => cases hk; exact Or.inr (Or.inl rfl)
  | 2, hk => cases hk; exact Or.inr (Or.inr (Or.inl rfl))
  | 3, hk => cases hk; exact Or.inr (Or.inr (Or.inr (Or.inl rfl)))
  | k + 4, hk =>
    have hk : ((List.range 13).map (fun i => ((ra i, .inl (cI, 56, .inl (R i))) : Nat × va_E)))[k]? = some (q, e) := hk
    rw [List.getElem?_map] at hk
    cases hj : (List.range 13)[k]? with
    | none => rw [hj] at hk; cases hk
    | some z =>
      rw [hj] at hk
      cases hk
      exact Or.inr (Or.inr (Or.inr (Or.inr ⟨z, List.mem_range.mp (List.mem_of_getElem? hj), rfl⟩)))
theorem mAd_of {cI cZ : ClassId} {h fa ge inn wa : Nat} {ct n th : Int32} {gn iv wv : Nat → Int32} {q : Nat} (hq : inW (mW cI cZ h fa ge inn wa ct n th gn iv wv) q) : mAd h fa ge inn wa q := by
  obtain ⟨k, e, hk⟩ := hq
  match k, hk with
  | 0, hk => cases hk; exact Or.inl rfl
  | 1, hk => cases hk; exact Or.inr (Or.inl rfl)
  | 2, hk => cases hk; exact Or.inr (Or.inr (Or.inl rfl))
  | 3, hk => cases hk; exact Or.inr (Or.inr (Or.inr (Or.inl rfl)))
  | 4, hk => cases hk; exact Or.inr (Or.inr (Or.inr (Or.inr rfl)))
  | k + 5, hk => simp [mW] at hk
theorem oAd_of {cL : ClassId} {o : Nat} {lf : Nat → Int64} {q : Nat} (hq : inW (oW cL o lf) q) : q = o := by
  obtain ⟨k, e, hk⟩ := hq
  match k, hk with
  | 0, hk => cases hk; rfl
  | k + 1, hk => simp [oW] at hk
