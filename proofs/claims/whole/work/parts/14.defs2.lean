/-! ===== the class's writing methods: what they make of (row, filled, filledCount) ===== -/
def upR (R : Nat → Nat → Int32) (i : Nat) (r : Nat → Int32) : Nat → Nat → Int32 := fun j => if j = i then r else R j
theorem upR_s (R : Nat → Nat → Int32) (i : Nat) (r : Nat → Int32) : upR R i r i = r := if_pos rfl
theorem upR_n (R : Nat → Nat → Int32) {i j : Nat} (r : Nat → Int32) (h : j ≠ i) : upR R i r j = R j := if_neg h
theorem upR_u (R : Nat → Nat → Int32) (i : Nat) (r r2 : Nat → Int32) : upR (upR R i r) i r2 = upR R i r2 := by
  funext j
  by_cases h : j = i
  · simp [upR, h]
  · simp [upR, h]
theorem upR_id (R : Nat → Nat → Int32) (i : Nat) : upR R i (R i) = R := by
  funext j
  by_cases h : j = i
  · rw [h]; exact upR_s _ _ _
  · exact upR_n _ _ h
abbrev CS : Type := (Nat → Int32) × (Nat → Int32) × Nat
def ntS (s : Nat) (u : CS) : CS := if u.2.2 < 21 then (u.1, upd u.2.1 u.2.2 (nI s), u.2.2 + 1) else u
def lfI (lv : Nat) : Nat → Nat → CS → CS
  | 0, _, u => u
  | k + 1, x, u => lfI lv k (x + 1) (if u.1 (lv * 8 + x) = -1 then u else ntS (lv * 8 + x) u)
def lfF (n : Nat) : Nat → Nat → CS → CS
  | 0, _, u => u
  | k + 1, lv, u => lfF n k (lv + 1) (lfI lv (n - (lv + 1)) (lv + 1) u)
def enL (r : Nat) : Nat → Nat → CS → CS
  | 0, _, u => u
  | k + 1, lv, u => if im r lv = lv then enL r k (lv + 1) u else ntS (lv * 8 + im r lv) (upd u.1 (lv * 8 + im r lv) (nI r), u.2.1, u.2.2)
def enS (n P : Nat) (u : CS) : CS := enL (rs u.1 n P) n 0 u
def epS (n s o : Nat) (u : CS) : CS := if s / 8 ≤ o / 8 then enS n (tm n (tn (u.1 s)) (tn (u.1 o))) u else u
def exT (n a b : Nat) (u : CS) : CS := epS n (tn (u.2.1 a)) (tn (u.2.1 b)) u
def exI (n a : Nat) : Nat → Nat → CS → CS
  | 0, _, u => u
  | k + 1, b, u => exI n a k (b + 1) (exT n b a (exT n a b u))
def exF (n : Nat) : Nat → Nat → CS → CS
  | 0, _, u => u
  | k + 1, a, u => if u.2.2 ≤ a ∨ n * (n - 1) / 2 ≤ u.2.2 then u else exF n k (a + 1) (exI n a (a + 1) 0 u)
def exS (n P : Nat) (r fl : Nat → Int32) : CS := exF n (21 - (lfF n n 0 (r, fl, 0)).2.2) (lfF n n 0 (r, fl, 0)).2.2 (enS n P (lfF n n 0 (r, fl, 0)))
/-- the noted slots are slots -/
def sOK (u : CS) : Prop := u.2.2 ≤ 21 ∧ ∀ j, j < u.2.2 → ∃ s, s < 56 ∧ u.2.1 j = nI s
theorem sOK_nt {s : Nat} {u : CS} (hs : s < 56) (h : sOK u) : sOK (ntS s u) := by
  unfold ntS
  by_cases c : u.2.2 < 21
  · rw [if_pos c]
    refine ⟨by show u.2.2 + 1 ≤ 21; omega, fun j hj => ?_⟩
    by_cases e : j = u.2.2
    · exact ⟨s, hs, by show upd u.2.1 u.2.2 (nI s) j = _; rw [e]; exact pk_us⟩
    · obtain ⟨z, h1, h2⟩ := h.2 j (by have : j < u.2.2 + 1 := hj; omega)
      exact ⟨z, h1, by show upd u.2.1 u.2.2 (nI s) j = _; rw [pk_un e]; exact h2⟩
  · rw [if_neg c]; exact h
theorem sOK_row {f g fl : Nat → Int32} {c : Nat} (h : sOK (f, fl, c)) : sOK (g, fl, c) := h
theorem ntS_le (s : Nat) (u : CS) : u.2.2 ≤ (ntS s u).2.2 := by
  unfold ntS
  by_cases c : u.2.2 < 21
  · rw [if_pos c]; exact Nat.le_succ _
  · rw [if_neg c]; exact Nat.le_refl _
theorem sOK_en (r : Nat) : ∀ k lv u, lv + k ≤ 7 → sOK u → sOK (enL r k lv u)
  | 0, _, _, _, h => h
  | k + 1, lv, u, hk, h => by
      show sOK (if im r lv = lv then enL r k (lv + 1) u else ntS (lv * 8 + im r lv) (upd u.1 (lv * 8 + im r lv) (nI r), u.2.1, u.2.2))
      split
      · exact sOK_en r k (lv + 1) u (by omega) h
      · exact sOK_nt (by have := im_lt r lv; omega) (sOK_row h)
theorem enL_le (r : Nat) : ∀ k lv u, u.2.2 ≤ (enL r k lv u).2.2
  | 0, _, _ => Nat.le_refl _
  | k + 1, lv, u => by
      show u.2.2 ≤ (if im r lv = lv then enL r k (lv + 1) u else ntS (lv * 8 + im r lv) (upd u.1 (lv * 8 + im r lv) (nI r), u.2.1, u.2.2)).2.2
      split
      · exact enL_le r k (lv + 1) u
      · exact ntS_le _ (upd u.1 (lv * 8 + im r lv) (nI r), u.2.1, u.2.2)
theorem sOK_ep {n s o : Nat} {u : CS} (hn : n ≤ 7) (h : sOK u) : sOK (epS n s o u) := by
  unfold epS
  split
  · exact sOK_en _ n 0 u (by omega) h
  · exact h
theorem epS_le (n s o : Nat) (u : CS) : u.2.2 ≤ (epS n s o u).2.2 := by
  unfold epS
  split
  · exact enL_le _ n 0 u
  · exact Nat.le_refl _
theorem sOK_lfI {lv : Nat} (hlv : lv < 7) : ∀ k x u, x + k ≤ 8 → sOK u → sOK (lfI lv k x u)
  | 0, _, _, _, h => h
  | k + 1, x, u, hk, h => by
      show sOK (lfI lv k (x + 1) (if u.1 (lv * 8 + x) = -1 then u else ntS (lv * 8 + x) u))
      refine sOK_lfI hlv k (x + 1) _ (by omega) ?_
      split
      · exact h
      · exact sOK_nt (by omega) h
theorem sOK_lf {n : Nat} (hn : n ≤ 7) : ∀ k lv u, lv + k = n → sOK u → sOK (lfF n k lv u)
  | 0, _, _, _, h => h
  | k + 1, lv, u, hk, h => sOK_lf hn k (lv + 1) _ (by omega) (sOK_lfI (by omega) _ _ _ (by omega) h)
theorem sOK_0 (r fl : Nat → Int32) : sOK (r, fl, 0) := ⟨Nat.zero_le _, fun j hj => absurd hj (Nat.not_lt_zero _)⟩
theorem gW_set {cI cG : ClassId} {h a g f : Nat} {ra : Nat → Nat} {n id ct fc : Int32} {ad fl : Nat → Int32} {R : Nat → Nat → Int32} {i : Nat} {r : Nat → Int32} (hi : i < 13) : (gW cI cG h a g f ra n id ct fc ad fl R).set (i + 4) (ra i, .inl (cI, 56, .inl r)) = gW cI cG h a g f ra n id ct fc ad fl (upR R i r) := by
  have key : ((List.range 13).map (fun i => ((ra i, .inl (cI, 56, .inl (R i))) : Nat × va_E))).set i (ra i, .inl (cI, 56, .inl r)) = (List.range 13).map (fun j => ((ra j, .inl (cI, 56, .inl (upR R i r j))) : Nat × va_E)) := by
    apply List.ext_getElem?
    intro j
    rw [List.getElem?_set]
    by_cases e : i = j
    · subst e
      rw [if_pos rfl, if_pos (by simpa using hi), List.getElem?_map, List.getElem?_range hi]
      show _ = some (ra i, Sum.inl (cI, 56, Sum.inl (upR R i r i)))
      rw [upR_s]
    · rw [if_neg e, List.getElem?_map, List.getElem?_map]
      cases hj : (List.range 13)[j]? with
      | none => rfl
      | some z =>
        have hz : z = j := by
          have := List.getElem?_eq_some_iff.mp hj
          obtain ⟨h1, h2⟩ := this
          rw [List.getElem_range] at h2
          exact h2.symm
        subst hz
        show some (ra z, Sum.inl (cI, 56, Sum.inl (R z))) = some (ra z, Sum.inl (cI, 56, Sum.inl (upR R i r z)))
        rw [upR_n R r (fun q => e q.symm)]
  exact congrArg (fun t => (h, Sum.inr (0, [.int n, .int id, .int ct, .ref a, .ref g, .ref f, .int fc])) :: (a, Sum.inl (cI, 12, Sum.inl ad)) :: (g, Sum.inl (cG, 13, Sum.inr (Sum.inr (Sum.inr (Sum.inr (fun i => if i < 13 then some (ra i) else none)))))) :: (f, Sum.inl (cI, 21, Sum.inl fl)) :: t) key
theorem gW_addr {A : Nat → Prop} {cI cG : ClassId} {h a g f : Nat} {ra : Nat → Nat} {n id ct fc n2 id2 ct2 fc2 : Int32} {ad fl ad2 fl2 : Nat → Int32} {R R2 : Nat → Nat → Int32} (hD : va_D A (gW cI cG h a g f ra n id ct fc ad fl R)) : va_D A (gW cI cG h a g f ra n2 id2 ct2 fc2 ad2 fl2 R2) := va_D_addr (by simp [gW, List.map_map, Function.comp_def]) hD
theorem mW_addr {A : Nat → Prop} {cI cZ : ClassId} {h fa ge inn wa : Nat} {ct n th ct2 n2 th2 : Int32} {gn iv wv gn2 iv2 wv2 : Nat → Int32} (hD : va_D A (mW cI cZ h fa ge inn wa ct n th gn iv wv)) : va_D A (mW cI cZ h fa ge inn wa ct2 n2 th2 gn2 iv2 wv2) := va_D_addr (by simp [mW]) hD
section GRS
variable {p : Program} {l : Launch} {e : Env} {rm : Room} {s : State} {m : MethodId} {args : Array Value} {below : List Frame} {meth : Method} {c : Code} {H H0 : Heap} {locs : List Loc} {cells slots : Nat} {Q : State → Prop} {cc : ByteArray} {pc : Nat} {ls : Array Slot} {rest : List Value} {A : Nat → Prop}
variable {D : va_G} {cI cG cZ : ClassId} {h a g f : Nat} {ra : Nat → Nat} {n id ct fc : Int32} {ad fl : Nat → Int32} {R : Nat → Nat → Int32}
/-- a store into row i -/
theorem ua_row (hx : p.tables.exec = Jvm.exec) (hb : c.code = cc) (hK : va_K D vwCl (gT cI cG cZ) s) (hP : va_P D vwCl (gW cI cG h a g f ra n id ct fc ad fl R) H) (hD : va_D A (gW cI cG h a g f ra n id ct fc ad fl R)) (hS : va_S A H0 H locs) {i j : Nat} {x : Int32} (hi : i < 13) (hj : j < 56) (hdg : decode cc pc = .ok (.iastore, 1))
    (kk : ∀ (H1 : Heap) (locs1 : List Loc), va_P D vwCl (gW cI cG h a g f ra n id ct fc ad fl (upR R i (upd (R i) j x))) H1 → va_D A (gW cI cG h a g f ra n id ct fc ad fl (upR R i (upd (R i) j x))) → va_S A H0 H1 locs1 → W p l e rm s m args below meth c H1 locs1 cells slots Q (F0 m (pc + 1) ls rest)) : W p l e rm s m args below meth c H locs cells slots Q (F0 m pc ls (.int x :: .int (nI j) :: .ref (ra i) :: rest)) := by
  refine ua_iast hx hb hK hP hD hS (i + 4) 0 (gW_row hi) rfl hj (by decide) hdg (fun H1 locs1 hP1 hD1 hS1 => ?_)
  rw [gW_set hi] at hP1 hD1
  exact kk H1 locs1 hP1 hD1 hS1
end GRS
theorem ntS_1 (s : Nat) (u : CS) : (ntS s u).1 = u.1 := by
  unfold ntS
  split <;> rfl
theorem lfI_n {lv k x : Nat} {u : CS} (c : u.1 (lv * 8 + x) = -1) : lfI lv (k + 1) x u = lfI lv k (x + 1) u := by show lfI lv k (x + 1) (if u.1 (lv * 8 + x) = -1 then u else ntS (lv * 8 + x) u) = _; rw [if_pos c]
theorem lfI_y {lv k x : Nat} {u : CS} (c : ¬ u.1 (lv * 8 + x) = -1) : lfI lv (k + 1) x u = lfI lv k (x + 1) (ntS (lv * 8 + x) u) := by show lfI lv k (x + 1) (if u.1 (lv * 8 + x) = -1 then u else ntS (lv * 8 + x) u) = _; rw [if_neg c]
theorem sl_lt {u : CS} {i : Nat} (h : sOK u) (hi : i < u.2.2) : tn (u.2.1 i) < 56 := by
  obtain ⟨z, h1, h2⟩ := h.2 i hi
  rw [h2, tn_nI (by omega)]
  exact h1
def bgR (n j : Nat) : Int32 := if j / 8 < n ∧ j % 8 = j / 8 then nI (idn n) else -1
