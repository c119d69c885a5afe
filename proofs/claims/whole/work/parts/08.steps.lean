/-! ===== one step of each loop; booleans; places ===== -/
theorem b01_z {b : Bool} : b01 b = 0 ↔ b = false := by cases b <;> simp [b01]
theorem b01_f {b : Bool} (h : b01 b = 0) : b = false := b01_z.mp h
theorem b01_t {b : Bool} (h : ¬ b01 b = 0) : b = true := by cases b <;> simp [b01] at h ⊢
theorem nb_ix {x : Int32} {n : Nat} (h1 : ¬ x < 0) (h2 : x < nI n) (hn : n < 2 ^ 31) : ∃ X, X < n ∧ x = nI X := by
  obtain ⟨X, hX, rfl⟩ := nI_of h1
  exact ⟨X, (nI_ltI hX hn).mp h2, rfl⟩
theorem nb_ixle {x : Int32} {n : Nat} (h1 : ¬ x < 0) (h2 : x ≤ nI n) (hn : n < 2 ^ 31) : ∃ X, X ≤ n ∧ x = nI X := by
  obtain ⟨X, hX, rfl⟩ := nI_of h1
  exact ⟨X, (nI_leI hX hn).mp h2, rfl⟩
section STP
variable {f : Nat → Int32} {n : Nat}
theorem odI_t {P j k i a : Nat} (c : im P j < im P i) : odI P j (k + 1) i a = odI P j k (i + 1) (a + 1) := by show odI P j k (i + 1) (if im P j < im P i then a + 1 else a) = _; rw [if_pos c]
theorem odI_f {P j k i a : Nat} (c : ¬ im P j < im P i) : odI P j (k + 1) i a = odI P j k (i + 1) a := by show odI P j k (i + 1) (if im P j < im P i then a + 1 else a) = _; rw [if_neg c]
theorem imF_t {S P k i a : Nat} (c : S / 2 ^ i % 2 = 1) : imF S P (k + 1) i a = imF S P k (i + 1) (a ||| 1 * 2 ^ im P i) := by show imF S P k (i + 1) (if S / 2 ^ i % 2 = 1 then a ||| 1 * 2 ^ im P i else a) = _; rw [if_pos c]
theorem imF_f {S P k i a : Nat} (c : ¬ S / 2 ^ i % 2 = 1) : imF S P (k + 1) i a = imF S P k (i + 1) a := by show imF S P k (i + 1) (if S / 2 ^ i % 2 = 1 then a ||| 1 * 2 ^ im P i else a) = _; rw [if_neg c]
theorem cnF_n {lv k x a : Nat} (c : f (lv * 8 + x) = -1) : cnF f lv (k + 1) x a = cnF f lv k (x + 1) a := by show cnF f lv k (x + 1) (if f (lv * 8 + x) = -1 then a else a + 1) = _; rw [if_pos c]
theorem cnF_y {lv k x a : Nat} (c : ¬ f (lv * 8 + x) = -1) : cnF f lv (k + 1) x a = cnF f lv k (x + 1) (a + 1) := by show cnF f lv k (x + 1) (if f (lv * 8 + x) = -1 then a else a + 1) = _; rw [if_neg c]
theorem rsF_eq {k lv r : Nat} (c : im r lv = lv) : rsF f n (k + 1) lv r = rsF f n k (lv + 1) r := if_pos c
theorem rsF_no {k lv r : Nat} (c : ¬ im r lv = lv) (d : f (lv * 8 + im r lv) = -1) : rsF f n (k + 1) lv r = r := (if_neg c).trans (if_pos d)
theorem rsF_go {k lv r : Nat} (c : ¬ im r lv = lv) (d : ¬ f (lv * 8 + im r lv) = -1) : rsF f n (k + 1) lv r = rsF f n k (lv + 1) (tm n r (bk n (tn (f (lv * 8 + im r lv))))) := (if_neg c).trans (if_neg d)
theorem icI_none {lv al bb k y fo be : Nat} (c : f (lv * 8 + im bb y) = -1) : icI f n lv al bb (k + 1) y fo be = icI f n lv al bb k (y + 1) fo be := if_pos c
theorem icI_hit {lv al bb k y fo be : Nat} (c : ¬ f (lv * 8 + im bb y) = -1) (d : be < al) : icI f n lv al bb (k + 1) y fo be = (tm n (tn (f (lv * 8 + im bb y))) fo, be) := (if_neg c).trans (if_pos d)
theorem icI_sub {lv al bb k y fo be : Nat} (c : ¬ f (lv * 8 + im bb y) = -1) (d : ¬ be < al) : icI f n lv al bb (k + 1) y fo be = icI f n lv al bb k (y + 1) fo (be - al) := (if_neg c).trans (if_neg d)
theorem icF_step {j lv fo be x z : Nat} (h : icI f n lv (fx f n (lv + 1)) (bk n fo) n 0 fo be = (x, z)) : icF f n (j + 1) lv fo be = icF f n j (lv + 1) x z := by
  show icF f n j (lv + 1) (icI f n lv (fx f n (lv + 1)) (bk n fo) n 0 fo be).1 (icI f n lv (fx f n (lv + 1)) (bk n fo) n 0 fo be).2 = _
  rw [h]
theorem elF_n {lv fo lim k x a : Nat} (c : f (lv * 8 + x) = -1) : elF f lv fo lim (k + 1) x a = elF f lv fo lim k (x + 1) a := by show elF f lv fo lim k (x + 1) (if f (lv * 8 + x) = -1 then a else if im fo x < lim then a + 1 else a) = _; rw [if_pos c]
theorem elF_y {lv fo lim k x a : Nat} (c : ¬ f (lv * 8 + x) = -1) (d : im fo x < lim) : elF f lv fo lim (k + 1) x a = elF f lv fo lim k (x + 1) (a + 1) := by show elF f lv fo lim k (x + 1) (if f (lv * 8 + x) = -1 then a else if im fo x < lim then a + 1 else a) = _; rw [if_neg c, if_pos d]
theorem elF_m {lv fo lim k x a : Nat} (c : ¬ f (lv * 8 + x) = -1) (d : ¬ im fo x < lim) : elF f lv fo lim (k + 1) x a = elF f lv fo lim k (x + 1) a := by show elF f lv fo lim k (x + 1) (if f (lv * 8 + x) = -1 then a else if im fo x < lim then a + 1 else a) = _; rw [if_neg c, if_neg d]
end STP
def genI (ad : Nat → Int32) (ct : Nat) (k : Int32) : Int32 := if k < 0 then -1 else if k < nI ct then ad (tn k) else -1
def orbI (ad : Nat → Int32) (n ct : Nat) (x : Int32) : Int32 := if x < 0 then 0 else if x < nI n then nI (obF ad n ct n 0 (1 * 2 ^ tn x)) else 0
def fixI (f : Nat → Int32) (n : Nat) (k : Int32) : Int32 := if k < 0 then 0 else if k ≤ nI n then nI (fx f n (tn k)) else 0
theorem obI_lt (ad : Nat → Int32) (n : Nat) : ∀ j k r, r < 2 ^ 8 → obI ad n j k r < 2 ^ 8
  | 0, _, _, h => h
  | j + 1, k, r, h => obI_lt ad n j (k + 1) _ (Nat.or_lt_two_pow h (imF_lt _ _ _ _ _ (by decide)))
section GRW
variable {p : Program} {l : Launch} {e : Env} {rm : Room} {s : State} {m : MethodId} {args : Array Value} {below : List Frame} {meth : Method} {c : Code} {H : Heap} {locs : List Loc} {cells slots : Nat} {Q : State → Prop} {cc : ByteArray} {pc : Nat} {ls : Array Slot} {rest : List Value}
variable {D : va_G} {cI cG cZ : ClassId} {h a g f : Nat} {ra : Nat → Nat} {n id ct fc : Int32} {ad fl : Nat → Int32} {R : Nat → Nat → Int32}
/-- row i of the table of rows -/
theorem ga_row (hx : p.tables.exec = Jvm.exec) (hb : c.code = cc) (hK : va_K D vwCl (gT cI cG cZ) s) (hP : va_P D vwCl (gW cI cG h a g f ra n id ct fc ad fl R) H) {i : Nat} (hi : i < 13) (hdg : decode cc pc = .ok (.aaload, 1))
    (kk : W p l e rm s m args below meth c H locs cells slots Q (F0 m (pc + 1) ls (.ref (ra i) :: rest))) : W p l e rm s m args below meth c H locs cells slots Q (F0 m pc ls (.int (nI i) :: .ref g :: rest)) := by
  refine ga_ald hx hb hK hP 2 1 rfl rfl (vp_in_nI hi (by decide)) hdg ?_
  rw [nI_clamp (by omega), if_pos hi]
  exact kk
end GRW
theorem nb_eqI {a b : Nat} (ha : a < 2 ^ 32) (hb : b < 2 ^ 32) : nI a = nI b ↔ a = b := ⟨nI_inj32 ha hb, fun h => by rw [h]⟩
