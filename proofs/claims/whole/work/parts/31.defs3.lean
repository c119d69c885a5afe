/-! ===== the reference's questions, loop by loop, over its table iv ===== -/
def elS (iv : Nat → Int32) : Nat → Nat → Nat → Nat
  | 0, m, _ => m
  | k + 1, m, l => if iv m = 0 then elS iv k (m + 1) l else if l = 0 then m else elS iv k (m + 1) (l - 1)
def leF (n : Nat) (iv : Nat → Int32) (P : Nat) : Nat → Nat → Nat → Nat
  | 0, _, be => be
  | j + 1, k, be => leF n iv P j (k + 1) (if iv k = 0 then be else if nu n (tm n (pe n k) P) < be then nu n (tm n (pe n k) P) else be)
def orF (n : Nat) (iv : Nat → Int32) (X : Nat) : Nat → Nat → Nat → Nat
  | 0, _, s => s
  | j + 1, k, s => orF n iv X j (k + 1) (if iv k = 0 then s else s ||| 1 * 2 ^ im (pe n k) X)
def fiI (P : Nat) : Nat → Nat → Bool → Bool
  | 0, _, b => b
  | j + 1, i, b => fiI P j (i + 1) (if im P i = i then b else false)
def fiF (n : Nat) (iv : Nat → Int32) (X : Nat) : Nat → Nat → Nat → Nat
  | 0, _, c => c
  | j + 1, k, c => fiF n iv X j (k + 1) (if iv k = 0 then c else if fiI (pe n k) X 0 true = true then c + 1 else c)
def erJ (P i : Nat) : Nat → Nat → Nat → Nat
  | 0, _, a => a
  | k + 1, j, a => erJ P i k (j + 1) (if im P j < im P i then a + 1 else a)
def erI (n P : Nat) : Nat → Nat → Nat → Nat
  | 0, _, a => a
  | k + 1, i, a => erI n P k (i + 1) (erJ P i (n - (i + 1)) (i + 1) a)
def erF (n : Nat) (iv : Nat → Int32) : Nat → Nat → Nat → Nat
  | 0, _, c => c
  | j + 1, k, c => erF n iv j (k + 1) (if iv k = 0 then c else if erI n (pe n k) n 0 0 % 2 = 0 then c + 1 else c)
section DF3
variable {n : Nat} {iv : Nat → Int32}
theorem elS_n {k m l : Nat} (c : iv m = 0) : elS iv (k + 1) m l = elS iv k (m + 1) l := if_pos c
theorem elS_h {k m l : Nat} (c : ¬ iv m = 0) (d : l = 0) : elS iv (k + 1) m l = m := (if_neg c).trans (if_pos d)
theorem elS_s {k m l : Nat} (c : ¬ iv m = 0) (d : ¬ l = 0) : elS iv (k + 1) m l = elS iv k (m + 1) (l - 1) := (if_neg c).trans (if_neg d)
theorem leF_n {P j k be : Nat} (c : iv k = 0) : leF n iv P (j + 1) k be = leF n iv P j (k + 1) be := by show leF n iv P j (k + 1) (if iv k = 0 then be else if nu n (tm n (pe n k) P) < be then nu n (tm n (pe n k) P) else be) = _; rw [if_pos c]
theorem leF_y {P j k be : Nat} (c : ¬ iv k = 0) (d : nu n (tm n (pe n k) P) < be) : leF n iv P (j + 1) k be = leF n iv P j (k + 1) (nu n (tm n (pe n k) P)) := by show leF n iv P j (k + 1) (if iv k = 0 then be else if nu n (tm n (pe n k) P) < be then nu n (tm n (pe n k) P) else be) = _; rw [if_neg c, if_pos d]
theorem leF_m {P j k be : Nat} (c : ¬ iv k = 0) (d : ¬ nu n (tm n (pe n k) P) < be) : leF n iv P (j + 1) k be = leF n iv P j (k + 1) be := by show leF n iv P j (k + 1) (if iv k = 0 then be else if nu n (tm n (pe n k) P) < be then nu n (tm n (pe n k) P) else be) = _; rw [if_neg c, if_neg d]
theorem orF_n {X j k s : Nat} (c : iv k = 0) : orF n iv X (j + 1) k s = orF n iv X j (k + 1) s := by show orF n iv X j (k + 1) (if iv k = 0 then s else s ||| 1 * 2 ^ im (pe n k) X) = _; rw [if_pos c]
theorem orF_y {X j k s : Nat} (c : ¬ iv k = 0) : orF n iv X (j + 1) k s = orF n iv X j (k + 1) (s ||| 1 * 2 ^ im (pe n k) X) := by show orF n iv X j (k + 1) (if iv k = 0 then s else s ||| 1 * 2 ^ im (pe n k) X) = _; rw [if_neg c]
theorem fiI_t {P j i : Nat} {b : Bool} (c : im P i = i) : fiI P (j + 1) i b = fiI P j (i + 1) b := by show fiI P j (i + 1) (if im P i = i then b else false) = _; rw [if_pos c]
theorem fiI_f {P j i : Nat} {b : Bool} (c : ¬ im P i = i) : fiI P (j + 1) i b = fiI P j (i + 1) false := by show fiI P j (i + 1) (if im P i = i then b else false) = _; rw [if_neg c]
theorem fiF_n {X j k c : Nat} (h : iv k = 0) : fiF n iv X (j + 1) k c = fiF n iv X j (k + 1) c := by show fiF n iv X j (k + 1) (if iv k = 0 then c else if fiI (pe n k) X 0 true = true then c + 1 else c) = _; rw [if_pos h]
theorem fiF_y {X j k c : Nat} (h : ¬ iv k = 0) (d : fiI (pe n k) X 0 true = true) : fiF n iv X (j + 1) k c = fiF n iv X j (k + 1) (c + 1) := by show fiF n iv X j (k + 1) (if iv k = 0 then c else if fiI (pe n k) X 0 true = true then c + 1 else c) = _; rw [if_neg h, if_pos d]
theorem fiF_m {X j k c : Nat} (h : ¬ iv k = 0) (d : fiI (pe n k) X 0 true = false) : fiF n iv X (j + 1) k c = fiF n iv X j (k + 1) c := by show fiF n iv X j (k + 1) (if iv k = 0 then c else if fiI (pe n k) X 0 true = true then c + 1 else c) = _; rw [if_neg h, if_neg (by rw [d]; decide)]
theorem erJ_t {P i k j a : Nat} (c : im P j < im P i) : erJ P i (k + 1) j a = erJ P i k (j + 1) (a + 1) := by show erJ P i k (j + 1) (if im P j < im P i then a + 1 else a) = _; rw [if_pos c]
theorem erJ_f {P i k j a : Nat} (c : ¬ im P j < im P i) : erJ P i (k + 1) j a = erJ P i k (j + 1) a := by show erJ P i k (j + 1) (if im P j < im P i then a + 1 else a) = _; rw [if_neg c]
theorem erF_n {j k c : Nat} (h : iv k = 0) : erF n iv (j + 1) k c = erF n iv j (k + 1) c := by show erF n iv j (k + 1) (if iv k = 0 then c else if erI n (pe n k) n 0 0 % 2 = 0 then c + 1 else c) = _; rw [if_pos h]
theorem erF_y {j k c : Nat} (h : ¬ iv k = 0) (d : erI n (pe n k) n 0 0 % 2 = 0) : erF n iv (j + 1) k c = erF n iv j (k + 1) (c + 1) := by show erF n iv j (k + 1) (if iv k = 0 then c else if erI n (pe n k) n 0 0 % 2 = 0 then c + 1 else c) = _; rw [if_neg h, if_pos d]
theorem erF_m {j k c : Nat} (h : ¬ iv k = 0) (d : ¬ erI n (pe n k) n 0 0 % 2 = 0) : erF n iv (j + 1) k c = erF n iv j (k + 1) c := by show erF n iv j (k + 1) (if iv k = 0 then c else if erI n (pe n k) n 0 0 % 2 = 0 then c + 1 else c) = _; rw [if_neg h, if_neg d]
theorem elS_le : ∀ k m l, elS iv k m l ≤ m + k
  | 0, _, _ => Nat.le_refl _
  | k + 1, m, l => by
      by_cases c : iv m = 0
      · rw [elS_n c]; have := elS_le k (m + 1) l; omega
      · by_cases d : l = 0
        · rw [elS_h c d]; omega
        · rw [elS_s c d]; have := elS_le k (m + 1) (l - 1); omega
end DF3
theorem erJ_le (P i : Nat) : ∀ k j a, erJ P i k j a ≤ a + k
  | 0, _, _ => Nat.le_refl _
  | k + 1, j, a => by
      by_cases c : im P j < im P i
      · rw [erJ_t c]; have := erJ_le P i k (j + 1) (a + 1); omega
      · rw [erJ_f c]; have := erJ_le P i k (j + 1) a; omega
