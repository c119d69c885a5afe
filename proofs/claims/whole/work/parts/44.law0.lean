/-! ===== the law: its end, its surroundings ===== -/
def R_law : String := "PermGroupLaw"
def lw_P (b : Addr) (xs : List Int32) (args : Array Value) (s : State) : Prop := args = #[.ref b] ∧ s.IntsAt b xs ∧ xs.length ≤ 1536 ∧ (Jvm.Cond.and given_1 narrow_1).before args s = true
def lw_Q (_ : Array Value) (s : State) (o : Outcome) (t : State) : Prop := o = .returned (some (.int 1)) ∧ Framed s o t [] 601024 7293034
def lw_Z (below : List Frame) (a : Array Value) (s : State) : State → Prop := fun t => ∃ o, t.status = .running ∧ Ended t below o ∧ lw_Q a s o t
/-- the law's own end, with 1 on the stack, nothing written that was there before, its room as the claim has it -/
theorem lw_ret {p : Program} {l : Launch} {e : Env} {s : State} {m : MethodId} {below : List Frame} {meth : Method} {c : Code} {b : Nat} (hx : p.tables.exec = Jvm.exec) (hb : c.code = code) (hr : meth.sig.returnType = ret) (hlocks : meth.locks = false) {pc : Nat} {H : Heap} {ls : Array Slot} (hdg : decode code pc = .ok (.ireturn, 1)) : W p l e room_1 s m #[Value.ref b] below meth c H [] 601024 7293034 (lw_Z below #[Value.ref b] s) (F0 m pc ls [.int 1]) := by
  intro T hT X
  obtain ⟨fs, hret, hrun, hended, hW, hframe⟩ := X.leave (v := some (.int 1)) (hlocks := hlocks) (fun h => by rw [hr] at h; cases h)
  have hmeth' : T.vm.method? m = some meth := X.method'
  refine ⟨T.setFrames fs, ?_, .returned (some (.int 1)), hrun, hended, rfl, ⟨_, rfl⟩, hW, hframe⟩
  jvm_step X.here [X.here.top, hx, hb, hdg, hmeth', hr, ret, narrow_b1]
  (try refine ⟨rfl, ?_⟩); (try refine ⟨rfl, ?_⟩)
  first | (intro acts; rw [hret _ acts rfl rfl rfl]) | rw [hret _ _ rfl rfl rfl]
  exact Steps.refl _
/-- what holds at the law's entry: the machine, the code, the tables' words (any of lw_tbl by 'hts w (by decide +kernel)'), the script of L ints xs at the cell b, what the Statement gives of the start (any of its parts by flat_of_before) -/
def lw_At (p : Program) (s : State) (m : MethodId) (meth : Method) (c : Code) (b L : Nat) (xs : Nat → Int32) : Prop :=
  p.tables.exec = Jvm.exec ∧ c.code = code ∧ meth.sig.returnType = ret ∧ c.maxLocals = 7 ∧ s.vm.findClass R_law = some m.cls ∧ (∀ w ∈ lw_tbl, w.before #[Value.ref b] s = true) ∧ va_X b L xs s s.heap ∧ b < s.heap.size ∧ meth.locks = false ∧ (Jvm.Cond.and given_1 narrow_1).before #[Value.ref b] s = true
abbrev LA (s : State) : Nat → Prop := fun q => s.heap.size ≤ q
def XS (q1 q2 q3 : Nat) (s : State) : Prop := (vk_R RX0 61 "no element has this number" q1 s ∧ vk_R RX0 74 "no permutation" q2 s ∧ vk_R RX0 79 "no element of the group" q3 s) ∧ (vx_Zq Bundle.tN "UNASSIGNED_STACK" Bundle.steD (LA s) s s.heap ∧ vx_Zq Bundle.tN "SUPPRESSED_SENTINEL" Bundle.listD (LA s) s s.heap) ∧ XEV ioE s ∧ XEV iaE s ∧ XEV nsE s ∧ va_Nc nsE iaE s
theorem XS.to {q1 q2 q3 : Nat} {s U : State} {H : Heap} {locs : List Loc} (h : XS q1 q2 q3 s) (hS : va_S (LA s) s.heap H locs) (hU : U.heap = H) (hW : s.WarmedH U.vm) : XE q1 q2 q3 U := by
  obtain ⟨⟨a1, a2, a3⟩, ⟨b1, b2⟩, c1, c2, c3, c4⟩ := h
  exact ⟨⟨a1.warm hW, a2.warm hW, a3.warm hW⟩, ⟨by rw [hU]; exact ((b1.kept hS.2.1).narrow (fun _ h => False.elim h)).moved hW.alike, by rw [hU]; exact ((b2.kept hS.2.1).narrow (fun _ h => False.elim h)).moved hW.alike⟩, c1.warm hW, c2.warm hW, c3.warm hW, c4.moved hW.alike⟩
abbrev lvL (b h hm o i : Nat) : List (Nat × Value) := [(0, .ref b), (1, .ref h), (2, .ref hm), (3, .ref o), (4, .int (nI i))]
def LC (p : Program) (l : Launch) (s : State) (m : MethodId) (c : Code) (b L : Nat) (xs : Nat → Int32) (D : va_G) (cI cG cZ cL : ClassId) (q1 q2 q3 h a g f : Nat) (ra : Nat → Nat) (hm fa ge inn wa o : Nat) : Prop :=
  p.tables.exec = Jvm.exec ∧ c.code = code ∧ c.maxLocals = 7 ∧ s.vm.findClass RL = some m.cls ∧ (∀ w ∈ wsL_law, w.before #[Value.ref b] s = true) ∧ va_X b L xs s s.heap ∧ b < s.heap.size ∧ L ≤ 1536 ∧ va_K D vwCl (gL cI cG cZ cL) s ∧ XS q1 q2 q3 s ∧ l.stackTraces = false ∧ va_D (LA s) (gW cI cG h a g f ra 0 0 0 0 (fun _ => 0) (fun _ => 0) (fun _ _ => 0)) ∧ va_D (LA s) (mW cI cZ hm fa ge inn wa 0 0 0 (fun _ => 0) (fun _ => 0) (fun _ => 0)) ∧ s.heap.size ≤ o ∧ (∀ q, gAd h a g f ra q → mAd hm fa ge inn wa q → False) ∧ ¬ gAd h a g f ra o ∧ ¬ mAd hm fa ge inn wa o
abbrev LSt (s : State) (D : va_G) (cI cG cZ cL : ClassId) (h a g f : Nat) (ra : Nat → Nat) (hm fa ge inn wa o : Nat) (H : Heap) (locs : List Loc) (n id ct fc : Nat) (ad fl : Nat → Int32) (R : Nat → Nat → Int32) (gn : Nat → Int32) (th : Int32) (iv wv : Nat → Int32) (lf : Nat → Int64) : Prop :=
  va_P D vwCl (gW cI cG h a g f ra (nI n) (nI id) (nI ct) (nI fc) ad fl R) H ∧ va_P D vwCl (mW cI cZ hm fa ge inn wa (nI ct) (nI n) th gn iv wv) H ∧ va_P D vwCl (oW cL o lf) H ∧ va_S (LA s) s.heap H locs ∧ SR n id ct ad gn R
def KT (p : Program) (l : Launch) (e : Env) (s : State) (m : MethodId) (below : List Frame) (meth : Method) (c : Code) (b : Nat) (Q : State → Prop) (D : va_G) (cI cG cZ cL : ClassId) (h a g f : Nat) (ra : Nat → Nat) (hm fa ge inn wa o i cells slots pc : Nat) : Prop :=
  ∀ (H : Heap) (locs : List Loc) (n id ct fc : Nat) (ad fl : Nat → Int32) (R : Nat → Nat → Int32) (gn : Nat → Int32) (th : Int32) (iv wv : Nat → Int32) (lf : Nat → Int64) (ls : Array Slot), LSt s D cI cG cZ cL h a g f ra hm fa ge inn wa o H locs n id ct fc ad fl R gn th iv wv lf → lv_has ls 7 (lvL b h hm o i) → W p l e room_1 s m #[Value.ref b] below meth c H locs cells slots Q (F0 m pc ls [])
section LWA
variable {p : Program} {l : Launch} {e : Env} {RM : Room} {s : State} {m : MethodId} {args : Array Value} {below : List Frame} {meth : Method} {c : Code} {H : Heap} {locs : List Loc} {cells slots : Nat} {Q : State → Prop} {pc : Nat} {ls : Array Slot} {rest : List Value} {b L : Nat} {xs : Nat → Int32} {cc : ByteArray}
theorem lw_tl {x z : Int64} (h : x = z) (k : W p l e RM s m args below meth c H locs cells slots Q (F0 m pc ls (.long z :: rest))) : W p l e RM s m args below meth c H locs cells slots Q (F0 m pc ls (.long x :: rest)) := h ▸ k
theorem lw_lcmp (hexec : p.tables.exec = Jvm.exec) (hb : c.code = cc) {a : Int64} (hdg : decode cc pc = .ok (.lcmp, 1)) (k : W p l e RM s m args below meth c H locs cells slots Q (F0 m (pc + 1) ls (.int 0 :: rest))) : W p l e RM s m args below meth c H locs cells slots Q (F0 m pc ls (.long a :: .long a :: rest)) := by
  intro T hT X
  obtain ⟨t, h1, h2⟩ := k T hT X
  refine ⟨t, ?_, h2⟩
  jvm_step X.here [X.here.top, hexec, hb, hdg]
  exact h1
theorem lw_arg (hx : p.tables.exec = Jvm.exec) (hb : c.code = code) (hX : va_X b L xs s s.heap) (hbl : b < s.heap.size) (hL : L ≤ 1536) (hS : va_S (LA s) s.heap H locs) {lv : List (Nat × Value)} (hl : lv_has ls 7 lv) {i j k0 k4 : Nat} {z : Int} (e0 : lv[k0]? = some (0, .ref b)) (e4 : lv[k4]? = some (4, .int (nI i))) (hz : Int32.ofInt z = nI j) (hj : i + j < L) (d1 : decode code pc = .ok (.aload_n 0, 1)) (d2 : decode code (pc + 1) = .ok (.iload 4, 2)) (d3 : decode code (pc + 1 + 2) = .ok (.iconst z, 1)) (d4 : decode code (pc + 1 + 2 + 1) = .ok (.iadd, 1)) (d5 : decode code (pc + 1 + 2 + 1 + 1) = .ok (.iaload, 1))
    (k : W p l e RM s m args below meth c H locs cells slots Q (F0 m (pc + 1 + 2 + 1 + 1 + 1) ls (.int (xs (i + j)) :: rest))) : W p l e RM s m args below meth c H locs cells slots Q (F0 m pc ls rest) := by
  refine lv_aload_n hx hb d1 rfl (lv_at hl k0 e0) ?_
  refine lv_iload hx hb d2 (lv_at hl k4 e4) ?_
  refine lv_iconst (v := nI j) hx hb d3 hz ?_
  refine lv_iadd hx hb d4 ?_
  refine pu_tp (nI_add _ _) ?_
  refine va_sld hx hb hX hbl (Nat.not_le.mpr hbl) hS (vp_in_nI hj (by omega)) d5 ?_
  refine pu_tp (nb_clamp (f := xs) (by omega)) ?_
  exact k
end LWA
