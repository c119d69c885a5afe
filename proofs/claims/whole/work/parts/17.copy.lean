section GCP
variable {p : Program} {l : Launch} {e : Env} {rm : Room} {s : State} {m : MethodId} {args : Array Value} {below : List Frame} {meth : Method} {c : Code} {H H0 : Heap} {locs : List Loc} {cells slots : Nat} {Q : State → Prop} {cc : ByteArray} {pc : Nat} {ls : Array Slot} {rest : List Value} {A : Nat → Prop}
variable {D : va_G} {cI cG cZ : ClassId} {h a g f : Nat} {ra : Nat → Nat} {n id ct fc : Int32} {ad fl : Nat → Int32} {R : Nat → Nat → Int32}
/-- row i copied over row j -/
theorem ga_copy (hx : p.tables.exec = Jvm.exec) (hb : c.code = cc) (hml : c.maxLocals = ls.size) {own : String} {index : Nat} (hown : s.vm.findClass own = some m.cls) (hlink : (Cond.methodLink own index arraycopyName).before args s = true) (hnat : (Cond.native arraycopyName).before args s = true) (hstat : (Cond.static arraycopyName).before args s = true) (hini : (Cond.initialized "java/lang/System").before args s = true)
    (hK : va_K D vwCl (gT cI cG cZ) s) (hP : va_P D vwCl (gW cI cG h a g f ra n id ct fc ad fl R) H) (hD : va_D A (gW cI cG h a g f ra n id ct fc ad fl R)) (hS : va_S A H0 H locs) {i j : Nat} (hi : i < 13) (hj : j < 13)
    (hframes : 1 ≤ rm.frames) (hlocals : (rest.map fun v => v.category).sum + (nativeFrameWords "java/lang/System" "arraycopy" 5 + 11) ≤ rm.locals) (hdg : decode cc pc = .ok (.invokestatic index, 3))
    (kk : ∀ (H1 : Heap) (locs1 : List Loc), va_P D vwCl (gW cI cG h a g f ra n id ct fc ad fl (upR R j (va_cpy (R i) (R j) 0 0 56))) H1 → va_D A (gW cI cG h a g f ra n id ct fc ad fl (upR R j (va_cpy (R i) (R j) 0 0 56))) → va_S A H0 H1 locs1 → W p l e rm s m args below meth c H1 locs1 cells slots Q (F0 m (pc + 3) ls rest)) : W p l e rm s m args below meth c H locs cells slots Q (F0 m pc ls (.int (nI 56) :: .int (nI 0) :: .ref (ra j) :: .int (nI 0) :: .ref (ra i) :: rest)) := by
  refine va_copyi hx hb hml hown hlink hnat hstat hini hK hP hD hS (i + 4) (j + 4) 0 0 (gW_row hi) (gW_row hj) rfl rfl rfl (by decide) (by decide) (by decide) (by decide) (by decide) (fun _ _ => rfl) hframes hlocals hdg (fun H1 locs1 hP1 hD1 hS1 => ?_)
  rw [gW_set hj] at hP1 hD1
  exact kk H1 locs1 hP1 hD1 hS1
end GCP
