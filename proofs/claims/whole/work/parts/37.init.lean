/-! ===== the constructors ===== -/
theorem aoA_moved {a a' : Array Value} {u U : State} (hvm : u.vm.Alike U.vm) (h : (Cond.arrayOver (.array .int)).before a u = true) : (Cond.arrayOver (.array .int)).before a' U = true := by
  have h1 : (Cond.arrayOver (.array .int)).before a (u.setVm U.vm) = true := by rw [Cond.arrayOver_setVmC hvm]; exact h
  exact h1
theorem cl_eq {own : String} {idx : Nat} {a b : String} {args : Array Value} {s : State} (e : a = b) (h : (Cond.classLink own idx b).before args s = true) : (Cond.classLink own idx a).before args s = true := e ▸ h
theorem pool_rows {r : Nat → Nat} {f : Nat → va_E} {e : va_E} : va_pl ([] ++ (List.range 13).map r) (vr_up f ((List.range 13).map r) e) = (List.range 13).map (fun i => (r i, e)) := by
  rw [List.nil_append]
  unfold va_pl
  rw [List.map_map]
  apply List.map_congr_left
  intro i hi
  show (r i, vr_up f ((List.range 13).map r) e (r i)) = _
  rw [vr_up_in (List.mem_map.mpr ⟨i, hi, rfl⟩)]
abbrev gNew : List Value := [.int 0, .int 0, .int 0, .null, .null, .null, .int 0]
abbrev IS : Type := Nat × Nat × Nat × (Nat → Nat) × (Nat → Nat → Int32)
set_option maxHeartbeats 400000 in
set_option maxRecDepth 100000 in
theorem kX0_init (l : Launch) (D : va_G) {cI cG cZ : ClassId} (h sz : Nat) : Met l yX0_init wsX0_init ({ frames := 2, cells := 16, slots := 774, locals := 60 } : Room) (va_Pc [.ref h] (fun U => U.heap.size = sz ∧ va_P D vwCl [(h, .inr (0, gNew))] U.heap ∧ va_K D vwCl (gT cI cG cZ) U ∧ va_D (fun _ => True) [(h, .inr (0, gNew))] ∧ (Cond.arrayOver (.array .int)).before #[] U = true))
    (va_Qv (fun u : IS => ∀ j, j < 56 → u.2.2.2.2 0 j = bgR 5 j) (fun u t => va_P D vwCl (gW cI cG h u.1 u.2.1 u.2.2.1 u.2.2.2.1 (nI 5) (nI (idn 5)) (nI 0) (nI 0) (fun _ => 0) (fun _ => 0) u.2.2.2.2) t.heap ∧ va_D (va_A [(h, .inr (0, gNew))] sz) (gW cI cG h u.1 u.2.1 u.2.2.1 u.2.2.2.1 (nI 5) (nI (idn 5)) (nI 0) (nI 0) (fun _ => 0) (fun _ => 0) u.2.2.2.2)) (va_A [(h, .inr (0, gNew))] sz)) 16 774 (va_A [(h, .inr (0, gNew))] sz) := by
  refine Met.ofW (cc := cX0_init) (maxL := 1) (ret := none) (by decide) rfl ?_
  intro p e s m args below meth c s₁ B hml hv
  obtain ⟨rfl, hsz, hP, hK, hD0, hao⟩ := hv
  have hx := B.exec
  have hb := B.bytes
  have hr := B.returns
  have hts := atoms_spec (ws := wsX0_init) B.pre
  have hown : s.vm.findClass RX0 = some m.cls := findClass_of_methodNamed B.named
  have hlocks := B.notSynchronized
  have hin : meth.name = "<init>" := (name_of_methodNamed B.named B.method).1
  have hin0 : ∀ w ∈ wsX00, w ∈ wsX0_init := fun w h => List.mem_cons_of_mem _ (List.mem_append_right _ h)
  subst hsz
  have hD := hD0.self (sz := s.heap.size)
  generalize hAe : va_A [(h, .inr (0, gNew))] s.heap.size = A at hD ⊢
  have hA : ∀ q : Nat, s.heap.size ≤ q → A q := fun q h => by rw [← hAe]; exact Or.inr h
  have hS : va_S A s.heap s.heap [] := va_S.rf
  have hRI : s.vm.findClass ("[" ++ FieldType.int.toString) = some cI := (hK.2 0 _ rfl).2
  have hRG : s.vm.findClass ("[" ++ (FieldType.array .int).toString) = some cG := (hK.2 1 _ rfl).2
  have hl := lv_entry ([.ref h]) (n := 1) (Nat.le_of_ble_eq_true rfl)
  rw [lg_entry_eq]
  generalize (lg_sl ([.ref h]) ++ List.replicate (1 - (lg_sl ([.ref h])).length) Slot.unset).toArray = ls at hl ⊢
  have hl : lv_has ls 1 [(0, .ref h)] := hl
  refine lv_aload_n hx hb dX0_init_0 rfl (lv_at hl 0 rfl) ?_
  refine W.objInit hx hb hown (hts (.methodLink RX0 3 objectInit) (by decide +kernel)) (hts (.instanceMethod objectInit) (by decide +kernel)) (hts (.code objectInit ⟨#[0xb1]⟩ 1 none) (by decide +kernel)) rfl (by rw [hml]; exact hl.1) rfl dX0_init_1 (Nat.le_of_ble_eq_true rfl) (Nat.le_of_ble_eq_true rfl) ?_
  refine W.eq (g2 := F0 m 4 ls []) rfl ?_
  refine lv_aload_n hx hb dX0_init_4 rfl (lv_at hl 0 rfl) ?_
  refine lv_bipush (v := nI 12) hx hb dX0_init_5 (by decide) ?_
  refine va_newa (atype := .int) (ty := .int) (n := nI 12) (a0 := (12, .inl (fun _ => 0))) (N' := 12) hx hb (hts (.arrayClass .int) (by decide +kernel)) rfl hK hP hD hS hA (fun _ => rfl) (nI_pos (by decide)) (nI_clamp (by decide)) (Nat.le_of_ble_eq_true rfl) (Nat.le_of_ble_eq_true rfl) (Nat.le_of_ble_eq_true rfl) dX0_init_7 (fun qa cA H hK2 hP hD hS => ?_)
  obtain rfl : cI = cA := Option.some.inj (hRI.symm.trans (hK2.2 3 _ rfl).2)
  refine va_putF (D := D) (ci := 0) (v := .ref qa) (ty := .array .int) (C := RX0) (T := TX0) (N := 7) hx hb hts hin0 tyX0 tyX0_ok nmX0 hown hK hP hD hS 0 rfl rfl 3 (by decide) (hts (.fieldLink RX0 9 "PermGroup" "added" "[I") (by decide +kernel)) (fun _ h9 => h9) rfl hin rfl (by decide +kernel) rfl rfl (Nat.le_of_ble_eq_true rfl) dX0_init_9 (fun H locs hP hD hS => ?_)
  refine lv_aload_n hx hb dX0_init_12 rfl (lv_at hl 0 rfl) ?_
  refine lv_bipush (v := nI 13) hx hb dX0_init_13 (by decide) ?_
  refine lv_bipush (v := nI 56) hx hb dX0_init_15 (by decide) ?_
  refine va_mna (X := [(h, .inr (0, [.int 0, .int 0, .int 0, .ref qa, .null, .null, .int 0])), (qa, .inl (cI, 12, .inl (fun _ => 0)))]) (L := []) (f := fun _ => .inl (cI, 0, .inl (fun _ => 0))) (ty := .int) (cy := cI) (z := (56, .inl (fun _ => 0))) (N' := 13) (K' := 56) hx hb hown (cl_eq (show ("[" ++ (FieldType.array .int).toString) = "[[I" by decide +kernel) (hts (.classLink RX0 13 "[[I") (by decide +kernel))) hao (hts (.arrayClass .int) (by decide +kernel)) hRI hK hP hD hS hA (nI_pos (by decide)) (nI_pos (by decide)) (nI_clamp (by decide)) (nI_clamp (by decide)) (Nat.le_of_ble_eq_true rfl) (Nat.le_of_ble_eq_true rfl) (Nat.le_of_ble_eq_true rfl) rfl rfl (by exact Nat.le_of_ble_eq_true rfl) (by exact Nat.le_of_ble_eq_true rfl) (fun c => arrV_new c 56 (.int 0)) dX0_init_17 (fun qg ra cA H hri hrn hK2 hP hD hS => ?_)
  obtain rfl : cG = cA := Option.some.inj (hRG.symm.trans (hK2.2 3 _ rfl).2)
  rw [pool_rows] at hP hD
  have hP : va_P D vwCl ((h, .inr (0, [.int 0, .int 0, .int 0, .ref qa, .null, .null, .int 0])) :: (qa, .inl (cI, 12, .inl (fun _ => 0))) :: (qg, .inl (cG, 13, .inr (.inr (.inr (.inr (fun i => if i < 13 then some (ra i) else none)))))) :: (List.range 13).map (fun i => (ra i, .inl (cI, 56, .inl (fun _ => 0))))) H := hP
  have hD : va_D A ((h, .inr (0, [.int 0, .int 0, .int 0, .ref qa, .null, .null, .int 0])) :: (qa, .inl (cI, 12, .inl (fun _ => 0))) :: (qg, .inl (cG, 13, .inr (.inr (.inr (.inr (fun i => if i < 13 then some (ra i) else none)))))) :: (List.range 13).map (fun i => (ra i, .inl (cI, 56, .inl (fun _ => 0))))) := hD
  refine va_putF (D := D) (ci := 0) (v := .ref qg) (ty := .array (.array .int)) (C := RX0) (T := TX0) (N := 7) hx hb hts hin0 tyX0 tyX0_ok nmX0 hown hK hP hD hS 0 rfl rfl 4 (by decide) (hts (.fieldLink RX0 15 "PermGroup" "chains" "[[I") (by decide +kernel)) (fun _ h9 => h9) rfl hin rfl (by decide +kernel) rfl rfl (Nat.le_of_ble_eq_true rfl) dX0_init_21 (fun H locs hP hD hS => ?_)
  refine lv_aload_n hx hb dX0_init_24 rfl (lv_at hl 0 rfl) ?_
  refine lv_bipush (v := nI 21) hx hb dX0_init_25 (by decide) ?_
  refine va_newa (atype := .int) (ty := .int) (n := nI 21) (a0 := (21, .inl (fun _ => 0))) (N' := 21) hx hb (hts (.arrayClass .int) (by decide +kernel)) rfl hK hP hD hS hA (fun _ => rfl) (nI_pos (by decide)) (nI_clamp (by decide)) (Nat.le_of_ble_eq_true rfl) (Nat.le_of_ble_eq_true rfl) (Nat.le_of_ble_eq_true rfl) dX0_init_27 (fun qf cA H hK2 hP hD hS => ?_)
  obtain rfl : cI = cA := Option.some.inj (hRI.symm.trans (hK2.2 3 _ rfl).2)
  have hP := va_P.swap (a := [(h, .inr (0, [.int 0, .int 0, .int 0, .ref qa, .ref qg, .null, .int 0])), (qa, .inl (cI, 12, .inl (fun _ => 0))), (qg, .inl (cG, 13, .inr (.inr (.inr (.inr (fun i => if i < 13 then some (ra i) else none))))))]) (b := (List.range 13).map (fun i => (ra i, .inl (cI, 56, .inl (fun _ => 0))))) (c := [(qf, .inl (cI, 21, .inl (fun _ => 0)))]) hP
  have hD := va_D.swap (a := [(h, .inr (0, [.int 0, .int 0, .int 0, .ref qa, .ref qg, .null, .int 0])), (qa, .inl (cI, 12, .inl (fun _ => 0))), (qg, .inl (cG, 13, .inr (.inr (.inr (.inr (fun i => if i < 13 then some (ra i) else none))))))]) (b := (List.range 13).map (fun i => (ra i, .inl (cI, 56, .inl (fun _ => 0))))) (c := [(qf, .inl (cI, 21, .inl (fun _ => 0)))]) hD
  refine va_putF (D := D) (ci := 0) (v := .ref qf) (ty := .array .int) (C := RX0) (T := TX0) (N := 7) hx hb hts hin0 tyX0 tyX0_ok nmX0 hown hK hP hD hS 0 rfl rfl 5 (by decide) (hts (.fieldLink RX0 18 "PermGroup" "filled" "[I") (by decide +kernel)) (fun _ h9 => h9) rfl hin rfl (by decide +kernel) rfl rfl (Nat.le_of_ble_eq_true rfl) dX0_init_29 (fun H locs hP hD hS => ?_)
  have hP : va_P D vwCl (gW cI cG h qa qg qf ra (nI 0) (nI 0) (nI 0) (nI 0) (fun _ => 0) (fun _ => 0) (fun _ _ => 0)) H := hP
  have hD : va_D A (gW cI cG h qa qg qf ra (nI 0) (nI 0) (nI 0) (nI 0) (fun _ => 0) (fun _ => 0) (fun _ _ => 0)) := hD
  refine lv_aload_n hx hb dX0_init_32 rfl (lv_at hl 0 rfl) ?_
  refine lv_iconst (v := nI 5) hx hb dX0_init_33 (by decide) ?_
  refine mv_V (As := [.int (nI 5)]) (rest := []) (b := h) ⟨hx, hb, hml, hown, hts⟩ (kX0_begin (n := 0) (id := 0) (ct := 0) (fc := 0) (nn := 5) (by decide)) (cwV 1 hts gX0_init_X0_begin rfl rfl rfl eX0_begin ⟨by decide, by decide⟩) (va_recv hK hP (ci := 0) (q0 := 0) rfl rfl) hK hP hD hS rfl hl.1 rfl (Nat.le_of_ble_eq_true rfl) dX0_init_34 ⟨by decide, by decide⟩ (fun u H locs hw hP hS hk => ?_)
  have hD9 : va_D A (gW cI cG h qa qg qf ra (nI 5) (nI (idn 5)) (nI 0) (nI 0) (fun _ => 0) (fun _ => 0) u) := gW_addr hD
  refine W.widen (k := 16) (n := 774) (by decide) (by decide) ?_
  exact W.vret hx hb hr (fun t ht hW => ⟨⟨(qa, qg, qf, ra, u), rfl, hw, by show va_P D vwCl _ t.heap; rw [ht]; exact hP, hD9⟩, hS.F ht⟩) hS.2.2 dX0_init_37
abbrev mNew : List Value := [.null, .null, .int 0, .int 0, .null, .null, .int 0]
theorem fac_upd : (upd (upd (upd (upd (upd (upd (upd (upd (fun _ => 0) 0 (nI 1)) 1 (nI 1)) 2 (nI 2)) 3 (nI 6)) 4 (nI 24)) 5 (nI 120)) 6 (nI 720)) 7 (nI 5040)) = facI := by
  funext j
  match j with
  | 0 => rfl
  | 1 => rfl
  | 2 => rfl
  | 3 => rfl
  | 4 => rfl
  | 5 => rfl
  | 6 => rfl
  | 7 => rfl
  | j + 8 => simp [upd, facI]
set_option maxHeartbeats 400000 in
set_option maxRecDepth 100000 in
theorem kX1_init (l : Launch) (D : va_G) {cI cG cZ : ClassId} (h sz : Nat) : Met l yX1_init wsX1_init ({ frames := 1, cells := 4, slots := 10100, locals := 20 } : Room) (va_Pc [.ref h] (fun U => U.heap.size = sz ∧ va_P D vwCl [(h, .inr (1, mNew))] U.heap ∧ va_K D vwCl (gT cI cG cZ) U ∧ va_D (fun _ => True) [(h, .inr (1, mNew))]))
    (va_Qv (fun _ : Nat × Nat × Nat × Nat => True) (fun u t => va_P D vwCl (mW cI cZ h u.1 u.2.1 u.2.2.1 u.2.2.2 (nI 0) (nI 5) 0 (fun _ => 0) (fun _ => 0) (fun _ => 0)) t.heap ∧ va_D (va_A [(h, .inr (1, mNew))] sz) (mW cI cZ h u.1 u.2.1 u.2.2.1 u.2.2.2 (nI 0) (nI 5) 0 (fun _ => 0) (fun _ => 0) (fun _ => 0))) (va_A [(h, .inr (1, mNew))] sz)) 4 10100 (va_A [(h, .inr (1, mNew))] sz) := by
  refine Met.ofW (cc := cX1_init) (maxL := 1) (ret := none) (by decide) rfl ?_
  intro p e s m args below meth c s₁ B hml hv
  obtain ⟨rfl, hsz, hP, hK, hD0⟩ := hv
  have hx := B.exec
  have hb := B.bytes
  have hr := B.returns
  have hts := atoms_spec (ws := wsX1_init) B.pre
  have hown : s.vm.findClass RX1 = some m.cls := findClass_of_methodNamed B.named
  have hlocks := B.notSynchronized
  have hin : meth.name = "<init>" := (name_of_methodNamed B.named B.method).1
  have hin0 : ∀ w ∈ wsX10, w ∈ wsX1_init := fun w h => List.mem_cons_of_mem _ (List.mem_append_right _ h)
  subst hsz
  have hD := hD0.self (sz := s.heap.size)
  generalize hAe : va_A [(h, .inr (1, mNew))] s.heap.size = A at hD ⊢
  have hA : ∀ q : Nat, s.heap.size ≤ q → A q := fun q h => by rw [← hAe]; exact Or.inr h
  have hS : va_S A s.heap s.heap [] := va_S.rf
  have hRI : s.vm.findClass ("[" ++ FieldType.int.toString) = some cI := (hK.2 0 _ rfl).2
  have hRZ : s.vm.findClass ("[" ++ FieldType.boolean.toString) = some cZ := (hK.2 2 _ rfl).2
  have hl := lv_entry ([.ref h]) (n := 1) (Nat.le_of_ble_eq_true rfl)
  rw [lg_entry_eq]
  generalize (lg_sl ([.ref h]) ++ List.replicate (1 - (lg_sl ([.ref h])).length) Slot.unset).toArray = ls at hl ⊢
  have hl : lv_has ls 1 [(0, .ref h)] := hl
  refine lv_aload_n hx hb dX1_init_0 rfl (lv_at hl 0 rfl) ?_
  refine W.objInit hx hb hown (hts (.methodLink RX1 1 objectInit) (by decide +kernel)) (hts (.instanceMethod objectInit) (by decide +kernel)) (hts (.code objectInit ⟨#[0xb1]⟩ 1 none) (by decide +kernel)) rfl (by rw [hml]; exact hl.1) rfl dX1_init_1 (Nat.le_of_ble_eq_true rfl) (Nat.le_of_ble_eq_true rfl) ?_
  refine W.eq (g2 := F0 m 4 ls []) rfl ?_
  refine lv_aload_n hx hb dX1_init_4 rfl (lv_at hl 0 rfl) ?_
  refine lv_bipush (v := nI 8) hx hb dX1_init_5 (by decide) ?_
  refine va_newa (atype := .int) (ty := .int) (n := nI 8) (a0 := (8, .inl (fun _ => 0))) (N' := 8) hx hb (hts (.arrayClass .int) (by decide +kernel)) rfl hK hP hD hS hA (fun _ => rfl) (nI_pos (by decide)) (nI_clamp (by decide)) (Nat.le_of_ble_eq_true rfl) (Nat.le_of_ble_eq_true rfl) (Nat.le_of_ble_eq_true rfl) dX1_init_7 (fun fa cA H hK2 hP hD hS => ?_)
  obtain rfl : cI = cA := Option.some.inj (hRI.symm.trans (hK2.2 3 _ rfl).2)
  obtain ⟨locs, hlo⟩ : ∃ z : List Loc, z = [] := ⟨_, rfl⟩
  refine lv_dup hx hb dX1_init_9 rfl ?_
  refine lv_iconst (v := nI 0) hx hb dX1_init_10 (by decide) ?_
  refine lv_iconst (v := nI 1) hx hb dX1_init_11 (by decide) ?_
  refine ua_iast hx hb hK hP hD hS 1 0 rfl rfl (by decide) (by decide) dX1_init_12 (fun H locs hP hD hS => ?_)
  refine lv_dup hx hb dX1_init_13 rfl ?_
  refine lv_iconst (v := nI 1) hx hb dX1_init_14 (by decide) ?_
  refine lv_iconst (v := nI 1) hx hb dX1_init_15 (by decide) ?_
  refine ua_iast hx hb hK hP hD hS 1 0 rfl rfl (by decide) (by decide) dX1_init_16 (fun H locs hP hD hS => ?_)
  refine lv_dup hx hb dX1_init_17 rfl ?_
  refine lv_iconst (v := nI 2) hx hb dX1_init_18 (by decide) ?_
  refine lv_iconst (v := nI 2) hx hb dX1_init_19 (by decide) ?_
  refine ua_iast hx hb hK hP hD hS 1 0 rfl rfl (by decide) (by decide) dX1_init_20 (fun H locs hP hD hS => ?_)
  refine lv_dup hx hb dX1_init_21 rfl ?_
  refine lv_iconst (v := nI 3) hx hb dX1_init_22 (by decide) ?_
  refine lv_bipush (v := nI 6) hx hb dX1_init_23 (by decide) ?_
  refine ua_iast hx hb hK hP hD hS 1 0 rfl rfl (by decide) (by decide) dX1_init_25 (fun H locs hP hD hS => ?_)
  refine lv_dup hx hb dX1_init_26 rfl ?_
  refine lv_iconst (v := nI 4) hx hb dX1_init_27 (by decide) ?_
  refine lv_bipush (v := nI 24) hx hb dX1_init_28 (by decide) ?_
  refine ua_iast hx hb hK hP hD hS 1 0 rfl rfl (by decide) (by decide) dX1_init_30 (fun H locs hP hD hS => ?_)
  refine lv_dup hx hb dX1_init_31 rfl ?_
  refine lv_iconst (v := nI 5) hx hb dX1_init_32 (by decide) ?_
  refine lv_bipush (v := nI 120) hx hb dX1_init_33 (by decide) ?_
  refine ua_iast hx hb hK hP hD hS 1 0 rfl rfl (by decide) (by decide) dX1_init_35 (fun H locs hP hD hS => ?_)
  refine lv_dup hx hb dX1_init_36 rfl ?_
  refine lv_bipush (v := nI 6) hx hb dX1_init_37 (by decide) ?_
  refine lv_sipush (v := nI 720) hx hb dX1_init_39 (by decide) ?_
  refine ua_iast hx hb hK hP hD hS 1 0 rfl rfl (by decide) (by decide) dX1_init_42 (fun H locs hP hD hS => ?_)
  refine lv_dup hx hb dX1_init_43 rfl ?_
  refine lv_bipush (v := nI 7) hx hb dX1_init_44 (by decide) ?_
  refine lv_sipush (v := nI 5040) hx hb dX1_init_46 (by decide) ?_
  refine ua_iast hx hb hK hP hD hS 1 0 rfl rfl (by decide) (by decide) dX1_init_49 (fun H locs hP hD hS => ?_)
  have hP : va_P D vwCl [(h, .inr (1, mNew)), (fa, .inl (cI, 8, .inl (upd (upd (upd (upd (upd (upd (upd (upd (fun _ => 0) 0 (nI 1)) 1 (nI 1)) 2 (nI 2)) 3 (nI 6)) 4 (nI 24)) 5 (nI 120)) 6 (nI 720)) 7 (nI 5040))))] H := hP
  have hD : va_D A [(h, .inr (1, mNew)), (fa, .inl (cI, 8, .inl (upd (upd (upd (upd (upd (upd (upd (upd (fun _ => 0) 0 (nI 1)) 1 (nI 1)) 2 (nI 2)) 3 (nI 6)) 4 (nI 24)) 5 (nI 120)) 6 (nI 720)) 7 (nI 5040))))] := hD
  rw [fac_upd] at hP hD
  refine va_putF (D := D) (ci := 1) (v := .ref fa) (ty := .array .int) (C := RX1) (T := TX1) (N := 7) hx hb hts hin0 tyX1 tyX1_ok nmX1 hown hK hP hD hS 0 rfl rfl 0 (by decide) (hts (.fieldLink RX1 7 "PermGroupModel" "factorials" "[I") (by decide +kernel)) (fun _ h9 => h9) rfl hin rfl (by decide +kernel) rfl rfl (Nat.le_of_ble_eq_true rfl) dX1_init_50 (fun H locs hP hD hS => ?_)
  refine lv_aload_n hx hb dX1_init_53 rfl (lv_at hl 0 rfl) ?_
  refine lv_bipush (v := nI 12) hx hb dX1_init_54 (by decide) ?_
  refine va_newa (atype := .int) (ty := .int) (n := nI 12) (a0 := (12, .inl (fun _ => 0))) (N' := 12) hx hb (hts (.arrayClass .int) (by decide +kernel)) rfl hK hP hD hS hA (fun _ => rfl) (nI_pos (by decide)) (nI_clamp (by decide)) (Nat.le_of_ble_eq_true rfl) (Nat.le_of_ble_eq_true rfl) (Nat.le_of_ble_eq_true rfl) dX1_init_56 (fun ge cA H hK2 hP hD hS => ?_)
  obtain rfl : cI = cA := Option.some.inj (hRI.symm.trans (hK2.2 3 _ rfl).2)
  refine va_putF (D := D) (ci := 1) (v := .ref ge) (ty := .array .int) (C := RX1) (T := TX1) (N := 7) hx hb hts hin0 tyX1 tyX1_ok nmX1 hown hK hP hD hS 0 rfl rfl 1 (by decide) (hts (.fieldLink RX1 13 "PermGroupModel" "gens" "[I") (by decide +kernel)) (fun _ h9 => h9) rfl hin rfl (by decide +kernel) rfl rfl (Nat.le_of_ble_eq_true rfl) dX1_init_58 (fun H locs hP hD hS => ?_)
  refine lv_aload_n hx hb dX1_init_61 rfl (lv_at hl 0 rfl) ?_
  refine lv_sipush (v := nI 5040) hx hb dX1_init_62 (by decide) ?_
  refine va_newa (atype := .boolean) (ty := .boolean) (n := nI 5040) (a0 := (5040, .inl (fun _ => 0))) (N' := 5040) hx hb (hts (.arrayClass .boolean) (by decide +kernel)) rfl hK hP hD hS hA (fun _ => rfl) (nI_pos (by decide)) (nI_clamp (by decide)) (Nat.le_of_ble_eq_true rfl) (Nat.le_of_ble_eq_true rfl) (Nat.le_of_ble_eq_true rfl) dX1_init_65 (fun inn cA H hK2 hP hD hS => ?_)
  obtain rfl : cZ = cA := Option.some.inj (hRZ.symm.trans (hK2.2 3 _ rfl).2)
  refine va_putF (D := D) (ci := 1) (v := .ref inn) (ty := .array .boolean) (C := RX1) (T := TX1) (N := 7) hx hb hts hin0 tyX1 tyX1_ok nmX1 hown hK hP hD hS 0 rfl rfl 4 (by decide) (hts (.fieldLink RX1 16 "PermGroupModel" "in" "[Z") (by decide +kernel)) (fun _ h9 => h9) rfl hin rfl (by decide +kernel) rfl rfl (Nat.le_of_ble_eq_true rfl) dX1_init_67 (fun H locs hP hD hS => ?_)
  refine lv_aload_n hx hb dX1_init_70 rfl (lv_at hl 0 rfl) ?_
  refine lv_sipush (v := nI 5040) hx hb dX1_init_71 (by decide) ?_
  refine va_newa (atype := .int) (ty := .int) (n := nI 5040) (a0 := (5040, .inl (fun _ => 0))) (N' := 5040) hx hb (hts (.arrayClass .int) (by decide +kernel)) rfl hK hP hD hS hA (fun _ => rfl) (nI_pos (by decide)) (nI_clamp (by decide)) (Nat.le_of_ble_eq_true rfl) (Nat.le_of_ble_eq_true rfl) (Nat.le_of_ble_eq_true rfl) dX1_init_74 (fun wa cA H hK2 hP hD hS => ?_)
  obtain rfl : cI = cA := Option.some.inj (hRI.symm.trans (hK2.2 3 _ rfl).2)
  refine va_putF (D := D) (ci := 1) (v := .ref wa) (ty := .array .int) (C := RX1) (T := TX1) (N := 7) hx hb hts hin0 tyX1 tyX1_ok nmX1 hown hK hP hD hS 0 rfl rfl 5 (by decide) (hts (.fieldLink RX1 20 "PermGroupModel" "waiting" "[I") (by decide +kernel)) (fun _ h9 => h9) rfl hin rfl (by decide +kernel) rfl rfl (Nat.le_of_ble_eq_true rfl) dX1_init_76 (fun H locs hP hD hS => ?_)
  refine lv_aload_n hx hb dX1_init_79 rfl (lv_at hl 0 rfl) ?_
  refine lv_iconst (v := nI 5) hx hb dX1_init_80 (by decide) ?_
  refine va_put (D := D) (ci := 1) (v := .int (nI 5)) (ty := .int) (C := RX1) (T := TX1) (N := 7) hx hb hts hin0 tyX1 tyX1_ok nmX1 hown hK hP hD hS 0 rfl rfl 3 (by decide) (hts (.fieldLink RX1 23 "PermGroupModel" "n" "I") (by decide +kernel)) (fun _ h9 => h9) rfl (by decide +kernel) rfl rfl (Nat.le_of_ble_eq_true rfl) dX1_init_81 (fun H locs hP hD hS => ?_)
  have hP : va_P D vwCl (mW cI cZ h fa ge inn wa (nI 0) (nI 5) 0 (fun _ => 0) (fun _ => 0) (fun _ => 0)) H := hP
  have hD : va_D A (mW cI cZ h fa ge inn wa (nI 0) (nI 5) 0 (fun _ => 0) (fun _ => 0) (fun _ => 0)) := hD
  refine W.widen (k := 4) (n := 10100) (by decide) (by decide) ?_
  exact W.vret hx hb hr (fun t ht hW => ⟨⟨(fa, ge, inn, wa), rfl, trivial, by show va_P D vwCl _ t.heap; rw [ht]; exact hP, hD⟩, hS.F ht⟩) hS.2.2 dX1_init_84
