/-! ===== the law's cases with a throw ===== -/
section LWT
variable {p : Program} {l : Launch} {e : Env} {s : State} {m : MethodId} {below : List Frame} {meth : Method} {c : Code} {b L i : Nat} {xs : Nat → Int32} {Q : State → Prop} {D : va_G} {cI cG cZ cL : ClassId} {q1 q2 q3 h a g f : Nat} {ra : Nat → Nat} {hm fa ge inn wa o : Nat} {H : Heap} {locs : List Loc} {cells slots n id ct fc : Nat} {ad fl : Nat → Int32} {R : Nat → Nat → Int32} {gn : Nat → Int32} {th : Int32} {iv wv : Nat → Int32} {lf : Nat → Int64} {ls : Array Slot}
set_option maxHeartbeats 1000000 in
set_option maxRecDepth 20000 in
theorem cs_element (C : LC p l s m c b L xs D cI cG cZ cL q1 q2 q3 h a g f ra hm fa ge inn wa o) (S : LSt s D cI cG cZ cL h a g f ra hm fa ge inn wa o H locs n id ct fc ad fl R gn th iv wv lf) (hi : i + 3 ≤ L) (hr1 : cells + 1 ≤ 601024) (hr2 : slots + 6 ≤ 7293034) (kk : KT p l e s m below meth c b Q D cI cG cZ cL h a g f ra hm fa ge inn wa o i (cells + 1) (slots + 6) 561) (hl : lv_has ls 7 (lvL b h hm o i)) : W p l e room_1 s m #[Value.ref b] below meth c H locs cells slots Q (F0 m 330 ls []) := by
  obtain ⟨hx, hb, hml, hown, hts, hX, hbl, hL, hK, hXS, hst, hDx, hDm, hoo, hap, hox, hom⟩ := C
  obtain ⟨hPx, hPm, hPo, hS, hR⟩ := S
  obtain ⟨h1, h7, hc, hid, had, hg, hV⟩ := _root_.id hR
  have hid0 : id < 2 ^ 32 := by rw [hid]; have := idn_lt h7; omega
  have hVc := hV ct (Nat.le_refl _)
  have hKc : va_K D vwCl (gT cI cG cZ) s := hK.sub (tys' := gT cI cG cZ) [0, 1, 2] rfl
  have hrm : cells ≤ room_1.cells ∧ slots ≤ room_1.slots := ⟨by show cells ≤ 601024; omega, by show slots ≤ 7293034; omega⟩
  refine lv_aload_n hx hb dL_law_330 rfl (lv_at hl 1 rfl) ?_
  refine lw_arg hx hb hX hbl hL hS hl (k0 := 0) (k4 := 4) (i := i) (j := 1) rfl rfl (by decide) (by omega) dL_law_331 dL_law_332 dL_law_334 dL_law_335 dL_law_336 ?_
  refine lv_aload_n hx hb dL_law_337 rfl (lv_at hl 3 rfl) ?_
  refine va_calli (vx_runSW (As := [.ref h, .int (xs (i + 1)), .ref o]) (rest := []) ⟨hx, hb, hml, hown, hts⟩ (kL_element hst hPx hPo h7 hc hid0) (vx_cwSW 3 hts gL_law_L_element rfl rfl rfl eL_element ⟨by decide, by decide⟩) ⟨fun a U g mk q => ⟨q.1, q.2.1, va_K.moved (u := U) (U := U.calling g mk a) (Vm.Alike.refl U.vm) q.2.2.1, XE.warm (s := U) (U := U.calling g mk a) (State.WarmedH.refl U) rfl q.2.2.2⟩, fun U hU hW => ⟨rfl, hU, va_K.moved hW.alike hK, XS.to hXS hS hU hW⟩⟩ rfl rfl hl.1 rfl (lv_room (Nat.le_of_ble_eq_true rfl)) dL_law_338 ⟨hr1, hr2⟩) hS (fun q _ z => z.elim (fun e => e ▸ hoo) (fun z => Nat.le_trans hS.1 z)) (fun q z => z.elim (fun e => e ▸ hoo) (fun z => Nat.le_trans hS.1 z)) (fun r0 lf t9 H9 locs ht hvm hw0 hB hz hk hS => ?_)
  obtain ⟨⟨hB1, hB2⟩, hB3⟩ := hB
  rw [ht] at hB1 hB2 hB3
  have hPx := hPx.kept (H1 := H9) (fun k q hq => hB2 q.1 ((hPx k q hq).lt) (fun e => hox (e ▸ gAd_of ⟨k, q.2, hq⟩)))
  have hPm := hPm.kept (H1 := H9) (fun k q hq => hB2 q.1 ((hPm k q hq).lt) (fun e => hom (e ▸ mAd_of ⟨k, q.2, hq⟩)))
  have hPo := hB3
  have hrm : cells + 1 ≤ room_1.cells ∧ slots + 6 ≤ room_1.slots := ⟨hr1, hr2⟩
  refine lv_istore (lv' := [(5, .int r0), (0, .ref b), (1, .ref h), (2, .ref hm), (3, .ref o), (4, .int (nI i))]) hx hb dL_law_341 hl (by decide) rfl (fun ls hl => ?_)
  refine lv_aload_n hx hb dL_law_343 rfl (lv_at hl 3 rfl) ?_
  refine lw_arg hx hb hX hbl hL hS hl (k0 := 1) (k4 := 5) (i := i) (j := 1) rfl rfl (by decide) (by omega) dL_law_344 dL_law_345 dL_law_347 dL_law_348 dL_law_349 ?_
  refine mi_V (A0 := LA s) (As := [.int (xs (i + 1))]) (rest := []) (b := hm) ⟨hx, hb, hml, hown, hts⟩ (kX1_element h1 h7 hc hg) (cwV 1 hts gL_law_X1_element rfl rfl rfl eX1_element ⟨by decide, by decide⟩) (va_recv hKc hPm (ci := 1) (q0 := 0) rfl rfl) hKc hPm (mW_addr hDm) hS rfl hl.1 rfl (Nat.le_of_ble_eq_true rfl) dL_law_350 hrm (fun r1 u1 H locs hw1 hP9 hS hk => ?_)
  have hPx := kp hPx hk (fun q y z => hap q (gAd_of y) (mAd_of z))
  have hPo := kp hPo hk (fun q y z => hom (oAd_of y ▸ mAd_of z))
  have hPm := hP9
  refine lv_istore (lv' := [(6, .int r1), (5, .int r0), (0, .ref b), (1, .ref h), (2, .ref hm), (3, .ref o), (4, .int (nI i))]) hx hb dL_law_353 hl (by decide) rfl (fun ls hl => ?_)
  have hbf := tie_order h1 h7 hg hVc hw1.1
  have hble := bl_le u1.2.1 (fac n)
  have hfl := fac_le h7
  have htt : u1.1 = r0 ∧ (r0 = 0 → lf 0 = r1.toInt64) := by
    rw [hbf] at hw1 hble
    rcases hw0 with ⟨a0, X, a1, a2, a3⟩ | ⟨a0, a1⟩
    · rcases hw1.2 with ⟨b0, b1⟩ | ⟨Y, b0, b1, b2, b3⟩
      · exfalso
        rw [a2] at b0
        exact b0.elim (fun z => nI_pos (by omega) z) (fun z => z (nI_lt a1 (by omega)))
      · obtain rfl : X = Y := (nI_eq (by omega) (by omega)).mp (a2.symm.trans b1)
        exact ⟨b2.trans a0.symm, fun _ => by rw [a3, b3, hid, tie_element h1 h7 hg hVc hw1.1 a1]⟩
    · rcases hw1.2 with ⟨b0, b1⟩ | ⟨Y, b0, b1, b2, b3⟩
      · exact ⟨b1.trans a0.symm, fun z => absurd (a0.symm.trans z) (by decide)⟩
      · exfalso
        rw [b1] at a1
        exact a1.elim (fun z => nI_pos (by omega) z) (fun z => z (nI_lt b0 (by omega)))
  obtain ⟨ht1, ht2⟩ := htt
  refine lv_aload_n hx hb dL_law_355 rfl (lv_at hl 4 rfl) ?_
  refine pu_V (As := []) (rest := []) (b := hm) ⟨hx, hb, hml, hown, hts⟩ (kX1_thrown hPm) (cwV 0 hts gL_law_X1_thrown rfl rfl rfl eX1_thrown ⟨by decide, by decide⟩) (va_recv hKc hPm (ci := 1) (q0 := 0) rfl rfl) hKc rfl hl.1 rfl (Nat.le_of_ble_eq_true rfl) dL_law_356 hrm ?_
  refine lv_iload hx hb dL_law_359 (lv_at hl 1 rfl) ?_
  refine lv_icmp_eq (tgt := 366) hx hb dL_law_361 (by decide) (fun _ => ?_) (fun hne => absurd ht1 hne)
  refine lv_iload hx hb dL_law_366 (lv_at hl 1 rfl) ?_
  have fin : ∀ ls : Array Slot, lv_has ls 7 [(6, .int r1), (5, .int r0), (0, .ref b), (1, .ref h), (2, .ref hm), (3, .ref o), (4, .int (nI i))] → W p l e room_1 s m #[Value.ref b] below meth c H locs (cells + 1) (slots + 6) Q (F0 m 383 ls []) := fun ls hl => by
    refine lv_goto (tgt := 561) hx hb dL_law_383 (by decide) ?_
    exact kk H locs n id ct fc ad fl R gn u1.1 u1.2.1 u1.2.2 lf ls ⟨hPx, hPm, hPo, hS, hR⟩ (lv_sub hl [2, 3, 4, 5, 6] rfl)
  refine lv_if_ne (tgt := 383) hx hb dL_law_368 (by decide) (fun _ => fin ls hl) (fun c0 => ?_)
  refine lv_aload_n hx hb dL_law_371 rfl (lv_at hl 5 rfl) ?_
  refine lv_iconst (v := nI 0) hx hb dL_law_372 (by decide) ?_
  refine va_lald hx hb hK hPo 0 3 rfl rfl (vp_in_nI (by decide) (by decide)) dL_law_373 ?_
  refine lw_tl (z := r1.toInt64) ((congrArg lf (nI_clamp (by decide))).trans (ht2 c0)) ?_
  refine lv_iload hx hb dL_law_374 (lv_at hl 0 rfl) ?_
  refine lv_i2l (v := r1.toInt64) hx hb dL_law_376 rfl ?_
  refine lw_lcmp hx hb dL_law_377 ?_
  exact lv_if_eq (tgt := 383) hx hb dL_law_378 (by decide) (fun _ => fin ls hl) (fun hne => absurd rfl hne)
set_option maxHeartbeats 1000000 in
set_option maxRecDepth 20000 in
theorem cs_rank (C : LC p l s m c b L xs D cI cG cZ cL q1 q2 q3 h a g f ra hm fa ge inn wa o) (S : LSt s D cI cG cZ cL h a g f ra hm fa ge inn wa o H locs n id ct fc ad fl R gn th iv wv lf) (hi : i + 3 ≤ L) (hr1 : cells + 1 ≤ 601024) (hr2 : slots + 6 ≤ 7293034) (kk : KT p l e s m below meth c b Q D cI cG cZ cL h a g f ra hm fa ge inn wa o i (cells + 1) (slots + 6) 561) (hl : lv_has ls 7 (lvL b h hm o i)) : W p l e room_1 s m #[Value.ref b] below meth c H locs cells slots Q (F0 m 386 ls []) := by
  obtain ⟨hx, hb, hml, hown, hts, hX, hbl, hL, hK, hXS, hst, hDx, hDm, hoo, hap, hox, hom⟩ := C
  obtain ⟨hPx, hPm, hPo, hS, hR⟩ := S
  obtain ⟨h1, h7, hc, hid, had, hg, hV⟩ := _root_.id hR
  have hid0 : id < 2 ^ 32 := by rw [hid]; have := idn_lt h7; omega
  have hVc := hV ct (Nat.le_refl _)
  have hKc : va_K D vwCl (gT cI cG cZ) s := hK.sub (tys' := gT cI cG cZ) [0, 1, 2] rfl
  have hrm : cells ≤ room_1.cells ∧ slots ≤ room_1.slots := ⟨by show cells ≤ 601024; omega, by show slots ≤ 7293034; omega⟩
  refine lv_aload_n hx hb dL_law_386 rfl (lv_at hl 1 rfl) ?_
  refine lw_arg hx hb hX hbl hL hS hl (k0 := 0) (k4 := 4) (i := i) (j := 1) rfl rfl (by decide) (by omega) dL_law_387 dL_law_388 dL_law_390 dL_law_391 dL_law_392 ?_
  refine pu_tp (nI_tn (xs (i + 1))).symm ?_
  refine lv_aload_n hx hb dL_law_393 rfl (lv_at hl 3 rfl) ?_
  refine va_calli (vx_runSW (As := [.ref h, .int (nI (tn (xs (i + 1)))), .ref o]) (rest := []) ⟨hx, hb, hml, hown, hts⟩ (kL_rank hst hPx hPo h7 hc hid0 (tn_lt (xs (i + 1)))) (vx_cwSW 3 hts gL_law_L_rank rfl rfl rfl eL_rank ⟨by decide, by decide⟩) ⟨fun a U g mk q => ⟨q.1, q.2.1, va_K.moved (u := U) (U := U.calling g mk a) (Vm.Alike.refl U.vm) q.2.2.1, XE.warm (s := U) (U := U.calling g mk a) (State.WarmedH.refl U) rfl q.2.2.2⟩, fun U hU hW => ⟨rfl, hU, va_K.moved hW.alike hK, XS.to hXS hS hU hW⟩⟩ rfl rfl hl.1 rfl (lv_room (Nat.le_of_ble_eq_true rfl)) dL_law_394 ⟨hr1, hr2⟩) hS (fun q _ z => z.elim (fun e => e ▸ hoo) (fun z => Nat.le_trans hS.1 z)) (fun q z => z.elim (fun e => e ▸ hoo) (fun z => Nat.le_trans hS.1 z)) (fun r0 lf t9 H9 locs ht hvm hw0 hB hz hk hS => ?_)
  obtain ⟨⟨hB1, hB2⟩, hB3⟩ := hB
  rw [ht] at hB1 hB2 hB3
  have hPx := hPx.kept (H1 := H9) (fun k q hq => hB2 q.1 ((hPx k q hq).lt) (fun e => hox (e ▸ gAd_of ⟨k, q.2, hq⟩)))
  have hPm := hPm.kept (H1 := H9) (fun k q hq => hB2 q.1 ((hPm k q hq).lt) (fun e => hom (e ▸ mAd_of ⟨k, q.2, hq⟩)))
  have hPo := hB3
  have hrm : cells + 1 ≤ room_1.cells ∧ slots + 6 ≤ room_1.slots := ⟨hr1, hr2⟩
  refine lv_istore (lv' := [(5, .int r0), (0, .ref b), (1, .ref h), (2, .ref hm), (3, .ref o), (4, .int (nI i))]) hx hb dL_law_397 hl (by decide) rfl (fun ls hl => ?_)
  refine lv_aload_n hx hb dL_law_399 rfl (lv_at hl 3 rfl) ?_
  refine lw_arg hx hb hX hbl hL hS hl (k0 := 1) (k4 := 5) (i := i) (j := 1) rfl rfl (by decide) (by omega) dL_law_400 dL_law_401 dL_law_403 dL_law_404 dL_law_405 ?_
  refine pu_tp (nI_tn (xs (i + 1))).symm ?_
  refine mi_V (A0 := LA s) (As := [.int (nI (tn (xs (i + 1))))]) (rest := []) (b := hm) ⟨hx, hb, hml, hown, hts⟩ (kX1_rank h1 h7 hc hg (tn_lt (xs (i + 1)))) (cwV 1 hts gL_law_X1_rank rfl rfl rfl eX1_rank ⟨by decide, by decide⟩) (va_recv hKc hPm (ci := 1) (q0 := 0) rfl rfl) hKc hPm (mW_addr hDm) hS rfl hl.1 rfl (Nat.le_of_ble_eq_true rfl) dL_law_406 hrm (fun r1 u1 H locs hw1 hP9 hS hk => ?_)
  have hPx := kp hPx hk (fun q y z => hap q (gAd_of y) (mAd_of z))
  have hPo := kp hPo hk (fun q y z => hom (oAd_of y ▸ mAd_of z))
  have hPm := hP9
  refine lv_istore (lv' := [(6, .int r1), (5, .int r0), (0, .ref b), (1, .ref h), (2, .ref hm), (3, .ref o), (4, .int (nI i))]) hx hb dL_law_409 hl (by decide) rfl (fun ls hl => ?_)
  have htt : u1.1 = r0 ∧ (r0 = 0 → lf 0 = r1.toInt64) := by
    rcases hw1 with ⟨b0, b1⟩ | ⟨b0, hF, b1⟩
    · rcases hw0 with ⟨a0, a1, a2, a3⟩ | ⟨a0, a1⟩ | ⟨a0, a1, a2⟩
      · exact absurd (b0.symm.trans a1) (by decide)
      · exact ⟨by rw [b1]; exact a0.symm, fun z => absurd (a0.symm.trans z) (by decide)⟩
      · exact absurd (b0.symm.trans a1) (by decide)
    · have hPM := isP_PM.mp b0
      have e1 := FP_nu h1 h7 hF hPM
      have e2 := VC_iff h7 (GG_inG h7 hg) hVc hPM
      rcases hw0 with ⟨a0, a1, a2, a3⟩ | ⟨a0, a1⟩ | ⟨a0, a1, a2⟩
      · have a4 := e2.mp (a2.trans hid)
        rcases b1 with ⟨b2, b3⟩ | ⟨b2, b3, b4⟩
        · exact absurd b2 (e1.mpr a4)
        · exact ⟨b3.trans a0.symm, fun _ => by rw [a3, b4, hid, tie_rank h1 h7 hg hVc hF a4]⟩
      · exact absurd (b0.symm.trans a1) (by decide)
      · rcases b1 with ⟨b2, b3⟩ | ⟨b2, b3, b4⟩
        · exact ⟨b3.trans a0.symm, fun z => absurd (a0.symm.trans z) (by decide)⟩
        · exact absurd ((e2.mpr (e1.mp b2)).trans hid.symm) a2
  obtain ⟨ht1, ht2⟩ := htt
  refine lv_aload_n hx hb dL_law_411 rfl (lv_at hl 4 rfl) ?_
  refine pu_V (As := []) (rest := []) (b := hm) ⟨hx, hb, hml, hown, hts⟩ (kX1_thrown hPm) (cwV 0 hts gL_law_X1_thrown rfl rfl rfl eX1_thrown ⟨by decide, by decide⟩) (va_recv hKc hPm (ci := 1) (q0 := 0) rfl rfl) hKc rfl hl.1 rfl (Nat.le_of_ble_eq_true rfl) dL_law_412 hrm ?_
  refine lv_iload hx hb dL_law_415 (lv_at hl 1 rfl) ?_
  refine lv_icmp_eq (tgt := 422) hx hb dL_law_417 (by decide) (fun _ => ?_) (fun hne => absurd ht1 hne)
  refine lv_iload hx hb dL_law_422 (lv_at hl 1 rfl) ?_
  have fin : ∀ ls : Array Slot, lv_has ls 7 [(6, .int r1), (5, .int r0), (0, .ref b), (1, .ref h), (2, .ref hm), (3, .ref o), (4, .int (nI i))] → W p l e room_1 s m #[Value.ref b] below meth c H locs (cells + 1) (slots + 6) Q (F0 m 439 ls []) := fun ls hl => by
    refine lv_goto (tgt := 561) hx hb dL_law_439 (by decide) ?_
    exact kk H locs n id ct fc ad fl R gn u1.1 u1.2.1 u1.2.2 lf ls ⟨hPx, hPm, hPo, hS, hR⟩ (lv_sub hl [2, 3, 4, 5, 6] rfl)
  refine lv_if_ne (tgt := 439) hx hb dL_law_424 (by decide) (fun _ => fin ls hl) (fun c0 => ?_)
  refine lv_aload_n hx hb dL_law_427 rfl (lv_at hl 5 rfl) ?_
  refine lv_iconst (v := nI 0) hx hb dL_law_428 (by decide) ?_
  refine va_lald hx hb hK hPo 0 3 rfl rfl (vp_in_nI (by decide) (by decide)) dL_law_429 ?_
  refine lw_tl (z := r1.toInt64) ((congrArg lf (nI_clamp (by decide))).trans (ht2 c0)) ?_
  refine lv_iload hx hb dL_law_430 (lv_at hl 0 rfl) ?_
  refine lv_i2l (v := r1.toInt64) hx hb dL_law_432 rfl ?_
  refine lw_lcmp hx hb dL_law_433 ?_
  exact lv_if_eq (tgt := 439) hx hb dL_law_434 (by decide) (fun _ => fin ls hl) (fun hne => absurd rfl hne)
set_option maxHeartbeats 1000000 in
set_option maxRecDepth 20000 in
theorem cs_least (C : LC p l s m c b L xs D cI cG cZ cL q1 q2 q3 h a g f ra hm fa ge inn wa o) (S : LSt s D cI cG cZ cL h a g f ra hm fa ge inn wa o H locs n id ct fc ad fl R gn th iv wv lf) (hi : i + 3 ≤ L) (hr1 : cells + 1 ≤ 601024) (hr2 : slots + 6 ≤ 7293034) (kk : KT p l e s m below meth c b Q D cI cG cZ cL h a g f ra hm fa ge inn wa o i (cells + 1) (slots + 6) 561) (hl : lv_has ls 7 (lvL b h hm o i)) : W p l e room_1 s m #[Value.ref b] below meth c H locs cells slots Q (F0 m 442 ls []) := by
  obtain ⟨hx, hb, hml, hown, hts, hX, hbl, hL, hK, hXS, hst, hDx, hDm, hoo, hap, hox, hom⟩ := C
  obtain ⟨hPx, hPm, hPo, hS, hR⟩ := S
  obtain ⟨h1, h7, hc, hid, had, hg, hV⟩ := _root_.id hR
  have hid0 : id < 2 ^ 32 := by rw [hid]; have := idn_lt h7; omega
  have hVc := hV ct (Nat.le_refl _)
  have hKc : va_K D vwCl (gT cI cG cZ) s := hK.sub (tys' := gT cI cG cZ) [0, 1, 2] rfl
  have hrm : cells ≤ room_1.cells ∧ slots ≤ room_1.slots := ⟨by show cells ≤ 601024; omega, by show slots ≤ 7293034; omega⟩
  refine lv_aload_n hx hb dL_law_442 rfl (lv_at hl 1 rfl) ?_
  refine lw_arg hx hb hX hbl hL hS hl (k0 := 0) (k4 := 4) (i := i) (j := 1) rfl rfl (by decide) (by omega) dL_law_443 dL_law_444 dL_law_446 dL_law_447 dL_law_448 ?_
  refine pu_tp (nI_tn (xs (i + 1))).symm ?_
  refine lv_aload_n hx hb dL_law_449 rfl (lv_at hl 3 rfl) ?_
  refine va_calli (vx_runSW (As := [.ref h, .int (nI (tn (xs (i + 1)))), .ref o]) (rest := []) ⟨hx, hb, hml, hown, hts⟩ (kL_least hst hPx hPo h7 hc (tn_lt (xs (i + 1)))) (vx_cwSW 3 hts gL_law_L_least rfl rfl rfl eL_least ⟨by decide, by decide⟩) ⟨fun a U g mk q => ⟨q.1, q.2.1, va_K.moved (u := U) (U := U.calling g mk a) (Vm.Alike.refl U.vm) q.2.2.1, XE.warm (s := U) (U := U.calling g mk a) (State.WarmedH.refl U) rfl q.2.2.2⟩, fun U hU hW => ⟨rfl, hU, va_K.moved hW.alike hK, XS.to hXS hS hU hW⟩⟩ rfl rfl hl.1 rfl (lv_room (Nat.le_of_ble_eq_true rfl)) dL_law_450 ⟨hr1, hr2⟩) hS (fun q _ z => z.elim (fun e => e ▸ hoo) (fun z => Nat.le_trans hS.1 z)) (fun q z => z.elim (fun e => e ▸ hoo) (fun z => Nat.le_trans hS.1 z)) (fun r0 lf t9 H9 locs ht hvm hw0 hB hz hk hS => ?_)
  obtain ⟨⟨hB1, hB2⟩, hB3⟩ := hB
  rw [ht] at hB1 hB2 hB3
  have hPx := hPx.kept (H1 := H9) (fun k q hq => hB2 q.1 ((hPx k q hq).lt) (fun e => hox (e ▸ gAd_of ⟨k, q.2, hq⟩)))
  have hPm := hPm.kept (H1 := H9) (fun k q hq => hB2 q.1 ((hPm k q hq).lt) (fun e => hom (e ▸ mAd_of ⟨k, q.2, hq⟩)))
  have hPo := hB3
  have hrm : cells + 1 ≤ room_1.cells ∧ slots + 6 ≤ room_1.slots := ⟨hr1, hr2⟩
  refine lv_istore (lv' := [(5, .int r0), (0, .ref b), (1, .ref h), (2, .ref hm), (3, .ref o), (4, .int (nI i))]) hx hb dL_law_453 hl (by decide) rfl (fun ls hl => ?_)
  refine lv_aload_n hx hb dL_law_455 rfl (lv_at hl 3 rfl) ?_
  refine lw_arg hx hb hX hbl hL hS hl (k0 := 1) (k4 := 5) (i := i) (j := 1) rfl rfl (by decide) (by omega) dL_law_456 dL_law_457 dL_law_459 dL_law_460 dL_law_461 ?_
  refine pu_tp (nI_tn (xs (i + 1))).symm ?_
  refine mi_V (A0 := LA s) (As := [.int (nI (tn (xs (i + 1))))]) (rest := []) (b := hm) ⟨hx, hb, hml, hown, hts⟩ (kX1_least h1 h7 hc hg (tn_lt (xs (i + 1)))) (cwV 1 hts gL_law_X1_least rfl rfl rfl eX1_least ⟨by decide, by decide⟩) (va_recv hKc hPm (ci := 1) (q0 := 0) rfl rfl) hKc hPm (mW_addr hDm) hS rfl hl.1 rfl (Nat.le_of_ble_eq_true rfl) dL_law_462 hrm (fun r1 u1 H locs hw1 hP9 hS hk => ?_)
  have hPx := kp hPx hk (fun q y z => hap q (gAd_of y) (mAd_of z))
  have hPo := kp hPo hk (fun q y z => hom (oAd_of y ▸ mAd_of z))
  have hPm := hP9
  refine lv_istore (lv' := [(6, .int r1), (5, .int r0), (0, .ref b), (1, .ref h), (2, .ref hm), (3, .ref o), (4, .int (nI i))]) hx hb dL_law_465 hl (by decide) rfl (fun ls hl => ?_)
  have htt : u1.1 = r0 ∧ (r0 = 0 → lf 0 = r1.toInt64) := by
    rcases hw1 with ⟨b0, b1⟩ | ⟨b0, hF, b1, b2⟩
    · rcases hw0 with ⟨a0, a1, a2⟩ | ⟨a0, a1⟩
      · exact absurd (b0.symm.trans a1) (by decide)
      · exact ⟨by rw [b1]; exact a0.symm, fun z => absurd (a0.symm.trans z) (by decide)⟩
    · rcases hw0 with ⟨a0, a1, a2⟩ | ⟨a0, a1⟩
      · exact ⟨b1.trans a0.symm, fun _ => by rw [a2, b2, tie_least h1 h7 hg hVc hF (isP_PM.mp b0)]⟩
      · exact absurd (b0.symm.trans a1) (by decide)
  obtain ⟨ht1, ht2⟩ := htt
  refine lv_aload_n hx hb dL_law_467 rfl (lv_at hl 4 rfl) ?_
  refine pu_V (As := []) (rest := []) (b := hm) ⟨hx, hb, hml, hown, hts⟩ (kX1_thrown hPm) (cwV 0 hts gL_law_X1_thrown rfl rfl rfl eX1_thrown ⟨by decide, by decide⟩) (va_recv hKc hPm (ci := 1) (q0 := 0) rfl rfl) hKc rfl hl.1 rfl (Nat.le_of_ble_eq_true rfl) dL_law_468 hrm ?_
  refine lv_iload hx hb dL_law_471 (lv_at hl 1 rfl) ?_
  refine lv_icmp_eq (tgt := 478) hx hb dL_law_473 (by decide) (fun _ => ?_) (fun hne => absurd ht1 hne)
  refine lv_iload hx hb dL_law_478 (lv_at hl 1 rfl) ?_
  have fin : ∀ ls : Array Slot, lv_has ls 7 [(6, .int r1), (5, .int r0), (0, .ref b), (1, .ref h), (2, .ref hm), (3, .ref o), (4, .int (nI i))] → W p l e room_1 s m #[Value.ref b] below meth c H locs (cells + 1) (slots + 6) Q (F0 m 495 ls []) := fun ls hl => by
    refine lv_goto (tgt := 561) hx hb dL_law_495 (by decide) ?_
    exact kk H locs n id ct fc ad fl R gn u1.1 u1.2.1 u1.2.2 lf ls ⟨hPx, hPm, hPo, hS, hR⟩ (lv_sub hl [2, 3, 4, 5, 6] rfl)
  refine lv_if_ne (tgt := 495) hx hb dL_law_480 (by decide) (fun _ => fin ls hl) (fun c0 => ?_)
  refine lv_aload_n hx hb dL_law_483 rfl (lv_at hl 5 rfl) ?_
  refine lv_iconst (v := nI 0) hx hb dL_law_484 (by decide) ?_
  refine va_lald hx hb hK hPo 0 3 rfl rfl (vp_in_nI (by decide) (by decide)) dL_law_485 ?_
  refine lw_tl (z := r1.toInt64) ((congrArg lf (nI_clamp (by decide))).trans (ht2 c0)) ?_
  refine lv_iload hx hb dL_law_486 (lv_at hl 0 rfl) ?_
  refine lv_i2l (v := r1.toInt64) hx hb dL_law_488 rfl ?_
  refine lw_lcmp hx hb dL_law_489 ?_
  exact lv_if_eq (tgt := 495) hx hb dL_law_490 (by decide) (fun _ => fin ls hl) (fun hne => absurd rfl hne)
end LWT
