/-! ===== the law's start ===== -/
theorem gAd_in {cI cG : ClassId} {h a g f : Nat} {ra : Nat → Nat} {n id ct fc : Int32} {ad fl : Nat → Int32} {R : Nat → Nat → Int32} {q : Nat} (hq : gAd h a g f ra q) : inW (gW cI cG h a g f ra n id ct fc ad fl R) q := by
  rcases hq with rfl | rfl | rfl | rfl | ⟨i, hi, rfl⟩
  · exact ⟨0, _, rfl⟩
  · exact ⟨1, _, rfl⟩
  · exact ⟨2, _, rfl⟩
  · exact ⟨3, _, rfl⟩
  · exact ⟨i + 4, _, gW_row hi⟩
theorem mAd_in {cI cZ : ClassId} {h fa ge inn wa : Nat} {ct n th : Int32} {gn iv wv : Nat → Int32} {q : Nat} (hq : mAd h fa ge inn wa q) : inW (mW cI cZ h fa ge inn wa ct n th gn iv wv) q := by
  rcases hq with rfl | rfl | rfl | rfl | rfl
  · exact ⟨0, _, rfl⟩
  · exact ⟨1, _, rfl⟩
  · exact ⟨2, _, rfl⟩
  · exact ⟨3, _, rfl⟩
  · exact ⟨4, _, rfl⟩
theorem inW_lt {D : va_G} {w : va_W} {H : Heap} {q : Nat} (hP : va_P D vwCl w H) (hq : inW w q) : q < H.size := by
  obtain ⟨k, e, hk⟩ := hq
  exact (hP k _ hk).lt
theorem D_last {A : Nat → Prop} {w : va_W} {q : Nat} {e : va_E} (hD : va_D A (w ++ [(q, e)])) : ¬ inW w q := by
  rintro ⟨k, e2, hk⟩
  have hl : k < w.length := (List.getElem?_eq_some_iff.mp hk).1
  have h1 : (w ++ [(q, e)])[k]? = some (q, e2) := by rw [List.getElem?_append_left hl]; exact hk
  have h2 : (w ++ [(q, e)])[w.length]? = some (q, e) := by rw [List.getElem?_append_right (Nat.le_refl _), Nat.sub_self]; rfl
  have := hD.1 k w.length _ _ h1 h2 rfl
  omega
theorem P_last {D : va_G} {w : va_W} {x : Nat × va_E} {H : Heap} (hP : va_P D vwCl (w ++ [x]) H) : va_P D vwCl w H ∧ va_P D vwCl [x] H := by
  refine ⟨fun k q hk => ?_, fun k q hk => ?_⟩
  · have hl : k < w.length := (List.getElem?_eq_some_iff.mp hk).1
    exact hP k q (by rw [List.getElem?_append_left hl]; exact hk)
  · have hl : k < 1 := (List.getElem?_eq_some_iff.mp hk).1
    rw [show k = 0 by omega] at hk
    exact hP w.length q (by rw [List.getElem?_append_right (Nat.le_refl _), Nat.sub_self]; exact hk)
theorem D_one {A : Nat → Prop} {w : va_W} {x : Nat × va_E} (hD : va_D A (w ++ [x])) : va_D A [x] := by
  refine ⟨fun i j y z hi hj _ => ?_, fun k q hk => ?_⟩
  · have a1 : i < 1 := (List.getElem?_eq_some_iff.mp hi).1
    have a2 : j < 1 := (List.getElem?_eq_some_iff.mp hj).1
    omega
  · have hl : k < 1 := (List.getElem?_eq_some_iff.mp hk).1
    rw [show k = 0 by omega] at hk
    exact hD.2 w.length q (by rw [List.getElem?_append_right (Nat.le_refl _), Nat.sub_self]; exact hk)
theorem lw_arr {s : State} {args : Array Value} {ty : FieldType} (h : (Cond.arrayClass ty).before args s = true) : ∃ cA : ClassId, ArrOfT s cA ty ∧ s.vm.findClass ("[" ++ ty.toString) = some cA := by
  obtain ⟨cA, k, comp, h1, h2, h3⟩ := Cond.arrayClass_spec h
  exact ⟨cA, fun n z => ⟨fun k h => (by cases h), k, h2, comp, h3⟩, h1⟩
theorem lw_arrA {s : State} {args : Array Value} (h : (Cond.arrayOver (.array .int)).before args s = true) : ∃ cA : ClassId, ArrOfT s cA (.array .int) ∧ s.vm.findClass ("[" ++ (FieldType.array .int).toString) = some cA := by
  obtain ⟨comp, cA, k, h1, h2, h3, h4⟩ := Cond.arrayOver_specA h
  exact ⟨cA, fun n z => ⟨fun k h => (by cases h), k, h2, comp, h3⟩, h4⟩
theorem lw_vk {s : State} {args : Array Value} {cC : ClassId} {k : Nat} {tx : String} (hc : s.vm.findClass RX0 = some cC) (h : (Cond.stringRef RX0 k tx).before args s = true) : ∃ q, vk_R RX0 k tx q s := by
  obtain ⟨-, -, -, sa, -, -, -, -, -, hev⟩ := Cond.stringRef_spec hc h
  exact ⟨sa, vk_R.of h hev⟩
theorem lw_xev {s : State} {args : Array Value} {E : String} (h1 : (Cond.castable E E).before args s = true) (h2 : (Cond.declares (iS "java/lang/RuntimeException")).before args s = true) (h3 : (Cond.declares (iS "java/lang/Exception")).before args s = true) (h4 : (Cond.declares (iS "java/lang/Throwable")).before args s = true) : XEV E s := ⟨va_Nw.of rfl h1, va_Nw.of rfl h2, va_Nw.of rfl h3, va_Nw.of rfl h4⟩
set_option maxHeartbeats 2000000 in
set_option maxRecDepth 100000 in
theorem lw_xs {s : State} {b : Nat} {cC : ClassId} (hc : s.vm.findClass RX0 = some cC) (hts0 : ∀ w ∈ lw_tbl, w.before #[Value.ref b] s = true) (hgv : (Jvm.Cond.and given_1 narrow_1).before #[Value.ref b] s = true) : ∃ q1 q2 q3, XS q1 q2 q3 s := by
  have hs := flat_of_before _ hgv
  obtain ⟨q1, h1⟩ := lw_vk hc (hts0 (.stringRef RX0 61 "no element has this number") (by decide +kernel))
  obtain ⟨q2, h2⟩ := lw_vk hc (hts0 (.stringRef RX0 74 "no permutation") (by decide +kernel))
  obtain ⟨q3, h3⟩ := lw_vk hc (hts0 (.stringRef RX0 79 "no element of the group") (by decide +kernel))
  have hd1 := hts0 (.declares (iS "java/lang/RuntimeException")) (by decide +kernel)
  have hd2 := hts0 (.declares (iS "java/lang/Exception")) (by decide +kernel)
  have hd3 := hts0 (.declares (iS "java/lang/Throwable")) (by decide +kernel)
  have hin := hts0 (.initialized Bundle.tN) (by decide +kernel)
  have hnc : (Cond.not (.castable nsE iaE)).before #[Value.ref b] s = true := hs _ (by decide +kernel)
  have hr1 : (Cond.isRef (.static Bundle.tN "UNASSIGNED_STACK" Bundle.steD)).before #[Value.ref b] s = true := hs _ (by decide +kernel)
  have hr2 : (Cond.isRef (.static Bundle.tN "SUPPRESSED_SENTINEL" Bundle.listD)).before #[Value.ref b] s = true := hs _ (by decide +kernel)
  exact ⟨q1, q2, q3, ⟨h1, h2, h3⟩, ⟨vx_Zqof (hts0 (.laysStatic Bundle.tN "UNASSIGNED_STACK" Bundle.steD) (by decide +kernel)) hin hr1 (fun a ha => Nat.not_le.mpr ha), vx_Zqof (hts0 (.laysStatic Bundle.tN "SUPPRESSED_SENTINEL" Bundle.listD) (by decide +kernel)) hin hr2 (fun a ha => Nat.not_le.mpr ha)⟩,
    lw_xev (hts0 (.castable ioE ioE) (by decide +kernel)) hd1 hd2 hd3, lw_xev (hts0 (.castable iaE iaE) (by decide +kernel)) hd1 hd2 hd3, lw_xev (hts0 (.castable nsE nsE) (by decide +kernel)) hd1 hd2 hd3, va_Nc.of hnc⟩
theorem lw_d0 : ∀ j, j < 7 → defaultValue (tyX0 j) = vp_V gNew j := fun j hj => by
  match j, hj with
  | 0, _ => rfl
  | 1, _ => rfl
  | 2, _ => rfl
  | 3, _ => rfl
  | 4, _ => rfl
  | 5, _ => rfl
  | 6, _ => rfl
theorem lw_d1 : ∀ j, j < 7 → defaultValue (tyX1 j) = vp_V mNew j := fun j hj => by
  match j, hj with
  | 0, _ => rfl
  | 1, _ => rfl
  | 2, _ => rfl
  | 3, _ => rfl
  | 4, _ => rfl
  | 5, _ => rfl
  | 6, _ => rfl
set_option maxHeartbeats 2000000 in
set_option maxRecDepth 100000 in
theorem whole_start {p : Program} {e : Env} {s : State} {m : MethodId} {below : List Frame} {meth : Method} {c : Code} (l : Launch) {b L : Nat} {xs : Nat → Int32} (hst : l.stackTraces = false) (hL : L ≤ 1536) (C0 : lw_At p s m meth c b L xs) : W p l e room_1 s m #[Value.ref b] below meth c s.heap [] 0 0 (lw_Z below #[Value.ref b] s) (entryFrame m ([Value.ref b] : List Value).toArray 7) := by
  obtain ⟨hx, hb, hr, hml, hown, hts0, hX, hbl, hlocks, hgv⟩ := C0
  have hown : s.vm.findClass RL = some m.cls := hown
  have hts : ∀ w ∈ wsL_law, w.before #[Value.ref b] s = true := fun w h => hts0 w (wsL_law_in w h)
  have hA : ∀ q : Nat, s.heap.size ≤ q → LA s q := fun _ h => h
  obtain ⟨c0, iS0, hKn0⟩ := u_known (C := RX0) (T := TX0) (N := 7) (n := 7) hts inlX0 (hts (.instantiable RX0 7) (by decide +kernel))
  obtain ⟨c1, iS1, hKn1⟩ := u_known (C := RX1) (T := TX1) (N := 7) (n := 7) hts inlX1 (hts (.instantiable RX1 7) (by decide +kernel))
  obtain ⟨D, hKc⟩ : ∃ D : va_G, ∀ (k : Nat) (q : vw_C), vwCl[k]? = some q → u_Kn s q.1 q.2.1 q.2.2 (D.1 k) (D.2 k) := by
    refine ⟨(fun k => if k = 0 then c0 else c1, fun k => if k = 0 then iS0 else iS1), ?_⟩
    intro k q hq
    match k, hq with
    | 0, hq => cases hq; exact hKn0
    | 1, hq => cases hq; exact hKn1
    | k + 2, hq => simp [vwCl] at hq
  have hao : (Cond.arrayOver (.array .int)).before #[] s = true := aoA_moved (Vm.Alike.refl s.vm) (hts0 (.arrayOver (.array .int)) (by decide +kernel))
  obtain ⟨cI, hI1, hI2⟩ := lw_arr (ty := .int) (hts (.arrayClass .int) (by decide +kernel))
  obtain ⟨cZ, hZ1, hZ2⟩ := lw_arr (ty := .boolean) (hts (.arrayClass .boolean) (by decide +kernel))
  obtain ⟨cL, hL1, hL2⟩ := lw_arr (ty := .long) (hts (.arrayClass .long) (by decide +kernel))
  obtain ⟨cG, hG1, hG2⟩ := lw_arrA hao
  have hK : va_K D vwCl (gL cI cG cZ cL) s := ⟨hKc, fun k q hk => by
    match k, hk with
    | 0, hk => cases hk; exact ⟨hI1, hI2⟩
    | 1, hk => cases hk; exact ⟨hG1, hG2⟩
    | 2, hk => cases hk; exact ⟨hZ1, hZ2⟩
    | 3, hk => cases hk; exact ⟨hL1, hL2⟩
    | k + 4, hk => simp [gL] at hk⟩
  have hKg : va_K D vwCl (gT cI cG cZ) s := hK.sub (tys' := gT cI cG cZ) [0, 1, 2] rfl
  obtain ⟨q1, q2, q3, hXS⟩ := lw_xs hKn0.2.1 hts0 hgv
  have hS : va_S (LA s) s.heap s.heap [] := va_S.rf
  have hP : va_P D vwCl [] s.heap := fun k q h => by simp at h
  have hD : va_D (LA s) [] := ⟨fun i j p q h => by simp at h, fun k q h => by simp at h⟩
  have hl := lv_entry ([.ref b]) (n := 7) (Nat.le_of_ble_eq_true rfl)
  rw [lg_entry_eq]
  generalize (lg_sl ([.ref b]) ++ List.replicate (7 - (lg_sl ([.ref b])).length) Slot.unset).toArray = ls at hl ⊢
  have hl : lv_has ls 7 [(0, .ref b)] := hl
  refine va_new (ci := 0) (fs := gNew) (C := RX0) (T := TX0) (N := 7) hx hb hts inlX0 tyX0 tyX0_ok hown (hts (.classLink RL 8 RX0) (by decide +kernel)) (hts (.instantiable RX0 7) (by decide +kernel)) (hts (.initialized RX0) (by decide +kernel)) hK hP hD hS hA rfl lw_d0 (Nat.le_of_ble_eq_true rfl) (Nat.le_of_ble_eq_true rfl) dL_law_0 (fun h H hP hD hS => ?_)
  have hP : va_P D vwCl [(h, .inr (0, gNew))] H := hP
  have hD : va_D (LA s) [(h, .inr (0, gNew))] := hD
  refine lv_dup hx hb dL_law_3 rfl ?_
  have hF : ∀ q, va_A [(h, .inr (0, gNew))] H.size q → LA s q := fun q z => z.elim (fun ⟨k, e, hk⟩ => hD.2 k (q, e) hk) (fun z => Nat.le_trans hS.1 z)
  refine va_callv (va_runI (As := []) (rest := [.ref h]) ⟨hx, hb, hml, hown, hts⟩ (kX0_init l D (cI := cI) (cG := cG) (cZ := cZ) h H.size) (cwI 0 hts gL_law_X0_init rfl rfl rfl (hts (.initialized RX0) (by decide +kernel)) (hts (.methodLink RL 25 yX0_init) (by decide +kernel)) (hts (.instanceMethod yX0_init) (by decide +kernel)) rfl (by decide +kernel) ⟨Nat.le_of_ble_eq_true rfl, Nat.le_of_ble_eq_true rfl⟩) ⟨fun a U g mk q => by obtain ⟨z0, z1, zP, zK, zD, zO⟩ := q; exact ⟨z0, z1, zP, va_K.moved (u := U) (U := U.calling g mk a) (Vm.Alike.refl U.vm) zK, zD, aoA_moved (u := U) (U := U.calling g mk a) (Vm.Alike.refl U.vm) zO⟩, fun U hU hW => ⟨rfl, by rw [hU], by rw [hU]; exact hP, va_K.moved hW.alike hKg, hD.weaken (fun _ _ _ _ => trivial), aoA_moved hW.alike hao⟩⟩ rfl rfl hl.1 rfl (lv_room (Nat.le_of_ble_eq_true rfl)) dL_law_4 ⟨Nat.le_of_ble_eq_true rfl, Nat.le_of_ble_eq_true rfl⟩) hS (fun q _ h => hF q h) hF (fun u t H1 locs ht hvm hw hB hz1 hk1 hS => ?_)
  obtain ⟨qa, qg, qf, ra, R0⟩ := u
  have hw : ∀ j, j < 56 → R0 0 j = bgR 5 j := hw
  obtain ⟨hPx, hDx⟩ := hB
  rw [ht] at hPx
  have hPx : va_P D vwCl (gW cI cG h qa qg qf ra (nI 5) (nI (idn 5)) (nI 0) (nI 0) (fun _ => 0) (fun _ => 0) R0) H1 := hPx
  have hDx : va_D (LA s) (gW cI cG h qa qg qf ra (nI 5) (nI (idn 5)) (nI 0) (nI 0) (fun _ => 0) (fun _ => 0) R0) := hDx.weaken (fun k q _ z => hF q.1 z)
  refine lv_astore_n (lv' := [(1, .ref h), (0, .ref b)]) hx hb dL_law_7 rfl hl (by decide) rfl (fun ls hl => ?_)
  refine va_new (ci := 1) (fs := mNew) (C := RX1) (T := TX1) (N := 7) hx hb hts inlX1 tyX1 tyX1_ok hown (hts (.classLink RL 26 RX1) (by decide +kernel)) (hts (.instantiable RX1 7) (by decide +kernel)) (hts (.initialized RX1) (by decide +kernel)) hK hPx hDx hS hA rfl lw_d1 (Nat.le_of_ble_eq_true rfl) (Nat.le_of_ble_eq_true rfl) dL_law_8 (fun hm H2 hP2 hD2 hS => ?_)
  obtain ⟨hPx, hPn⟩ := P_last hP2
  have hDn := D_one hD2
  have hne := D_last hD2
  refine lv_dup hx hb dL_law_11 rfl ?_
  have hF2 : ∀ q, va_A [(hm, .inr (1, mNew))] H2.size q → LA s q := fun q z => z.elim (fun ⟨k, e, hk⟩ => hDn.2 k (q, e) hk) (fun z => Nat.le_trans hS.1 z)
  refine va_callv (va_runI (As := []) (rest := [.ref hm]) ⟨hx, hb, hml, hown, hts⟩ (kX1_init l D (cI := cI) (cG := cG) (cZ := cZ) hm H2.size) (cwI 0 hts gL_law_X1_init rfl rfl rfl (hts (.initialized RX1) (by decide +kernel)) (hts (.methodLink RL 28 yX1_init) (by decide +kernel)) (hts (.instanceMethod yX1_init) (by decide +kernel)) rfl (by decide +kernel) ⟨Nat.le_of_ble_eq_true rfl, Nat.le_of_ble_eq_true rfl⟩) ⟨fun a U g mk q => by obtain ⟨z0, z1, zP, zK, zD⟩ := q; exact ⟨z0, z1, zP, va_K.moved (u := U) (U := U.calling g mk a) (Vm.Alike.refl U.vm) zK, zD⟩, fun U hU hW => ⟨rfl, by rw [hU], by rw [hU]; exact hPn, va_K.moved hW.alike hKg, hDn.weaken (fun _ _ _ _ => trivial)⟩⟩ rfl rfl hl.1 rfl (lv_room (Nat.le_of_ble_eq_true rfl)) dL_law_12 ⟨Nat.le_of_ble_eq_true rfl, Nat.le_of_ble_eq_true rfl⟩) hS (fun q _ h => hF2 q h) hF2 (fun u t H3 locs ht hvm hw9 hB hz3 hk3 hS => ?_)
  obtain ⟨fa, ge, inn, wa⟩ := u
  obtain ⟨hPm, hDm⟩ := hB
  rw [ht] at hPm
  have hPm : va_P D vwCl (mW cI cZ hm fa ge inn wa (nI 0) (nI 5) 0 (fun _ => 0) (fun _ => 0) (fun _ => 0)) H3 := hPm
  have hDm : va_D (va_A [(hm, .inr (1, mNew))] H2.size) (mW cI cZ hm fa ge inn wa (nI 0) (nI 5) 0 (fun _ => 0) (fun _ => 0) (fun _ => 0)) := hDm
  have hnA : ∀ q, inW (gW cI cG h qa qg qf ra (nI 5) (nI (idn 5)) (nI 0) (nI 0) (fun _ => 0) (fun _ => 0) R0) q → ¬ va_A [(hm, .inr (1, mNew))] H2.size q := fun q y z => by
    have hlt := inW_lt hPx y
    rcases z with ⟨k, e, hk⟩ | z
    · have a1 : k < 1 := (List.getElem?_eq_some_iff.mp hk).1
      rw [show k = 0 by omega] at hk
      cases hk
      exact hne y
    · omega
  have hap : ∀ q, gAd h qa qg qf ra q → mAd hm fa ge inn wa q → False := fun q y z => by
    obtain ⟨k, e, hk⟩ := mAd_in (cI := cI) (cZ := cZ) (ct := nI 0) (n := nI 5) (th := 0) (gn := fun _ => 0) (iv := fun _ => 0) (wv := fun _ => 0) z
    exact hnA q (gAd_in y) (hDm.2 k _ hk)
  have hPx := hPx.kept (H1 := H3) (fun k q hq => hk3 q.1 ((hPx k q hq).lt) (hnA q.1 ⟨k, q.2, hq⟩))
  have hDm := hDm.weaken (B := LA s) (fun k q _ z => hF2 q.1 z)
  refine lv_astore_n (lv' := [(2, .ref hm), (1, .ref h), (0, .ref b)]) hx hb dL_law_15 rfl hl (by decide) rfl (fun ls hl => ?_)
  refine lv_iconst (v := nI 1) hx hb dL_law_16 (by decide) ?_
  refine va_newaK (atype := .long) (n := nI 1) (N := 1) (rest := []) hx hb (hts (.arrayClass .long) (by decide +kernel)) rfl dL_law_17 rfl (nI_pos (by decide)) (nI_clamp (by decide)) (Nat.le_of_ble_eq_true rfl) (Nat.le_of_ble_eq_true rfl) (Nat.le_of_ble_eq_true rfl) rfl (fun H4 cA e1 z1 o1 hAr hNm => ?_)
  obtain rfl : cL = cA := Option.some.inj (hL2.symm.trans hNm)
  have hPo : va_P D vwCl (oW cL H3.size (fun _ => 0)) H4 := fun k q hk => by
    have a1 : k < 1 := (List.getElem?_eq_some_iff.mp hk).1
    rw [show k = 0 by omega] at hk
    cases hk
    exact e1
  have hox : ¬ gAd h qa qg qf ra H3.size := fun z => Nat.lt_irrefl _ (inW_lt hPx (gAd_in z))
  have hom : ¬ mAd hm fa ge inn wa H3.size := fun z => Nat.lt_irrefl _ (inW_lt hPm (mAd_in z))
  have hPx := hPx.kept (H1 := H4) (fun k q hq => o1 q.1 ((hPx k q hq).lt))
  have hPm := hPm.kept (H1 := H4) (fun k q hq => o1 q.1 ((hPm k q hq).lt))
  have hsz : s.heap.size ≤ H3.size := hS.1
  have hS : va_S (LA s) s.heap H4 locs := ⟨Nat.le_trans hS.1 (by omega), fun q y z => (o1 q (Nat.lt_of_lt_of_le y hS.1)).trans (hS.2.1 q y z), hS.2.2⟩
  refine W.eq (g2 := F0 m 19 ls [.ref H3.size]) rfl ?_
  refine lv_astore_n (lv' := [(3, .ref H3.size), (2, .ref hm), (1, .ref h), (0, .ref b)]) hx hb dL_law_19 rfl hl (by decide) rfl (fun ls hl => ?_)
  refine lv_iconst (v := nI 0) hx hb dL_law_20 (by decide) ?_
  refine lv_istore (lv' := [(4, .int (nI 0)), (3, .ref H3.size), (2, .ref hm), (1, .ref h), (0, .ref b)]) hx hb dL_law_21 hl (by decide) rfl (fun ls hl => ?_)
  exact lw_loop ⟨hx, hb, hml, hown, hts, hX, hbl, hL, hK, hXS, hst, gW_addr hDx, mW_addr hDm, hsz, hap, hox, hom⟩ hr hlocks 512 0 (by omega) (by omega) H4 locs 5 (idn 5) 0 0 (fun _ => 0) (fun _ => 0) R0 (fun _ => 0) 0 (fun _ => 0) (fun _ => 0) (fun _ => 0) ls ⟨hPx, hPm, hPo, hS, SR_points (by decide) (by decide) hw⟩ (lv_sub hl [4, 3, 2, 1, 0] rfl)
