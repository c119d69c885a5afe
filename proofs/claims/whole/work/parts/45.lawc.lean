/-! ===== the law's cases ===== -/
theorem tie_gen {ad gn : Nat → Int32} {ct : Nat} {k : Int32} (hc : ct ≤ 12) (had : ∀ j, j < ct → ad j = gn j) : genI ad ct k = genI gn ct k := by
  unfold genI
  by_cases c0 : k < 0
  · rw [if_pos c0, if_pos c0]
  · rw [if_neg c0, if_neg c0]
    by_cases c1 : k < nI ct
    · rw [if_pos c1, if_pos c1]
      obtain ⟨X, hX, rfl⟩ := nb_ix c0 c1 (by omega)
      rw [tn_nI (by omega)]
      exact had X hX
    · rw [if_neg c1, if_neg c1]
theorem orbI_out {ad : Nat → Int32} {n ct : Nat} {x : Int32} (h : x < 0 ∨ ¬ x < nI n) : orbI ad n ct x = 0 := by
  unfold orbI
  by_cases c0 : x < 0
  · rw [if_pos c0]
  · rw [if_neg c0, if_neg (h.elim (fun z => absurd z c0) _root_.id)]
theorem orbI_in {ad : Nat → Int32} {n ct X : Nat} (h7 : n ≤ 7) (h : X < n) : orbI ad n ct (nI X) = nI (obF ad n ct n 0 (1 * 2 ^ X)) := by
  unfold orbI
  rw [if_neg (nI_pos (by omega)), if_pos (nI_lt h (by omega)), tn_nI (by omega)]
theorem fixI_out {f : Nat → Int32} {n : Nat} {x : Int32} (h : x < 0 ∨ ¬ x ≤ nI n) : fixI f n x = 0 := by
  unfold fixI
  by_cases c0 : x < 0
  · rw [if_pos c0]
  · rw [if_neg c0, if_neg (h.elim (fun z => absurd z c0) _root_.id)]
theorem fixI_in {f : Nat → Int32} {n X : Nat} (h7 : n ≤ 7) (h : X ≤ n) : fixI f n (nI X) = nI (fx f n X) := by
  unfold fixI
  rw [if_neg (nI_pos (by omega)), if_pos (nI_le h (by omega)), tn_nI (by omega)]
section LWC
variable {p : Program} {l : Launch} {e : Env} {s : State} {m : MethodId} {below : List Frame} {meth : Method} {c : Code} {b L i : Nat} {xs : Nat → Int32} {Q : State → Prop} {D : va_G} {cI cG cZ cL : ClassId} {q1 q2 q3 h a g f : Nat} {ra : Nat → Nat} {hm fa ge inn wa o : Nat} {H : Heap} {locs : List Loc} {cells slots n id ct fc : Nat} {ad fl : Nat → Int32} {R : Nat → Nat → Int32} {gn : Nat → Int32} {th : Int32} {iv wv : Nat → Int32} {lf : Nat → Int64} {ls : Array Slot}
set_option maxHeartbeats 1000000 in
set_option maxRecDepth 20000 in
theorem cs_points (C : LC p l s m c b L xs D cI cG cZ cL q1 q2 q3 h a g f ra hm fa ge inn wa o) (S : LSt s D cI cG cZ cL h a g f ra hm fa ge inn wa o H locs n id ct fc ad fl R gn th iv wv lf) (hi : i + 3 ≤ L) (hr1 : cells + 1 ≤ 601024) (hr2 : slots + 6 ≤ 7293034) (kk : KT p l e s m below meth c b Q D cI cG cZ cL h a g f ra hm fa ge inn wa o i (cells + 1) (slots + 6) 561) (hl : lv_has ls 7 (lvL b h hm o i)) : W p l e room_1 s m #[Value.ref b] below meth c H locs cells slots Q (F0 m 116 ls []) := by
  obtain ⟨hx, hb, hml, hown, hts, hX, hbl, hL, hK, hXS, hst, hDx, hDm, hoo, hap, hox, hom⟩ := C
  obtain ⟨hPx, hPm, hPo, hS, hR⟩ := S
  obtain ⟨h1, h7, hc, hid, had, hg, hV⟩ := _root_.id hR
  have hid0 : id < 2 ^ 32 := by rw [hid]; have := idn_lt h7; omega
  have hVc := hV ct (Nat.le_refl _)
  have hKc : va_K D vwCl (gT cI cG cZ) s := hK.sub (tys' := gT cI cG cZ) [0, 1, 2] rfl
  have hrm : cells ≤ room_1.cells ∧ slots ≤ room_1.slots := ⟨by show cells ≤ 601024; omega, by show slots ≤ 7293034; omega⟩
  refine lv_aload_n hx hb dL_law_116 rfl (lv_at hl 1 rfl) ?_
  refine lw_arg hx hb hX hbl hL hS hl (k0 := 0) (k4 := 4) (i := i) (j := 1) rfl rfl (by decide) (by omega) dL_law_117 dL_law_118 dL_law_120 dL_law_121 dL_law_122 ?_
  refine mi_V (A0 := LA s) (As := [.int (xs (i + 1))]) (rest := []) (b := h) ⟨hx, hb, hml, hown, hts⟩ (kX0_points) (cwV 1 hts gL_law_X0_points rfl rfl rfl eX0_points ⟨by decide, by decide⟩) (va_recv hKc hPx (ci := 0) (q0 := 0) rfl rfl) hKc hPx (gW_addr hDx) hS rfl hl.1 rfl (Nat.le_of_ble_eq_true rfl) dL_law_123 hrm (fun r0 u0 H locs hw0 hP9 hS hk => ?_)
  have hPm := kp hPm hk (fun q y z => hap q (gAd_of z) (mAd_of y))
  have hPo := kp hPo hk (fun q y z => hox (oAd_of y ▸ gAd_of z))
  have hPx := hP9
  obtain ⟨n1, id1, ct1, R1⟩ := u0
  refine lv_aload_n hx hb dL_law_126 rfl (lv_at hl 2 rfl) ?_
  refine lw_arg hx hb hX hbl hL hS hl (k0 := 0) (k4 := 4) (i := i) (j := 1) rfl rfl (by decide) (by omega) dL_law_127 dL_law_128 dL_law_130 dL_law_131 dL_law_132 ?_
  refine mi_V (A0 := LA s) (As := [.int (xs (i + 1))]) (rest := [.int r0]) (b := hm) ⟨hx, hb, hml, hown, hts⟩ (kX1_points) (cwV 1 hts gL_law_X1_points rfl rfl rfl eX1_points ⟨by decide, by decide⟩) (va_recv hKc hPm (ci := 1) (q0 := 0) rfl rfl) hKc hPm (mW_addr hDm) hS rfl hl.1 rfl (Nat.le_of_ble_eq_true rfl) dL_law_133 hrm (fun r1 u1 H locs hw1 hP9 hS hk => ?_)
  have hPx := kp hPx hk (fun q y z => hap q (gAd_of y) (mAd_of z))
  have hPo := kp hPo hk (fun q y z => hom (oAd_of y ▸ mAd_of z))
  have hPm := hP9
  obtain ⟨n2, ct2⟩ := u1
  rcases hw0 with ⟨c0, e0, z0, z1, z2, z3, z4, z5⟩ | ⟨c0, e0, z0⟩
  · rcases hw1 with ⟨c1, e1, y0, y1, y2, y3⟩ | ⟨c1, e1, y0⟩
    · have z0 : xs (i + 1) = nI n1 := z0
      have z1 : 1 ≤ n1 := z1
      have z2 : n1 ≤ 7 := z2
      have z3 : id1 = idn n1 := z3
      have z4 : ct1 = 0 := z4
      have y0 : xs (i + 1) = nI n2 := y0
      have y2 : n2 ≤ 7 := y2
      have y3 : ct2 = 0 := y3
      obtain rfl : n1 = n2 := (nI_eq (by omega) (by omega)).mp (z0.symm.trans y0)
      subst z3 z4 y3
      refine lv_icmp_eq (tgt := 561) hx hb dL_law_136 (by decide) (fun _ => ?_) (fun hne => absurd (e0.trans e1.symm) hne)
      refine W.widen (k := cells + 1) (n := slots + 6) (Nat.le_add_right _ _) (Nat.le_add_right _ _) ?_
      exact kk H locs n1 (idn n1) 0 fc ad fl R1 gn th iv wv lf ls ⟨hPx, hPm, hPo, hS, SR_points z1 z2 z5⟩ hl
    · exact absurd c0 c1
  · rcases hw1 with ⟨c1, e1, y0, y1, y2, y3⟩ | ⟨c1, e1, y0⟩
    · exact absurd c1 c0
    · cases z0
      cases y0
      refine lv_icmp_eq (tgt := 561) hx hb dL_law_136 (by decide) (fun _ => ?_) (fun hne => absurd (e0.trans e1.symm) hne)
      refine W.widen (k := cells + 1) (n := slots + 6) (Nat.le_add_right _ _) (Nat.le_add_right _ _) ?_
      exact kk H locs n id ct fc ad fl R gn th iv wv lf ls ⟨hPx, hPm, hPo, hS, hR⟩ hl
set_option maxHeartbeats 1000000 in
set_option maxRecDepth 20000 in
theorem cs_degree (C : LC p l s m c b L xs D cI cG cZ cL q1 q2 q3 h a g f ra hm fa ge inn wa o) (S : LSt s D cI cG cZ cL h a g f ra hm fa ge inn wa o H locs n id ct fc ad fl R gn th iv wv lf) (hi : i + 3 ≤ L) (hr1 : cells + 1 ≤ 601024) (hr2 : slots + 6 ≤ 7293034) (kk : KT p l e s m below meth c b Q D cI cG cZ cL h a g f ra hm fa ge inn wa o i (cells + 1) (slots + 6) 561) (hl : lv_has ls 7 (lvL b h hm o i)) : W p l e room_1 s m #[Value.ref b] below meth c H locs cells slots Q (F0 m 141 ls []) := by
  obtain ⟨hx, hb, hml, hown, hts, hX, hbl, hL, hK, hXS, hst, hDx, hDm, hoo, hap, hox, hom⟩ := C
  obtain ⟨hPx, hPm, hPo, hS, hR⟩ := S
  obtain ⟨h1, h7, hc, hid, had, hg, hV⟩ := _root_.id hR
  have hid0 : id < 2 ^ 32 := by rw [hid]; have := idn_lt h7; omega
  have hVc := hV ct (Nat.le_refl _)
  have hKc : va_K D vwCl (gT cI cG cZ) s := hK.sub (tys' := gT cI cG cZ) [0, 1, 2] rfl
  have hrm : cells ≤ room_1.cells ∧ slots ≤ room_1.slots := ⟨by show cells ≤ 601024; omega, by show slots ≤ 7293034; omega⟩
  refine lv_aload_n hx hb dL_law_141 rfl (lv_at hl 1 rfl) ?_
  refine pu_V (As := []) (rest := []) (b := h) ⟨hx, hb, hml, hown, hts⟩ (kX0_degree hPx) (cwV 0 hts gL_law_X0_degree rfl rfl rfl eX0_degree ⟨by decide, by decide⟩) (va_recv hKc hPx (ci := 0) (q0 := 0) rfl rfl) hKc rfl hl.1 rfl (Nat.le_of_ble_eq_true rfl) dL_law_142 hrm ?_
  refine lv_aload_n hx hb dL_law_145 rfl (lv_at hl 2 rfl) ?_
  refine pu_V (As := []) (rest := [.int (nI n)]) (b := hm) ⟨hx, hb, hml, hown, hts⟩ (kX1_degree hPm) (cwV 0 hts gL_law_X1_degree rfl rfl rfl eX1_degree ⟨by decide, by decide⟩) (va_recv hKc hPm (ci := 1) (q0 := 0) rfl rfl) hKc rfl hl.1 rfl (Nat.le_of_ble_eq_true rfl) dL_law_146 hrm ?_
  refine lv_icmp_eq (tgt := 561) hx hb dL_law_149 (by decide) (fun _ => ?_) (fun hne => absurd (rfl) hne)
  refine W.widen (k := cells + 1) (n := slots + 6) (Nat.le_add_right _ _) (Nat.le_add_right _ _) ?_
  exact kk H locs n id ct fc ad fl R gn th iv wv lf ls ⟨hPx, hPm, hPo, hS, hR⟩ hl
set_option maxHeartbeats 1000000 in
set_option maxRecDepth 20000 in
theorem cs_add (C : LC p l s m c b L xs D cI cG cZ cL q1 q2 q3 h a g f ra hm fa ge inn wa o) (S : LSt s D cI cG cZ cL h a g f ra hm fa ge inn wa o H locs n id ct fc ad fl R gn th iv wv lf) (hi : i + 3 ≤ L) (hr1 : cells + 1 ≤ 601024) (hr2 : slots + 6 ≤ 7293034) (kk : KT p l e s m below meth c b Q D cI cG cZ cL h a g f ra hm fa ge inn wa o i (cells + 1) (slots + 6) 561) (hl : lv_has ls 7 (lvL b h hm o i)) : W p l e room_1 s m #[Value.ref b] below meth c H locs cells slots Q (F0 m 154 ls []) := by
  obtain ⟨hx, hb, hml, hown, hts, hX, hbl, hL, hK, hXS, hst, hDx, hDm, hoo, hap, hox, hom⟩ := C
  obtain ⟨hPx, hPm, hPo, hS, hR⟩ := S
  obtain ⟨h1, h7, hc, hid, had, hg, hV⟩ := _root_.id hR
  have hid0 : id < 2 ^ 32 := by rw [hid]; have := idn_lt h7; omega
  have hVc := hV ct (Nat.le_refl _)
  have hKc : va_K D vwCl (gT cI cG cZ) s := hK.sub (tys' := gT cI cG cZ) [0, 1, 2] rfl
  have hrm : cells ≤ room_1.cells ∧ slots ≤ room_1.slots := ⟨by show cells ≤ 601024; omega, by show slots ≤ 7293034; omega⟩
  refine lv_aload_n hx hb dL_law_154 rfl (lv_at hl 1 rfl) ?_
  refine lw_arg hx hb hX hbl hL hS hl (k0 := 0) (k4 := 4) (i := i) (j := 1) rfl rfl (by decide) (by omega) dL_law_155 dL_law_156 dL_law_158 dL_law_159 dL_law_160 ?_
  refine pu_tp (nI_tn (xs (i + 1))).symm ?_
  refine mi_V (A0 := LA s) (As := [.int (nI (tn (xs (i + 1))))]) (rest := []) (b := h) ⟨hx, hb, hml, hown, hts⟩ (kX0_add h7 h1 hc (tn_lt (xs (i + 1)))) (cwV 1 hts gL_law_X0_add rfl rfl rfl eX0_add ⟨by decide, by decide⟩) (va_recv hKc hPx (ci := 0) (q0 := 0) rfl rfl) hKc hPx (gW_addr hDx) hS rfl hl.1 rfl (Nat.le_of_ble_eq_true rfl) dL_law_161 hrm (fun r0 u0 H locs hw0 hP9 hS hk => ?_)
  have hPm := kp hPm hk (fun q y z => hap q (gAd_of z) (mAd_of y))
  have hPo := kp hPo hk (fun q y z => hox (oAd_of y ▸ gAd_of z))
  have hPx := hP9
  refine lv_aload_n hx hb dL_law_164 rfl (lv_at hl 2 rfl) ?_
  refine lw_arg hx hb hX hbl hL hS hl (k0 := 0) (k4 := 4) (i := i) (j := 1) rfl rfl (by decide) (by omega) dL_law_165 dL_law_166 dL_law_168 dL_law_169 dL_law_170 ?_
  refine pu_tp (nI_tn (xs (i + 1))).symm ?_
  refine mi_V (A0 := LA s) (As := [.int (nI (tn (xs (i + 1))))]) (rest := [.int r0]) (b := hm) ⟨hx, hb, hml, hown, hts⟩ (kX1_add h7 hc (tn_lt (xs (i + 1)))) (cwV 1 hts gL_law_X1_add rfl rfl rfl eX1_add ⟨by decide, by decide⟩) (va_recv hKc hPm (ci := 1) (q0 := 0) rfl rfl) hKc hPm (mW_addr hDm) hS rfl hl.1 rfl (Nat.le_of_ble_eq_true rfl) dL_law_171 hrm (fun r1 u1 H locs hw1 hP9 hS hk => ?_)
  have hPx := kp hPx hk (fun q y z => hap q (gAd_of y) (mAd_of z))
  have hPo := kp hPo hk (fun q y z => hom (oAd_of y ▸ mAd_of z))
  have hPm := hP9
  rcases hw0 with ⟨c0, e0, z0⟩ | ⟨c0, d0, e0, z0⟩ | ⟨c0, d0, e0, z0⟩
  · rcases hw1 with ⟨c1, e1, y0⟩ | ⟨c1, d1, e1, y0⟩ | ⟨c1, d1, e1, y0⟩
    · subst z0 y0
      refine lv_icmp_eq (tgt := 561) hx hb dL_law_174 (by decide) (fun _ => ?_) (fun hne => absurd (e0.trans e1.symm) hne)
      refine W.widen (k := cells + 1) (n := slots + 6) (Nat.le_add_right _ _) (Nat.le_add_right _ _) ?_
      exact kk H locs n id ct fc ad fl R gn th iv wv lf ls ⟨hPx, hPm, hPo, hS, hR⟩ hl
    · exact absurd (c0.symm.trans c1) (by decide)
    · exact absurd (c0.symm.trans c1) (by decide)
  · rcases hw1 with ⟨c1, e1, y0⟩ | ⟨c1, d1, e1, y0⟩ | ⟨c1, d1, e1, y0⟩
    · exact absurd (c0.symm.trans c1) (by decide)
    · subst z0 y0
      refine lv_icmp_eq (tgt := 561) hx hb dL_law_174 (by decide) (fun _ => ?_) (fun hne => absurd (e0.trans e1.symm) hne)
      refine W.widen (k := cells + 1) (n := slots + 6) (Nat.le_add_right _ _) (Nat.le_add_right _ _) ?_
      exact kk H locs n id ct fc ad fl R gn th iv wv lf ls ⟨hPx, hPm, hPo, hS, hR⟩ hl
    · omega
  · rcases hw1 with ⟨c1, e1, y0⟩ | ⟨c1, d1, e1, y0⟩ | ⟨c1, d1, e1, y0⟩
    · exact absurd (c0.symm.trans c1) (by decide)
    · omega
    · subst z0 y0
      refine lv_icmp_eq (tgt := 561) hx hb dL_law_174 (by decide) (fun _ => ?_) (fun hne => absurd (e0.trans e1.symm) hne)
      refine W.widen (k := cells + 1) (n := slots + 6) (Nat.le_add_right _ _) (Nat.le_add_right _ _) ?_
      exact kk H locs n id (ct + 1) _ (upd ad ct (nI (tn (xs (i + 1))))) _ _ (upd gn ct (nI (tn (xs (i + 1))))) th iv wv lf ls ⟨hPx, hPm, hPo, hS, SR_add hR (tn_lt (xs (i + 1))) c0 d0 fl⟩ hl
set_option maxHeartbeats 1000000 in
set_option maxRecDepth 20000 in
theorem cs_drop (C : LC p l s m c b L xs D cI cG cZ cL q1 q2 q3 h a g f ra hm fa ge inn wa o) (S : LSt s D cI cG cZ cL h a g f ra hm fa ge inn wa o H locs n id ct fc ad fl R gn th iv wv lf) (hi : i + 3 ≤ L) (hr1 : cells + 1 ≤ 601024) (hr2 : slots + 6 ≤ 7293034) (kk : KT p l e s m below meth c b Q D cI cG cZ cL h a g f ra hm fa ge inn wa o i (cells + 1) (slots + 6) 561) (hl : lv_has ls 7 (lvL b h hm o i)) : W p l e room_1 s m #[Value.ref b] below meth c H locs cells slots Q (F0 m 179 ls []) := by
  obtain ⟨hx, hb, hml, hown, hts, hX, hbl, hL, hK, hXS, hst, hDx, hDm, hoo, hap, hox, hom⟩ := C
  obtain ⟨hPx, hPm, hPo, hS, hR⟩ := S
  obtain ⟨h1, h7, hc, hid, had, hg, hV⟩ := _root_.id hR
  have hid0 : id < 2 ^ 32 := by rw [hid]; have := idn_lt h7; omega
  have hVc := hV ct (Nat.le_refl _)
  have hKc : va_K D vwCl (gT cI cG cZ) s := hK.sub (tys' := gT cI cG cZ) [0, 1, 2] rfl
  have hrm : cells ≤ room_1.cells ∧ slots ≤ room_1.slots := ⟨by show cells ≤ 601024; omega, by show slots ≤ 7293034; omega⟩
  refine lv_aload_n hx hb dL_law_179 rfl (lv_at hl 1 rfl) ?_
  refine mi_V (A0 := LA s) (As := []) (rest := []) (b := h) ⟨hx, hb, hml, hown, hts⟩ (kX0_drop hc) (cwV 0 hts gL_law_X0_drop rfl rfl rfl eX0_drop ⟨by decide, by decide⟩) (va_recv hKc hPx (ci := 0) (q0 := 0) rfl rfl) hKc hPx (gW_addr hDx) hS rfl hl.1 rfl (Nat.le_of_ble_eq_true rfl) dL_law_180 hrm (fun r0 u0 H locs hw0 hP9 hS hk => ?_)
  have hPm := kp hPm hk (fun q y z => hap q (gAd_of z) (mAd_of y))
  have hPo := kp hPo hk (fun q y z => hox (oAd_of y ▸ gAd_of z))
  have hPx := hP9
  refine lv_aload_n hx hb dL_law_183 rfl (lv_at hl 2 rfl) ?_
  refine mi_V (A0 := LA s) (As := []) (rest := [.int r0]) (b := hm) ⟨hx, hb, hml, hown, hts⟩ (kX1_drop hc) (cwV 0 hts gL_law_X1_drop rfl rfl rfl eX1_drop ⟨by decide, by decide⟩) (va_recv hKc hPm (ci := 1) (q0 := 0) rfl rfl) hKc hPm (mW_addr hDm) hS rfl hl.1 rfl (Nat.le_of_ble_eq_true rfl) dL_law_184 hrm (fun r1 u1 H locs hw1 hP9 hS hk => ?_)
  have hPx := kp hPx hk (fun q y z => hap q (gAd_of y) (mAd_of z))
  have hPo := kp hPo hk (fun q y z => hom (oAd_of y ▸ mAd_of z))
  have hPm := hP9
  rcases hw0 with ⟨c0, e0, z0⟩ | ⟨c0, e0, z0⟩
  · rcases hw1 with ⟨c1, e1, y0⟩ | ⟨c1, e1, y0⟩
    · rw [z0.trans c0.symm] at hPx
      rw [y0.trans c1.symm] at hPm
      refine lv_icmp_eq (tgt := 561) hx hb dL_law_187 (by decide) (fun _ => ?_) (fun hne => absurd (e0.trans e1.symm) hne)
      refine W.widen (k := cells + 1) (n := slots + 6) (Nat.le_add_right _ _) (Nat.le_add_right _ _) ?_
      exact kk H locs n id ct fc ad fl R gn th iv wv lf ls ⟨hPx, hPm, hPo, hS, hR⟩ hl
    · omega
  · rcases hw1 with ⟨c1, e1, y0⟩ | ⟨c1, e1, y0⟩
    · omega
    · subst z0 y0
      refine lv_icmp_eq (tgt := 561) hx hb dL_law_187 (by decide) (fun _ => ?_) (fun hne => absurd (e0.trans e1.symm) hne)
      refine W.widen (k := cells + 1) (n := slots + 6) (Nat.le_add_right _ _) (Nat.le_add_right _ _) ?_
      exact kk H locs n id (ct - 1) fc ad fl R gn th iv wv lf ls ⟨hPx, hPm, hPo, hS, SR_drop hR⟩ hl
set_option maxHeartbeats 1000000 in
set_option maxRecDepth 20000 in
theorem cs_generators (C : LC p l s m c b L xs D cI cG cZ cL q1 q2 q3 h a g f ra hm fa ge inn wa o) (S : LSt s D cI cG cZ cL h a g f ra hm fa ge inn wa o H locs n id ct fc ad fl R gn th iv wv lf) (hi : i + 3 ≤ L) (hr1 : cells + 1 ≤ 601024) (hr2 : slots + 6 ≤ 7293034) (kk : KT p l e s m below meth c b Q D cI cG cZ cL h a g f ra hm fa ge inn wa o i (cells + 1) (slots + 6) 561) (hl : lv_has ls 7 (lvL b h hm o i)) : W p l e room_1 s m #[Value.ref b] below meth c H locs cells slots Q (F0 m 192 ls []) := by
  obtain ⟨hx, hb, hml, hown, hts, hX, hbl, hL, hK, hXS, hst, hDx, hDm, hoo, hap, hox, hom⟩ := C
  obtain ⟨hPx, hPm, hPo, hS, hR⟩ := S
  obtain ⟨h1, h7, hc, hid, had, hg, hV⟩ := _root_.id hR
  have hid0 : id < 2 ^ 32 := by rw [hid]; have := idn_lt h7; omega
  have hVc := hV ct (Nat.le_refl _)
  have hKc : va_K D vwCl (gT cI cG cZ) s := hK.sub (tys' := gT cI cG cZ) [0, 1, 2] rfl
  have hrm : cells ≤ room_1.cells ∧ slots ≤ room_1.slots := ⟨by show cells ≤ 601024; omega, by show slots ≤ 7293034; omega⟩
  refine lv_aload_n hx hb dL_law_192 rfl (lv_at hl 1 rfl) ?_
  refine pu_V (As := []) (rest := []) (b := h) ⟨hx, hb, hml, hown, hts⟩ (kX0_generators hPx) (cwV 0 hts gL_law_X0_generators rfl rfl rfl eX0_generators ⟨by decide, by decide⟩) (va_recv hKc hPx (ci := 0) (q0 := 0) rfl rfl) hKc rfl hl.1 rfl (Nat.le_of_ble_eq_true rfl) dL_law_193 hrm ?_
  refine lv_aload_n hx hb dL_law_196 rfl (lv_at hl 2 rfl) ?_
  refine pu_V (As := []) (rest := [.int (nI ct)]) (b := hm) ⟨hx, hb, hml, hown, hts⟩ (kX1_generators hPm) (cwV 0 hts gL_law_X1_generators rfl rfl rfl eX1_generators ⟨by decide, by decide⟩) (va_recv hKc hPm (ci := 1) (q0 := 0) rfl rfl) hKc rfl hl.1 rfl (Nat.le_of_ble_eq_true rfl) dL_law_197 hrm ?_
  refine lv_icmp_eq (tgt := 561) hx hb dL_law_200 (by decide) (fun _ => ?_) (fun hne => absurd (rfl) hne)
  refine W.widen (k := cells + 1) (n := slots + 6) (Nat.le_add_right _ _) (Nat.le_add_right _ _) ?_
  exact kk H locs n id ct fc ad fl R gn th iv wv lf ls ⟨hPx, hPm, hPo, hS, hR⟩ hl
set_option maxHeartbeats 1000000 in
set_option maxRecDepth 20000 in
theorem cs_generator (C : LC p l s m c b L xs D cI cG cZ cL q1 q2 q3 h a g f ra hm fa ge inn wa o) (S : LSt s D cI cG cZ cL h a g f ra hm fa ge inn wa o H locs n id ct fc ad fl R gn th iv wv lf) (hi : i + 3 ≤ L) (hr1 : cells + 1 ≤ 601024) (hr2 : slots + 6 ≤ 7293034) (kk : KT p l e s m below meth c b Q D cI cG cZ cL h a g f ra hm fa ge inn wa o i (cells + 1) (slots + 6) 561) (hl : lv_has ls 7 (lvL b h hm o i)) : W p l e room_1 s m #[Value.ref b] below meth c H locs cells slots Q (F0 m 205 ls []) := by
  obtain ⟨hx, hb, hml, hown, hts, hX, hbl, hL, hK, hXS, hst, hDx, hDm, hoo, hap, hox, hom⟩ := C
  obtain ⟨hPx, hPm, hPo, hS, hR⟩ := S
  obtain ⟨h1, h7, hc, hid, had, hg, hV⟩ := _root_.id hR
  have hid0 : id < 2 ^ 32 := by rw [hid]; have := idn_lt h7; omega
  have hVc := hV ct (Nat.le_refl _)
  have hKc : va_K D vwCl (gT cI cG cZ) s := hK.sub (tys' := gT cI cG cZ) [0, 1, 2] rfl
  have hrm : cells ≤ room_1.cells ∧ slots ≤ room_1.slots := ⟨by show cells ≤ 601024; omega, by show slots ≤ 7293034; omega⟩
  refine lv_aload_n hx hb dL_law_205 rfl (lv_at hl 1 rfl) ?_
  refine lw_arg hx hb hX hbl hL hS hl (k0 := 0) (k4 := 4) (i := i) (j := 1) rfl rfl (by decide) (by omega) dL_law_206 dL_law_207 dL_law_209 dL_law_210 dL_law_211 ?_
  refine pu_V (As := [.int (xs (i + 1))]) (rest := []) (b := h) ⟨hx, hb, hml, hown, hts⟩ (kX0_generator hPx hc) (cwV 1 hts gL_law_X0_generator rfl rfl rfl eX0_generator ⟨by decide, by decide⟩) (va_recv hKc hPx (ci := 0) (q0 := 0) rfl rfl) hKc rfl hl.1 rfl (Nat.le_of_ble_eq_true rfl) dL_law_212 hrm ?_
  refine lv_aload_n hx hb dL_law_215 rfl (lv_at hl 2 rfl) ?_
  refine lw_arg hx hb hX hbl hL hS hl (k0 := 0) (k4 := 4) (i := i) (j := 1) rfl rfl (by decide) (by omega) dL_law_216 dL_law_217 dL_law_219 dL_law_220 dL_law_221 ?_
  refine pu_V (As := [.int (xs (i + 1))]) (rest := [.int (genI ad ct (xs (i + 1)))]) (b := hm) ⟨hx, hb, hml, hown, hts⟩ (kX1_generator hPm hc) (cwV 1 hts gL_law_X1_generator rfl rfl rfl eX1_generator ⟨by decide, by decide⟩) (va_recv hKc hPm (ci := 1) (q0 := 0) rfl rfl) hKc rfl hl.1 rfl (Nat.le_of_ble_eq_true rfl) dL_law_222 hrm ?_
  refine lv_icmp_eq (tgt := 561) hx hb dL_law_225 (by decide) (fun _ => ?_) (fun hne => absurd (tie_gen hc had) hne)
  refine W.widen (k := cells + 1) (n := slots + 6) (Nat.le_add_right _ _) (Nat.le_add_right _ _) ?_
  exact kk H locs n id ct fc ad fl R gn th iv wv lf ls ⟨hPx, hPm, hPo, hS, hR⟩ hl
set_option maxHeartbeats 1000000 in
set_option maxRecDepth 20000 in
theorem cs_product (C : LC p l s m c b L xs D cI cG cZ cL q1 q2 q3 h a g f ra hm fa ge inn wa o) (S : LSt s D cI cG cZ cL h a g f ra hm fa ge inn wa o H locs n id ct fc ad fl R gn th iv wv lf) (hi : i + 3 ≤ L) (hr1 : cells + 1 ≤ 601024) (hr2 : slots + 6 ≤ 7293034) (kk : KT p l e s m below meth c b Q D cI cG cZ cL h a g f ra hm fa ge inn wa o i (cells + 1) (slots + 6) 561) (hl : lv_has ls 7 (lvL b h hm o i)) : W p l e room_1 s m #[Value.ref b] below meth c H locs cells slots Q (F0 m 230 ls []) := by
  obtain ⟨hx, hb, hml, hown, hts, hX, hbl, hL, hK, hXS, hst, hDx, hDm, hoo, hap, hox, hom⟩ := C
  obtain ⟨hPx, hPm, hPo, hS, hR⟩ := S
  obtain ⟨h1, h7, hc, hid, had, hg, hV⟩ := _root_.id hR
  have hid0 : id < 2 ^ 32 := by rw [hid]; have := idn_lt h7; omega
  have hVc := hV ct (Nat.le_refl _)
  have hKc : va_K D vwCl (gT cI cG cZ) s := hK.sub (tys' := gT cI cG cZ) [0, 1, 2] rfl
  have hrm : cells ≤ room_1.cells ∧ slots ≤ room_1.slots := ⟨by show cells ≤ 601024; omega, by show slots ≤ 7293034; omega⟩
  refine lv_aload_n hx hb dL_law_230 rfl (lv_at hl 1 rfl) ?_
  refine lw_arg hx hb hX hbl hL hS hl (k0 := 0) (k4 := 4) (i := i) (j := 1) rfl rfl (by decide) (by omega) dL_law_231 dL_law_232 dL_law_234 dL_law_235 dL_law_236 ?_
  refine pu_tp (nI_tn (xs (i + 1))).symm ?_
  refine lw_arg hx hb hX hbl hL hS hl (k0 := 0) (k4 := 4) (i := i) (j := 2) rfl rfl (by decide) (by omega) dL_law_237 dL_law_238 dL_law_240 dL_law_241 dL_law_242 ?_
  refine pu_tp (nI_tn (xs (i + 2))).symm ?_
  refine pu_V (As := [.int (nI (tn (xs (i + 1)))), .int (nI (tn (xs (i + 2))))]) (rest := []) (b := h) ⟨hx, hb, hml, hown, hts⟩ (kX0_product hPx h7 (tn_lt _) (tn_lt _)) (cwV 2 hts gL_law_X0_product rfl rfl rfl eX0_product ⟨by decide, by decide⟩) (va_recv hKc hPx (ci := 0) (q0 := 0) rfl rfl) hKc rfl hl.1 rfl (Nat.le_of_ble_eq_true rfl) dL_law_243 hrm ?_
  refine lv_aload_n hx hb dL_law_246 rfl (lv_at hl 2 rfl) ?_
  refine lw_arg hx hb hX hbl hL hS hl (k0 := 0) (k4 := 4) (i := i) (j := 1) rfl rfl (by decide) (by omega) dL_law_247 dL_law_248 dL_law_250 dL_law_251 dL_law_252 ?_
  refine pu_tp (nI_tn (xs (i + 1))).symm ?_
  refine lw_arg hx hb hX hbl hL hS hl (k0 := 0) (k4 := 4) (i := i) (j := 2) rfl rfl (by decide) (by omega) dL_law_253 dL_law_254 dL_law_256 dL_law_257 dL_law_258 ?_
  refine pu_tp (nI_tn (xs (i + 2))).symm ?_
  refine pu_V (As := [.int (nI (tn (xs (i + 1)))), .int (nI (tn (xs (i + 2))))]) (rest := [.int (if isP n (tn (xs (i + 1))) = true ∧ isP n (tn (xs (i + 2))) = true then nI (tm n (tn (xs (i + 1))) (tn (xs (i + 2)))) else -1)]) (b := hm) ⟨hx, hb, hml, hown, hts⟩ (kX1_product hPm h7 (tn_lt _) (tn_lt _)) (cwV 2 hts gL_law_X1_product rfl rfl rfl eX1_product ⟨by decide, by decide⟩) (va_recv hKc hPm (ci := 1) (q0 := 0) rfl rfl) hKc rfl hl.1 rfl (Nat.le_of_ble_eq_true rfl) dL_law_259 hrm ?_
  refine lv_icmp_eq (tgt := 561) hx hb dL_law_262 (by decide) (fun _ => ?_) (fun hne => absurd (rfl) hne)
  refine W.widen (k := cells + 1) (n := slots + 6) (Nat.le_add_right _ _) (Nat.le_add_right _ _) ?_
  exact kk H locs n id ct fc ad fl R gn th iv wv lf ls ⟨hPx, hPm, hPo, hS, hR⟩ hl
set_option maxHeartbeats 1000000 in
set_option maxRecDepth 20000 in
theorem cs_inverse (C : LC p l s m c b L xs D cI cG cZ cL q1 q2 q3 h a g f ra hm fa ge inn wa o) (S : LSt s D cI cG cZ cL h a g f ra hm fa ge inn wa o H locs n id ct fc ad fl R gn th iv wv lf) (hi : i + 3 ≤ L) (hr1 : cells + 1 ≤ 601024) (hr2 : slots + 6 ≤ 7293034) (kk : KT p l e s m below meth c b Q D cI cG cZ cL h a g f ra hm fa ge inn wa o i (cells + 1) (slots + 6) 561) (hl : lv_has ls 7 (lvL b h hm o i)) : W p l e room_1 s m #[Value.ref b] below meth c H locs cells slots Q (F0 m 267 ls []) := by
  obtain ⟨hx, hb, hml, hown, hts, hX, hbl, hL, hK, hXS, hst, hDx, hDm, hoo, hap, hox, hom⟩ := C
  obtain ⟨hPx, hPm, hPo, hS, hR⟩ := S
  obtain ⟨h1, h7, hc, hid, had, hg, hV⟩ := _root_.id hR
  have hid0 : id < 2 ^ 32 := by rw [hid]; have := idn_lt h7; omega
  have hVc := hV ct (Nat.le_refl _)
  have hKc : va_K D vwCl (gT cI cG cZ) s := hK.sub (tys' := gT cI cG cZ) [0, 1, 2] rfl
  have hrm : cells ≤ room_1.cells ∧ slots ≤ room_1.slots := ⟨by show cells ≤ 601024; omega, by show slots ≤ 7293034; omega⟩
  refine lv_aload_n hx hb dL_law_267 rfl (lv_at hl 1 rfl) ?_
  refine lw_arg hx hb hX hbl hL hS hl (k0 := 0) (k4 := 4) (i := i) (j := 1) rfl rfl (by decide) (by omega) dL_law_268 dL_law_269 dL_law_271 dL_law_272 dL_law_273 ?_
  refine pu_tp (nI_tn (xs (i + 1))).symm ?_
  refine pu_V (As := [.int (nI (tn (xs (i + 1))))]) (rest := []) (b := h) ⟨hx, hb, hml, hown, hts⟩ (kX0_inverse hPx h7 (tn_lt _)) (cwV 1 hts gL_law_X0_inverse rfl rfl rfl eX0_inverse ⟨by decide, by decide⟩) (va_recv hKc hPx (ci := 0) (q0 := 0) rfl rfl) hKc rfl hl.1 rfl (Nat.le_of_ble_eq_true rfl) dL_law_274 hrm ?_
  refine lv_aload_n hx hb dL_law_277 rfl (lv_at hl 2 rfl) ?_
  refine lw_arg hx hb hX hbl hL hS hl (k0 := 0) (k4 := 4) (i := i) (j := 1) rfl rfl (by decide) (by omega) dL_law_278 dL_law_279 dL_law_281 dL_law_282 dL_law_283 ?_
  refine pu_tp (nI_tn (xs (i + 1))).symm ?_
  refine pu_V (As := [.int (nI (tn (xs (i + 1))))]) (rest := [.int (if isP n (tn (xs (i + 1))) = true then nI (bk n (tn (xs (i + 1)))) else -1)]) (b := hm) ⟨hx, hb, hml, hown, hts⟩ (kX1_inverse hPm h7 (tn_lt _)) (cwV 1 hts gL_law_X1_inverse rfl rfl rfl eX1_inverse ⟨by decide, by decide⟩) (va_recv hKc hPm (ci := 1) (q0 := 0) rfl rfl) hKc rfl hl.1 rfl (Nat.le_of_ble_eq_true rfl) dL_law_284 hrm ?_
  refine lv_icmp_eq (tgt := 561) hx hb dL_law_287 (by decide) (fun _ => ?_) (fun hne => absurd (rfl) hne)
  refine W.widen (k := cells + 1) (n := slots + 6) (Nat.le_add_right _ _) (Nat.le_add_right _ _) ?_
  exact kk H locs n id ct fc ad fl R gn th iv wv lf ls ⟨hPx, hPm, hPo, hS, hR⟩ hl
set_option maxHeartbeats 1000000 in
set_option maxRecDepth 20000 in
theorem cs_order (C : LC p l s m c b L xs D cI cG cZ cL q1 q2 q3 h a g f ra hm fa ge inn wa o) (S : LSt s D cI cG cZ cL h a g f ra hm fa ge inn wa o H locs n id ct fc ad fl R gn th iv wv lf) (hi : i + 3 ≤ L) (hr1 : cells + 1 ≤ 601024) (hr2 : slots + 6 ≤ 7293034) (kk : KT p l e s m below meth c b Q D cI cG cZ cL h a g f ra hm fa ge inn wa o i (cells + 1) (slots + 6) 561) (hl : lv_has ls 7 (lvL b h hm o i)) : W p l e room_1 s m #[Value.ref b] below meth c H locs cells slots Q (F0 m 292 ls []) := by
  obtain ⟨hx, hb, hml, hown, hts, hX, hbl, hL, hK, hXS, hst, hDx, hDm, hoo, hap, hox, hom⟩ := C
  obtain ⟨hPx, hPm, hPo, hS, hR⟩ := S
  obtain ⟨h1, h7, hc, hid, had, hg, hV⟩ := _root_.id hR
  have hid0 : id < 2 ^ 32 := by rw [hid]; have := idn_lt h7; omega
  have hVc := hV ct (Nat.le_refl _)
  have hKc : va_K D vwCl (gT cI cG cZ) s := hK.sub (tys' := gT cI cG cZ) [0, 1, 2] rfl
  have hrm : cells ≤ room_1.cells ∧ slots ≤ room_1.slots := ⟨by show cells ≤ 601024; omega, by show slots ≤ 7293034; omega⟩
  refine lv_aload_n hx hb dL_law_292 rfl (lv_at hl 1 rfl) ?_
  refine pu_V (As := []) (rest := []) (b := h) ⟨hx, hb, hml, hown, hts⟩ (kX0_order hPx h7 hc) (cwV 0 hts gL_law_X0_order rfl rfl rfl eX0_order ⟨by decide, by decide⟩) (va_recv hKc hPx (ci := 0) (q0 := 0) rfl rfl) hKc rfl hl.1 rfl (Nat.le_of_ble_eq_true rfl) dL_law_293 hrm ?_
  refine lv_aload_n hx hb dL_law_296 rfl (lv_at hl 2 rfl) ?_
  refine mi_V (A0 := LA s) (As := []) (rest := [.int (nI (fx (R ct) n 0))]) (b := hm) ⟨hx, hb, hml, hown, hts⟩ (kX1_order h1 h7 hc hg) (cwV 0 hts gL_law_X1_order rfl rfl rfl eX1_order ⟨by decide, by decide⟩) (va_recv hKc hPm (ci := 1) (q0 := 0) rfl rfl) hKc hPm (mW_addr hDm) hS rfl hl.1 rfl (Nat.le_of_ble_eq_true rfl) dL_law_297 hrm (fun r1 u1 H locs hw1 hP9 hS hk => ?_)
  have hPx := kp hPx hk (fun q y z => hap q (gAd_of y) (mAd_of z))
  have hPo := kp hPo hk (fun q y z => hom (oAd_of y ▸ mAd_of z))
  have hPm := hP9
  refine lv_icmp_eq (tgt := 561) hx hb dL_law_300 (by decide) (fun _ => ?_) (fun hne => absurd (by rw [hw1.2, tie_order h1 h7 hg hVc hw1.1]) hne)
  refine W.widen (k := cells + 1) (n := slots + 6) (Nat.le_add_right _ _) (Nat.le_add_right _ _) ?_
  exact kk H locs n id ct fc ad fl R gn th u1.1 u1.2 lf ls ⟨hPx, hPm, hPo, hS, hR⟩ hl
set_option maxHeartbeats 1000000 in
set_option maxRecDepth 20000 in
theorem cs_contains (C : LC p l s m c b L xs D cI cG cZ cL q1 q2 q3 h a g f ra hm fa ge inn wa o) (S : LSt s D cI cG cZ cL h a g f ra hm fa ge inn wa o H locs n id ct fc ad fl R gn th iv wv lf) (hi : i + 3 ≤ L) (hr1 : cells + 1 ≤ 601024) (hr2 : slots + 6 ≤ 7293034) (kk : KT p l e s m below meth c b Q D cI cG cZ cL h a g f ra hm fa ge inn wa o i (cells + 1) (slots + 6) 561) (hl : lv_has ls 7 (lvL b h hm o i)) : W p l e room_1 s m #[Value.ref b] below meth c H locs cells slots Q (F0 m 305 ls []) := by
  obtain ⟨hx, hb, hml, hown, hts, hX, hbl, hL, hK, hXS, hst, hDx, hDm, hoo, hap, hox, hom⟩ := C
  obtain ⟨hPx, hPm, hPo, hS, hR⟩ := S
  obtain ⟨h1, h7, hc, hid, had, hg, hV⟩ := _root_.id hR
  have hid0 : id < 2 ^ 32 := by rw [hid]; have := idn_lt h7; omega
  have hVc := hV ct (Nat.le_refl _)
  have hKc : va_K D vwCl (gT cI cG cZ) s := hK.sub (tys' := gT cI cG cZ) [0, 1, 2] rfl
  have hrm : cells ≤ room_1.cells ∧ slots ≤ room_1.slots := ⟨by show cells ≤ 601024; omega, by show slots ≤ 7293034; omega⟩
  refine lv_aload_n hx hb dL_law_305 rfl (lv_at hl 1 rfl) ?_
  refine lw_arg hx hb hX hbl hL hS hl (k0 := 0) (k4 := 4) (i := i) (j := 1) rfl rfl (by decide) (by omega) dL_law_306 dL_law_307 dL_law_309 dL_law_310 dL_law_311 ?_
  refine pu_tp (nI_tn (xs (i + 1))).symm ?_
  refine pu_V (As := [.int (nI (tn (xs (i + 1))))]) (rest := []) (b := h) ⟨hx, hb, hml, hown, hts⟩ (kX0_contains hPx h7 hc hid0 (tn_lt (xs (i + 1)))) (cwV 1 hts gL_law_X0_contains rfl rfl rfl eX0_contains ⟨by decide, by decide⟩) (va_recv hKc hPx (ci := 0) (q0 := 0) rfl rfl) hKc rfl hl.1 rfl (Nat.le_of_ble_eq_true rfl) dL_law_312 hrm ?_
  refine lv_aload_n hx hb dL_law_315 rfl (lv_at hl 2 rfl) ?_
  refine lw_arg hx hb hX hbl hL hS hl (k0 := 0) (k4 := 4) (i := i) (j := 1) rfl rfl (by decide) (by omega) dL_law_316 dL_law_317 dL_law_319 dL_law_320 dL_law_321 ?_
  refine pu_tp (nI_tn (xs (i + 1))).symm ?_
  refine mi_V (A0 := LA s) (As := [.int (nI (tn (xs (i + 1))))]) (rest := [.int (b01 (isP n (tn (xs (i + 1))) && decide (rs (R ct) n (tn (xs (i + 1))) = id)))]) (b := hm) ⟨hx, hb, hml, hown, hts⟩ (kX1_contains h1 h7 hc hg (tn_lt (xs (i + 1)))) (cwV 1 hts gL_law_X1_contains rfl rfl rfl eX1_contains ⟨by decide, by decide⟩) (va_recv hKc hPm (ci := 1) (q0 := 0) rfl rfl) hKc hPm (mW_addr hDm) hS rfl hl.1 rfl (Nat.le_of_ble_eq_true rfl) dL_law_322 hrm (fun r1 u1 H locs hw1 hP9 hS hk => ?_)
  have hPx := kp hPx hk (fun q y z => hap q (gAd_of y) (mAd_of z))
  have hPo := kp hPo hk (fun q y z => hom (oAd_of y ▸ mAd_of z))
  have hPm := hP9
  rcases hw1 with ⟨c1, e1, y0⟩ | ⟨c1, e1, y0⟩
  · refine lv_icmp_eq (tgt := 561) hx hb dL_law_325 (by decide) (fun _ => ?_) (fun hne => absurd (by rw [e1, c1]; rfl) hne)
    refine W.widen (k := cells + 1) (n := slots + 6) (Nat.le_add_right _ _) (Nat.le_add_right _ _) ?_
    exact kk H locs n id ct fc ad fl R gn th u1.1 u1.2 lf ls ⟨hPx, hPm, hPo, hS, hR⟩ hl
  · refine lv_icmp_eq (tgt := 561) hx hb dL_law_325 (by decide) (fun _ => ?_) (fun hne => absurd (by rw [y0, c1, hid, Bool.true_and]; exact tie_contains h1 h7 hg hVc e1 (isP_PM.mp c1)) hne)
    refine W.widen (k := cells + 1) (n := slots + 6) (Nat.le_add_right _ _) (Nat.le_add_right _ _) ?_
    exact kk H locs n id ct fc ad fl R gn th u1.1 u1.2 lf ls ⟨hPx, hPm, hPo, hS, hR⟩ hl
set_option maxHeartbeats 1000000 in
set_option maxRecDepth 20000 in
theorem cs_orbit (C : LC p l s m c b L xs D cI cG cZ cL q1 q2 q3 h a g f ra hm fa ge inn wa o) (S : LSt s D cI cG cZ cL h a g f ra hm fa ge inn wa o H locs n id ct fc ad fl R gn th iv wv lf) (hi : i + 3 ≤ L) (hr1 : cells + 1 ≤ 601024) (hr2 : slots + 6 ≤ 7293034) (kk : KT p l e s m below meth c b Q D cI cG cZ cL h a g f ra hm fa ge inn wa o i (cells + 1) (slots + 6) 561) (hl : lv_has ls 7 (lvL b h hm o i)) : W p l e room_1 s m #[Value.ref b] below meth c H locs cells slots Q (F0 m 498 ls []) := by
  obtain ⟨hx, hb, hml, hown, hts, hX, hbl, hL, hK, hXS, hst, hDx, hDm, hoo, hap, hox, hom⟩ := C
  obtain ⟨hPx, hPm, hPo, hS, hR⟩ := S
  obtain ⟨h1, h7, hc, hid, had, hg, hV⟩ := _root_.id hR
  have hid0 : id < 2 ^ 32 := by rw [hid]; have := idn_lt h7; omega
  have hVc := hV ct (Nat.le_refl _)
  have hKc : va_K D vwCl (gT cI cG cZ) s := hK.sub (tys' := gT cI cG cZ) [0, 1, 2] rfl
  have hrm : cells ≤ room_1.cells ∧ slots ≤ room_1.slots := ⟨by show cells ≤ 601024; omega, by show slots ≤ 7293034; omega⟩
  refine lv_aload_n hx hb dL_law_498 rfl (lv_at hl 1 rfl) ?_
  refine lw_arg hx hb hX hbl hL hS hl (k0 := 0) (k4 := 4) (i := i) (j := 1) rfl rfl (by decide) (by omega) dL_law_499 dL_law_500 dL_law_502 dL_law_503 dL_law_504 ?_
  refine pu_V (As := [.int (xs (i + 1))]) (rest := []) (b := h) ⟨hx, hb, hml, hown, hts⟩ (kX0_orbit hPx h7 hc) (cwV 1 hts gL_law_X0_orbit rfl rfl rfl eX0_orbit ⟨by decide, by decide⟩) (va_recv hKc hPx (ci := 0) (q0 := 0) rfl rfl) hKc rfl hl.1 rfl (Nat.le_of_ble_eq_true rfl) dL_law_505 hrm ?_
  refine lv_aload_n hx hb dL_law_508 rfl (lv_at hl 2 rfl) ?_
  refine lw_arg hx hb hX hbl hL hS hl (k0 := 0) (k4 := 4) (i := i) (j := 1) rfl rfl (by decide) (by omega) dL_law_509 dL_law_510 dL_law_512 dL_law_513 dL_law_514 ?_
  refine mi_V (A0 := LA s) (As := [.int (xs (i + 1))]) (rest := [.int (orbI ad n ct (xs (i + 1)))]) (b := hm) ⟨hx, hb, hml, hown, hts⟩ (kX1_orbit h1 h7 hc hg) (cwV 1 hts gL_law_X1_orbit rfl rfl rfl eX1_orbit ⟨by decide, by decide⟩) (va_recv hKc hPm (ci := 1) (q0 := 0) rfl rfl) hKc hPm (mW_addr hDm) hS rfl hl.1 rfl (Nat.le_of_ble_eq_true rfl) dL_law_515 hrm (fun r1 u1 H locs hw1 hP9 hS hk => ?_)
  have hPx := kp hPx hk (fun q y z => hap q (gAd_of y) (mAd_of z))
  have hPo := kp hPo hk (fun q y z => hom (oAd_of y ▸ mAd_of z))
  have hPm := hP9
  rcases hw1 with ⟨c1, e1, y0⟩ | ⟨X, c1, e1, hF, y0⟩
  · refine lv_icmp_eq (tgt := 561) hx hb dL_law_518 (by decide) (fun _ => ?_) (fun hne => absurd ((orbI_out c1).trans e1.symm) hne)
    refine W.widen (k := cells + 1) (n := slots + 6) (Nat.le_add_right _ _) (Nat.le_add_right _ _) ?_
    exact kk H locs n id ct fc ad fl R gn th u1.1 u1.2 lf ls ⟨hPx, hPm, hPo, hS, hR⟩ hl
  · refine lv_icmp_eq (tgt := 561) hx hb dL_law_518 (by decide) (fun _ => ?_) (fun hne => absurd (by rw [y0, e1]; exact (orbI_in h7 c1).trans (congrArg nI (tie_orbit h1 h7 (fun j hj => by rw [SR_gC hR j hj]; exact hg j hj) (fun j hj => (SR_gC hR j hj).symm) hF c1).symm)) hne)
    refine W.widen (k := cells + 1) (n := slots + 6) (Nat.le_add_right _ _) (Nat.le_add_right _ _) ?_
    exact kk H locs n id ct fc ad fl R gn th u1.1 u1.2 lf ls ⟨hPx, hPm, hPo, hS, hR⟩ hl
set_option maxHeartbeats 1000000 in
set_option maxRecDepth 20000 in
theorem cs_fixing (C : LC p l s m c b L xs D cI cG cZ cL q1 q2 q3 h a g f ra hm fa ge inn wa o) (S : LSt s D cI cG cZ cL h a g f ra hm fa ge inn wa o H locs n id ct fc ad fl R gn th iv wv lf) (hi : i + 3 ≤ L) (hr1 : cells + 1 ≤ 601024) (hr2 : slots + 6 ≤ 7293034) (kk : KT p l e s m below meth c b Q D cI cG cZ cL h a g f ra hm fa ge inn wa o i (cells + 1) (slots + 6) 561) (hl : lv_has ls 7 (lvL b h hm o i)) : W p l e room_1 s m #[Value.ref b] below meth c H locs cells slots Q (F0 m 523 ls []) := by
  obtain ⟨hx, hb, hml, hown, hts, hX, hbl, hL, hK, hXS, hst, hDx, hDm, hoo, hap, hox, hom⟩ := C
  obtain ⟨hPx, hPm, hPo, hS, hR⟩ := S
  obtain ⟨h1, h7, hc, hid, had, hg, hV⟩ := _root_.id hR
  have hid0 : id < 2 ^ 32 := by rw [hid]; have := idn_lt h7; omega
  have hVc := hV ct (Nat.le_refl _)
  have hKc : va_K D vwCl (gT cI cG cZ) s := hK.sub (tys' := gT cI cG cZ) [0, 1, 2] rfl
  have hrm : cells ≤ room_1.cells ∧ slots ≤ room_1.slots := ⟨by show cells ≤ 601024; omega, by show slots ≤ 7293034; omega⟩
  refine lv_aload_n hx hb dL_law_523 rfl (lv_at hl 1 rfl) ?_
  refine lw_arg hx hb hX hbl hL hS hl (k0 := 0) (k4 := 4) (i := i) (j := 1) rfl rfl (by decide) (by omega) dL_law_524 dL_law_525 dL_law_527 dL_law_528 dL_law_529 ?_
  refine pu_V (As := [.int (xs (i + 1))]) (rest := []) (b := h) ⟨hx, hb, hml, hown, hts⟩ (kX0_fixing hPx h7 hc) (cwV 1 hts gL_law_X0_fixing rfl rfl rfl eX0_fixing ⟨by decide, by decide⟩) (va_recv hKc hPx (ci := 0) (q0 := 0) rfl rfl) hKc rfl hl.1 rfl (Nat.le_of_ble_eq_true rfl) dL_law_530 hrm ?_
  refine lv_aload_n hx hb dL_law_533 rfl (lv_at hl 2 rfl) ?_
  refine lw_arg hx hb hX hbl hL hS hl (k0 := 0) (k4 := 4) (i := i) (j := 1) rfl rfl (by decide) (by omega) dL_law_534 dL_law_535 dL_law_537 dL_law_538 dL_law_539 ?_
  refine mi_V (A0 := LA s) (As := [.int (xs (i + 1))]) (rest := [.int (fixI (R ct) n (xs (i + 1)))]) (b := hm) ⟨hx, hb, hml, hown, hts⟩ (kX1_fixing h1 h7 hc hg) (cwV 1 hts gL_law_X1_fixing rfl rfl rfl eX1_fixing ⟨by decide, by decide⟩) (va_recv hKc hPm (ci := 1) (q0 := 0) rfl rfl) hKc hPm (mW_addr hDm) hS rfl hl.1 rfl (Nat.le_of_ble_eq_true rfl) dL_law_540 hrm (fun r1 u1 H locs hw1 hP9 hS hk => ?_)
  have hPx := kp hPx hk (fun q y z => hap q (gAd_of y) (mAd_of z))
  have hPo := kp hPo hk (fun q y z => hom (oAd_of y ▸ mAd_of z))
  have hPm := hP9
  rcases hw1 with ⟨c1, e1, y0⟩ | ⟨X, c1, e1, hF, y0⟩
  · refine lv_icmp_eq (tgt := 561) hx hb dL_law_543 (by decide) (fun _ => ?_) (fun hne => absurd ((fixI_out c1).trans e1.symm) hne)
    refine W.widen (k := cells + 1) (n := slots + 6) (Nat.le_add_right _ _) (Nat.le_add_right _ _) ?_
    exact kk H locs n id ct fc ad fl R gn th u1.1 u1.2 lf ls ⟨hPx, hPm, hPo, hS, hR⟩ hl
  · refine lv_icmp_eq (tgt := 561) hx hb dL_law_543 (by decide) (fun _ => ?_) (fun hne => absurd (by rw [y0, e1]; exact (fixI_in h7 c1).trans (congrArg nI (tie_fixing h1 h7 hg hVc hF c1).symm)) hne)
    refine W.widen (k := cells + 1) (n := slots + 6) (Nat.le_add_right _ _) (Nat.le_add_right _ _) ?_
    exact kk H locs n id ct fc ad fl R gn th u1.1 u1.2 lf ls ⟨hPx, hPm, hPo, hS, hR⟩ hl
set_option maxHeartbeats 1000000 in
set_option maxRecDepth 20000 in
theorem cs_even (C : LC p l s m c b L xs D cI cG cZ cL q1 q2 q3 h a g f ra hm fa ge inn wa o) (S : LSt s D cI cG cZ cL h a g f ra hm fa ge inn wa o H locs n id ct fc ad fl R gn th iv wv lf) (hi : i + 3 ≤ L) (hr1 : cells + 1 ≤ 601024) (hr2 : slots + 6 ≤ 7293034) (kk : KT p l e s m below meth c b Q D cI cG cZ cL h a g f ra hm fa ge inn wa o i (cells + 1) (slots + 6) 561) (hl : lv_has ls 7 (lvL b h hm o i)) : W p l e room_1 s m #[Value.ref b] below meth c H locs cells slots Q (F0 m 548 ls []) := by
  obtain ⟨hx, hb, hml, hown, hts, hX, hbl, hL, hK, hXS, hst, hDx, hDm, hoo, hap, hox, hom⟩ := C
  obtain ⟨hPx, hPm, hPo, hS, hR⟩ := S
  obtain ⟨h1, h7, hc, hid, had, hg, hV⟩ := _root_.id hR
  have hid0 : id < 2 ^ 32 := by rw [hid]; have := idn_lt h7; omega
  have hVc := hV ct (Nat.le_refl _)
  have hKc : va_K D vwCl (gT cI cG cZ) s := hK.sub (tys' := gT cI cG cZ) [0, 1, 2] rfl
  have hrm : cells ≤ room_1.cells ∧ slots ≤ room_1.slots := ⟨by show cells ≤ 601024; omega, by show slots ≤ 7293034; omega⟩
  refine lv_aload_n hx hb dL_law_548 rfl (lv_at hl 1 rfl) ?_
  refine pu_V (As := []) (rest := []) (b := h) ⟨hx, hb, hml, hown, hts⟩ (kX0_even hPx h7 h1 hc) (cwV 0 hts gL_law_X0_even rfl rfl rfl eX0_even ⟨by decide, by decide⟩) (va_recv hKc hPx (ci := 0) (q0 := 0) rfl rfl) hKc rfl hl.1 rfl (Nat.le_of_ble_eq_true rfl) dL_law_549 hrm ?_
  refine lv_aload_n hx hb dL_law_552 rfl (lv_at hl 2 rfl) ?_
  refine mi_V (A0 := LA s) (As := []) (rest := [.int (nI (evF ad n (fx (R ct) n 0) ct 0))]) (b := hm) ⟨hx, hb, hml, hown, hts⟩ (kX1_even h1 h7 hc hg) (cwV 0 hts gL_law_X1_even rfl rfl rfl eX1_even ⟨by decide, by decide⟩) (va_recv hKc hPm (ci := 1) (q0 := 0) rfl rfl) hKc hPm (mW_addr hDm) hS rfl hl.1 rfl (Nat.le_of_ble_eq_true rfl) dL_law_553 hrm (fun r1 u1 H locs hw1 hP9 hS hk => ?_)
  have hPx := kp hPx hk (fun q y z => hap q (gAd_of y) (mAd_of z))
  have hPo := kp hPo hk (fun q y z => hom (oAd_of y ▸ mAd_of z))
  have hPm := hP9
  refine lv_icmp_eq (tgt := 561) hx hb dL_law_556 (by decide) (fun _ => ?_) (fun hne => absurd (by rw [hw1.2, tie_even h1 h7 hg (fun j hj => SR_gC hR j hj) hVc hw1.1]) hne)
  refine W.widen (k := cells + 1) (n := slots + 6) (Nat.le_add_right _ _) (Nat.le_add_right _ _) ?_
  exact kk H locs n id ct fc ad fl R gn th u1.1 u1.2 lf ls ⟨hPx, hPm, hPo, hS, hR⟩ hl
end LWC
