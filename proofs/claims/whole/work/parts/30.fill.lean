section CXH
variable {l : Launch} {D : va_G} {cI cG cZ : ClassId} {h fa ge inn wa : Nat} {ct n : Nat} {th : Int32} {gn iv wv : Nat → Int32}
theorem eX1_fill : yX1_fill.cls = RX1 ∧ yX1_fill.cls ≠ "java/lang/invoke/MethodHandle" ∧ yX1_fill.cls ≠ "java/lang/invoke/VarHandle" ∧ (parseMethodDescriptor yX1_fill.desc).map (fun d => d.parameters.length) = some 0 := by decide +kernel
set_option maxHeartbeats 4000000 in
set_option maxRecDepth 100000 in
theorem kX1_fill (h1 : 1 ≤ n) (h7 : n ≤ 7) (hc : ct ≤ 12) (hg : ∀ j, j < ct → PM n (gC gn j)) : mV (S := ((Nat → Int32) × (Nat → Int32))) l yX1_fill wsX1_fill ({ frames := 3, cells := 0, slots := 0, locals := 74 } : Room) [.ref h] D (gT cI cG cZ) (mW cI cZ h fa ge inn wa (nI (ct)) (nI (n)) (th) (gn) (iv) (wv)) (fun u => mW cI cZ h fa ge inn wa (nI ct) (nI n) th gn u.1 u.2) (fun u => FP n ct gn u.1) := by
  refine mV_ofW (cc := cX1_fill) (maxL := 7) (by decide) rfl (Nat.le_of_ble_eq_true rfl) ?_
  intro p e s m args below meth c QQ hx hb hml hown hts hK hP hD hS hret ls hl
  have hl : lv_has ls 7 [(0, .ref h)] := hl
  have hown : s.vm.findClass RX1 = some m.cls := hown
  have hin0 : ∀ w ∈ wsX10, w ∈ wsX1_fill := fun w h => List.mem_cons_of_mem _ (List.mem_append_right _ h)
  have hl_count : (Cond.fieldLink RX1 43 "PermGroupModel" "count" "I").before args s = true := hts _ (by decide +kernel)
  have hl_gens : (Cond.fieldLink RX1 13 "PermGroupModel" "gens" "[I").before args s = true := hts _ (by decide +kernel)
  have hl_in : (Cond.fieldLink RX1 16 "PermGroupModel" "in" "[Z").before args s = true := hts _ (by decide +kernel)
  have hl_waiting : (Cond.fieldLink RX1 20 "PermGroupModel" "waiting" "[I").before args s = true := hts _ (by decide +kernel)
  generalize inW (mW cI cZ h fa ge inn wa (nI (ct)) (nI (n)) (th) (gn) (iv) (wv)) = A at hD hS hret
  suffices start : ∀ (H : Heap) (locs : List Loc), va_P D vwCl (mW cI cZ h fa ge inn wa (nI (ct)) (nI (n)) (th) (gn) (iv) (wv)) H → va_D A (mW cI cZ h fa ge inn wa (nI (ct)) (nI (n)) (th) (gn) (iv) (wv)) → va_S A s.heap H locs → W p l e ({ frames := 3, cells := 0, slots := 0, locals := 74 } : Room) s m args below meth c H locs 0 0 QQ (F0 m 0 ls []) from start s.heap [] hP hD hS
  clear hP hD hS
  intro H locs hP hD hS
  have hf := fac_le h7
  refine lv_iconst (v := nI (0)) hx hb dX1_fill_0 (by decide) ?_
  refine lv_istore_n (lv' := [(1, .int (nI (0))), (0, .ref h)]) hx hb dX1_fill_1 rfl hl (by decide) rfl (fun ls hl => ?_)
  have loop_2 : ∀ (k i : Nat) (iz : Nat → Int32) (H : Heap) (locs : List Loc), (i + k = 5040) → (∀ j, j < i → iz j = 0) → va_P D vwCl (mW cI cZ h fa ge inn wa (nI (ct)) (nI (n)) (th) (gn) (iz) (wv)) H → va_D A (mW cI cZ h fa ge inn wa (nI (ct)) (nI (n)) (th) (gn) (iz) (wv)) → va_S A s.heap H locs → ∀ (ls : Array Slot), lv_has ls 7 [(0, .ref h), (1, .int (nI (i)))] → W p l e ({ frames := 3, cells := 0, slots := 0, locals := 74 } : Room) s m args below meth c H locs 0 0 QQ (F0 m 2 ls []) := by
    intro k
    induction k with
    | zero =>
      intro i iz H locs hk hz hP hD hS ls hl
      refine lv_iload_n hx hb dX1_fill_2 rfl (lv_at hl 1 rfl) ?_
      refine lv_sipush (v := nI (5040)) hx hb dX1_fill_3 (by decide) ?_
      refine lv_icmp_ge (tgt := 22) hx hb dX1_fill_6 (by decide) (fun c_6 => ?_) (fun c_6 => ?_)
      ·
        have c_6 := (nI_leI (by omega) (by omega)).mp c_6
        refine lv_aload_n hx hb dX1_fill_22 rfl (lv_at hl 0 rfl) ?_
        refine va_get (D := D) (ci := 1) (v := .ref inn) (C := RX1) (T := TX1) (N := 7) hx hb hts hin0 hown hK hP 0 rfl rfl 4 (by decide) hl_in (fun _ h9 => h9) rfl dX1_fill_23 ?_
        refine lv_iconst (v := nI (0)) hx hb dX1_fill_26 (by decide) ?_
        refine lv_iconst (v := nI (1)) hx hb dX1_fill_27 (by decide) ?_
        refine ua_zast hx hb hK hP hD hS 3 2 rfl rfl (by decide) (by omega) (by decide) dX1_fill_28 (fun H locs hP hD hS => ?_)
        have hP : va_P D vwCl (mW cI cZ h fa ge inn wa (nI (ct)) (nI (n)) (th) (gn) (upd (iz) (0) (nI (1))) (wv)) H := hP
        have hD : va_D A (mW cI cZ h fa ge inn wa (nI (ct)) (nI (n)) (th) (gn) (upd (iz) (0) (nI (1))) (wv)) := hD
        refine lv_aload_n hx hb dX1_fill_29 rfl (lv_at hl 0 rfl) ?_
        refine va_get (D := D) (ci := 1) (v := .ref wa) (C := RX1) (T := TX1) (N := 7) hx hb hts hin0 hown hK hP 0 rfl rfl 5 (by decide) hl_waiting (fun _ h9 => h9) rfl dX1_fill_30 ?_
        refine lv_iconst (v := nI (0)) hx hb dX1_fill_33 (by decide) ?_
        refine lv_iconst (v := nI (0)) hx hb dX1_fill_34 (by decide) ?_
        refine ua_iast hx hb hK hP hD hS 4 0 rfl rfl (by omega) (by decide) dX1_fill_35 (fun H locs hP hD hS => ?_)
        have hP : va_P D vwCl (mW cI cZ h fa ge inn wa (nI (ct)) (nI (n)) (th) (gn) (upd (iz) (0) (nI (1))) (upd (wv) (0) (nI (0)))) H := hP
        have hD : va_D A (mW cI cZ h fa ge inn wa (nI (ct)) (nI (n)) (th) (gn) (upd (iz) (0) (nI (1))) (upd (wv) (0) (nI (0)))) := hD
        refine lv_iconst (v := nI (1)) hx hb dX1_fill_36 (by decide) ?_
        refine lv_istore_n (lv' := [(1, .int (nI (1))), (0, .ref h)]) hx hb dX1_fill_37 rfl hl (by decide) rfl (fun ls hl => ?_)
        refine lv_iconst (v := nI (0)) hx hb dX1_fill_38 (by decide) ?_
        refine lv_istore_n (lv' := [(2, .int (nI (0))), (1, .int (nI (1))), (0, .ref h)]) hx hb dX1_fill_39 rfl hl (by decide) rfl (fun ls hl => ?_)
        have loop_40 : ∀ (K k la : Nat) (iz wz : Nat → Int32) (H : Heap) (locs : List Loc), (k + K = 5041) → (BI n ct gn k iz wz la) → va_P D vwCl (mW cI cZ h fa ge inn wa (nI (ct)) (nI (n)) (th) (gn) (iz) (wz)) H → va_D A (mW cI cZ h fa ge inn wa (nI (ct)) (nI (n)) (th) (gn) (iz) (wz)) → va_S A s.heap H locs → ∀ (ls : Array Slot), lv_has ls 7 [(0, .ref h), (1, .int (nI (la))), (2, .int (nI (k)))] → W p l e ({ frames := 3, cells := 0, slots := 0, locals := 74 } : Room) s m args below meth c H locs 0 0 QQ (F0 m 40 ls []) := by
          intro K
          induction K with
          | zero =>
            intro k la iz wz H locs hK1 hB hP hD hS ls hl
            exact absurd hB.2.1 (by have := hB.1; omega)
          | succ K ih_40 =>
            intro k la iz wz H locs hK1 hB hP hD hS ls hl
            have hla := hB.1
            have hkl := hB.2.1
            refine lv_iload_n hx hb dX1_fill_40 rfl (lv_at hl 2 rfl) ?_
            refine lv_iload_n hx hb dX1_fill_41 rfl (lv_at hl 1 rfl) ?_
            refine lv_icmp_ge (tgt := 134) hx hb dX1_fill_42 (by decide) (fun c_42 => ?_) (fun c_42 => ?_)
            ·
              have c_42 := (nI_leI (by omega) (by omega)).mp c_42
              exact hret (iz, wz) H locs _ _ (BI_end h1 h7 hg hB c_42) hP hS dX1_fill_134
            ·
              have c_42 : ¬ _ := fun h9 => c_42 ((nI_leI (by omega) (by omega)).mpr h9)
              refine lv_aload_n hx hb dX1_fill_45 rfl (lv_at hl 0 rfl) ?_
              refine lv_aload_n hx hb dX1_fill_46 rfl (lv_at hl 0 rfl) ?_
              refine va_get (D := D) (ci := 1) (v := .ref wa) (C := RX1) (T := TX1) (N := 7) hx hb hts hin0 hown hK hP 0 rfl rfl 5 (by decide) hl_waiting (fun _ h9 => h9) rfl dX1_fill_47 ?_
              refine lv_iload_n hx hb dX1_fill_50 rfl (lv_at hl 2 rfl) ?_
              refine va_iald hx hb hK hP 4 0 rfl rfl (vp_in_nI (by omega) (by omega)) dX1_fill_51 ?_
              refine pu_tp (nb_clamp (f := wz) (by omega)) ?_
              refine pu_tp (z := nI (tn (wz k))) ((nI_tn _).symm) ?_
              refine pu_V (As := [.int (nI (tn (wz k)))]) (rest := []) (b := h) ⟨hx, hb, hml, hown, hts⟩ (kX1_permutation hP h7 (q := tn (wz k)) (by have := (BI_wv h7 hB (show k < la by omega)).1; omega)) (cwV 1 hts gX1_fill_X1_permutation rfl rfl rfl eX1_permutation ⟨by decide, by decide⟩) (va_recv hK hP (ci := 1) (q0 := 0) rfl rfl) hK rfl hl.1 rfl (Nat.le_of_ble_eq_true rfl) dX1_fill_52 ⟨Nat.zero_le _, Nat.zero_le _⟩ ?_
              refine lv_istore_n (lv' := [(3, .int (nI (pe n (tn (wz k))))), (0, .ref h), (1, .int (nI (la))), (2, .int (nI (k)))]) hx hb dX1_fill_55 rfl hl (by decide) rfl (fun ls hl => ?_)
              have hJ0 := BJ_in hB (show k < la by omega)
              generalize pe n (tn (wz k)) = Pp at hJ0 hl
              refine lv_iconst (v := nI (0)) hx hb dX1_fill_56 (by decide) ?_
              refine lv_istore (lv' := [(4, .int (nI (0))), (3, .int (nI (Pp))), (0, .ref h), (1, .int (nI (la))), (2, .int (nI (k)))]) hx hb dX1_fill_57 hl (by decide) rfl (fun ls hl => ?_)
              have loop_59 : ∀ (J t lb : Nat) (iy wy : Nat → Int32) (H : Heap) (locs : List Loc), (t + J = ct) → (BJ n ct gn k t Pp iy wy lb) → va_P D vwCl (mW cI cZ h fa ge inn wa (nI (ct)) (nI (n)) (th) (gn) (iy) (wy)) H → va_D A (mW cI cZ h fa ge inn wa (nI (ct)) (nI (n)) (th) (gn) (iy) (wy)) → va_S A s.heap H locs → ∀ (ls : Array Slot), lv_has ls 7 [(0, .ref h), (1, .int (nI (lb))), (2, .int (nI (k))), (3, .int (nI (Pp))), (4, .int (nI (t)))] → W p l e ({ frames := 3, cells := 0, slots := 0, locals := 74 } : Room) s m args below meth c H locs 0 0 QQ (F0 m 59 ls []) := by
                intro J
                induction J with
                | zero =>
                  intro t lb iy wy H locs hJ1 hJ hP hD hS ls hl
                  refine lv_iload hx hb dX1_fill_59 (lv_at hl 4 rfl) ?_
                  refine lv_aload_n hx hb dX1_fill_61 rfl (lv_at hl 0 rfl) ?_
                  refine va_get (D := D) (ci := 1) (v := .int (nI (ct))) (C := RX1) (T := TX1) (N := 7) hx hb hts hin0 hown hK hP 0 rfl rfl 2 (by decide) hl_count (fun _ h9 => h9) rfl dX1_fill_62 ?_
                  refine lv_icmp_ge (tgt := 128) hx hb dX1_fill_65 (by decide) (fun c_65 => ?_) (fun c_65 => ?_)
                  ·
                    have c_65 := (nI_leI (by omega) (by omega)).mp c_65
                    refine lv_iinc (v := nI (k + 1)) (lv' := [(2, .int (nI (k + 1))), (0, .ref h), (1, .int (nI (lb))), (3, .int (nI (Pp))), (4, .int (nI (t)))]) hx hb dX1_fill_128 hl (k := 2) rfl (nI_1 _) (by decide) rfl (fun ls hl => ?_)
                    refine lv_goto (tgt := 40) hx hb dX1_fill_131 (by decide) ?_
                    exact ih_40 (k + 1) lb iy wy H locs (by omega) (BJ_out (by rw [show ct = t by omega]; rw [show ct = t by omega] at hJ; exact hJ)) hP hD hS ls (lv_sub hl [1, 2, 0] rfl)
                  ·
                    have c_65 : ¬ _ := fun h9 => c_65 ((nI_leI (by omega) (by omega)).mpr h9)
                    exfalso; omega
                | succ J ih_59 =>
                  intro t lb iy wy H locs hJ1 hJ hP hD hS ls hl
                  have hlb := hJ.1.1
                  obtain ⟨q1, q2, q3, q4⟩ := BJ_prod h1 h7 hg hJ (show t < ct by omega)
                  have q5 := PM_lt h7 q1
                  have q6 := PM_lt h7 q2
                  have q7 := PM_lt h7 (hg t (by omega))
                  have q7 : tn (gn t) < 2 ^ 24 := q7
                  refine lv_iload hx hb dX1_fill_59 (lv_at hl 4 rfl) ?_
                  refine lv_aload_n hx hb dX1_fill_61 rfl (lv_at hl 0 rfl) ?_
                  refine va_get (D := D) (ci := 1) (v := .int (nI (ct))) (C := RX1) (T := TX1) (N := 7) hx hb hts hin0 hown hK hP 0 rfl rfl 2 (by decide) hl_count (fun _ h9 => h9) rfl dX1_fill_62 ?_
                  refine lv_icmp_ge (tgt := 128) hx hb dX1_fill_65 (by decide) (fun c_65 => ?_) (fun c_65 => ?_)
                  ·
                    have c_65 := (nI_leI (by omega) (by omega)).mp c_65
                    exfalso; omega
                  ·
                    have c_65 : ¬ _ := fun h9 => c_65 ((nI_leI (by omega) (by omega)).mpr h9)
                    refine lv_aload_n hx hb dX1_fill_68 rfl (lv_at hl 0 rfl) ?_
                    refine lv_iload_n hx hb dX1_fill_69 rfl (lv_at hl 3 rfl) ?_
                    refine lv_aload_n hx hb dX1_fill_70 rfl (lv_at hl 0 rfl) ?_
                    refine va_get (D := D) (ci := 1) (v := .ref ge) (C := RX1) (T := TX1) (N := 7) hx hb hts hin0 hown hK hP 0 rfl rfl 1 (by decide) hl_gens (fun _ h9 => h9) rfl dX1_fill_71 ?_
                    refine lv_iload hx hb dX1_fill_74 (lv_at hl 4 rfl) ?_
                    refine va_iald hx hb hK hP 2 0 rfl rfl (vp_in_nI (by omega) (by omega)) dX1_fill_76 ?_
                    refine pu_tp (nb_clamp (f := gn) (by omega)) ?_
                    refine pu_tp (z := nI (tn (gn t))) ((nI_tn _).symm) ?_
                    refine pu_V (As := [.int (nI (Pp)), .int (nI (tn (gn t)))]) (rest := []) (b := h) ⟨hx, hb, hml, hown, hts⟩ (kX1_times hP h7 (P := Pp) (Q := tn (gn t)) (by omega) (by omega)) (cwV 2 hts gX1_fill_X1_times rfl rfl rfl eX1_times ⟨by decide, by decide⟩) (va_recv hK hP (ci := 1) (q0 := 0) rfl rfl) hK rfl hl.1 rfl (Nat.le_of_ble_eq_true rfl) dX1_fill_77 ⟨Nat.zero_le _, Nat.zero_le _⟩ ?_
                    refine lv_istore (lv' := [(5, .int (nI (tm n Pp (tn (gn t))))), (0, .ref h), (1, .int (nI (lb))), (2, .int (nI (k))), (3, .int (nI (Pp))), (4, .int (nI (t)))]) hx hb dX1_fill_80 hl (by decide) rfl (fun ls hl => ?_)
                    refine lv_aload_n hx hb dX1_fill_82 rfl (lv_at hl 1 rfl) ?_
                    refine lv_iload hx hb dX1_fill_83 (lv_at hl 0 rfl) ?_
                    refine pu_V (As := [.int (nI (tm n Pp (tn (gn t))))]) (rest := []) (b := h) ⟨hx, hb, hml, hown, hts⟩ (kX1_numberOf hP h7 (P := tm n Pp (tn (gn t))) (by omega)) (cwV 1 hts gX1_fill_X1_numberOf rfl rfl rfl eX1_numberOf ⟨by decide, by decide⟩) (va_recv hK hP (ci := 1) (q0 := 0) rfl rfl) hK rfl hl.1 rfl (Nat.le_of_ble_eq_true rfl) dX1_fill_85 ⟨Nat.zero_le _, Nat.zero_le _⟩ ?_
                    refine lv_istore (lv' := [(6, .int (nI (nu n (tm n Pp (tn (gn t)))))), (5, .int (nI (tm n Pp (tn (gn t))))), (0, .ref h), (1, .int (nI (lb))), (2, .int (nI (k))), (3, .int (nI (Pp))), (4, .int (nI (t)))]) hx hb dX1_fill_88 hl (by decide) rfl (fun ls hl => ?_)
                    refine lv_aload_n hx hb dX1_fill_90 rfl (lv_at hl 2 rfl) ?_
                    refine va_get (D := D) (ci := 1) (v := .ref inn) (C := RX1) (T := TX1) (N := 7) hx hb hts hin0 hown hK hP 0 rfl rfl 4 (by decide) hl_in (fun _ h9 => h9) rfl dX1_fill_91 ?_
                    refine lv_iload hx hb dX1_fill_94 (lv_at hl 0 rfl) ?_
                    refine va_zald hx hb hK hP 3 2 rfl rfl (vp_in_nI (by omega) (by omega)) dX1_fill_96 ?_
                    refine pu_tp (nb_clamp (f := iy) (by omega)) ?_
                    refine lv_if_eq (tgt := 103) hx hb dX1_fill_97 (by decide) (fun c_97 => ?_) (fun c_97 => ?_)
                    ·
                      have hroom := BI_room h7 hJ.1 q3 c_97
                      refine lv_aload_n hx hb dX1_fill_103 rfl (lv_at hl 2 rfl) ?_
                      refine va_get (D := D) (ci := 1) (v := .ref inn) (C := RX1) (T := TX1) (N := 7) hx hb hts hin0 hown hK hP 0 rfl rfl 4 (by decide) hl_in (fun _ h9 => h9) rfl dX1_fill_104 ?_
                      refine lv_iload hx hb dX1_fill_107 (lv_at hl 0 rfl) ?_
                      refine lv_iconst (v := nI (1)) hx hb dX1_fill_109 (by decide) ?_
                      refine ua_zast hx hb hK hP hD hS 3 2 rfl rfl (by decide) (by omega) (by decide) dX1_fill_110 (fun H locs hP hD hS => ?_)
                      have hP : va_P D vwCl (mW cI cZ h fa ge inn wa (nI (ct)) (nI (n)) (th) (gn) (upd (iy) (nu n (tm n Pp (tn (gn t)))) (nI (1))) (wy)) H := hP
                      have hD : va_D A (mW cI cZ h fa ge inn wa (nI (ct)) (nI (n)) (th) (gn) (upd (iy) (nu n (tm n Pp (tn (gn t)))) (nI (1))) (wy)) := hD
                      refine lv_aload_n hx hb dX1_fill_111 rfl (lv_at hl 2 rfl) ?_
                      refine va_get (D := D) (ci := 1) (v := .ref wa) (C := RX1) (T := TX1) (N := 7) hx hb hts hin0 hown hK hP 0 rfl rfl 5 (by decide) hl_waiting (fun _ h9 => h9) rfl dX1_fill_112 ?_
                      refine lv_iload_n hx hb dX1_fill_115 rfl (lv_at hl 3 rfl) ?_
                      refine lv_iload hx hb dX1_fill_116 (lv_at hl 0 rfl) ?_
                      refine ua_iast hx hb hK hP hD hS 4 0 rfl rfl (by omega) (by decide) dX1_fill_118 (fun H locs hP hD hS => ?_)
                      have hP : va_P D vwCl (mW cI cZ h fa ge inn wa (nI (ct)) (nI (n)) (th) (gn) (upd (iy) (nu n (tm n Pp (tn (gn t)))) (nI (1))) (upd (wy) (lb) (nI (nu n (tm n Pp (tn (gn t))))))) H := hP
                      have hD : va_D A (mW cI cZ h fa ge inn wa (nI (ct)) (nI (n)) (th) (gn) (upd (iy) (nu n (tm n Pp (tn (gn t)))) (nI (1))) (upd (wy) (lb) (nI (nu n (tm n Pp (tn (gn t))))))) := hD
                      refine lv_iinc (v := nI (lb + 1)) (lv' := [(1, .int (nI (lb + 1))), (6, .int (nI (nu n (tm n Pp (tn (gn t)))))), (5, .int (nI (tm n Pp (tn (gn t))))), (0, .ref h), (2, .int (nI (k))), (3, .int (nI (Pp))), (4, .int (nI (t)))]) hx hb dX1_fill_119 hl (k := 3) rfl (nI_1 _) (by decide) rfl (fun ls hl => ?_)
                      refine lv_iinc (v := nI (t + 1)) (lv' := [(4, .int (nI (t + 1))), (1, .int (nI (lb + 1))), (6, .int (nI (nu n (tm n Pp (tn (gn t)))))), (5, .int (nI (tm n Pp (tn (gn t))))), (0, .ref h), (2, .int (nI (k))), (3, .int (nI (Pp)))]) hx hb dX1_fill_122 hl (k := 6) rfl (nI_1 _) (by decide) rfl (fun ls hl => ?_)
                      refine lv_goto (tgt := 59) hx hb dX1_fill_125 (by decide) ?_
                      exact ih_59 (t + 1) (lb + 1) (upd iy (nu n (tm n Pp (tn (gn t)))) (nI 1)) (upd wy lb (nI (nu n (tm n Pp (tn (gn t)))))) H locs (by omega) (BJ_push h1 h7 hg hJ (by omega) rfl c_97) hP hD hS ls (lv_sub hl [4, 1, 5, 6, 0] rfl)
                    ·
                      refine lv_goto (tgt := 122) hx hb dX1_fill_100 (by decide) ?_
                      refine lv_iinc (v := nI (t + 1)) (lv' := [(4, .int (nI (t + 1))), (6, .int (nI (nu n (tm n Pp (tn (gn t)))))), (5, .int (nI (tm n Pp (tn (gn t))))), (0, .ref h), (1, .int (nI (lb))), (2, .int (nI (k))), (3, .int (nI (Pp)))]) hx hb dX1_fill_122 hl (k := 6) rfl (nI_1 _) (by decide) rfl (fun ls hl => ?_)
                      refine lv_goto (tgt := 59) hx hb dX1_fill_125 (by decide) ?_
                      exact ih_59 (t + 1) lb iy wy H locs (by omega) (BJ_skip hJ ((hJ.1.2.2.1 _ (by omega)).resolve_left c_97)) hP hD hS ls (lv_sub hl [3, 4, 5, 6, 0] rfl)
              exact loop_59 ct 0 la iz wz H locs (by omega) hJ0 hP hD hS ls (lv_sub hl [2, 3, 4, 1, 0] rfl)
        exact loop_40 5041 0 1 (upd iz 0 (nI 1)) (upd wv 0 (nI 0)) H locs (by omega) (BI_0 h1 h7 (fun j hj => hz j (by omega))) hP hD hS ls (lv_sub hl [2, 1, 0] rfl)
      ·
        have c_6 : ¬ _ := fun h9 => c_6 ((nI_leI (by omega) (by omega)).mpr h9)
        exfalso; omega
    | succ k ih_2 =>
      intro i iz H locs hk hz hP hD hS ls hl
      refine lv_iload_n hx hb dX1_fill_2 rfl (lv_at hl 1 rfl) ?_
      refine lv_sipush (v := nI (5040)) hx hb dX1_fill_3 (by decide) ?_
      refine lv_icmp_ge (tgt := 22) hx hb dX1_fill_6 (by decide) (fun c_6 => ?_) (fun c_6 => ?_)
      ·
        have c_6 := (nI_leI (by omega) (by omega)).mp c_6
        exfalso; omega
      ·
        have c_6 : ¬ _ := fun h9 => c_6 ((nI_leI (by omega) (by omega)).mpr h9)
        refine lv_aload_n hx hb dX1_fill_9 rfl (lv_at hl 0 rfl) ?_
        refine va_get (D := D) (ci := 1) (v := .ref inn) (C := RX1) (T := TX1) (N := 7) hx hb hts hin0 hown hK hP 0 rfl rfl 4 (by decide) hl_in (fun _ h9 => h9) rfl dX1_fill_10 ?_
        refine lv_iload_n hx hb dX1_fill_13 rfl (lv_at hl 1 rfl) ?_
        refine lv_iconst (v := nI (0)) hx hb dX1_fill_14 (by decide) ?_
        refine ua_zast hx hb hK hP hD hS 3 2 rfl rfl (by decide) (by omega) (by decide) dX1_fill_15 (fun H locs hP hD hS => ?_)
        have hP : va_P D vwCl (mW cI cZ h fa ge inn wa (nI (ct)) (nI (n)) (th) (gn) (upd (iz) (i) (nI (0))) (wv)) H := hP
        have hD : va_D A (mW cI cZ h fa ge inn wa (nI (ct)) (nI (n)) (th) (gn) (upd (iz) (i) (nI (0))) (wv)) := hD
        refine lv_iinc (v := nI (i + 1)) (lv' := [(1, .int (nI (i + 1))), (0, .ref h)]) hx hb dX1_fill_16 hl (k := 1) rfl (nI_1 _) (by decide) rfl (fun ls hl => ?_)
        refine lv_goto (tgt := 2) hx hb dX1_fill_19 (by decide) ?_
        exact ih_2 (i + 1) (upd iz i (nI 0)) H locs (by omega) (fun j hj => by
          by_cases e9 : j = i
          · rw [e9]; exact pk_us
          · rw [pk_un e9]; exact hz j (by omega)) hP hD hS ls (lv_sub hl [1, 0] rfl)
  exact loop_2 5040 0 iv H locs (by omega) (fun j hj => absurd hj (Nat.not_lt_zero _)) hP hD hS ls (lv_sub hl [1, 0] rfl)
end CXH
