section CXD
variable {l : Launch} {D : va_G} {cI cG cZ : ClassId} {h a g f : Nat} {ra : Nat → Nat} {n id ct fc : Nat} {ad fl : Nat → Int32} {R : Nat → Nat → Int32}
theorem eX0_noteFilled : yX0_noteFilled.cls = RX0 ∧ yX0_noteFilled.cls ≠ "java/lang/invoke/MethodHandle" ∧ yX0_noteFilled.cls ≠ "java/lang/invoke/VarHandle" ∧ (parseMethodDescriptor yX0_noteFilled.desc).map (fun d => d.parameters.length) = some 1 := by decide +kernel
set_option maxHeartbeats 4000000 in
set_option maxRecDepth 100000 in
theorem kX0_noteFilled (hfc : fc ≤ 21) {z : Nat} : mV (S := CS) l yX0_noteFilled wsX0_noteFilled ({ frames := 0, cells := 0, slots := 0, locals := 0 } : Room) [.ref h, .int (nI (z))] D (gT cI cG cZ) (gW cI cG h a g f ra (nI (n)) (nI (id)) (nI (ct)) (nI (fc)) (ad) (fl) (R)) (fun u => gW cI cG h a g f ra (nI n) (nI id) (nI ct) (nI u.2.2) ad u.2.1 (upR R ct u.1)) (fun u => u = ntS z (R ct, fl, fc)) := by
  refine mV_ofW (cc := cX0_noteFilled) (maxL := 2) (by decide) rfl (Nat.le_of_ble_eq_true rfl) ?_
  intro p e s m args below meth c QQ hx hb hml hown hts hK hP hD hS hret ls hl
  have hl : lv_has ls 2 [(0, .ref h), (1, .int (nI (z)))] := hl
  have hown : s.vm.findClass RX0 = some m.cls := hown
  have hin0 : ∀ w ∈ wsX00, w ∈ wsX0_noteFilled := fun w h => List.mem_cons_of_mem _ (List.mem_append_right _ h)
  have hl_filled : (Cond.fieldLink RX0 18 "PermGroup" "filled" "[I").before args s = true := hts _ (by decide +kernel)
  have hl_filledCount : (Cond.fieldLink RX0 106 "PermGroup" "filledCount" "I").before args s = true := hts _ (by decide +kernel)
  generalize inW (gW cI cG h a g f ra (nI (n)) (nI (id)) (nI (ct)) (nI (fc)) (ad) (fl) (R)) = A at hD hS hret
  suffices start : ∀ (H : Heap) (locs : List Loc), va_P D vwCl (gW cI cG h a g f ra (nI (n)) (nI (id)) (nI (ct)) (nI (fc)) (ad) (fl) (R)) H → va_D A (gW cI cG h a g f ra (nI (n)) (nI (id)) (nI (ct)) (nI (fc)) (ad) (fl) (R)) → va_S A s.heap H locs → W p l e ({ frames := 0, cells := 0, slots := 0, locals := 0 } : Room) s m args below meth c H locs 0 0 QQ (F0 m 0 ls []) from start s.heap [] hP hD hS
  clear hP hD hS
  intro H locs hP hD hS
  refine lv_aload_n hx hb dX0_noteFilled_0 rfl (lv_at hl 0 rfl) ?_
  refine va_get (D := D) (ci := 0) (v := .int (nI (fc))) (C := RX0) (T := TX0) (N := 7) hx hb hts hin0 hown hK hP 0 rfl rfl 6 (by decide) hl_filledCount (fun _ h9 => h9) rfl dX0_noteFilled_1 ?_
  refine lv_bipush (v := nI (21)) hx hb dX0_noteFilled_4 (by decide) ?_
  refine lv_icmp_ge (tgt := 29) hx hb dX0_noteFilled_6 (by decide) (fun c_6 => ?_) (fun c_6 => ?_)
  ·
    have c_6 := (nI_leI (by omega) (by omega)).mp c_6
    exact hret (R ct, fl, fc) H locs _ _ (if_neg (by show ¬ fc < 21; omega)).symm (by show va_P D vwCl (gW cI cG h a g f ra (nI n) (nI id) (nI ct) (nI fc) ad fl (upR R ct (R ct))) H; rw [upR_id]; exact hP) hS dX0_noteFilled_29
  ·
    have c_6 : ¬ _ := fun h9 => c_6 ((nI_leI (by omega) (by omega)).mpr h9)
    refine lv_aload_n hx hb dX0_noteFilled_9 rfl (lv_at hl 0 rfl) ?_
    refine va_get (D := D) (ci := 0) (v := .ref f) (C := RX0) (T := TX0) (N := 7) hx hb hts hin0 hown hK hP 0 rfl rfl 5 (by decide) hl_filled (fun _ h9 => h9) rfl dX0_noteFilled_10 ?_
    refine lv_aload_n hx hb dX0_noteFilled_13 rfl (lv_at hl 0 rfl) ?_
    refine va_get (D := D) (ci := 0) (v := .int (nI (fc))) (C := RX0) (T := TX0) (N := 7) hx hb hts hin0 hown hK hP 0 rfl rfl 6 (by decide) hl_filledCount (fun _ h9 => h9) rfl dX0_noteFilled_14 ?_
    refine lv_iload_n hx hb dX0_noteFilled_17 rfl (lv_at hl 1 rfl) ?_
    refine ua_iast hx hb hK hP hD hS 3 0 rfl rfl (by omega) (by decide) dX0_noteFilled_18 (fun H locs hP hD hS => ?_)
    have hP : va_P D vwCl (gW cI cG h a g f ra (nI (n)) (nI (id)) (nI (ct)) (nI (fc)) (ad) (upd (fl) (fc) (nI (z))) (R)) H := hP
    have hD : va_D A (gW cI cG h a g f ra (nI (n)) (nI (id)) (nI (ct)) (nI (fc)) (ad) (upd (fl) (fc) (nI (z))) (R)) := hD
    refine lv_aload_n hx hb dX0_noteFilled_19 rfl (lv_at hl 0 rfl) ?_
    refine lv_dup hx hb dX0_noteFilled_20 rfl ?_
    refine va_get (D := D) (ci := 0) (v := .int (nI (fc))) (C := RX0) (T := TX0) (N := 7) hx hb hts hin0 hown hK hP 0 rfl rfl 6 (by decide) hl_filledCount (fun _ h9 => h9) rfl dX0_noteFilled_21 ?_
    refine lv_iconst (v := nI (1)) hx hb dX0_noteFilled_24 (by decide) ?_
    refine lv_iadd hx hb dX0_noteFilled_25 ?_
    refine pu_tp (nI_add _ _) ?_
    refine va_put (D := D) (ci := 0) (v := .int (nI (fc + 1))) (ty := .int) (C := RX0) (T := TX0) (N := 7) hx hb hts hin0 tyX0 tyX0_ok nmX0 hown hK hP hD hS 0 rfl rfl 6 (by decide) hl_filledCount (fun _ h9 => h9) rfl (by decide +kernel) rfl rfl (Nat.le_of_ble_eq_true rfl) dX0_noteFilled_26 (fun H locs hP hD hS => ?_)
    have hP : va_P D vwCl (gW cI cG h a g f ra (nI (n)) (nI (id)) (nI (ct)) (nI (fc + 1)) (ad) (upd (fl) (fc) (nI (z))) (R)) H := hP
    have hD : va_D A (gW cI cG h a g f ra (nI (n)) (nI (id)) (nI (ct)) (nI (fc + 1)) (ad) (upd (fl) (fc) (nI (z))) (R)) := hD
    exact hret (R ct, upd fl fc (nI z), fc + 1) H locs _ _ (if_pos (by show fc < 21; omega)).symm (by show va_P D vwCl (gW cI cG h a g f ra (nI n) (nI id) (nI ct) (nI (fc + 1)) ad (upd fl fc (nI z)) (upR R ct (R ct))) H; rw [upR_id]; exact hP) hS dX0_noteFilled_29
theorem eX0_listFilled : yX0_listFilled.cls = RX0 ∧ yX0_listFilled.cls ≠ "java/lang/invoke/MethodHandle" ∧ yX0_listFilled.cls ≠ "java/lang/invoke/VarHandle" ∧ (parseMethodDescriptor yX0_listFilled.desc).map (fun d => d.parameters.length) = some 0 := by decide +kernel
set_option maxHeartbeats 4000000 in
set_option maxRecDepth 100000 in
theorem kX0_listFilled (hn : n ≤ 7) (hc : ct ≤ 12) : mV (S := CS) l yX0_listFilled wsX0_listFilled ({ frames := 2, cells := 0, slots := 0, locals := 43 } : Room) [.ref h] D (gT cI cG cZ) (gW cI cG h a g f ra (nI (n)) (nI (id)) (nI (ct)) (nI (fc)) (ad) (fl) (R)) (fun u => gW cI cG h a g f ra (nI n) (nI id) (nI ct) (nI u.2.2) ad u.2.1 (upR R ct u.1)) (fun u => u = lfF n n 0 (R ct, fl, 0)) := by
  refine mV_ofW (cc := cX0_listFilled) (maxL := 3) (by decide) rfl (Nat.le_of_ble_eq_true rfl) ?_
  intro p e s m args below meth c QQ hx hb hml hown hts hK hP hD hS hret ls hl
  have hl : lv_has ls 3 [(0, .ref h)] := hl
  have hown : s.vm.findClass RX0 = some m.cls := hown
  have hin0 : ∀ w ∈ wsX00, w ∈ wsX0_listFilled := fun w h => List.mem_cons_of_mem _ (List.mem_append_right _ h)
  have hl_filledCount : (Cond.fieldLink RX0 106 "PermGroup" "filledCount" "I").before args s = true := hts _ (by decide +kernel)
  have hl_n : (Cond.fieldLink RX0 25 "PermGroup" "n" "I").before args s = true := hts _ (by decide +kernel)
  generalize inW (gW cI cG h a g f ra (nI (n)) (nI (id)) (nI (ct)) (nI (fc)) (ad) (fl) (R)) = A at hD hS hret
  suffices start : ∀ (H : Heap) (locs : List Loc), va_P D vwCl (gW cI cG h a g f ra (nI (n)) (nI (id)) (nI (ct)) (nI (fc)) (ad) (fl) (R)) H → va_D A (gW cI cG h a g f ra (nI (n)) (nI (id)) (nI (ct)) (nI (fc)) (ad) (fl) (R)) → va_S A s.heap H locs → W p l e ({ frames := 2, cells := 0, slots := 0, locals := 43 } : Room) s m args below meth c H locs 0 0 QQ (F0 m 0 ls []) from start s.heap [] hP hD hS
  clear hP hD hS
  intro H locs hP hD hS
  refine lv_aload_n hx hb dX0_listFilled_0 rfl (lv_at hl 0 rfl) ?_
  refine lv_iconst (v := nI (0)) hx hb dX0_listFilled_1 (by decide) ?_
  refine va_put (D := D) (ci := 0) (v := .int (nI (0))) (ty := .int) (C := RX0) (T := TX0) (N := 7) hx hb hts hin0 tyX0 tyX0_ok nmX0 hown hK hP hD hS 0 rfl rfl 6 (by decide) hl_filledCount (fun _ h9 => h9) rfl (by decide +kernel) rfl rfl (Nat.le_of_ble_eq_true rfl) dX0_listFilled_2 (fun H locs hP hD hS => ?_)
  have hP : va_P D vwCl (gW cI cG h a g f ra (nI (n)) (nI (id)) (nI (ct)) (nI (0)) (ad) (fl) (R)) H := hP
  have hD : va_D A (gW cI cG h a g f ra (nI (n)) (nI (id)) (nI (ct)) (nI (0)) (ad) (fl) (R)) := hD
  refine lv_iconst (v := nI (0)) hx hb dX0_listFilled_5 (by decide) ?_
  refine lv_istore_n (lv' := [(1, .int (nI (0))), (0, .ref h)]) hx hb dX0_listFilled_6 rfl hl (by decide) rfl (fun ls hl => ?_)
  have loop_7 : ∀ (k lv : Nat) (z : CS) (H : Heap) (locs : List Loc), (lv + k = n) → (z.1 = R ct) → (lfF n n 0 (R ct, fl, 0) = lfF n k lv z) → (sOK z) → va_P D vwCl (gW cI cG h a g f ra (nI (n)) (nI (id)) (nI (ct)) (nI (z.2.2)) (ad) (z.2.1) (R)) H → va_D A (gW cI cG h a g f ra (nI (n)) (nI (id)) (nI (ct)) (nI (z.2.2)) (ad) (z.2.1) (R)) → va_S A s.heap H locs → ∀ (ls : Array Slot), lv_has ls 3 [(0, .ref h), (1, .int (nI (lv)))] → W p l e ({ frames := 2, cells := 0, slots := 0, locals := 43 } : Room) s m args below meth c H locs 0 0 QQ (F0 m 7 ls []) := by
    intro k
    induction k with
    | zero =>
      intro lv z H locs hk hz1 hr hok hP hD hS ls hl
      refine lv_iload_n hx hb dX0_listFilled_7 rfl (lv_at hl 1 rfl) ?_
      refine lv_aload_n hx hb dX0_listFilled_8 rfl (lv_at hl 0 rfl) ?_
      refine va_get (D := D) (ci := 0) (v := .int (nI (n))) (C := RX0) (T := TX0) (N := 7) hx hb hts hin0 hown hK hP 0 rfl rfl 0 (by decide) hl_n (fun _ h9 => h9) rfl dX0_listFilled_9 ?_
      refine lv_icmp_ge (tgt := 58) hx hb dX0_listFilled_12 (by decide) (fun c_12 => ?_) (fun c_12 => ?_)
      ·
        have c_12 := (nI_leI (by omega) (by omega)).mp c_12
        exact hret z H locs _ _ hr.symm (by show va_P D vwCl (gW cI cG h a g f ra (nI n) (nI id) (nI ct) (nI z.2.2) ad z.2.1 (upR R ct z.1)) H; rw [hz1, upR_id]; exact hP) hS dX0_listFilled_58
      ·
        have c_12 : ¬ _ := fun h9 => c_12 ((nI_leI (by omega) (by omega)).mpr h9)
        exfalso; omega
    | succ k ih_7 =>
      intro lv z H locs hk hz1 hr hok hP hD hS ls hl
      refine lv_iload_n hx hb dX0_listFilled_7 rfl (lv_at hl 1 rfl) ?_
      refine lv_aload_n hx hb dX0_listFilled_8 rfl (lv_at hl 0 rfl) ?_
      refine va_get (D := D) (ci := 0) (v := .int (nI (n))) (C := RX0) (T := TX0) (N := 7) hx hb hts hin0 hown hK hP 0 rfl rfl 0 (by decide) hl_n (fun _ h9 => h9) rfl dX0_listFilled_9 ?_
      refine lv_icmp_ge (tgt := 58) hx hb dX0_listFilled_12 (by decide) (fun c_12 => ?_) (fun c_12 => ?_)
      ·
        have c_12 := (nI_leI (by omega) (by omega)).mp c_12
        exfalso; omega
      ·
        have c_12 : ¬ _ := fun h9 => c_12 ((nI_leI (by omega) (by omega)).mpr h9)
        refine lv_iload_n hx hb dX0_listFilled_15 rfl (lv_at hl 1 rfl) ?_
        refine lv_iconst (v := nI (1)) hx hb dX0_listFilled_16 (by decide) ?_
        refine lv_iadd hx hb dX0_listFilled_17 ?_
        refine pu_tp (nI_add _ _) ?_
        refine lv_istore_n (lv' := [(2, .int (nI (lv + 1))), (0, .ref h), (1, .int (nI (lv)))]) hx hb dX0_listFilled_18 rfl hl (by decide) rfl (fun ls hl => ?_)
        have loop_19 : ∀ (k2 x : Nat) (v : CS) (H : Heap) (locs : List Loc), (x + k2 = n) → (v.1 = R ct) → (lfI lv (n - (lv + 1)) (lv + 1) z = lfI lv k2 x v) → (sOK v) → va_P D vwCl (gW cI cG h a g f ra (nI (n)) (nI (id)) (nI (ct)) (nI (v.2.2)) (ad) (v.2.1) (R)) H → va_D A (gW cI cG h a g f ra (nI (n)) (nI (id)) (nI (ct)) (nI (v.2.2)) (ad) (v.2.1) (R)) → va_S A s.heap H locs → ∀ (ls : Array Slot), lv_has ls 3 [(0, .ref h), (1, .int (nI (lv))), (2, .int (nI (x)))] → W p l e ({ frames := 2, cells := 0, slots := 0, locals := 43 } : Room) s m args below meth c H locs 0 0 QQ (F0 m 19 ls []) := by
          intro k2
          induction k2 with
          | zero =>
            intro x v H locs hk2 hv1 hr2 hokv hP hD hS ls hl
            refine lv_iload_n hx hb dX0_listFilled_19 rfl (lv_at hl 2 rfl) ?_
            refine lv_aload_n hx hb dX0_listFilled_20 rfl (lv_at hl 0 rfl) ?_
            refine va_get (D := D) (ci := 0) (v := .int (nI (n))) (C := RX0) (T := TX0) (N := 7) hx hb hts hin0 hown hK hP 0 rfl rfl 0 (by decide) hl_n (fun _ h9 => h9) rfl dX0_listFilled_21 ?_
            refine lv_icmp_ge (tgt := 52) hx hb dX0_listFilled_24 (by decide) (fun c_24 => ?_) (fun c_24 => ?_)
            ·
              have c_24 := (nI_leI (by omega) (by omega)).mp c_24
              refine lv_iinc (v := nI (lv + 1)) (lv' := [(1, .int (nI (lv + 1))), (0, .ref h), (2, .int (nI (x)))]) hx hb dX0_listFilled_52 hl (k := 1) rfl (nI_1 _) (by decide) rfl (fun ls hl => ?_)
              refine lv_goto (tgt := 7) hx hb dX0_listFilled_55 (by decide) ?_
              exact ih_7 (lv + 1) v H locs (by omega) hv1 (by have hz : v = lfI lv (n - (lv + 1)) (lv + 1) z := hr2.symm; rw [hz]; exact hr) hokv hP hD hS ls (lv_sub hl [1, 0] rfl)
            ·
              have c_24 : ¬ _ := fun h9 => c_24 ((nI_leI (by omega) (by omega)).mpr h9)
              exfalso; omega
          | succ k2 ih_19 =>
            intro x v H locs hk2 hv1 hr2 hokv hP hD hS ls hl
            refine lv_iload_n hx hb dX0_listFilled_19 rfl (lv_at hl 2 rfl) ?_
            refine lv_aload_n hx hb dX0_listFilled_20 rfl (lv_at hl 0 rfl) ?_
            refine va_get (D := D) (ci := 0) (v := .int (nI (n))) (C := RX0) (T := TX0) (N := 7) hx hb hts hin0 hown hK hP 0 rfl rfl 0 (by decide) hl_n (fun _ h9 => h9) rfl dX0_listFilled_21 ?_
            refine lv_icmp_ge (tgt := 52) hx hb dX0_listFilled_24 (by decide) (fun c_24 => ?_) (fun c_24 => ?_)
            ·
              have c_24 := (nI_leI (by omega) (by omega)).mp c_24
              exfalso; omega
            ·
              have c_24 : ¬ _ := fun h9 => c_24 ((nI_leI (by omega) (by omega)).mpr h9)
              refine lv_aload_n hx hb dX0_listFilled_27 rfl (lv_at hl 0 rfl) ?_
              refine lv_iload_n hx hb dX0_listFilled_28 rfl (lv_at hl 1 rfl) ?_
              refine lv_iload_n hx hb dX0_listFilled_29 rfl (lv_at hl 2 rfl) ?_
              refine pu_V (As := [.int (nI (lv)), .int (nI (x))]) (rest := []) (b := h) ⟨hx, hb, hml, hown, hts⟩ (kX0_entry hP hc (lv := lv) (x := x) (by omega) (by omega)) (cwV 2 hts gX0_listFilled_X0_entry rfl rfl rfl eX0_entry ⟨by decide, by decide⟩) (va_recv hK hP (ci := 0) (q0 := 0) rfl rfl) hK rfl hl.1 rfl (Nat.le_of_ble_eq_true rfl) dX0_listFilled_30 ⟨Nat.zero_le _, Nat.zero_le _⟩ ?_
              refine lv_iconst (v := -1) hx hb dX0_listFilled_33 (by decide) ?_
              refine lv_icmp_eq (tgt := 46) hx hb dX0_listFilled_34 (by decide) (fun c_34 => ?_) (fun c_34 => ?_)
              ·
                refine lv_iinc (v := nI (x + 1)) (lv' := [(2, .int (nI (x + 1))), (0, .ref h), (1, .int (nI (lv)))]) hx hb dX0_listFilled_46 hl (k := 2) rfl (nI_1 _) (by decide) rfl (fun ls hl => ?_)
                refine lv_goto (tgt := 19) hx hb dX0_listFilled_49 (by decide) ?_
                exact ih_19 (x + 1) v H locs (by omega) hv1 (hr2.trans (lfI_n (by rw [hv1]; exact c_34))) hokv hP hD hS ls (lv_sub hl [1, 2, 0] rfl)
              ·
                refine lv_aload_n hx hb dX0_listFilled_37 rfl (lv_at hl 0 rfl) ?_
                refine lv_iload_n hx hb dX0_listFilled_38 rfl (lv_at hl 1 rfl) ?_
                refine lv_iload_n hx hb dX0_listFilled_39 rfl (lv_at hl 2 rfl) ?_
                refine pu_S (As := [.int (nI (lv)), .int (nI (x))]) (rest := [.ref h]) ⟨hx, hb, hml, hown, hts⟩ (kX0_slotOf (x := lv) (z := x)) (va_cwS 2 hts gX0_listFilled_X0_slotOf rfl rfl rfl eX0_slotOf ⟨by decide, by decide⟩) hK rfl hl.1 rfl (Nat.le_of_ble_eq_true rfl) dX0_listFilled_40 ⟨Nat.zero_le _, Nat.zero_le _⟩ ?_
                refine mv_V (As := [.int (nI (lv * 8 + x))]) (rest := []) (b := h) ⟨hx, hb, hml, hown, hts⟩ (kX0_noteFilled (fc := v.2.2) hokv.1 (z := lv * 8 + x)) (cwV 1 hts gX0_listFilled_X0_noteFilled rfl rfl rfl eX0_noteFilled ⟨by decide, by decide⟩) (va_recv hK hP (ci := 0) (q0 := 0) rfl rfl) hK hP hD hS rfl hl.1 rfl (Nat.le_of_ble_eq_true rfl) dX0_listFilled_43 ⟨Nat.zero_le _, Nat.zero_le _⟩ (fun u H locs hw hP hS hk => ?_)
                have hu1 : u.1 = R ct := by rw [hw, ntS_1]
                rw [hu1, upR_id] at hP
                have hP : va_P D vwCl (gW cI cG h a g f ra (nI (n)) (nI (id)) (nI (ct)) (nI (u.2.2)) (ad) (u.2.1) (R)) H := hP
                have hD : va_D A (gW cI cG h a g f ra (nI (n)) (nI (id)) (nI (ct)) (nI (u.2.2)) (ad) (u.2.1) (R)) := gW_addr hD
                refine lv_iinc (v := nI (x + 1)) (lv' := [(2, .int (nI (x + 1))), (0, .ref h), (1, .int (nI (lv)))]) hx hb dX0_listFilled_46 hl (k := 2) rfl (nI_1 _) (by decide) rfl (fun ls hl => ?_)
                refine lv_goto (tgt := 19) hx hb dX0_listFilled_49 (by decide) ?_
                exact ih_19 (x + 1) u H locs (by omega) hu1 (by have hu2 : u = ntS (lv * 8 + x) v := (by rw [hw, ← hv1]); rw [hu2]; exact hr2.trans (lfI_y (by rw [hv1]; exact c_34))) (by have hu2 : u = ntS (lv * 8 + x) v := (by rw [hw, ← hv1]); rw [hu2]; exact sOK_nt (by omega) hokv) hP hD hS ls (lv_sub hl [1, 2, 0] rfl)
        exact loop_19 (n - (lv + 1)) (lv + 1) z H locs (by omega) hz1 rfl hok hP hD hS ls (lv_sub hl [1, 2, 0] rfl)
  exact loop_7 n 0 (R ct, fl, 0) H locs (by omega) rfl rfl (sOK_0 _ _) hP hD hS ls (lv_sub hl [1, 0] rfl)
theorem eX0_enter : yX0_enter.cls = RX0 ∧ yX0_enter.cls ≠ "java/lang/invoke/MethodHandle" ∧ yX0_enter.cls ≠ "java/lang/invoke/VarHandle" ∧ (parseMethodDescriptor yX0_enter.desc).map (fun d => d.parameters.length) = some 1 := by decide +kernel
set_option maxHeartbeats 4000000 in
set_option maxRecDepth 100000 in
theorem kX0_enter (hn : n ≤ 7) (hc : ct ≤ 12) (hfc : fc ≤ 21) {P : Nat} (hp : P < 2 ^ 32) : mV (S := CS) l yX0_enter wsX0_enter ({ frames := 3, cells := 0, slots := 0, locals := 70 } : Room) [.ref h, .int (nI (P))] D (gT cI cG cZ) (gW cI cG h a g f ra (nI (n)) (nI (id)) (nI (ct)) (nI (fc)) (ad) (fl) (R)) (fun u => gW cI cG h a g f ra (nI n) (nI id) (nI ct) (nI u.2.2) ad u.2.1 (upR R ct u.1)) (fun u => u = enS n P (R ct, fl, fc)) := by
  refine mV_ofW (cc := cX0_enter) (maxL := 5) (by decide) rfl (Nat.le_of_ble_eq_true rfl) ?_
  intro p e s m args below meth c QQ hx hb hml hown hts hK hP hD hS hret ls hl
  have hl : lv_has ls 5 [(0, .ref h), (1, .int (nI (P)))] := hl
  have hown : s.vm.findClass RX0 = some m.cls := hown
  have hin0 : ∀ w ∈ wsX00, w ∈ wsX0_enter := fun w h => List.mem_cons_of_mem _ (List.mem_append_right _ h)
  have hl_chains : (Cond.fieldLink RX0 15 "PermGroup" "chains" "[[I").before args s = true := hts _ (by decide +kernel)
  have hl_count : (Cond.fieldLink RX0 33 "PermGroup" "count" "I").before args s = true := hts _ (by decide +kernel)
  have hl_n : (Cond.fieldLink RX0 25 "PermGroup" "n" "I").before args s = true := hts _ (by decide +kernel)
  generalize inW (gW cI cG h a g f ra (nI (n)) (nI (id)) (nI (ct)) (nI (fc)) (ad) (fl) (R)) = A at hD hS hret
  suffices start : ∀ (H : Heap) (locs : List Loc), va_P D vwCl (gW cI cG h a g f ra (nI (n)) (nI (id)) (nI (ct)) (nI (fc)) (ad) (fl) (R)) H → va_D A (gW cI cG h a g f ra (nI (n)) (nI (id)) (nI (ct)) (nI (fc)) (ad) (fl) (R)) → va_S A s.heap H locs → W p l e ({ frames := 3, cells := 0, slots := 0, locals := 70 } : Room) s m args below meth c H locs 0 0 QQ (F0 m 0 ls []) from start s.heap [] hP hD hS
  clear hP hD hS
  intro H locs hP hD hS
  refine lv_aload_n hx hb dX0_enter_0 rfl (lv_at hl 0 rfl) ?_
  refine lv_iload_n hx hb dX0_enter_1 rfl (lv_at hl 1 rfl) ?_
  refine pu_V (As := [.int (nI (P))]) (rest := []) (b := h) ⟨hx, hb, hml, hown, hts⟩ (kX0_residue hP hn hc hp) (cwV 1 hts gX0_enter_X0_residue rfl rfl rfl eX0_residue ⟨by decide, by decide⟩) (va_recv hK hP (ci := 0) (q0 := 0) rfl rfl) hK rfl hl.1 rfl (Nat.le_of_ble_eq_true rfl) dX0_enter_2 ⟨Nat.zero_le _, Nat.zero_le _⟩ ?_
  refine lv_istore_n (lv' := [(2, .int (nI (rs (R ct) n P))), (0, .ref h), (1, .int (nI (P)))]) hx hb dX0_enter_5 rfl hl (by decide) rfl (fun ls hl => ?_)
  refine lv_iconst (v := nI (0)) hx hb dX0_enter_6 (by decide) ?_
  refine lv_istore_n (lv' := [(3, .int (nI (0))), (2, .int (nI (rs (R ct) n P))), (0, .ref h), (1, .int (nI (P)))]) hx hb dX0_enter_7 rfl hl (by decide) rfl (fun ls hl => ?_)
  have loop_8 : ∀ (k lv : Nat), (lv + k = n) → (enS n P (R ct, fl, fc) = enL (rs (R ct) n P) k lv (R ct, fl, fc)) → ∀ (ls : Array Slot), lv_has ls 5 [(0, .ref h), (2, .int (nI (rs (R ct) n P))), (3, .int (nI (lv)))] → W p l e ({ frames := 3, cells := 0, slots := 0, locals := 70 } : Room) s m args below meth c H locs 0 0 QQ (F0 m 8 ls []) := by
    intro k
    induction k with
    | zero =>
      intro lv hk hr ls hl
      refine lv_iload_n hx hb dX0_enter_8 rfl (lv_at hl 2 rfl) ?_
      refine lv_aload_n hx hb dX0_enter_9 rfl (lv_at hl 0 rfl) ?_
      refine va_get (D := D) (ci := 0) (v := .int (nI (n))) (C := RX0) (T := TX0) (N := 7) hx hb hts hin0 hown hK hP 0 rfl rfl 0 (by decide) hl_n (fun _ h9 => h9) rfl dX0_enter_10 ?_
      refine lv_icmp_ge (tgt := 63) hx hb dX0_enter_13 (by decide) (fun c_13 => ?_) (fun c_13 => ?_)
      ·
        have c_13 := (nI_leI (by omega) (by omega)).mp c_13
        exact hret (R ct, fl, fc) H locs _ _ hr.symm (by show va_P D vwCl (gW cI cG h a g f ra (nI n) (nI id) (nI ct) (nI fc) ad fl (upR R ct (R ct))) H; rw [upR_id]; exact hP) hS dX0_enter_63
      ·
        have c_13 : ¬ _ := fun h9 => c_13 ((nI_leI (by omega) (by omega)).mpr h9)
        exfalso; omega
    | succ k ih_8 =>
      intro lv hk hr ls hl
      refine lv_iload_n hx hb dX0_enter_8 rfl (lv_at hl 2 rfl) ?_
      refine lv_aload_n hx hb dX0_enter_9 rfl (lv_at hl 0 rfl) ?_
      refine va_get (D := D) (ci := 0) (v := .int (nI (n))) (C := RX0) (T := TX0) (N := 7) hx hb hts hin0 hown hK hP 0 rfl rfl 0 (by decide) hl_n (fun _ h9 => h9) rfl dX0_enter_10 ?_
      refine lv_icmp_ge (tgt := 63) hx hb dX0_enter_13 (by decide) (fun c_13 => ?_) (fun c_13 => ?_)
      ·
        have c_13 := (nI_leI (by omega) (by omega)).mp c_13
        exfalso; omega
      ·
        have c_13 : ¬ _ := fun h9 => c_13 ((nI_leI (by omega) (by omega)).mpr h9)
        refine lv_iload_n hx hb dX0_enter_16 rfl (lv_at hl 1 rfl) ?_
        refine lv_iload_n hx hb dX0_enter_17 rfl (lv_at hl 2 rfl) ?_
        refine pu_S (As := [.int (nI (rs (R ct) n P)), .int (nI (lv))]) (rest := []) ⟨hx, hb, hml, hown, hts⟩ (kX0_image (P := rs (R ct) n P) (i := lv) (rsF_lt _ hn _ _ _ hp) (by omega)) (va_cwS 2 hts gX0_enter_X0_image rfl rfl rfl eX0_image ⟨by decide, by decide⟩) hK rfl hl.1 rfl (Nat.le_of_ble_eq_true rfl) dX0_enter_18 ⟨Nat.zero_le _, Nat.zero_le _⟩ ?_
        refine lv_istore (lv' := [(4, .int (nI (im (rs (R ct) n P) (lv)))), (0, .ref h), (2, .int (nI (rs (R ct) n P))), (3, .int (nI (lv)))]) hx hb dX0_enter_21 hl (by decide) rfl (fun ls hl => ?_)
        refine lv_iload hx hb dX0_enter_23 (lv_at hl 0 rfl) ?_
        refine lv_iload_n hx hb dX0_enter_25 rfl (lv_at hl 3 rfl) ?_
        refine lv_icmp_eq (tgt := 57) hx hb dX0_enter_26 (by decide) (fun c_26 => ?_) (fun c_26 => ?_)
        ·
          have c_26 := (nb_eqI (Nat.lt_trans (im_lt _ _) (by decide)) (by omega)).mp c_26
          refine lv_iinc (v := nI (lv + 1)) (lv' := [(3, .int (nI (lv + 1))), (4, .int (nI (im (rs (R ct) n P) (lv)))), (0, .ref h), (2, .int (nI (rs (R ct) n P)))]) hx hb dX0_enter_57 hl (k := 3) rfl (nI_1 _) (by decide) rfl (fun ls hl => ?_)
          refine lv_goto (tgt := 8) hx hb dX0_enter_60 (by decide) ?_
          exact ih_8 (lv + 1) (by omega) (hr.trans (if_pos c_26)) ls (lv_sub hl [2, 3, 0] rfl)
        ·
          have c_26 : ¬ _ := fun h9 => c_26 ((nb_eqI (Nat.lt_trans (im_lt _ _) (by decide)) (by omega)).mpr h9)
          refine lv_aload_n hx hb dX0_enter_29 rfl (lv_at hl 1 rfl) ?_
          refine va_get (D := D) (ci := 0) (v := .ref g) (C := RX0) (T := TX0) (N := 7) hx hb hts hin0 hown hK hP 0 rfl rfl 4 (by decide) hl_chains (fun _ h9 => h9) rfl dX0_enter_30 ?_
          refine lv_aload_n hx hb dX0_enter_33 rfl (lv_at hl 1 rfl) ?_
          refine va_get (D := D) (ci := 0) (v := .int (nI (ct))) (C := RX0) (T := TX0) (N := 7) hx hb hts hin0 hown hK hP 0 rfl rfl 2 (by decide) hl_count (fun _ h9 => h9) rfl dX0_enter_34 ?_
          refine ga_row hx hb hK hP (by omega) dX0_enter_37 ?_
          refine lv_iload_n hx hb dX0_enter_38 rfl (lv_at hl 3 rfl) ?_
          refine lv_iload hx hb dX0_enter_39 (lv_at hl 0 rfl) ?_
          refine pu_S (As := [.int (nI (lv)), .int (nI (im (rs (R ct) n P) (lv)))]) (rest := [.ref (ra ct)]) ⟨hx, hb, hml, hown, hts⟩ (kX0_slotOf (x := lv) (z := im (rs (R ct) n P) lv)) (va_cwS 2 hts gX0_enter_X0_slotOf rfl rfl rfl eX0_slotOf ⟨by decide, by decide⟩) hK rfl hl.1 rfl (Nat.le_of_ble_eq_true rfl) dX0_enter_41 ⟨Nat.zero_le _, Nat.zero_le _⟩ ?_
          refine lv_iload_n hx hb dX0_enter_44 rfl (lv_at hl 2 rfl) ?_
          refine ua_row hx hb hK hP hD hS (by omega) (by have := im_lt (rs (R ct) n P) lv; omega) dX0_enter_45 (fun H locs hP hD hS => ?_)
          have hP : va_P D vwCl (gW cI cG h a g f ra (nI (n)) (nI (id)) (nI (ct)) (nI (fc)) (ad) (fl) (upR (R) ct (upd ((R) ct) (lv * 8 + im (rs (R ct) n P) lv) (nI (rs (R ct) n P))))) H := hP
          have hD : va_D A (gW cI cG h a g f ra (nI (n)) (nI (id)) (nI (ct)) (nI (fc)) (ad) (fl) (upR (R) ct (upd ((R) ct) (lv * 8 + im (rs (R ct) n P) lv) (nI (rs (R ct) n P))))) := hD
          refine lv_aload_n hx hb dX0_enter_46 rfl (lv_at hl 1 rfl) ?_
          refine lv_iload_n hx hb dX0_enter_47 rfl (lv_at hl 3 rfl) ?_
          refine lv_iload hx hb dX0_enter_48 (lv_at hl 0 rfl) ?_
          refine pu_S (As := [.int (nI (lv)), .int (nI (im (rs (R ct) n P) (lv)))]) (rest := [.ref h]) ⟨hx, hb, hml, hown, hts⟩ (kX0_slotOf (x := lv) (z := im (rs (R ct) n P) lv)) (va_cwS 2 hts gX0_enter_X0_slotOf rfl rfl rfl eX0_slotOf ⟨by decide, by decide⟩) hK rfl hl.1 rfl (Nat.le_of_ble_eq_true rfl) dX0_enter_50 ⟨Nat.zero_le _, Nat.zero_le _⟩ ?_
          refine mv_V (As := [.int (nI (lv * 8 + im (rs (R ct) n P) lv))]) (rest := []) (b := h) ⟨hx, hb, hml, hown, hts⟩ (kX0_noteFilled (fc := fc) hfc (z := lv * 8 + im (rs (R ct) n P) lv)) (cwV 1 hts gX0_enter_X0_noteFilled rfl rfl rfl eX0_noteFilled ⟨by decide, by decide⟩) (va_recv hK hP (ci := 0) (q0 := 0) rfl rfl) hK hP hD hS rfl hl.1 rfl (Nat.le_of_ble_eq_true rfl) dX0_enter_53 ⟨Nat.zero_le _, Nat.zero_le _⟩ (fun u H locs hw hP hS hk => ?_)
          rw [upR_u] at hP
          rw [upR_s] at hw
          exact hret u H locs _ _ (hw.trans (hr.trans (if_neg c_26)).symm) hP hS dX0_enter_56
  exact loop_8 n 0 (by omega) rfl ls (lv_sub hl [2, 1, 0] rfl)
theorem eX0_isFull : yX0_isFull.cls = RX0 ∧ yX0_isFull.cls ≠ "java/lang/invoke/MethodHandle" ∧ yX0_isFull.cls ≠ "java/lang/invoke/VarHandle" ∧ (parseMethodDescriptor yX0_isFull.desc).map (fun d => d.parameters.length) = some 0 := by decide +kernel
set_option maxHeartbeats 4000000 in
set_option maxRecDepth 100000 in
theorem kX0_isFull {H : Heap} (hP : va_P D vwCl (gW cI cG h a g f ra (nI n) (nI id) (nI ct) (nI fc) ad fl R) H) (hn : n ≤ 7) (hn1 : 1 ≤ n) (hfc : fc ≤ 21) : pI l yX0_isFull wsX0_isFull ({ frames := 0, cells := 0, slots := 0, locals := 0 } : Room) [.ref h] D (gT cI cG cZ) H (b01 (decide (n * (n - 1) / 2 ≤ fc))) := by
  refine pI_ofW (cc := cX0_isFull) (maxL := 1) (ret := (some .boolean)) (by decide) rfl (Or.inr ⟨rfl, b01_or _⟩) (Nat.le_of_ble_eq_true rfl) ?_
  intro p e s m args below meth c QQ hx hb hml hown hts hK hret ls hl
  have hl : lv_has ls 1 [(0, .ref h)] := hl
  have hown : s.vm.findClass RX0 = some m.cls := hown
  have hin0 : ∀ w ∈ wsX00, w ∈ wsX0_isFull := fun w h => List.mem_cons_of_mem _ (List.mem_append_right _ h)
  have hl_filledCount : (Cond.fieldLink RX0 106 "PermGroup" "filledCount" "I").before args s = true := hts _ (by decide +kernel)
  have hl_n : (Cond.fieldLink RX0 25 "PermGroup" "n" "I").before args s = true := hts _ (by decide +kernel)
  have hm : n * (n - 1) ≤ 7 * 6 := Nat.mul_le_mul hn (by omega)
  refine lv_aload_n hx hb dX0_isFull_0 rfl (lv_at hl 0 rfl) ?_
  refine va_get (D := D) (ci := 0) (v := .int (nI (fc))) (C := RX0) (T := TX0) (N := 7) hx hb hts hin0 hown hK hP 0 rfl rfl 6 (by decide) hl_filledCount (fun _ h9 => h9) rfl dX0_isFull_1 ?_
  refine lv_aload_n hx hb dX0_isFull_4 rfl (lv_at hl 0 rfl) ?_
  refine va_get (D := D) (ci := 0) (v := .int (nI (n))) (C := RX0) (T := TX0) (N := 7) hx hb hts hin0 hown hK hP 0 rfl rfl 0 (by decide) hl_n (fun _ h9 => h9) rfl dX0_isFull_5 ?_
  refine lv_aload_n hx hb dX0_isFull_8 rfl (lv_at hl 0 rfl) ?_
  refine va_get (D := D) (ci := 0) (v := .int (nI (n))) (C := RX0) (T := TX0) (N := 7) hx hb hts hin0 hown hK hP 0 rfl rfl 0 (by decide) hl_n (fun _ h9 => h9) rfl dX0_isFull_9 ?_
  refine lv_iconst (v := nI (1)) hx hb dX0_isFull_12 (by decide) ?_
  refine lv_isub hx hb dX0_isFull_13 ?_
  refine pu_tp (pk_sub (by omega)) ?_
  refine lv_imul hx hb dX0_isFull_14 ?_
  refine pu_tp (pk_mul _ _) ?_
  refine lv_iconst (v := nI (2)) hx hb dX0_isFull_15 (by decide) ?_
  refine lv_idiv hx hb dX0_isFull_16 (nI_ne0 (by omega) (by omega)) ?_
  refine pu_tp (pk_div (by omega) (by omega) (by omega)) ?_
  refine lv_icmp_lt (tgt := 24) hx hb dX0_isFull_17 (by decide) (fun c_17 => ?_) (fun c_17 => ?_)
  ·
    have c_17 := (nI_ltI (by omega) (by omega)).mp c_17
    refine lv_iconst (v := nI (0)) hx hb dX0_isFull_24 (by decide) ?_
    exact hret _ _ _ (by rw [decide_eq_false (Nat.not_le.mpr c_17)]; rfl) dX0_isFull_25
  ·
    have c_17 : ¬ _ := fun h9 => c_17 ((nI_ltI (by omega) (by omega)).mpr h9)
    refine lv_iconst (v := nI (1)) hx hb dX0_isFull_20 (by decide) ?_
    refine lv_goto (tgt := 25) hx hb dX0_isFull_21 (by decide) ?_
    exact hret _ _ _ (by rw [decide_eq_true (Nat.le_of_not_lt c_17)]; rfl) dX0_isFull_25
theorem eX0_enterProduct : yX0_enterProduct.cls = RX0 ∧ yX0_enterProduct.cls ≠ "java/lang/invoke/MethodHandle" ∧ yX0_enterProduct.cls ≠ "java/lang/invoke/VarHandle" ∧ (parseMethodDescriptor yX0_enterProduct.desc).map (fun d => d.parameters.length) = some 2 := by decide +kernel
set_option maxHeartbeats 4000000 in
set_option maxRecDepth 100000 in
theorem kX0_enterProduct (hn : n ≤ 7) (hc : ct ≤ 12) (hfc : fc ≤ 21) {z1 z2 : Nat} (h1 : z1 < 56) (h2 : z2 < 56) : mV (S := CS) l yX0_enterProduct wsX0_enterProduct ({ frames := 4, cells := 0, slots := 0, locals := 94 } : Room) [.ref h, .int (nI (z1)), .int (nI (z2))] D (gT cI cG cZ) (gW cI cG h a g f ra (nI (n)) (nI (id)) (nI (ct)) (nI (fc)) (ad) (fl) (R)) (fun u => gW cI cG h a g f ra (nI n) (nI id) (nI ct) (nI u.2.2) ad u.2.1 (upR R ct u.1)) (fun u => u = epS n z1 z2 (R ct, fl, fc)) := by
  refine mV_ofW (cc := cX0_enterProduct) (maxL := 4) (by decide) rfl (Nat.le_of_ble_eq_true rfl) ?_
  intro p e s m args below meth c QQ hx hb hml hown hts hK hP hD hS hret ls hl
  have hl : lv_has ls 4 [(0, .ref h), (1, .int (nI (z1))), (2, .int (nI (z2)))] := hl
  have hown : s.vm.findClass RX0 = some m.cls := hown
  have hin0 : ∀ w ∈ wsX00, w ∈ wsX0_enterProduct := fun w h => List.mem_cons_of_mem _ (List.mem_append_right _ h)
  have hl_chains : (Cond.fieldLink RX0 15 "PermGroup" "chains" "[[I").before args s = true := hts _ (by decide +kernel)
  have hl_count : (Cond.fieldLink RX0 33 "PermGroup" "count" "I").before args s = true := hts _ (by decide +kernel)
  generalize inW (gW cI cG h a g f ra (nI (n)) (nI (id)) (nI (ct)) (nI (fc)) (ad) (fl) (R)) = A at hD hS hret
  suffices start : ∀ (H : Heap) (locs : List Loc), va_P D vwCl (gW cI cG h a g f ra (nI (n)) (nI (id)) (nI (ct)) (nI (fc)) (ad) (fl) (R)) H → va_D A (gW cI cG h a g f ra (nI (n)) (nI (id)) (nI (ct)) (nI (fc)) (ad) (fl) (R)) → va_S A s.heap H locs → W p l e ({ frames := 4, cells := 0, slots := 0, locals := 94 } : Room) s m args below meth c H locs 0 0 QQ (F0 m 0 ls []) from start s.heap [] hP hD hS
  clear hP hD hS
  intro H locs hP hD hS
  refine lv_aload_n hx hb dX0_enterProduct_0 rfl (lv_at hl 0 rfl) ?_
  refine va_get (D := D) (ci := 0) (v := .ref g) (C := RX0) (T := TX0) (N := 7) hx hb hts hin0 hown hK hP 0 rfl rfl 4 (by decide) hl_chains (fun _ h9 => h9) rfl dX0_enterProduct_1 ?_
  refine lv_aload_n hx hb dX0_enterProduct_4 rfl (lv_at hl 0 rfl) ?_
  refine va_get (D := D) (ci := 0) (v := .int (nI (ct))) (C := RX0) (T := TX0) (N := 7) hx hb hts hin0 hown hK hP 0 rfl rfl 2 (by decide) hl_count (fun _ h9 => h9) rfl dX0_enterProduct_5 ?_
  refine ga_row hx hb hK hP (by omega) dX0_enterProduct_8 ?_
  refine lv_astore_n (lv' := [(3, .ref (ra ct)), (0, .ref h), (1, .int (nI (z1))), (2, .int (nI (z2)))]) hx hb dX0_enterProduct_9 rfl hl (by decide) rfl (fun ls hl => ?_)
  refine lv_iload_n hx hb dX0_enterProduct_10 rfl (lv_at hl 2 rfl) ?_
  refine lv_bipush (v := nI (8)) hx hb dX0_enterProduct_11 (by decide) ?_
  refine lv_idiv hx hb dX0_enterProduct_13 (nI_ne0 (by omega) (by omega)) ?_
  refine pu_tp (pk_div (by omega) (by omega) (by omega)) ?_
  refine lv_iload_n hx hb dX0_enterProduct_14 rfl (lv_at hl 3 rfl) ?_
  refine lv_bipush (v := nI (8)) hx hb dX0_enterProduct_15 (by decide) ?_
  refine lv_idiv hx hb dX0_enterProduct_17 (nI_ne0 (by omega) (by omega)) ?_
  refine pu_tp (pk_div (by omega) (by omega) (by omega)) ?_
  refine lv_icmp_gt (tgt := 35) hx hb dX0_enterProduct_18 (by decide) (fun c_18 => ?_) (fun c_18 => ?_)
  ·
    have c_18 := (nI_ltI (by omega) (by omega)).mp c_18
    exact hret (R ct, fl, fc) H locs _ _ (if_neg (by omega)).symm (by show va_P D vwCl (gW cI cG h a g f ra (nI n) (nI id) (nI ct) (nI fc) ad fl (upR R ct (R ct))) H; rw [upR_id]; exact hP) hS dX0_enterProduct_35
  ·
    have c_18 : ¬ _ := fun h9 => c_18 ((nI_ltI (by omega) (by omega)).mpr h9)
    refine lv_aload_n hx hb dX0_enterProduct_21 rfl (lv_at hl 1 rfl) ?_
    refine lv_aload_n hx hb dX0_enterProduct_22 rfl (lv_at hl 1 rfl) ?_
    refine lv_aload_n hx hb dX0_enterProduct_23 rfl (lv_at hl 0 rfl) ?_
    refine lv_iload_n hx hb dX0_enterProduct_24 rfl (lv_at hl 2 rfl) ?_
    refine va_iald hx hb hK hP (ct + 4) 0 (gW_row (by omega)) rfl (vp_in_nI (by omega) (by omega)) dX0_enterProduct_25 ?_
    refine pu_tp (nb_clamp (f := ((R) ct)) (by omega)) ?_
    refine pu_tp (z := nI (tn (R ct z1))) ((nI_tn _).symm) ?_
    refine lv_aload_n hx hb dX0_enterProduct_26 rfl (lv_at hl 0 rfl) ?_
    refine lv_iload_n hx hb dX0_enterProduct_27 rfl (lv_at hl 3 rfl) ?_
    refine va_iald hx hb hK hP (ct + 4) 0 (gW_row (by omega)) rfl (vp_in_nI (by omega) (by omega)) dX0_enterProduct_28 ?_
    refine pu_tp (nb_clamp (f := ((R) ct)) (by omega)) ?_
    refine pu_tp (z := nI (tn (R ct z2))) ((nI_tn _).symm) ?_
    refine pu_V (As := [.int (nI (tn (R ct z1))), .int (nI (tn (R ct z2)))]) (rest := [.ref h]) (b := h) ⟨hx, hb, hml, hown, hts⟩ (kX0_compose hP hn (P := tn (R ct z1)) (Q := tn (R ct z2)) (tn_lt _) (tn_lt _)) (cwV 2 hts gX0_enterProduct_X0_compose rfl rfl rfl eX0_compose ⟨by decide, by decide⟩) (va_recv hK hP (ci := 0) (q0 := 0) rfl rfl) hK rfl hl.1 rfl (Nat.le_of_ble_eq_true rfl) dX0_enterProduct_29 ⟨Nat.zero_le _, Nat.zero_le _⟩ ?_
    refine mv_V (As := [.int (nI (tm n (tn (R ct z1)) (tn (R ct z2))))]) (rest := []) (b := h) ⟨hx, hb, hml, hown, hts⟩ (kX0_enter hn hc hfc (P := tm n (tn (R ct z1)) (tn (R ct z2))) (Nat.lt_trans (tm_lt hn _ _) (by decide))) (cwV 1 hts gX0_enterProduct_X0_enter rfl rfl rfl eX0_enter ⟨by decide, by decide⟩) (va_recv hK hP (ci := 0) (q0 := 0) rfl rfl) hK hP hD hS rfl hl.1 rfl (Nat.le_of_ble_eq_true rfl) dX0_enterProduct_32 ⟨Nat.zero_le _, Nat.zero_le _⟩ (fun u H locs hw hP hS hk => ?_)
    exact hret u H locs _ _ (hw.trans (if_pos (Nat.le_of_not_lt c_18)).symm) hP hS dX0_enterProduct_35
theorem eX0_extendBy : yX0_extendBy.cls = RX0 ∧ yX0_extendBy.cls ≠ "java/lang/invoke/MethodHandle" ∧ yX0_extendBy.cls ≠ "java/lang/invoke/VarHandle" ∧ (parseMethodDescriptor yX0_extendBy.desc).map (fun d => d.parameters.length) = some 1 := by decide +kernel
set_option maxHeartbeats 4000000 in
set_option maxRecDepth 100000 in
theorem kX0_extendBy (hn : n ≤ 7) (hn1 : 1 ≤ n) (hc : ct ≤ 12) {P : Nat} (hp : P < 2 ^ 32) : mV (S := CS) l yX0_extendBy wsX0_extendBy ({ frames := 5, cells := 0, slots := 0, locals := 117 } : Room) [.ref h, .int (nI (P))] D (gT cI cG cZ) (gW cI cG h a g f ra (nI (n)) (nI (id)) (nI (ct)) (nI (fc)) (ad) (fl) (R)) (fun u => gW cI cG h a g f ra (nI n) (nI id) (nI ct) (nI u.2.2) ad u.2.1 (upR R ct u.1)) (fun u => u = exS n P (R ct) fl) := by
  refine mV_ofW (cc := cX0_extendBy) (maxL := 5) (by decide) rfl (Nat.le_of_ble_eq_true rfl) ?_
  intro p e s m args below meth c QQ hx hb hml hown hts hK hP hD hS hret ls hl
  have hl : lv_has ls 5 [(0, .ref h), (1, .int (nI (P)))] := hl
  have hown : s.vm.findClass RX0 = some m.cls := hown
  have hin0 : ∀ w ∈ wsX00, w ∈ wsX0_extendBy := fun w h => List.mem_cons_of_mem _ (List.mem_append_right _ h)
  have hl_filled : (Cond.fieldLink RX0 18 "PermGroup" "filled" "[I").before args s = true := hts _ (by decide +kernel)
  have hl_filledCount : (Cond.fieldLink RX0 106 "PermGroup" "filledCount" "I").before args s = true := hts _ (by decide +kernel)
  generalize inW (gW cI cG h a g f ra (nI (n)) (nI (id)) (nI (ct)) (nI (fc)) (ad) (fl) (R)) = A at hD hS hret
  suffices start : ∀ (H : Heap) (locs : List Loc), va_P D vwCl (gW cI cG h a g f ra (nI (n)) (nI (id)) (nI (ct)) (nI (fc)) (ad) (fl) (R)) H → va_D A (gW cI cG h a g f ra (nI (n)) (nI (id)) (nI (ct)) (nI (fc)) (ad) (fl) (R)) → va_S A s.heap H locs → W p l e ({ frames := 5, cells := 0, slots := 0, locals := 117 } : Room) s m args below meth c H locs 0 0 QQ (F0 m 0 ls []) from start s.heap [] hP hD hS
  clear hP hD hS
  intro H locs hP hD hS
  refine lv_aload_n hx hb dX0_extendBy_0 rfl (lv_at hl 0 rfl) ?_
  refine mv_V (As := []) (rest := []) (b := h) ⟨hx, hb, hml, hown, hts⟩ (kX0_listFilled hn hc) (cwV 0 hts gX0_extendBy_X0_listFilled rfl rfl rfl eX0_listFilled ⟨by decide, by decide⟩) (va_recv hK hP (ci := 0) (q0 := 0) rfl rfl) hK hP hD hS rfl hl.1 rfl (Nat.le_of_ble_eq_true rfl) dX0_extendBy_1 ⟨Nat.zero_le _, Nat.zero_le _⟩ (fun u H locs hw hP hS hk => ?_)
  obtain ⟨u0, hu0⟩ : ∃ z, z = u := ⟨u, rfl⟩
  rw [← hu0] at hP hw
  have hP : va_P D vwCl (gW cI cG h a g f ra (nI (n)) (nI (id)) (nI (ct)) (nI (u0.2.2)) (ad) (u0.2.1) (upR R ct u0.1)) H := hP
  have hD : va_D A (gW cI cG h a g f ra (nI (n)) (nI (id)) (nI (ct)) (nI (u0.2.2)) (ad) (u0.2.1) (upR R ct u0.1)) := gW_addr hD
  have hok0 : sOK u0 := by rw [hw]; exact sOK_lf hn n 0 _ (by omega) (sOK_0 _ _)
  have hw0 := hw
  refine lv_aload_n hx hb dX0_extendBy_4 rfl (lv_at hl 0 rfl) ?_
  refine va_get (D := D) (ci := 0) (v := .int (nI (u0.2.2))) (C := RX0) (T := TX0) (N := 7) hx hb hts hin0 hown hK hP 0 rfl rfl 6 (by decide) hl_filledCount (fun _ h9 => h9) rfl dX0_extendBy_5 ?_
  refine lv_istore_n (lv' := [(2, .int (nI (u0.2.2))), (0, .ref h), (1, .int (nI (P)))]) hx hb dX0_extendBy_8 rfl hl (by decide) rfl (fun ls hl => ?_)
  refine lv_aload_n hx hb dX0_extendBy_9 rfl (lv_at hl 1 rfl) ?_
  refine lv_iload_n hx hb dX0_extendBy_10 rfl (lv_at hl 2 rfl) ?_
  refine mv_V (As := [.int (nI (P))]) (rest := []) (b := h) ⟨hx, hb, hml, hown, hts⟩ (kX0_enter hn hc hok0.1 hp) (cwV 1 hts gX0_extendBy_X0_enter rfl rfl rfl eX0_enter ⟨by decide, by decide⟩) (va_recv hK hP (ci := 0) (q0 := 0) rfl rfl) hK hP hD hS rfl hl.1 rfl (Nat.le_of_ble_eq_true rfl) dX0_extendBy_11 ⟨Nat.zero_le _, Nat.zero_le _⟩ (fun u H locs hw hP hS hk => ?_)
  obtain ⟨u1, hu1⟩ : ∃ z, z = u := ⟨u, rfl⟩
  rw [← hu1] at hP hw
  rw [upR_u] at hP
  rw [upR_s] at hw
  have hP : va_P D vwCl (gW cI cG h a g f ra (nI (n)) (nI (id)) (nI (ct)) (nI (u1.2.2)) (ad) (u1.2.1) (upR R ct u1.1)) H := hP
  have hD : va_D A (gW cI cG h a g f ra (nI (n)) (nI (id)) (nI (ct)) (nI (u1.2.2)) (ad) (u1.2.1) (upR R ct u1.1)) := gW_addr hD
  have hw1 : u1 = enS n P u0 := hw
  have hok1 : sOK u1 := by rw [hw1]; exact sOK_en _ n 0 u0 (by omega) hok0
  refine lv_iload_n hx hb dX0_extendBy_14 rfl (lv_at hl 0 rfl) ?_
  refine lv_istore_n (lv' := [(3, .int (nI (u0.2.2))), (2, .int (nI (u0.2.2))), (0, .ref h), (1, .int (nI (P)))]) hx hb dX0_extendBy_15 rfl hl (by decide) rfl (fun ls hl => ?_)
  have loop_16 : ∀ (k i : Nat) (z : CS) (H : Heap) (locs : List Loc), (i + k = 21) → (exS n P (R ct) fl = exF n k i z) → (sOK z) → va_P D vwCl (gW cI cG h a g f ra (nI (n)) (nI (id)) (nI (ct)) (nI (z.2.2)) (ad) (z.2.1) (upR R ct z.1)) H → va_D A (gW cI cG h a g f ra (nI (n)) (nI (id)) (nI (ct)) (nI (z.2.2)) (ad) (z.2.1) (upR R ct z.1)) → va_S A s.heap H locs → ∀ (ls : Array Slot), lv_has ls 5 [(0, .ref h), (3, .int (nI (i)))] → W p l e ({ frames := 5, cells := 0, slots := 0, locals := 117 } : Room) s m args below meth c H locs 0 0 QQ (F0 m 16 ls []) := by
    intro k
    induction k with
    | zero =>
      intro i z H locs hk hr hok hP hD hS ls hl
      refine lv_iload_n hx hb dX0_extendBy_16 rfl (lv_at hl 1 rfl) ?_
      refine lv_bipush (v := nI (21)) hx hb dX0_extendBy_17 (by decide) ?_
      refine lv_icmp_ge (tgt := 93) hx hb dX0_extendBy_19 (by decide) (fun c_19 => ?_) (fun c_19 => ?_)
      ·
        have c_19 := (nI_leI (by omega) (by omega)).mp c_19
        exact hret z H locs _ _ hr.symm hP hS dX0_extendBy_93
      ·
        have c_19 : ¬ _ := fun h9 => c_19 ((nI_leI (by omega) (by omega)).mpr h9)
        exfalso; omega
    | succ k ih_16 =>
      intro i z H locs hk hr hok hP hD hS ls hl
      refine lv_iload_n hx hb dX0_extendBy_16 rfl (lv_at hl 1 rfl) ?_
      refine lv_bipush (v := nI (21)) hx hb dX0_extendBy_17 (by decide) ?_
      refine lv_icmp_ge (tgt := 93) hx hb dX0_extendBy_19 (by decide) (fun c_19 => ?_) (fun c_19 => ?_)
      ·
        have c_19 := (nI_leI (by omega) (by omega)).mp c_19
        exfalso; omega
      ·
        have c_19 : ¬ _ := fun h9 => c_19 ((nI_leI (by omega) (by omega)).mpr h9)
        refine lv_iload_n hx hb dX0_extendBy_22 rfl (lv_at hl 1 rfl) ?_
        refine lv_aload_n hx hb dX0_extendBy_23 rfl (lv_at hl 0 rfl) ?_
        refine va_get (D := D) (ci := 0) (v := .int (nI (z.2.2))) (C := RX0) (T := TX0) (N := 7) hx hb hts hin0 hown hK hP 0 rfl rfl 6 (by decide) hl_filledCount (fun _ h9 => h9) rfl dX0_extendBy_24 ?_
        refine lv_icmp_ge (tgt := 37) hx hb dX0_extendBy_27 (by decide) (fun c_27 => ?_) (fun c_27 => ?_)
        ·
          have c_27 := (nI_leI (by have := hok.1; omega) (by have := hok.1; omega)).mp c_27
          exact hret z H locs _ _ (by first | exact (hr.trans (if_pos (Or.inl c_27))).symm | exact (hr.trans (if_pos (Or.inr (of_decide_eq_true c_34)))).symm) hP hS dX0_extendBy_37
        ·
          have c_27 : ¬ _ := fun h9 => c_27 ((nI_leI (by have := hok.1; omega) (by have := hok.1; omega)).mpr h9)
          refine lv_aload_n hx hb dX0_extendBy_30 rfl (lv_at hl 0 rfl) ?_
          refine pu_V (As := []) (rest := []) (b := h) ⟨hx, hb, hml, hown, hts⟩ (kX0_isFull hP hn hn1 hok.1) (cwV 0 hts gX0_extendBy_X0_isFull rfl rfl rfl eX0_isFull ⟨by decide, by decide⟩) (va_recv hK hP (ci := 0) (q0 := 0) rfl rfl) hK rfl hl.1 rfl (Nat.le_of_ble_eq_true rfl) dX0_extendBy_31 ⟨Nat.zero_le _, Nat.zero_le _⟩ ?_
          refine lv_if_eq (tgt := 38) hx hb dX0_extendBy_34 (by decide) (fun c_34 => ?_) (fun c_34 => ?_)
          ·
            have c_34 := b01_f c_34
            refine lv_iconst (v := nI (0)) hx hb dX0_extendBy_38 (by decide) ?_
            refine lv_istore (lv' := [(4, .int (nI (0))), (0, .ref h), (3, .int (nI (i)))]) hx hb dX0_extendBy_39 hl (by decide) rfl (fun ls hl => ?_)
            have loop_41 : ∀ (k2 j : Nat) (v : CS) (H : Heap) (locs : List Loc), (j + k2 = i + 1) → (exI n i (i + 1) 0 z = exI n i k2 j v) → (sOK v) → (i < v.2.2) → va_P D vwCl (gW cI cG h a g f ra (nI (n)) (nI (id)) (nI (ct)) (nI (v.2.2)) (ad) (v.2.1) (upR R ct v.1)) H → va_D A (gW cI cG h a g f ra (nI (n)) (nI (id)) (nI (ct)) (nI (v.2.2)) (ad) (v.2.1) (upR R ct v.1)) → va_S A s.heap H locs → ∀ (ls : Array Slot), lv_has ls 5 [(0, .ref h), (3, .int (nI (i))), (4, .int (nI (j)))] → W p l e ({ frames := 5, cells := 0, slots := 0, locals := 117 } : Room) s m args below meth c H locs 0 0 QQ (F0 m 41 ls []) := by
              intro k2
              induction k2 with
              | zero =>
                intro j v H locs hk2 hr2 hokv hiv hP hD hS ls hl
                refine lv_iload hx hb dX0_extendBy_41 (lv_at hl 2 rfl) ?_
                refine lv_iload_n hx hb dX0_extendBy_43 rfl (lv_at hl 1 rfl) ?_
                refine lv_icmp_gt (tgt := 87) hx hb dX0_extendBy_44 (by decide) (fun c_44 => ?_) (fun c_44 => ?_)
                ·
                  have c_44 := (nI_ltI (by omega) (by omega)).mp c_44
                  refine lv_iinc (v := nI (i + 1)) (lv' := [(3, .int (nI (i + 1))), (0, .ref h), (4, .int (nI (j)))]) hx hb dX0_extendBy_87 hl (k := 1) rfl (nI_1 _) (by decide) rfl (fun ls hl => ?_)
                  refine lv_goto (tgt := 16) hx hb dX0_extendBy_90 (by decide) ?_
                  exact ih_16 (i + 1) v H locs (by omega) (by have hz : v = exI n i (i + 1) 0 z := hr2.symm; rw [hz]; exact hr.trans (if_neg (fun q => q.elim (fun q => c_27 q) (fun q => absurd q (of_decide_eq_false c_34))))) hokv hP hD hS ls (lv_sub hl [1, 0] rfl)
                ·
                  have c_44 : ¬ _ := fun h9 => c_44 ((nI_ltI (by omega) (by omega)).mpr h9)
                  exfalso; omega
              | succ k2 ih_41 =>
                intro j v H locs hk2 hr2 hokv hiv hP hD hS ls hl
                refine lv_iload hx hb dX0_extendBy_41 (lv_at hl 2 rfl) ?_
                refine lv_iload_n hx hb dX0_extendBy_43 rfl (lv_at hl 1 rfl) ?_
                refine lv_icmp_gt (tgt := 87) hx hb dX0_extendBy_44 (by decide) (fun c_44 => ?_) (fun c_44 => ?_)
                ·
                  have c_44 := (nI_ltI (by omega) (by omega)).mp c_44
                  exfalso; omega
                ·
                  have c_44 : ¬ _ := fun h9 => c_44 ((nI_ltI (by omega) (by omega)).mpr h9)
                  refine lv_aload_n hx hb dX0_extendBy_47 rfl (lv_at hl 0 rfl) ?_
                  refine lv_aload_n hx hb dX0_extendBy_48 rfl (lv_at hl 0 rfl) ?_
                  refine va_get (D := D) (ci := 0) (v := .ref f) (C := RX0) (T := TX0) (N := 7) hx hb hts hin0 hown hK hP 0 rfl rfl 5 (by decide) hl_filled (fun _ h9 => h9) rfl dX0_extendBy_49 ?_
                  refine lv_iload_n hx hb dX0_extendBy_52 rfl (lv_at hl 1 rfl) ?_
                  refine va_iald hx hb hK hP 3 0 rfl rfl (vp_in_nI (by have := hokv.1; omega) (by decide)) dX0_extendBy_53 ?_
                  refine pu_tp (nb_clamp (f := (v.2.1)) (by omega)) ?_
                  refine pu_tp (z := nI (tn (v.2.1 i))) ((nI_tn _).symm) ?_
                  refine lv_aload_n hx hb dX0_extendBy_54 rfl (lv_at hl 0 rfl) ?_
                  refine va_get (D := D) (ci := 0) (v := .ref f) (C := RX0) (T := TX0) (N := 7) hx hb hts hin0 hown hK hP 0 rfl rfl 5 (by decide) hl_filled (fun _ h9 => h9) rfl dX0_extendBy_55 ?_
                  refine lv_iload hx hb dX0_extendBy_58 (lv_at hl 2 rfl) ?_
                  refine va_iald hx hb hK hP 3 0 rfl rfl (vp_in_nI (by have := hokv.1; omega) (by decide)) dX0_extendBy_60 ?_
                  refine pu_tp (nb_clamp (f := (v.2.1)) (by omega)) ?_
                  refine pu_tp (z := nI (tn (v.2.1 j))) ((nI_tn _).symm) ?_
                  refine mv_V (As := [.int (nI (tn (v.2.1 i))), .int (nI (tn (v.2.1 j)))]) (rest := []) (b := h) ⟨hx, hb, hml, hown, hts⟩ (kX0_enterProduct hn hc hokv.1 (sl_lt hokv hiv) (sl_lt hokv (by omega))) (cwV 2 hts gX0_extendBy_X0_enterProduct rfl rfl rfl eX0_enterProduct ⟨by decide, by decide⟩) (va_recv hK hP (ci := 0) (q0 := 0) rfl rfl) hK hP hD hS rfl hl.1 rfl (Nat.le_of_ble_eq_true rfl) dX0_extendBy_61 ⟨Nat.zero_le _, Nat.zero_le _⟩ (fun u H locs hw hP hS hk => ?_)
                  obtain ⟨v1, hv1⟩ : ∃ z, z = u := ⟨u, rfl⟩
                  rw [← hv1] at hP hw
                  rw [upR_u] at hP
                  rw [upR_s] at hw
                  have hP : va_P D vwCl (gW cI cG h a g f ra (nI (n)) (nI (id)) (nI (ct)) (nI (v1.2.2)) (ad) (v1.2.1) (upR R ct v1.1)) H := hP
                  have hD : va_D A (gW cI cG h a g f ra (nI (n)) (nI (id)) (nI (ct)) (nI (v1.2.2)) (ad) (v1.2.1) (upR R ct v1.1)) := gW_addr hD
                  have hw1 : v1 = exT n i j v := hw
                  have hokv1 : sOK v1 := by rw [hw1]; exact sOK_ep hn hokv
                  have hle1 : v.2.2 ≤ v1.2.2 := by rw [hw1]; exact epS_le _ _ _ _
                  refine lv_aload_n hx hb dX0_extendBy_64 rfl (lv_at hl 0 rfl) ?_
                  refine lv_aload_n hx hb dX0_extendBy_65 rfl (lv_at hl 0 rfl) ?_
                  refine va_get (D := D) (ci := 0) (v := .ref f) (C := RX0) (T := TX0) (N := 7) hx hb hts hin0 hown hK hP 0 rfl rfl 5 (by decide) hl_filled (fun _ h9 => h9) rfl dX0_extendBy_66 ?_
                  refine lv_iload hx hb dX0_extendBy_69 (lv_at hl 2 rfl) ?_
                  refine va_iald hx hb hK hP 3 0 rfl rfl (vp_in_nI (by have := hokv.1; omega) (by decide)) dX0_extendBy_71 ?_
                  refine pu_tp (nb_clamp (f := (v1.2.1)) (by omega)) ?_
                  refine pu_tp (z := nI (tn (v1.2.1 j))) ((nI_tn _).symm) ?_
                  refine lv_aload_n hx hb dX0_extendBy_72 rfl (lv_at hl 0 rfl) ?_
                  refine va_get (D := D) (ci := 0) (v := .ref f) (C := RX0) (T := TX0) (N := 7) hx hb hts hin0 hown hK hP 0 rfl rfl 5 (by decide) hl_filled (fun _ h9 => h9) rfl dX0_extendBy_73 ?_
                  refine lv_iload_n hx hb dX0_extendBy_76 rfl (lv_at hl 1 rfl) ?_
                  refine va_iald hx hb hK hP 3 0 rfl rfl (vp_in_nI (by have := hokv.1; omega) (by decide)) dX0_extendBy_77 ?_
                  refine pu_tp (nb_clamp (f := (v1.2.1)) (by omega)) ?_
                  refine pu_tp (z := nI (tn (v1.2.1 i))) ((nI_tn _).symm) ?_
                  refine mv_V (As := [.int (nI (tn (v1.2.1 j))), .int (nI (tn (v1.2.1 i)))]) (rest := []) (b := h) ⟨hx, hb, hml, hown, hts⟩ (kX0_enterProduct hn hc hokv1.1 (sl_lt hokv1 (by omega)) (sl_lt hokv1 (by omega))) (cwV 2 hts gX0_extendBy_X0_enterProduct rfl rfl rfl eX0_enterProduct ⟨by decide, by decide⟩) (va_recv hK hP (ci := 0) (q0 := 0) rfl rfl) hK hP hD hS rfl hl.1 rfl (Nat.le_of_ble_eq_true rfl) dX0_extendBy_78 ⟨Nat.zero_le _, Nat.zero_le _⟩ (fun u H locs hw hP hS hk => ?_)
                  obtain ⟨v2, hv2⟩ : ∃ z, z = u := ⟨u, rfl⟩
                  rw [← hv2] at hP hw
                  rw [upR_u] at hP
                  rw [upR_s] at hw
                  have hP : va_P D vwCl (gW cI cG h a g f ra (nI (n)) (nI (id)) (nI (ct)) (nI (v2.2.2)) (ad) (v2.2.1) (upR R ct v2.1)) H := hP
                  have hD : va_D A (gW cI cG h a g f ra (nI (n)) (nI (id)) (nI (ct)) (nI (v2.2.2)) (ad) (v2.2.1) (upR R ct v2.1)) := gW_addr hD
                  have hw2 : v2 = exT n j i v1 := hw
                  have hokv2 : sOK v2 := by rw [hw2]; exact sOK_ep hn hokv1
                  have hle2 : v1.2.2 ≤ v2.2.2 := by rw [hw2]; exact epS_le _ _ _ _
                  refine lv_iinc (v := nI (j + 1)) (lv' := [(4, .int (nI (j + 1))), (0, .ref h), (3, .int (nI (i)))]) hx hb dX0_extendBy_81 hl (k := 2) rfl (nI_1 _) (by decide) rfl (fun ls hl => ?_)
                  refine lv_goto (tgt := 41) hx hb dX0_extendBy_84 (by decide) ?_
                  exact ih_41 (j + 1) v2 H locs (by omega) (by rw [hw2, hw1]; exact hr2) hokv2 (by omega) hP hD hS ls (lv_sub hl [1, 2, 0] rfl)
            exact loop_41 (i + 1) 0 z H locs (by omega) rfl hok (by omega) hP hD hS ls (lv_sub hl [1, 2, 0] rfl)
          ·
            have c_34 := b01_t c_34
            exact hret z H locs _ _ (by first | exact (hr.trans (if_pos (Or.inl c_27))).symm | exact (hr.trans (if_pos (Or.inr (of_decide_eq_true c_34)))).symm) hP hS dX0_extendBy_37
  exact loop_16 (21 - u0.2.2) u0.2.2 u1 H locs (by have := hok0.1; omega) (by rw [hw1, hw0]; rfl) hok1 hP hD hS ls (lv_sub hl [2, 0] rfl)
end CXD
