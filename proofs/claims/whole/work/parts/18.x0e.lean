section CXF
variable {l : Launch} {D : va_G} {cI cG cZ : ClassId} {h a g f : Nat} {ra : Nat → Nat} {n id ct fc : Nat} {ad fl : Nat → Int32} {R : Nat → Nat → Int32}
theorem eX0_add : yX0_add.cls = RX0 ∧ yX0_add.cls ≠ "java/lang/invoke/MethodHandle" ∧ yX0_add.cls ≠ "java/lang/invoke/VarHandle" ∧ (parseMethodDescriptor yX0_add.desc).map (fun d => d.parameters.length) = some 1 := by decide +kernel
set_option maxHeartbeats 4000000 in
set_option maxRecDepth 100000 in
theorem kX0_add (hn : n ≤ 7) (hn1 : 1 ≤ n) (hc : ct ≤ 12) {P : Nat} (hp : P < 2 ^ 32) : mI (S := ((Nat → Int32) × Nat × Nat × (Nat → Int32) × (Nat → Nat → Int32))) l yX0_add wsX0_add ({ frames := 6, cells := 0, slots := 0, locals := 141 } : Room) [.ref h, .int (nI (P))] D (gT cI cG cZ) (gW cI cG h a g f ra (nI (n)) (nI (id)) (nI (ct)) (nI (fc)) (ad) (fl) (R)) (fun u => gW cI cG h a g f ra (nI n) (nI id) (nI u.2.1) (nI u.2.2.1) u.1 u.2.2.2.1 u.2.2.2.2) (fun r u => (isP n P = false ∧ r = -1 ∧ u = (ad, ct, fc, fl, R)) ∨ (isP n P = true ∧ 12 ≤ ct ∧ r = -2 ∧ u = (ad, ct, fc, fl, R)) ∨ (isP n P = true ∧ ct < 12 ∧ r = nI ct ∧ u = (upd ad ct (nI P), ct + 1, (exS n P (va_cpy (R ct) (R (ct + 1)) 0 0 56) fl).2.2, (exS n P (va_cpy (R ct) (R (ct + 1)) 0 0 56) fl).2.1, upR R (ct + 1) (exS n P (va_cpy (R ct) (R (ct + 1)) 0 0 56) fl).1))) := by
  refine mI_ofW (cc := cX0_add) (maxL := 2) (ret := (some .int)) (by decide) rfl (Or.inl rfl) (Nat.le_of_ble_eq_true rfl) ?_
  intro p e s m args below meth c QQ hx hb hml hown hts hK hP hD hS hret ls hl
  have hl : lv_has ls 2 [(0, .ref h), (1, .int (nI (P)))] := hl
  have hown : s.vm.findClass RX0 = some m.cls := hown
  have hin0 : ∀ w ∈ wsX00, w ∈ wsX0_add := fun w h => List.mem_cons_of_mem _ (List.mem_append_right _ h)
  have hl_added : (Cond.fieldLink RX0 9 "PermGroup" "added" "[I").before args s = true := hts _ (by decide +kernel)
  have hl_chains : (Cond.fieldLink RX0 15 "PermGroup" "chains" "[[I").before args s = true := hts _ (by decide +kernel)
  have hl_count : (Cond.fieldLink RX0 33 "PermGroup" "count" "I").before args s = true := hts _ (by decide +kernel)
  generalize inW (gW cI cG h a g f ra (nI (n)) (nI (id)) (nI (ct)) (nI (fc)) (ad) (fl) (R)) = A at hD hS hret
  suffices start : ∀ (H : Heap) (locs : List Loc), va_P D vwCl (gW cI cG h a g f ra (nI (n)) (nI (id)) (nI (ct)) (nI (fc)) (ad) (fl) (R)) H → va_D A (gW cI cG h a g f ra (nI (n)) (nI (id)) (nI (ct)) (nI (fc)) (ad) (fl) (R)) → va_S A s.heap H locs → W p l e ({ frames := 6, cells := 0, slots := 0, locals := 141 } : Room) s m args below meth c H locs 0 0 QQ (F0 m 0 ls []) from start s.heap [] hP hD hS
  clear hP hD hS
  intro H locs hP hD hS
  refine lv_aload_n hx hb dX0_add_0 rfl (lv_at hl 0 rfl) ?_
  refine lv_iload_n hx hb dX0_add_1 rfl (lv_at hl 1 rfl) ?_
  refine pu_V (As := [.int (nI (P))]) (rest := []) (b := h) ⟨hx, hb, hml, hown, hts⟩ (kX0_isPermutation hP hn (P := P) hp) (cwV 1 hts gX0_add_X0_isPermutation rfl rfl rfl eX0_isPermutation ⟨by decide, by decide⟩) (va_recv hK hP (ci := 0) (q0 := 0) rfl rfl) hK rfl hl.1 rfl (Nat.le_of_ble_eq_true rfl) dX0_add_2 ⟨Nat.zero_le _, Nat.zero_le _⟩ ?_
  refine lv_if_ne (tgt := 10) hx hb dX0_add_5 (by decide) (fun c_5 => ?_) (fun c_5 => ?_)
  ·
    have c_5 := b01_t c_5
    refine lv_aload_n hx hb dX0_add_10 rfl (lv_at hl 0 rfl) ?_
    refine va_get (D := D) (ci := 0) (v := .int (nI (ct))) (C := RX0) (T := TX0) (N := 7) hx hb hts hin0 hown hK hP 0 rfl rfl 2 (by decide) hl_count (fun _ h9 => h9) rfl dX0_add_11 ?_
    refine lv_bipush (v := nI (12)) hx hb dX0_add_14 (by decide) ?_
    refine lv_icmp_lt (tgt := 22) hx hb dX0_add_16 (by decide) (fun c_16 => ?_) (fun c_16 => ?_)
    ·
      have c_16 := (nI_ltI (by omega) (by omega)).mp c_16
      refine lv_aload_n hx hb dX0_add_22 rfl (lv_at hl 0 rfl) ?_
      refine va_get (D := D) (ci := 0) (v := .ref a) (C := RX0) (T := TX0) (N := 7) hx hb hts hin0 hown hK hP 0 rfl rfl 3 (by decide) hl_added (fun _ h9 => h9) rfl dX0_add_23 ?_
      refine lv_aload_n hx hb dX0_add_26 rfl (lv_at hl 0 rfl) ?_
      refine va_get (D := D) (ci := 0) (v := .int (nI (ct))) (C := RX0) (T := TX0) (N := 7) hx hb hts hin0 hown hK hP 0 rfl rfl 2 (by decide) hl_count (fun _ h9 => h9) rfl dX0_add_27 ?_
      refine lv_iload_n hx hb dX0_add_30 rfl (lv_at hl 1 rfl) ?_
      refine ua_iast hx hb hK hP hD hS 1 0 rfl rfl (by omega) (by decide) dX0_add_31 (fun H locs hP hD hS => ?_)
      have hP : va_P D vwCl (gW cI cG h a g f ra (nI (n)) (nI (id)) (nI (ct)) (nI (fc)) (upd (ad) (ct) (nI (P))) (fl) (R)) H := hP
      have hD : va_D A (gW cI cG h a g f ra (nI (n)) (nI (id)) (nI (ct)) (nI (fc)) (upd (ad) (ct) (nI (P))) (fl) (R)) := hD
      refine lv_aload_n hx hb dX0_add_32 rfl (lv_at hl 0 rfl) ?_
      refine va_get (D := D) (ci := 0) (v := .ref g) (C := RX0) (T := TX0) (N := 7) hx hb hts hin0 hown hK hP 0 rfl rfl 4 (by decide) hl_chains (fun _ h9 => h9) rfl dX0_add_33 ?_
      refine lv_aload_n hx hb dX0_add_36 rfl (lv_at hl 0 rfl) ?_
      refine va_get (D := D) (ci := 0) (v := .int (nI (ct))) (C := RX0) (T := TX0) (N := 7) hx hb hts hin0 hown hK hP 0 rfl rfl 2 (by decide) hl_count (fun _ h9 => h9) rfl dX0_add_37 ?_
      refine ga_row hx hb hK hP (by omega) dX0_add_40 ?_
      refine lv_iconst (v := nI (0)) hx hb dX0_add_41 (by decide) ?_
      refine lv_aload_n hx hb dX0_add_42 rfl (lv_at hl 0 rfl) ?_
      refine va_get (D := D) (ci := 0) (v := .ref g) (C := RX0) (T := TX0) (N := 7) hx hb hts hin0 hown hK hP 0 rfl rfl 4 (by decide) hl_chains (fun _ h9 => h9) rfl dX0_add_43 ?_
      refine lv_aload_n hx hb dX0_add_46 rfl (lv_at hl 0 rfl) ?_
      refine va_get (D := D) (ci := 0) (v := .int (nI (ct))) (C := RX0) (T := TX0) (N := 7) hx hb hts hin0 hown hK hP 0 rfl rfl 2 (by decide) hl_count (fun _ h9 => h9) rfl dX0_add_47 ?_
      refine lv_iconst (v := nI (1)) hx hb dX0_add_50 (by decide) ?_
      refine lv_iadd hx hb dX0_add_51 ?_
      refine pu_tp (nI_add _ _) ?_
      refine ga_row hx hb hK hP (by omega) dX0_add_52 ?_
      refine lv_iconst (v := nI (0)) hx hb dX0_add_53 (by decide) ?_
      refine lv_bipush (v := nI (56)) hx hb dX0_add_54 (by decide) ?_
      have hcl9 : (Cond.methodLink RX0 36 arraycopyName).before args s = true := hts _ (by decide +kernel)
      have hcn9 : (Cond.native arraycopyName).before args s = true := hts _ (by decide +kernel)
      have hcs9 : (Cond.static arraycopyName).before args s = true := hts _ (by decide +kernel)
      have hci9 : (Cond.initialized "java/lang/System").before args s = true := hts _ (by decide +kernel)
      refine ga_copy hx hb (by rw [hml]; exact hl.1.symm) hown hcl9 hcn9 hcs9 hci9 hK hP hD hS (i := ct) (j := ct + 1) (by omega) (by omega) (by decide) (by decide) dX0_add_56 (fun H locs hP hD hS => ?_)
      have hP : va_P D vwCl (gW cI cG h a g f ra (nI (n)) (nI (id)) (nI (ct)) (nI (fc)) (upd (ad) (ct) (nI (P))) (fl) (upR R (ct + 1) (va_cpy (R ct) (R (ct + 1)) 0 0 56))) H := hP
      have hD : va_D A (gW cI cG h a g f ra (nI (n)) (nI (id)) (nI (ct)) (nI (fc)) (upd (ad) (ct) (nI (P))) (fl) (upR R (ct + 1) (va_cpy (R ct) (R (ct + 1)) 0 0 56))) := hD
      refine lv_aload_n hx hb dX0_add_59 rfl (lv_at hl 0 rfl) ?_
      refine lv_dup hx hb dX0_add_60 rfl ?_
      refine va_get (D := D) (ci := 0) (v := .int (nI (ct))) (C := RX0) (T := TX0) (N := 7) hx hb hts hin0 hown hK hP 0 rfl rfl 2 (by decide) hl_count (fun _ h9 => h9) rfl dX0_add_61 ?_
      refine lv_iconst (v := nI (1)) hx hb dX0_add_64 (by decide) ?_
      refine lv_iadd hx hb dX0_add_65 ?_
      refine pu_tp (nI_add _ _) ?_
      refine va_put (D := D) (ci := 0) (v := .int (nI (ct + 1))) (ty := .int) (C := RX0) (T := TX0) (N := 7) hx hb hts hin0 tyX0 tyX0_ok nmX0 hown hK hP hD hS 0 rfl rfl 2 (by decide) hl_count (fun _ h9 => h9) rfl (by decide +kernel) rfl rfl (Nat.le_of_ble_eq_true rfl) dX0_add_66 (fun H locs hP hD hS => ?_)
      have hP : va_P D vwCl (gW cI cG h a g f ra (nI (n)) (nI (id)) (nI (ct + 1)) (nI (fc)) (upd (ad) (ct) (nI (P))) (fl) (upR R (ct + 1) (va_cpy (R ct) (R (ct + 1)) 0 0 56))) H := hP
      have hD : va_D A (gW cI cG h a g f ra (nI (n)) (nI (id)) (nI (ct + 1)) (nI (fc)) (upd (ad) (ct) (nI (P))) (fl) (upR R (ct + 1) (va_cpy (R ct) (R (ct + 1)) 0 0 56))) := hD
      refine lv_aload_n hx hb dX0_add_69 rfl (lv_at hl 0 rfl) ?_
      refine lv_iload_n hx hb dX0_add_70 rfl (lv_at hl 1 rfl) ?_
      refine mv_V (As := [.int (nI (P))]) (rest := []) (b := h) ⟨hx, hb, hml, hown, hts⟩ (kX0_extendBy hn hn1 (by omega) hp) (cwV 1 hts gX0_add_X0_extendBy rfl rfl rfl eX0_extendBy ⟨by decide, by decide⟩) (va_recv hK hP (ci := 0) (q0 := 0) rfl rfl) hK hP hD hS rfl hl.1 rfl (Nat.le_of_ble_eq_true rfl) dX0_add_71 ⟨Nat.zero_le _, Nat.zero_le _⟩ (fun u H locs hw hP hS hk => ?_)
      rw [upR_u] at hP
      rw [upR_s] at hw
      have hP : va_P D vwCl (gW cI cG h a g f ra (nI (n)) (nI (id)) (nI (ct + 1)) (nI (u.2.2)) (upd (ad) (ct) (nI (P))) (u.2.1) (upR R (ct + 1) u.1)) H := hP
      have hD : va_D A (gW cI cG h a g f ra (nI (n)) (nI (id)) (nI (ct + 1)) (nI (u.2.2)) (upd (ad) (ct) (nI (P))) (u.2.1) (upR R (ct + 1) u.1)) := gW_addr hD
      refine lv_aload_n hx hb dX0_add_74 rfl (lv_at hl 0 rfl) ?_
      refine va_get (D := D) (ci := 0) (v := .int (nI (ct + 1))) (C := RX0) (T := TX0) (N := 7) hx hb hts hin0 hown hK hP 0 rfl rfl 2 (by decide) hl_count (fun _ h9 => h9) rfl dX0_add_75 ?_
      refine lv_iconst (v := nI (1)) hx hb dX0_add_78 (by decide) ?_
      refine lv_isub hx hb dX0_add_79 ?_
      refine pu_tp (pk_sub (by omega)) ?_
      exact hret (upd ad ct (nI P), ct + 1, u.2.2, u.2.1, upR R (ct + 1) u.1) H locs _ _ _ (Or.inr (Or.inr ⟨c_5, by omega, by rw [Nat.add_sub_cancel], by rw [hw]⟩)) hP hS dX0_add_80
    ·
      have c_16 : ¬ _ := fun h9 => c_16 ((nI_ltI (by omega) (by omega)).mpr h9)
      refine lv_bipush (v := -2) hx hb dX0_add_19 (by decide) ?_
      exact hret (ad, ct, fc, fl, R) H locs _ _ _ (Or.inr (Or.inl ⟨c_5, by omega, rfl, rfl⟩)) hP hS dX0_add_21
  ·
    have c_5 := b01_f c_5
    refine lv_iconst (v := -1) hx hb dX0_add_8 (by decide) ?_
    exact hret (ad, ct, fc, fl, R) H locs _ _ _ (Or.inl ⟨c_5, rfl, rfl⟩) hP hS dX0_add_9
end CXF
