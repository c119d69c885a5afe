theorem bg_m {r : Nat → Int32} {i : Nat} (h : ∀ j, j < i → r j = -1) : ∀ j, j < i + 1 → upd r i (-1) j = -1 := by
  intro j hj
  by_cases e : j = i
  · rw [e]; exact pk_us
  · rw [pk_un e]; exact h j (by omega)
theorem bg_d {r : Nat → Int32} {i : Nat} {v : Int32} (hi : i < 7) (h : ∀ j, j < 56 → r j = if j / 8 < i ∧ j % 8 = j / 8 then v else -1) : ∀ j, j < 56 → upd r (i * 8 + i) v j = if j / 8 < i + 1 ∧ j % 8 = j / 8 then v else -1 := by
  intro j hj
  by_cases e : j = i * 8 + i
  · rw [e, pk_us, if_pos (by omega)]
  · rw [pk_un e, h j hj]
    by_cases c : j / 8 < i ∧ j % 8 = j / 8
    · rw [if_pos c, if_pos (by omega)]
    · rw [if_neg c, if_neg (by omega)]
section CXE
variable {l : Launch} {D : va_G} {cI cG cZ : ClassId} {h a g f : Nat} {ra : Nat → Nat} {n id ct fc : Nat} {ad fl : Nat → Int32} {R : Nat → Nat → Int32}
theorem eX0_begin : yX0_begin.cls = RX0 ∧ yX0_begin.cls ≠ "java/lang/invoke/MethodHandle" ∧ yX0_begin.cls ≠ "java/lang/invoke/VarHandle" ∧ (parseMethodDescriptor yX0_begin.desc).map (fun d => d.parameters.length) = some 1 := by decide +kernel
set_option maxHeartbeats 4000000 in
set_option maxRecDepth 100000 in
theorem kX0_begin {nn : Nat} (hn : nn ≤ 7) : mV (S := (Nat → Nat → Int32)) l yX0_begin wsX0_begin ({ frames := 1, cells := 0, slots := 0, locals := 21 } : Room) [.ref h, .int (nI (nn))] D (gT cI cG cZ) (gW cI cG h a g f ra (nI (n)) (nI (id)) (nI (ct)) (nI (fc)) (ad) (fl) (R)) (fun u => gW cI cG h a g f ra (nI nn) (nI (idn nn)) (nI 0) (nI fc) ad fl u) (fun u => ∀ j, j < 56 → u 0 j = bgR nn j) := by
  refine mV_ofW (cc := cX0_begin) (maxL := 4) (by decide) rfl (Nat.le_of_ble_eq_true rfl) ?_
  intro p e s m args below meth c QQ hx hb hml hown hts hK hP hD hS hret ls hl
  have hl : lv_has ls 4 [(0, .ref h), (1, .int (nI (nn)))] := hl
  have hown : s.vm.findClass RX0 = some m.cls := hown
  have hin0 : ∀ w ∈ wsX00, w ∈ wsX0_begin := fun w h => List.mem_cons_of_mem _ (List.mem_append_right _ h)
  have hl_chains : (Cond.fieldLink RX0 15 "PermGroup" "chains" "[[I").before args s = true := hts _ (by decide +kernel)
  have hl_count : (Cond.fieldLink RX0 33 "PermGroup" "count" "I").before args s = true := hts _ (by decide +kernel)
  have hl_identity : (Cond.fieldLink RX0 66 "PermGroup" "identity" "I").before args s = true := hts _ (by decide +kernel)
  have hl_n : (Cond.fieldLink RX0 25 "PermGroup" "n" "I").before args s = true := hts _ (by decide +kernel)
  generalize inW (gW cI cG h a g f ra (nI (n)) (nI (id)) (nI (ct)) (nI (fc)) (ad) (fl) (R)) = A at hD hS hret
  suffices start : ∀ (H : Heap) (locs : List Loc), va_P D vwCl (gW cI cG h a g f ra (nI (n)) (nI (id)) (nI (ct)) (nI (fc)) (ad) (fl) (R)) H → va_D A (gW cI cG h a g f ra (nI (n)) (nI (id)) (nI (ct)) (nI (fc)) (ad) (fl) (R)) → va_S A s.heap H locs → W p l e ({ frames := 1, cells := 0, slots := 0, locals := 21 } : Room) s m args below meth c H locs 0 0 QQ (F0 m 0 ls []) from start s.heap [] hP hD hS
  clear hP hD hS
  intro H locs hP hD hS
  refine lv_aload_n hx hb dX0_begin_0 rfl (lv_at hl 0 rfl) ?_
  refine lv_iload_n hx hb dX0_begin_1 rfl (lv_at hl 1 rfl) ?_
  refine va_put (D := D) (ci := 0) (v := .int (nI (nn))) (ty := .int) (C := RX0) (T := TX0) (N := 7) hx hb hts hin0 tyX0 tyX0_ok nmX0 hown hK hP hD hS 0 rfl rfl 0 (by decide) hl_n (fun _ h9 => h9) rfl (by decide +kernel) rfl rfl (Nat.le_of_ble_eq_true rfl) dX0_begin_2 (fun H locs hP hD hS => ?_)
  have hP : va_P D vwCl (gW cI cG h a g f ra (nI (nn)) (nI (id)) (nI (ct)) (nI (fc)) (ad) (fl) (R)) H := hP
  have hD : va_D A (gW cI cG h a g f ra (nI (nn)) (nI (id)) (nI (ct)) (nI (fc)) (ad) (fl) (R)) := hD
  refine lv_aload_n hx hb dX0_begin_5 rfl (lv_at hl 0 rfl) ?_
  refine lv_iconst (v := nI (0)) hx hb dX0_begin_6 (by decide) ?_
  refine va_put (D := D) (ci := 0) (v := .int (nI (0))) (ty := .int) (C := RX0) (T := TX0) (N := 7) hx hb hts hin0 tyX0 tyX0_ok nmX0 hown hK hP hD hS 0 rfl rfl 2 (by decide) hl_count (fun _ h9 => h9) rfl (by decide +kernel) rfl rfl (Nat.le_of_ble_eq_true rfl) dX0_begin_7 (fun H locs hP hD hS => ?_)
  have hP : va_P D vwCl (gW cI cG h a g f ra (nI (nn)) (nI (id)) (nI (0)) (nI (fc)) (ad) (fl) (R)) H := hP
  have hD : va_D A (gW cI cG h a g f ra (nI (nn)) (nI (id)) (nI (0)) (nI (fc)) (ad) (fl) (R)) := hD
  refine lv_aload_n hx hb dX0_begin_10 rfl (lv_at hl 0 rfl) ?_
  refine lv_iconst (v := nI (0)) hx hb dX0_begin_11 (by decide) ?_
  refine va_put (D := D) (ci := 0) (v := .int (nI (0))) (ty := .int) (C := RX0) (T := TX0) (N := 7) hx hb hts hin0 tyX0 tyX0_ok nmX0 hown hK hP hD hS 0 rfl rfl 1 (by decide) hl_identity (fun _ h9 => h9) rfl (by decide +kernel) rfl rfl (Nat.le_of_ble_eq_true rfl) dX0_begin_12 (fun H locs hP hD hS => ?_)
  have hP : va_P D vwCl (gW cI cG h a g f ra (nI (nn)) (nI (0)) (nI (0)) (nI (fc)) (ad) (fl) (R)) H := hP
  have hD : va_D A (gW cI cG h a g f ra (nI (nn)) (nI (0)) (nI (0)) (nI (fc)) (ad) (fl) (R)) := hD
  refine lv_iconst (v := nI (0)) hx hb dX0_begin_15 (by decide) ?_
  refine lv_istore_n (lv' := [(2, .int (nI (0))), (0, .ref h), (1, .int (nI (nn)))]) hx hb dX0_begin_16 rfl hl (by decide) rfl (fun ls hl => ?_)
  have loop_17 : ∀ (k i x : Nat) (H : Heap) (locs : List Loc), (i + k = nn) → (idn nn = idF k i x) → va_P D vwCl (gW cI cG h a g f ra (nI (nn)) (nI (x)) (nI (0)) (nI (fc)) (ad) (fl) (R)) H → va_D A (gW cI cG h a g f ra (nI (nn)) (nI (x)) (nI (0)) (nI (fc)) (ad) (fl) (R)) → va_S A s.heap H locs → ∀ (ls : Array Slot), lv_has ls 4 [(0, .ref h), (2, .int (nI (i)))] → W p l e ({ frames := 1, cells := 0, slots := 0, locals := 21 } : Room) s m args below meth c H locs 0 0 QQ (F0 m 17 ls []) := by
    intro k
    induction k with
    | zero =>
      intro i x H locs hk hr hP hD hS ls hl
      refine lv_iload_n hx hb dX0_begin_17 rfl (lv_at hl 1 rfl) ?_
      refine lv_aload_n hx hb dX0_begin_18 rfl (lv_at hl 0 rfl) ?_
      refine va_get (D := D) (ci := 0) (v := .int (nI (nn))) (C := RX0) (T := TX0) (N := 7) hx hb hts hin0 hown hK hP 0 rfl rfl 0 (by decide) hl_n (fun _ h9 => h9) rfl dX0_begin_19 ?_
      refine lv_icmp_ge (tgt := 45) hx hb dX0_begin_22 (by decide) (fun c_22 => ?_) (fun c_22 => ?_)
      ·
        have c_22 := (nI_leI (by omega) (by omega)).mp c_22
        have hidx : idn nn = x := hr
        rw [← hidx] at hP hD
        refine lv_aload_n hx hb dX0_begin_45 rfl (lv_at hl 0 rfl) ?_
        refine va_get (D := D) (ci := 0) (v := .ref g) (C := RX0) (T := TX0) (N := 7) hx hb hts hin0 hown hK hP 0 rfl rfl 4 (by decide) hl_chains (fun _ h9 => h9) rfl dX0_begin_46 ?_
        refine lv_iconst (v := nI (0)) hx hb dX0_begin_49 (by decide) ?_
        refine ga_row hx hb hK hP (by omega) dX0_begin_50 ?_
        refine lv_astore_n (lv' := [(2, .ref (ra 0)), (0, .ref h)]) hx hb dX0_begin_51 rfl hl (by decide) rfl (fun ls hl => ?_)
        refine lv_iconst (v := nI (0)) hx hb dX0_begin_52 (by decide) ?_
        have hP : va_P D vwCl (gW cI cG h a g f ra (nI (nn)) (nI (idn nn)) (nI (0)) (nI (fc)) (ad) (fl) (upR R 0 (R 0))) H := by rw [upR_id]; exact hP
        have hD : va_D A (gW cI cG h a g f ra (nI (nn)) (nI (idn nn)) (nI (0)) (nI (fc)) (ad) (fl) (upR R 0 (R 0))) := gW_addr hD
        skip
        refine lv_istore_n (lv' := [(3, .int (nI (0))), (2, .ref (ra 0)), (0, .ref h)]) hx hb dX0_begin_53 rfl hl (by decide) rfl (fun ls hl => ?_)
        have loop_54 : ∀ (k i : Nat) (r : Nat → Int32) (H : Heap) (locs : List Loc), (i + k = 56) → (∀ j, j < i → r j = -1) → va_P D vwCl (gW cI cG h a g f ra (nI (nn)) (nI (idn nn)) (nI (0)) (nI (fc)) (ad) (fl) (upR R 0 r)) H → va_D A (gW cI cG h a g f ra (nI (nn)) (nI (idn nn)) (nI (0)) (nI (fc)) (ad) (fl) (upR R 0 r)) → va_S A s.heap H locs → ∀ (ls : Array Slot), lv_has ls 4 [(0, .ref h), (2, .ref (ra 0)), (3, .int (nI (i)))] → W p l e ({ frames := 1, cells := 0, slots := 0, locals := 21 } : Room) s m args below meth c H locs 0 0 QQ (F0 m 54 ls []) := by
          intro k
          induction k with
          | zero =>
            intro i r H locs hk hrow hP hD hS ls hl
            refine lv_iload_n hx hb dX0_begin_54 rfl (lv_at hl 2 rfl) ?_
            refine lv_bipush (v := nI (56)) hx hb dX0_begin_55 (by decide) ?_
            refine lv_icmp_ge (tgt := 70) hx hb dX0_begin_57 (by decide) (fun c_57 => ?_) (fun c_57 => ?_)
            ·
              have c_57 := (nI_leI (by omega) (by omega)).mp c_57
              refine lv_iconst (v := nI (0)) hx hb dX0_begin_70 (by decide) ?_
              refine lv_istore_n (lv' := [(3, .int (nI (0))), (0, .ref h), (2, .ref (ra 0))]) hx hb dX0_begin_71 rfl hl (by decide) rfl (fun ls hl => ?_)
              have loop_72 : ∀ (k i : Nat) (r : Nat → Int32) (H : Heap) (locs : List Loc), (i + k = nn) → (∀ j, j < 56 → r j = if j / 8 < i ∧ j % 8 = j / 8 then nI (idn nn) else -1) → va_P D vwCl (gW cI cG h a g f ra (nI (nn)) (nI (idn nn)) (nI (0)) (nI (fc)) (ad) (fl) (upR R 0 r)) H → va_D A (gW cI cG h a g f ra (nI (nn)) (nI (idn nn)) (nI (0)) (nI (fc)) (ad) (fl) (upR R 0 r)) → va_S A s.heap H locs → ∀ (ls : Array Slot), lv_has ls 4 [(0, .ref h), (2, .ref (ra 0)), (3, .int (nI (i)))] → W p l e ({ frames := 1, cells := 0, slots := 0, locals := 21 } : Room) s m args below meth c H locs 0 0 QQ (F0 m 72 ls []) := by
                intro k
                induction k with
                | zero =>
                  intro i r H locs hk hrow hP hD hS ls hl
                  refine lv_iload_n hx hb dX0_begin_72 rfl (lv_at hl 2 rfl) ?_
                  refine lv_aload_n hx hb dX0_begin_73 rfl (lv_at hl 0 rfl) ?_
                  refine va_get (D := D) (ci := 0) (v := .int (nI (nn))) (C := RX0) (T := TX0) (N := 7) hx hb hts hin0 hown hK hP 0 rfl rfl 0 (by decide) hl_n (fun _ h9 => h9) rfl dX0_begin_74 ?_
                  refine lv_icmp_ge (tgt := 97) hx hb dX0_begin_77 (by decide) (fun c_77 => ?_) (fun c_77 => ?_)
                  ·
                    have c_77 := (nI_leI (by omega) (by omega)).mp c_77
                    exact hret (upR R 0 r) H locs _ _ (fun j hj => by rw [upR_s]; exact (hrow j hj).trans (by rw [show i = nn by omega]; rfl)) hP hS dX0_begin_97
                  ·
                    have c_77 : ¬ _ := fun h9 => c_77 ((nI_leI (by omega) (by omega)).mpr h9)
                    exfalso; omega
                | succ k ih_72 =>
                  intro i r H locs hk hrow hP hD hS ls hl
                  refine lv_iload_n hx hb dX0_begin_72 rfl (lv_at hl 2 rfl) ?_
                  refine lv_aload_n hx hb dX0_begin_73 rfl (lv_at hl 0 rfl) ?_
                  refine va_get (D := D) (ci := 0) (v := .int (nI (nn))) (C := RX0) (T := TX0) (N := 7) hx hb hts hin0 hown hK hP 0 rfl rfl 0 (by decide) hl_n (fun _ h9 => h9) rfl dX0_begin_74 ?_
                  refine lv_icmp_ge (tgt := 97) hx hb dX0_begin_77 (by decide) (fun c_77 => ?_) (fun c_77 => ?_)
                  ·
                    have c_77 := (nI_leI (by omega) (by omega)).mp c_77
                    exfalso; omega
                  ·
                    have c_77 : ¬ _ := fun h9 => c_77 ((nI_leI (by omega) (by omega)).mpr h9)
                    refine lv_aload_n hx hb dX0_begin_80 rfl (lv_at hl 1 rfl) ?_
                    refine lv_iload_n hx hb dX0_begin_81 rfl (lv_at hl 2 rfl) ?_
                    refine lv_iload_n hx hb dX0_begin_82 rfl (lv_at hl 2 rfl) ?_
                    refine pu_S (As := [.int (nI (i)), .int (nI (i))]) (rest := [.ref (ra 0)]) ⟨hx, hb, hml, hown, hts⟩ (kX0_slotOf (x := i) (z := i)) (va_cwS 2 hts gX0_begin_X0_slotOf rfl rfl rfl eX0_slotOf ⟨by decide, by decide⟩) hK rfl hl.1 rfl (Nat.le_of_ble_eq_true rfl) dX0_begin_83 ⟨Nat.zero_le _, Nat.zero_le _⟩ ?_
                    refine lv_aload_n hx hb dX0_begin_86 rfl (lv_at hl 0 rfl) ?_
                    refine va_get (D := D) (ci := 0) (v := .int (nI (idn nn))) (C := RX0) (T := TX0) (N := 7) hx hb hts hin0 hown hK hP 0 rfl rfl 1 (by decide) hl_identity (fun _ h9 => h9) rfl dX0_begin_87 ?_
                    refine ua_row hx hb hK hP hD hS (by omega) (by omega) dX0_begin_90 (fun H locs hP hD hS => ?_)
                    rw [upR_u, upR_s] at hP hD
                    have hP : va_P D vwCl (gW cI cG h a g f ra (nI (nn)) (nI (idn nn)) (nI (0)) (nI (fc)) (ad) (fl) (upR R 0 (upd (r) (i * 8 + i) (nI (idn nn))))) H := hP
                    have hD : va_D A (gW cI cG h a g f ra (nI (nn)) (nI (idn nn)) (nI (0)) (nI (fc)) (ad) (fl) (upR R 0 (upd (r) (i * 8 + i) (nI (idn nn))))) := hD
                    refine lv_iinc (v := nI (i + 1)) (lv' := [(3, .int (nI (i + 1))), (0, .ref h), (2, .ref (ra 0))]) hx hb dX0_begin_91 hl (k := 2) rfl (nI_1 _) (by decide) rfl (fun ls hl => ?_)
                    refine lv_goto (tgt := 72) hx hb dX0_begin_94 (by decide) ?_
                    exact ih_72 (i + 1) (upd r (i * 8 + i) (nI (idn nn))) H locs (by omega) (bg_d (by omega) hrow) hP hD hS ls (lv_sub hl [1, 2, 0] rfl)
              exact loop_72 nn 0 r H locs (by omega) (fun j hj => (hrow j (by omega)).trans (if_neg (by omega)).symm) hP hD hS ls (lv_sub hl [1, 2, 0] rfl)
            ·
              have c_57 : ¬ _ := fun h9 => c_57 ((nI_leI (by omega) (by omega)).mpr h9)
              exfalso; omega
          | succ k ih_54 =>
            intro i r H locs hk hrow hP hD hS ls hl
            refine lv_iload_n hx hb dX0_begin_54 rfl (lv_at hl 2 rfl) ?_
            refine lv_bipush (v := nI (56)) hx hb dX0_begin_55 (by decide) ?_
            refine lv_icmp_ge (tgt := 70) hx hb dX0_begin_57 (by decide) (fun c_57 => ?_) (fun c_57 => ?_)
            ·
              have c_57 := (nI_leI (by omega) (by omega)).mp c_57
              exfalso; omega
            ·
              have c_57 : ¬ _ := fun h9 => c_57 ((nI_leI (by omega) (by omega)).mpr h9)
              refine lv_aload_n hx hb dX0_begin_60 rfl (lv_at hl 1 rfl) ?_
              refine lv_iload_n hx hb dX0_begin_61 rfl (lv_at hl 2 rfl) ?_
              refine lv_iconst (v := -1) hx hb dX0_begin_62 (by decide) ?_
              refine ua_row hx hb hK hP hD hS (by omega) (by omega) dX0_begin_63 (fun H locs hP hD hS => ?_)
              rw [upR_u, upR_s] at hP hD
              have hP : va_P D vwCl (gW cI cG h a g f ra (nI (nn)) (nI (idn nn)) (nI (0)) (nI (fc)) (ad) (fl) (upR R 0 (upd (r) (i) (-1)))) H := hP
              have hD : va_D A (gW cI cG h a g f ra (nI (nn)) (nI (idn nn)) (nI (0)) (nI (fc)) (ad) (fl) (upR R 0 (upd (r) (i) (-1)))) := hD
              refine lv_iinc (v := nI (i + 1)) (lv' := [(3, .int (nI (i + 1))), (0, .ref h), (2, .ref (ra 0))]) hx hb dX0_begin_64 hl (k := 2) rfl (nI_1 _) (by decide) rfl (fun ls hl => ?_)
              refine lv_goto (tgt := 54) hx hb dX0_begin_67 (by decide) ?_
              exact ih_54 (i + 1) (upd r i (-1)) H locs (by omega) (bg_m hrow) hP hD hS ls (lv_sub hl [1, 2, 0] rfl)
        exact loop_54 56 0 (R 0) H locs (by omega) (fun j hj => absurd hj (Nat.not_lt_zero _)) hP hD hS ls (lv_sub hl [2, 1, 0] rfl)
      ·
        have c_22 : ¬ _ := fun h9 => c_22 ((nI_leI (by omega) (by omega)).mpr h9)
        exfalso; omega
    | succ k ih_17 =>
      intro i x H locs hk hr hP hD hS ls hl
      refine lv_iload_n hx hb dX0_begin_17 rfl (lv_at hl 1 rfl) ?_
      refine lv_aload_n hx hb dX0_begin_18 rfl (lv_at hl 0 rfl) ?_
      refine va_get (D := D) (ci := 0) (v := .int (nI (nn))) (C := RX0) (T := TX0) (N := 7) hx hb hts hin0 hown hK hP 0 rfl rfl 0 (by decide) hl_n (fun _ h9 => h9) rfl dX0_begin_19 ?_
      refine lv_icmp_ge (tgt := 45) hx hb dX0_begin_22 (by decide) (fun c_22 => ?_) (fun c_22 => ?_)
      ·
        have c_22 := (nI_leI (by omega) (by omega)).mp c_22
        exfalso; omega
      ·
        have c_22 : ¬ _ := fun h9 => c_22 ((nI_leI (by omega) (by omega)).mpr h9)
        refine lv_aload_n hx hb dX0_begin_25 rfl (lv_at hl 0 rfl) ?_
        refine lv_dup hx hb dX0_begin_26 rfl ?_
        refine va_get (D := D) (ci := 0) (v := .int (nI (x))) (C := RX0) (T := TX0) (N := 7) hx hb hts hin0 hown hK hP 0 rfl rfl 1 (by decide) hl_identity (fun _ h9 => h9) rfl dX0_begin_27 ?_
        refine lv_iload_n hx hb dX0_begin_30 rfl (lv_at hl 1 rfl) ?_
        refine lv_iconst (v := nI (3)) hx hb dX0_begin_31 (by decide) ?_
        refine lv_iload_n hx hb dX0_begin_32 rfl (lv_at hl 1 rfl) ?_
        refine lv_imul hx hb dX0_begin_33 ?_
        refine pu_tp (pk_mul _ _) ?_
        refine lv_ishl hx hb dX0_begin_34 ?_
        refine pu_tp (nb_shl _ (by omega)) ?_
        refine lv_ior hx hb dX0_begin_35 ?_
        refine pu_tp (nb_or _ _) ?_
        refine va_put (D := D) (ci := 0) (v := .int (nI (x ||| (i * 2 ^ (3 * i))))) (ty := .int) (C := RX0) (T := TX0) (N := 7) hx hb hts hin0 tyX0 tyX0_ok nmX0 hown hK hP hD hS 0 rfl rfl 1 (by decide) hl_identity (fun _ h9 => h9) rfl (by decide +kernel) rfl rfl (Nat.le_of_ble_eq_true rfl) dX0_begin_36 (fun H locs hP hD hS => ?_)
        have hP : va_P D vwCl (gW cI cG h a g f ra (nI (nn)) (nI (x ||| (i * 2 ^ (3 * i)))) (nI (0)) (nI (fc)) (ad) (fl) (R)) H := hP
        have hD : va_D A (gW cI cG h a g f ra (nI (nn)) (nI (x ||| (i * 2 ^ (3 * i)))) (nI (0)) (nI (fc)) (ad) (fl) (R)) := hD
        refine lv_iinc (v := nI (i + 1)) (lv' := [(2, .int (nI (i + 1))), (0, .ref h)]) hx hb dX0_begin_39 hl (k := 1) rfl (nI_1 _) (by decide) rfl (fun ls hl => ?_)
        refine lv_goto (tgt := 17) hx hb dX0_begin_42 (by decide) ?_
        exact ih_17 (i + 1) (x ||| i * 2 ^ (3 * i)) H locs (by omega) hr hP hD hS ls (lv_sub hl [1, 0] rfl)
  exact loop_17 nn 0 0 H locs (by omega) rfl hP hD hS ls (lv_sub hl [1, 0] rfl)
theorem eX0_drop : yX0_drop.cls = RX0 ∧ yX0_drop.cls ≠ "java/lang/invoke/MethodHandle" ∧ yX0_drop.cls ≠ "java/lang/invoke/VarHandle" ∧ (parseMethodDescriptor yX0_drop.desc).map (fun d => d.parameters.length) = some 0 := by decide +kernel
set_option maxHeartbeats 4000000 in
set_option maxRecDepth 100000 in
theorem kX0_drop (hc : ct ≤ 12) : mI (S := Nat) l yX0_drop wsX0_drop ({ frames := 0, cells := 0, slots := 0, locals := 0 } : Room) [.ref h] D (gT cI cG cZ) (gW cI cG h a g f ra (nI (n)) (nI (id)) (nI (ct)) (nI (fc)) (ad) (fl) (R)) (fun u => gW cI cG h a g f ra (nI n) (nI id) (nI u) (nI fc) ad fl R) (fun r u => (ct = 0 ∧ r = 0 ∧ u = 0) ∨ (0 < ct ∧ r = 1 ∧ u = ct - 1)) := by
  refine mI_ofW (cc := cX0_drop) (maxL := 1) (ret := (some .boolean)) (by decide) rfl (Or.inr ⟨rfl, fun v u q => q.elim (fun q => Or.inl q.2.1) (fun q => Or.inr q.2.1)⟩) (Nat.le_of_ble_eq_true rfl) ?_
  intro p e s m args below meth c QQ hx hb hml hown hts hK hP hD hS hret ls hl
  have hl : lv_has ls 1 [(0, .ref h)] := hl
  have hown : s.vm.findClass RX0 = some m.cls := hown
  have hin0 : ∀ w ∈ wsX00, w ∈ wsX0_drop := fun w h => List.mem_cons_of_mem _ (List.mem_append_right _ h)
  have hl_count : (Cond.fieldLink RX0 33 "PermGroup" "count" "I").before args s = true := hts _ (by decide +kernel)
  generalize inW (gW cI cG h a g f ra (nI (n)) (nI (id)) (nI (ct)) (nI (fc)) (ad) (fl) (R)) = A at hD hS hret
  suffices start : ∀ (H : Heap) (locs : List Loc), va_P D vwCl (gW cI cG h a g f ra (nI (n)) (nI (id)) (nI (ct)) (nI (fc)) (ad) (fl) (R)) H → va_D A (gW cI cG h a g f ra (nI (n)) (nI (id)) (nI (ct)) (nI (fc)) (ad) (fl) (R)) → va_S A s.heap H locs → W p l e ({ frames := 0, cells := 0, slots := 0, locals := 0 } : Room) s m args below meth c H locs 0 0 QQ (F0 m 0 ls []) from start s.heap [] hP hD hS
  clear hP hD hS
  intro H locs hP hD hS
  refine lv_aload_n hx hb dX0_drop_0 rfl (lv_at hl 0 rfl) ?_
  refine va_get (D := D) (ci := 0) (v := .int (nI (ct))) (C := RX0) (T := TX0) (N := 7) hx hb hts hin0 hown hK hP 0 rfl rfl 2 (by decide) hl_count (fun _ h9 => h9) rfl dX0_drop_1 ?_
  refine lv_if_ne (tgt := 9) hx hb dX0_drop_4 (by decide) (fun c_4 => ?_) (fun c_4 => ?_)
  ·
    have c_4 : ¬ _ := fun h9 => c_4 ((nb_eq0 (by omega)).mpr h9)
    refine lv_aload_n hx hb dX0_drop_9 rfl (lv_at hl 0 rfl) ?_
    refine lv_dup hx hb dX0_drop_10 rfl ?_
    refine va_get (D := D) (ci := 0) (v := .int (nI (ct))) (C := RX0) (T := TX0) (N := 7) hx hb hts hin0 hown hK hP 0 rfl rfl 2 (by decide) hl_count (fun _ h9 => h9) rfl dX0_drop_11 ?_
    refine lv_iconst (v := nI (1)) hx hb dX0_drop_14 (by decide) ?_
    refine lv_isub hx hb dX0_drop_15 ?_
    refine pu_tp (pk_sub (by omega)) ?_
    refine va_put (D := D) (ci := 0) (v := .int (nI (ct - 1))) (ty := .int) (C := RX0) (T := TX0) (N := 7) hx hb hts hin0 tyX0 tyX0_ok nmX0 hown hK hP hD hS 0 rfl rfl 2 (by decide) hl_count (fun _ h9 => h9) rfl (by decide +kernel) rfl rfl (Nat.le_of_ble_eq_true rfl) dX0_drop_16 (fun H locs hP hD hS => ?_)
    have hP : va_P D vwCl (gW cI cG h a g f ra (nI (n)) (nI (id)) (nI (ct - 1)) (nI (fc)) (ad) (fl) (R)) H := hP
    have hD : va_D A (gW cI cG h a g f ra (nI (n)) (nI (id)) (nI (ct - 1)) (nI (fc)) (ad) (fl) (R)) := hD
    refine lv_iconst (v := nI (1)) hx hb dX0_drop_19 (by decide) ?_
    exact hret (ct - 1) H locs _ _ _ (Or.inr ⟨by omega, rfl, rfl⟩) hP hS dX0_drop_20
  ·
    have c_4 := (nb_eq0 (by omega)).mp c_4
    refine lv_iconst (v := nI (0)) hx hb dX0_drop_7 (by decide) ?_
    exact hret ct H locs _ _ _ (Or.inl ⟨c_4, rfl, c_4⟩) hP hS dX0_drop_8
theorem pt_ok {x : Int32} (h1 : ¬ x < nI 1) (h2 : x ≤ nI 7) : ∃ X, 1 ≤ X ∧ X ≤ 7 ∧ x = nI X := by
  obtain ⟨X, hX, rfl⟩ := nb_ixle (n := 7) (fun q => h1 (Int32.lt_trans q (by decide))) h2 (by decide)
  exact ⟨X, by have := mt (nI_ltI (by omega) (by decide)).mpr h1; omega, hX, rfl⟩
def ptV (x : Int32) : Prop := ¬ x < nI 1 ∧ x ≤ nI 7
theorem eX0_points : yX0_points.cls = RX0 ∧ yX0_points.cls ≠ "java/lang/invoke/MethodHandle" ∧ yX0_points.cls ≠ "java/lang/invoke/VarHandle" ∧ (parseMethodDescriptor yX0_points.desc).map (fun d => d.parameters.length) = some 1 := by decide +kernel
set_option maxHeartbeats 4000000 in
set_option maxRecDepth 100000 in
theorem kX0_points {x : Int32} : mI (S := (Nat × Nat × Nat × (Nat → Nat → Int32))) l yX0_points wsX0_points ({ frames := 2, cells := 0, slots := 0, locals := 44 } : Room) [.ref h, .int (x)] D (gT cI cG cZ) (gW cI cG h a g f ra (nI (n)) (nI (id)) (nI (ct)) (nI (fc)) (ad) (fl) (R)) (fun u => gW cI cG h a g f ra (nI u.1) (nI u.2.1) (nI u.2.2.1) (nI fc) ad fl u.2.2.2) (fun r u => (ptV x ∧ r = 1 ∧ x = nI u.1 ∧ 1 ≤ u.1 ∧ u.1 ≤ 7 ∧ u.2.1 = idn u.1 ∧ u.2.2.1 = 0 ∧ ∀ j, j < 56 → u.2.2.2 0 j = bgR u.1 j) ∨ (¬ ptV x ∧ r = 0 ∧ u = (n, id, ct, R))) := by
  refine mI_ofW (cc := cX0_points) (maxL := 2) (ret := (some .boolean)) (by decide) rfl (Or.inr ⟨rfl, fun v u q => q.elim (fun q => Or.inr q.2.1) (fun q => Or.inl q.2.1)⟩) (Nat.le_of_ble_eq_true rfl) ?_
  intro p e s m args below meth c QQ hx hb hml hown hts hK hP hD hS hret ls hl
  have hl : lv_has ls 2 [(0, .ref h), (1, .int (x))] := hl
  have hown : s.vm.findClass RX0 = some m.cls := hown
  have hin0 : ∀ w ∈ wsX00, w ∈ wsX0_points := fun w h => List.mem_cons_of_mem _ (List.mem_append_right _ h)
  generalize inW (gW cI cG h a g f ra (nI (n)) (nI (id)) (nI (ct)) (nI (fc)) (ad) (fl) (R)) = A at hD hS hret
  suffices start : ∀ (H : Heap) (locs : List Loc), va_P D vwCl (gW cI cG h a g f ra (nI (n)) (nI (id)) (nI (ct)) (nI (fc)) (ad) (fl) (R)) H → va_D A (gW cI cG h a g f ra (nI (n)) (nI (id)) (nI (ct)) (nI (fc)) (ad) (fl) (R)) → va_S A s.heap H locs → W p l e ({ frames := 2, cells := 0, slots := 0, locals := 44 } : Room) s m args below meth c H locs 0 0 QQ (F0 m 0 ls []) from start s.heap [] hP hD hS
  clear hP hD hS
  intro H locs hP hD hS
  refine lv_iload_n hx hb dX0_points_0 rfl (lv_at hl 1 rfl) ?_
  refine lv_iconst (v := nI (1)) hx hb dX0_points_1 (by decide) ?_
  refine lv_icmp_lt (tgt := 11) hx hb dX0_points_2 (by decide) (fun c_2 => ?_) (fun c_2 => ?_)
  ·
    refine lv_iconst (v := nI (0)) hx hb dX0_points_11 (by decide) ?_
    exact hret (n, id, ct, R) H locs _ _ _ (Or.inr ⟨fun q => by first | exact q.1 c_2 | exact c_8 q.2, rfl, rfl⟩) hP hS dX0_points_12
  ·
    refine lv_iload_n hx hb dX0_points_5 rfl (lv_at hl 1 rfl) ?_
    refine lv_bipush (v := nI (7)) hx hb dX0_points_6 (by decide) ?_
    refine lv_icmp_le (tgt := 13) hx hb dX0_points_8 (by decide) (fun c_8 => ?_) (fun c_8 => ?_)
    ·
      obtain ⟨X, hX1, hX7, rfl⟩ := pt_ok c_2 c_8
      refine lv_aload_n hx hb dX0_points_13 rfl (lv_at hl 0 rfl) ?_
      refine lv_iload_n hx hb dX0_points_14 rfl (lv_at hl 1 rfl) ?_
      refine mv_V (As := [.int (nI (X))]) (rest := []) (b := h) ⟨hx, hb, hml, hown, hts⟩ (kX0_begin hX7) (cwV 1 hts gX0_points_X0_begin rfl rfl rfl eX0_begin ⟨by decide, by decide⟩) (va_recv hK hP (ci := 0) (q0 := 0) rfl rfl) hK hP hD hS rfl hl.1 rfl (Nat.le_of_ble_eq_true rfl) dX0_points_15 ⟨Nat.zero_le _, Nat.zero_le _⟩ (fun u H locs hw hP hS hk => ?_)
      have hP : va_P D vwCl (gW cI cG h a g f ra (nI (X)) (nI (idn X)) (nI (0)) (nI (fc)) (ad) (fl) (u)) H := hP
      have hD : va_D A (gW cI cG h a g f ra (nI (X)) (nI (idn X)) (nI (0)) (nI (fc)) (ad) (fl) (u)) := gW_addr hD
      refine lv_iconst (v := nI (1)) hx hb dX0_points_18 (by decide) ?_
      exact hret (X, idn X, 0, u) H locs _ _ _ (Or.inl ⟨⟨c_2, c_8⟩, rfl, rfl, hX1, hX7, rfl, rfl, hw⟩) hP hS dX0_points_19
    ·
      refine lv_iconst (v := nI (0)) hx hb dX0_points_11 (by decide) ?_
      exact hret (n, id, ct, R) H locs _ _ _ (Or.inr ⟨fun q => by first | exact q.1 c_2 | exact c_8 q.2, rfl, rfl⟩) hP hS dX0_points_12
end CXE
