/-! ===== the law's loop ===== -/
section LWL
variable {p : Program} {l : Launch} {e : Env} {s : State} {m : MethodId} {below : List Frame} {meth : Method} {c : Code} {b L i : Nat} {xs : Nat → Int32} {Q : State → Prop} {D : va_G} {cI cG cZ cL : ClassId} {q1 q2 q3 h a g f : Nat} {ra : Nat → Nat} {hm fa ge inn wa o : Nat} {H : Heap} {locs : List Loc} {cells slots n id ct fc : Nat} {ad fl : Nat → Int32} {R : Nat → Nat → Int32} {gn : Nat → Int32} {th : Int32} {iv wv : Nat → Int32} {lf : Nat → Int64} {ls : Array Slot}
set_option maxHeartbeats 1000000 in
set_option maxRecDepth 20000 in
theorem lw_round (C : LC p l s m c b L xs D cI cG cZ cL q1 q2 q3 h a g f ra hm fa ge inn wa o) (hr : meth.sig.returnType = ret) (hlocks : meth.locks = false) (hi : i ≤ 1536) (nxt : i + 3 ≤ L → KT p l e s m below meth c b (lw_Z below #[Value.ref b] s) D cI cG cZ cL h a g f ra hm fa ge inn wa o (i + 3) (23 + (i + 3)) (10889 + 6 * (i + 3)) 23) : KT p l e s m below meth c b (lw_Z below #[Value.ref b] s) D cI cG cZ cL h a g f ra hm fa ge inn wa o i (23 + i) (10889 + 6 * i) 23 := by
  intro H locs n id ct fc ad fl R gn th iv wv lf ls S hl
  have C0 := C
  obtain ⟨hx, hb, hml, hown, hts, hX, hbl, hL, -⟩ := C
  refine lv_iload hx hb dL_law_23 (lv_at hl 4 rfl) ?_
  refine lv_aload_n hx hb dL_law_25 rfl (lv_at hl 0 rfl) ?_
  refine va_slen hx hb hX hbl (Nat.not_le.mpr hbl) S.2.2.2.1 dL_law_26 ?_
  refine lv_iconst (v := nI 3) hx hb dL_law_27 (by decide) ?_
  refine lv_isub hx hb dL_law_28 ?_
  refine lv_icmp_gt (tgt := 567) hx hb dL_law_29 (by decide) (fun c0 => ?_) (fun c0 => ?_)
  · refine lv_iconst (v := 1) hx hb dL_law_567 (by decide) ?_
    refine va_forget S.2.2.2.1.2.2 ?_
    refine W.widen (k := 601024) (n := 7293034) (by omega) (by omega) ?_
    exact lw_ret hx hb hr hlocks dL_law_568
  have c1 : i + 3 ≤ L := by
    have c2 : ¬ (nI L - nI 3).toInt < (nI i).toInt := fun z => c0 (Int32.lt_iff_toInt_lt.mpr z)
    rw [pk_sub_toInt (by omega) (by omega), nI_toInt (by omega)] at c2
    omega
  have kk : KT p l e s m below meth c b (lw_Z below #[Value.ref b] s) D cI cG cZ cL h a g f ra hm fa ge inn wa o i (23 + i + 1) (10889 + 6 * i + 6) 561 := by
    intro H locs n id ct fc ad fl R gn th iv wv lf ls S hl
    refine lv_iinc (v := nI (i + 3)) (lv' := [(4, .int (nI (i + 3))), (0, .ref b), (1, .ref h), (2, .ref hm), (3, .ref o)]) hx hb dL_law_561 hl (k := 4) rfl (nI_add i 3) (by decide) rfl (fun ls hl => ?_)
    refine lv_goto (tgt := 23) hx hb dL_law_564 (by decide) ?_
    refine W.widen (k := 23 + (i + 3)) (n := 10889 + 6 * (i + 3)) (by omega) (by omega) ?_
    exact nxt c1 H locs n id ct fc ad fl R gn th iv wv lf ls S (lv_sub hl [1, 2, 3, 4, 0] rfl)
  refine lv_aload_n hx hb dL_law_32 rfl (lv_at hl 0 rfl) ?_
  refine lv_iload hx hb dL_law_33 (lv_at hl 4 rfl) ?_
  refine va_sld hx hb hX hbl (Nat.not_le.mpr hbl) S.2.2.2.1 (vp_in_nI (show i < L by omega) (by omega)) dL_law_35 ?_
  refine lv_bipush (v := nI 15) hx hb dL_law_36 (by decide) ?_
  refine lv_iand hx hb dL_law_38 ?_
  obtain ⟨j, hj, ej⟩ := pk_andE (xs (nI i).toNatClampNeg) (m := nI 15) 4 (by decide)
  refine pu_tp ej ?_
  match j, hj with
  | 0, _ => exact lv_tableIn (off := 77) (tgt := 116) hx hb dL_law_39 (by decide) (by decide) rfl (by decide) (cs_points C0 S c1 (by omega) (by omega) kk hl)
  | 1, _ => exact lv_tableIn (off := 102) (tgt := 141) hx hb dL_law_39 (by decide) (by decide) rfl (by decide) (cs_degree C0 S c1 (by omega) (by omega) kk hl)
  | 2, _ => exact lv_tableIn (off := 115) (tgt := 154) hx hb dL_law_39 (by decide) (by decide) rfl (by decide) (cs_add C0 S c1 (by omega) (by omega) kk hl)
  | 3, _ => exact lv_tableIn (off := 140) (tgt := 179) hx hb dL_law_39 (by decide) (by decide) rfl (by decide) (cs_drop C0 S c1 (by omega) (by omega) kk hl)
  | 4, _ => exact lv_tableIn (off := 153) (tgt := 192) hx hb dL_law_39 (by decide) (by decide) rfl (by decide) (cs_generators C0 S c1 (by omega) (by omega) kk hl)
  | 5, _ => exact lv_tableIn (off := 166) (tgt := 205) hx hb dL_law_39 (by decide) (by decide) rfl (by decide) (cs_generator C0 S c1 (by omega) (by omega) kk hl)
  | 6, _ => exact lv_tableIn (off := 191) (tgt := 230) hx hb dL_law_39 (by decide) (by decide) rfl (by decide) (cs_product C0 S c1 (by omega) (by omega) kk hl)
  | 7, _ => exact lv_tableIn (off := 228) (tgt := 267) hx hb dL_law_39 (by decide) (by decide) rfl (by decide) (cs_inverse C0 S c1 (by omega) (by omega) kk hl)
  | 8, _ => exact lv_tableIn (off := 253) (tgt := 292) hx hb dL_law_39 (by decide) (by decide) rfl (by decide) (cs_order C0 S c1 (by omega) (by omega) kk hl)
  | 9, _ => exact lv_tableIn (off := 266) (tgt := 305) hx hb dL_law_39 (by decide) (by decide) rfl (by decide) (cs_contains C0 S c1 (by omega) (by omega) kk hl)
  | 10, _ => exact lv_tableIn (off := 291) (tgt := 330) hx hb dL_law_39 (by decide) (by decide) rfl (by decide) (cs_element C0 S c1 (by omega) (by omega) kk hl)
  | 11, _ => exact lv_tableIn (off := 347) (tgt := 386) hx hb dL_law_39 (by decide) (by decide) rfl (by decide) (cs_rank C0 S c1 (by omega) (by omega) kk hl)
  | 12, _ => exact lv_tableIn (off := 403) (tgt := 442) hx hb dL_law_39 (by decide) (by decide) rfl (by decide) (cs_least C0 S c1 (by omega) (by omega) kk hl)
  | 13, _ => exact lv_tableIn (off := 459) (tgt := 498) hx hb dL_law_39 (by decide) (by decide) rfl (by decide) (cs_orbit C0 S c1 (by omega) (by omega) kk hl)
  | 14, _ => exact lv_tableIn (off := 484) (tgt := 523) hx hb dL_law_39 (by decide) (by decide) rfl (by decide) (cs_fixing C0 S c1 (by omega) (by omega) kk hl)
  | 15, _ => exact lv_tableIn (off := 509) (tgt := 548) hx hb dL_law_39 (by decide) (by decide) rfl (by decide) (cs_even C0 S c1 (by omega) (by omega) kk hl)
  | j + 16, hj => omega
theorem lw_loop (C : LC p l s m c b L xs D cI cG cZ cL q1 q2 q3 h a g f ra hm fa ge inn wa o) (hr : meth.sig.returnType = ret) (hlocks : meth.locks = false) : ∀ (K i : Nat), L < i + 3 + 3 * K → i ≤ 1536 → KT p l e s m below meth c b (lw_Z below #[Value.ref b] s) D cI cG cZ cL h a g f ra hm fa ge inn wa o i (23 + i) (10889 + 6 * i) 23
  | 0, i, hK, hi => lw_round C hr hlocks hi (fun z => absurd hK (by omega))
  | K + 1, i, hK, hi => lw_round C hr hlocks hi (fun z => lw_loop C hr hlocks K (i + 3) (by omega) (by have := C.2.2.2.2.2.2.2.1; omega))
end LWL
