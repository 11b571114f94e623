set_option maxRecDepth 100000 in
set_option maxHeartbeats 4000000 in
theorem c_ens_b (l : Launch) (hfl : l.stackTraces = false) (G : gG) (b0 : Nat) (v0 : Nat) (ml : Int32) (cnt : Int32) (f : Nat → Int32) (q : Nat) (hq : 16 < q) (hq2 : q ≤ 34) (hF : FB f) : gY l G yJ5_ensureCapacityInternal_d00df cJ5_ensureCapacityInternal_d00df 3 none { frames := 3, cells := 1, slots := 34, locals := 102 } [.ref b0, .int (nI q)] [(b0, .inr (1, [.ref v0, .int 0, .int ml, .int cnt])), (v0, .inl (G.2.1.2.2.2, 16, .inl f))] (fun vv => none) (fun vv => [(b0, .inr (1, [.ref vv, .int 0, .int ml, .int cnt])), (vv, .inl (G.2.1.2.2.2, 34, .inl (va_cpy f (fun _ => 0) 0 0 16)))]) 1 34 := by
  refine gyBegin (by decide +kernel) (Nat.le_of_ble_eq_true rfl) (fun p e s m args below meth c A F hr hlocks hname hN hSt hK hP hD hA hS ls hl => ?_)
  obtain ⟨hx, hb, hml, hown, hts⟩ := id F
  replace hP : va_P G.1 vwCl [(b0, .inr (1, [.ref v0, .int 0, .int ml, .int cnt])), (v0, .inl (G.2.1.2.2.2, 16, .inl f))] s.heap := hP
  replace hl : lv_has ls 3 [(0, .ref b0), (1, .int (nI q))] := hl
  refine lv_aload_n hx hb dJ5_ensureCapacityInternal_d00df_0 rfl (lv_at hl 0 rfl) ?_
  refine va_get (D := G.1) (ci := 1) (v := .ref v0) (C := RJ4) (T := TJ4) (N := 4) hx hb hts in_J4 hown hK hP 0 rfl rfl 0 (by decide) (hts _ k_fl_J5_15) (fun _ h9 => h9) rfl dJ5_ensureCapacityInternal_d00df_1 ?_
  refine va_alen (v := 16) hx hb hK hP 1 3 rfl rfl rfl dJ5_ensureCapacityInternal_d00df_4 ?_
  refine lv_aload_n hx hb dJ5_ensureCapacityInternal_d00df_5 rfl (lv_at hl 0 rfl) ?_
  refine va_get (D := G.1) (ci := 1) (v := .int 0) (C := RJ4) (T := TJ4) (N := 4) hx hb hts in_J4 hown hK hP 0 rfl rfl 1 (by decide) (hts _ k_fl_J5_22) (fun _ h9 => h9) rfl dJ5_ensureCapacityInternal_d00df_6 ?_
  refine lv_ishr hx hb dJ5_ensureCapacityInternal_d00df_9 ?_
  refine W.eq (congrArg (fun z => F0 m _ ls (.int z :: _)) (rfl : ((((16 : Int32) >>> ((0 : Int32) &&& 31)) : Int32) : Int32) = 16)) ?_
  refine lv_istore_n (lv' := [(2, .int 16), (0, .ref b0), (1, .int (nI q))]) hx hb dJ5_ensureCapacityInternal_d00df_10 rfl hl (by decide) rfl (fun ls hl => ?_)
  refine lv_iload_n hx hb dJ5_ensureCapacityInternal_d00df_11 rfl (lv_at hl 2 rfl) ?_
  refine lv_iload_n hx hb dJ5_ensureCapacityInternal_d00df_12 rfl (lv_at hl 0 rfl) ?_
  refine lv_isub hx hb dJ5_ensureCapacityInternal_d00df_13 ?_
  refine lv_if_le (tgt := 38) hx hb dJ5_ensureCapacityInternal_d00df_14 (by decide) (fun c_1 => ?_) (fun c_1 => ?_)
  · exact absurd c_1 (ens_gt hq hq2)
  · skip
    refine lv_aload_n hx hb dJ5_ensureCapacityInternal_d00df_17 rfl (lv_at hl 1 rfl) ?_
    refine lv_aload_n hx hb dJ5_ensureCapacityInternal_d00df_18 rfl (lv_at hl 1 rfl) ?_
    refine va_get (D := G.1) (ci := 1) (v := .ref v0) (C := RJ4) (T := TJ4) (N := 4) hx hb hts in_J4 hown hK hP 0 rfl rfl 0 (by decide) (hts _ k_fl_J5_15) (fun _ h9 => h9) rfl dJ5_ensureCapacityInternal_d00df_19 ?_
    refine lv_aload_n hx hb dJ5_ensureCapacityInternal_d00df_22 rfl (lv_at hl 1 rfl) ?_
    refine lv_iload_n hx hb dJ5_ensureCapacityInternal_d00df_23 rfl (lv_at hl 2 rfl) ?_
    refine gyP (As := [.int (nI q)]) (rest := [.ref v0, .ref b0]) (wr := []) (ws' := fun v2_ => [(b0, .inr (1, [.ref v0, .int 0, .int ml, .int cnt])), (v0, .inl (G.2.1.2.2.2, 16, .inl f))]) F (c_J5_newCapacity_0f7a4 l hfl G b0 v0 ml cnt f q hq hq2) okP_J5_newCapacity_0f7a4 k_ml_J5_104 rfl rfl ⟨Nat.le_of_ble_eq_true rfl, Nat.le_of_ble_eq_true rfl⟩ hN hSt hK hP hD hS hA [0, 1] [] [0, 1] (by decide) rfl rfl (by decide) (by decide) (by decide) (fun _ => rfl) (q0 := 0) rfl rfl rfl rfl hl.1 (Nat.le_of_ble_eq_true rfl) dJ5_ensureCapacityInternal_d00df_24 ⟨Nat.le_of_ble_eq_true rfl, Nat.le_of_ble_eq_true rfl⟩ (fun v2_ H locs hP hD hS => ?_)
    refine lv_aload_n hx hb dJ5_ensureCapacityInternal_d00df_27 rfl (lv_at hl 1 rfl) ?_
    refine va_get (D := G.1) (ci := 1) (v := .int 0) (C := RJ4) (T := TJ4) (N := 4) hx hb hts in_J4 hown hK hP 0 rfl rfl 1 (by decide) (hts _ k_fl_J5_22) (fun _ h9 => h9) rfl dJ5_ensureCapacityInternal_d00df_28 ?_
    refine lv_ishl hx hb dJ5_ensureCapacityInternal_d00df_31 ?_
    refine W.eq (congrArg (fun z => F0 m _ ls (.int z :: _)) (rfl : ((((34 : Int32) <<< ((0 : Int32) &&& 31)) : Int32) : Int32) = 34)) ?_
    refine gyS (As := [.ref v0, .int 34]) (rest := [.ref b0]) (wr := [(b0, .inr (1, [.ref v0, .int 0, .int ml, .int cnt]))]) (ws' := fun v3_ => [(b0, .inr (1, [.ref v0, .int 0, .int ml, .int cnt])), (v0, .inl (G.2.1.2.2.2, 16, .inl f)), (v3_, .inl (G.2.1.2.2.2, 34, .inl (va_cpy f (fun _ => 0) 0 0 16)))]) F (c_J7_copyOf_9075b l hfl G v0 f hF) okS_J7_copyOf_9075b k_ml_J5_108 rfl rfl ⟨Nat.le_of_ble_eq_true rfl, Nat.le_of_ble_eq_true rfl⟩ hN hSt hK hP hD hS hA [1] [0] [0, 1, 2] (by decide) rfl rfl (by decide) (by decide) (by decide) (fun _ => rfl) rfl rfl hl.1 (Nat.le_of_ble_eq_true rfl) dJ5_ensureCapacityInternal_d00df_32 ⟨Nat.le_of_ble_eq_true rfl, Nat.le_of_ble_eq_true rfl⟩ (fun v3_ H locs hP hD hS => ?_)
    refine va_put (D := G.1) (ci := 1) (v := .ref v3_) (ty := .array .byte) (C := RJ4) (T := TJ4) (N := 4) hx hb hts in_J4 tyJ4 tyJ4_ok nmJ4 hown hK hP hD hS 0 rfl rfl 0 (by decide) (hts _ k_fl_J5_15) (fun _ h9 => h9) rfl (by decide +kernel) rfl rfl (Nat.le_of_ble_eq_true rfl) dJ5_ensureCapacityInternal_d00df_35 (fun H locs hP hD hS => ?_)
    replace hP : va_P G.1 vwCl [(b0, .inr (1, [.ref v3_, .int 0, .int ml, .int cnt])), (v0, .inl (G.2.1.2.2.2, 16, .inl f)), (v3_, .inl (G.2.1.2.2.2, 34, .inl (va_cpy f (fun _ => 0) 0 0 16)))] H := hP
    replace hD : va_D A [(b0, .inr (1, [.ref v3_, .int 0, .int ml, .int cnt])), (v0, .inl (G.2.1.2.2.2, 16, .inl f)), (v3_, .inl (G.2.1.2.2.2, 34, .inl (va_cpy f (fun _ => 0) 0 0 16)))] := hD
    replace hP : va_P G.1 vwCl [(b0, .inr (1, [.ref v3_, .int 0, .int ml, .int cnt])), (v3_, .inl (G.2.1.2.2.2, 34, .inl (va_cpy f (fun _ => 0) 0 0 16)))] H := hP.sub [0, 2] rfl
    replace hD : va_D A [(b0, .inr (1, [.ref v3_, .int 0, .int ml, .int cnt])), (v3_, .inl (G.2.1.2.2.2, 34, .inl (va_cpy f (fun _ => 0) 0 0 16)))] := hD.sub [0, 2] (by decide) rfl
    refine gyOf (r1 := none) (u1 := [(b0, .inr (1, [.ref v3_, .int 0, .int ml, .int cnt])), (v3_, .inl (G.2.1.2.2.2, 34, .inl (va_cpy f (fun _ => 0) 0 0 16)))]) v3_ rfl rfl ?_
    exact gRetV F hr hlocks hK hP hD hS rfl rfl (Nat.le_of_ble_eq_true rfl) (Nat.le_of_ble_eq_true rfl) dJ5_ensureCapacityInternal_d00df_38
set_option maxRecDepth 100000 in
set_option maxHeartbeats 4000000 in
theorem c_ens_a (l : Launch) (hfl : l.stackTraces = false) (G : gG) (b0 : Nat) (v0 : Nat) (ml : Int32) (cnt : Int32) (f : Nat → Int32) (q : Nat) (n : Nat) (hq : q ≤ n) (hn : n < 1073741824) : gY l G yJ5_ensureCapacityInternal_d00df cJ5_ensureCapacityInternal_d00df 3 none { frames := 3, cells := 1, slots := 34, locals := 102 } [.ref b0, .int (nI q)] [(b0, .inr (1, [.ref v0, .int 0, .int ml, .int cnt])), (v0, .inl (G.2.1.2.2.2, n, .inl f))] (fun vv => none) (fun vv => [(b0, .inr (1, [.ref vv, .int 0, .int ml, .int cnt])), (vv, .inl (G.2.1.2.2.2, n, .inl f))]) 1 34 := by
  refine gyBegin (by decide +kernel) (Nat.le_of_ble_eq_true rfl) (fun p e s m args below meth c A F hr hlocks hname hN hSt hK hP hD hA hS ls hl => ?_)
  obtain ⟨hx, hb, hml, hown, hts⟩ := id F
  replace hP : va_P G.1 vwCl [(b0, .inr (1, [.ref v0, .int 0, .int ml, .int cnt])), (v0, .inl (G.2.1.2.2.2, n, .inl f))] s.heap := hP
  replace hl : lv_has ls 3 [(0, .ref b0), (1, .int (nI q))] := hl
  refine lv_aload_n hx hb dJ5_ensureCapacityInternal_d00df_0 rfl (lv_at hl 0 rfl) ?_
  refine va_get (D := G.1) (ci := 1) (v := .ref v0) (C := RJ4) (T := TJ4) (N := 4) hx hb hts in_J4 hown hK hP 0 rfl rfl 0 (by decide) (hts _ k_fl_J5_15) (fun _ h9 => h9) rfl dJ5_ensureCapacityInternal_d00df_1 ?_
  refine va_alen (v := (nI n)) hx hb hK hP 1 3 rfl rfl rfl dJ5_ensureCapacityInternal_d00df_4 ?_
  refine lv_aload_n hx hb dJ5_ensureCapacityInternal_d00df_5 rfl (lv_at hl 0 rfl) ?_
  refine va_get (D := G.1) (ci := 1) (v := .int 0) (C := RJ4) (T := TJ4) (N := 4) hx hb hts in_J4 hown hK hP 0 rfl rfl 1 (by decide) (hts _ k_fl_J5_22) (fun _ h9 => h9) rfl dJ5_ensureCapacityInternal_d00df_6 ?_
  refine lv_ishr hx hb dJ5_ensureCapacityInternal_d00df_9 ?_
  refine W.eq (congrArg (fun z => F0 m _ ls (.int z :: _)) (gshr0 _ : ((((nI n) >>> ((0 : Int32) &&& 31)) : Int32) : Int32) = (nI n))) ?_
  refine lv_istore_n (lv' := [(2, .int (nI n)), (0, .ref b0), (1, .int (nI q))]) hx hb dJ5_ensureCapacityInternal_d00df_10 rfl hl (by decide) rfl (fun ls hl => ?_)
  refine lv_iload_n hx hb dJ5_ensureCapacityInternal_d00df_11 rfl (lv_at hl 2 rfl) ?_
  refine lv_iload_n hx hb dJ5_ensureCapacityInternal_d00df_12 rfl (lv_at hl 0 rfl) ?_
  refine lv_isub hx hb dJ5_ensureCapacityInternal_d00df_13 ?_
  refine lv_if_le (tgt := 38) hx hb dJ5_ensureCapacityInternal_d00df_14 (by decide) (fun c_1 => ?_) (fun c_1 => ?_)
  · skip
    refine gyOf (r1 := none) (u1 := [(b0, .inr (1, [.ref v0, .int 0, .int ml, .int cnt])), (v0, .inl (G.2.1.2.2.2, n, .inl f))]) v0 rfl rfl ?_
    exact gRetV F hr hlocks hK hP hD hS rfl rfl (Nat.le_of_ble_eq_true rfl) (Nat.le_of_ble_eq_true rfl) dJ5_ensureCapacityInternal_d00df_38
  · exact absurd (ens_le hq (by omega)) c_1
theorem c_ens (l : Launch) (hfl : l.stackTraces = false) (G : gG) (b0 v0 : Nat) (ml cnt : Int32) (f : Nat → Int32) (q n : Nat) (hn : n = 16 ∨ n = 34) (hq : q ≤ 34) (hF : FB f) : gY l G yJ5_ensureCapacityInternal_d00df cJ5_ensureCapacityInternal_d00df 3 none { frames := 3, cells := 1, slots := 34, locals := 102 } [.ref b0, .int (nI q)] [(b0, .inr (1, [.ref v0, .int 0, .int ml, .int cnt])), (v0, .inl (G.2.1.2.2.2, n, .inl f))] (fun vv => none) (fun vv => [(b0, .inr (1, [.ref vv, .int 0, .int ml, .int cnt])), (vv, .inl (G.2.1.2.2.2, (sbN q n), .inl (sbF q n f)))]) 1 34 := by
  by_cases h : q ≤ n
  · have e1 : sbN q n = n := if_pos h
    have e2 : sbF q n f = f := if_pos h
    rw [e1, e2]
    exact c_ens_a l hfl G b0 v0 ml cnt f q n h (by omega)
  · have e0 : n = 16 := by omega
    subst e0
    have e1 : sbN q 16 = 34 := if_neg h
    have e2 : sbF q 16 f = va_cpy f (fun _ => 0) 0 0 16 := if_neg h
    rw [e1, e2]
    exact c_ens_b l hfl G b0 v0 ml cnt f q (by omega) hq hF
theorem k_sm_J5_ensureCapacityInternal_d00df : Cond.sameMethod yJ5_ensureCapacityInternal_d00df.cls yJ5_ensureCapacityInternal_d00df.cls yJ5_ensureCapacityInternal_d00df.name yJ5_ensureCapacityInternal_d00df.desc ∈ gT := gT_t9 (i := 15) (by decide +kernel) (by decide +kernel)
theorem okP_J5_ensureCapacityInternal_d00df : gOkP yJ5_ensureCapacityInternal_d00df cJ5_ensureCapacityInternal_d00df 3 none 1 := ⟨⟨k_sm_J5_ensureCapacityInternal_d00df, (by decide +kernel), k_im_J5_ensureCapacityInternal_d00df, k_in_J5, k_cd_J5_ensureCapacityInternal_d00df⟩, by decide, by decide, by decide +kernel⟩
def f_J5_setLength_d00df (ml : Int32) (k : Nat) : Int32 :=
  if (nI k) ≤ 0 then
    ml
  else
    1
set_option maxRecDepth 100000 in
set_option maxHeartbeats 4000000 in
theorem c_J5_setLength_d00df (l : Launch) (hfl : l.stackTraces = false) (G : gG) (b0 : Nat) (v0 : Nat) (ml : Int32) (k : Nat) (n : Nat) (f : Nat → Int32) (hn : n = 16 ∨ n = 34) (hk : k ≤ 34) : gY l G yJ5_setLength_d00df cJ5_setLength_d00df 2 none { frames := 4, cells := 1, slots := 34, locals := 124 } [.ref b0, .int 0] [(b0, .inr (1, [.ref v0, .int 0, .int ml, .int (nI k)])), (v0, .inl (G.2.1.2.2.2, n, .inl f))] (fun vv => none) (fun vv => [(b0, .inr (1, [.ref vv, .int 0, .int (f_J5_setLength_d00df ml k), .int 0])), (vv, .inl (G.2.1.2.2.2, n, .inl f))]) 1 34 := by
  refine gyBegin (by decide +kernel) (Nat.le_of_ble_eq_true rfl) (fun p e s m args below meth c A F hr hlocks hname hN hSt hK hP hD hA hS ls hl => ?_)
  obtain ⟨hx, hb, hml, hown, hts⟩ := id F
  replace hP : va_P G.1 vwCl [(b0, .inr (1, [.ref v0, .int 0, .int ml, .int (nI k)])), (v0, .inl (G.2.1.2.2.2, n, .inl f))] s.heap := hP
  replace hl : lv_has ls 2 [(0, .ref b0), (1, .int 0)] := hl
  refine lv_iload_n hx hb dJ5_setLength_d00df_0 rfl (lv_at hl 1 rfl) ?_
  refine lv_if_ge (tgt := 13) hx hb dJ5_setLength_d00df_1 (by decide) (fun c_1 => ?_) (fun c_1 => ?_)
  · skip
    refine lv_aload_n hx hb dJ5_setLength_d00df_13 rfl (lv_at hl 0 rfl) ?_
    refine lv_iload_n hx hb dJ5_setLength_d00df_14 rfl (lv_at hl 1 rfl) ?_
    refine gyP (As := [.int 0]) (rest := []) (wr := []) (ws' := fun v2_ => [(b0, .inr (1, [.ref v2_, .int 0, .int ml, .int (nI k)])), (v2_, .inl (G.2.1.2.2.2, n, .inl f))]) F (c_ens_a l hfl G b0 v0 ml (nI k) f 0 n (Nat.zero_le _) (by omega)) okP_J5_ensureCapacityInternal_d00df k_ml_J5_100 rfl rfl ⟨Nat.le_of_ble_eq_true rfl, Nat.le_of_ble_eq_true rfl⟩ hN hSt hK hP hD hS hA [0, 1] [] [0, 1] (by decide) rfl rfl (by decide) (by decide) (by decide) (fun _ => rfl) (q0 := 0) rfl rfl rfl rfl hl.1 (Nat.le_of_ble_eq_true rfl) dJ5_setLength_d00df_15 ⟨Nat.le_of_ble_eq_true rfl, Nat.le_of_ble_eq_true rfl⟩ (fun v2_ H locs hP hD hS => ?_)
    refine lv_aload_n hx hb dJ5_setLength_d00df_18 rfl (lv_at hl 0 rfl) ?_
    refine va_get (D := G.1) (ci := 1) (v := .int (nI k)) (C := RJ4) (T := TJ4) (N := 4) hx hb hts in_J4 hown hK hP 0 rfl rfl 3 (by decide) (hts _ k_fl_J5_79) (fun _ h9 => h9) rfl dJ5_setLength_d00df_19 ?_
    refine lv_iload_n hx hb dJ5_setLength_d00df_22 rfl (lv_at hl 1 rfl) ?_
    refine lv_icmp_ge (tgt := 63) hx hb dJ5_setLength_d00df_23 (by decide) (fun c_3 => ?_) (fun c_3 => ?_)
    · skip
      refine lv_aload_n hx hb dJ5_setLength_d00df_63 rfl (lv_at hl 0 rfl) ?_
      refine va_get (D := G.1) (ci := 1) (v := .int (nI k)) (C := RJ4) (T := TJ4) (N := 4) hx hb hts in_J4 hown hK hP 0 rfl rfl 3 (by decide) (hts _ k_fl_J5_79) (fun _ h9 => h9) rfl dJ5_setLength_d00df_64 ?_
      refine lv_iload_n hx hb dJ5_setLength_d00df_67 rfl (lv_at hl 1 rfl) ?_
      refine lv_icmp_le (tgt := 76) hx hb dJ5_setLength_d00df_68 (by decide) (fun c_4 => ?_) (fun c_4 => ?_)
      · skip
        refine lv_aload_n hx hb dJ5_setLength_d00df_76 rfl (lv_at hl 0 rfl) ?_
        refine lv_iload_n hx hb dJ5_setLength_d00df_77 rfl (lv_at hl 1 rfl) ?_
        refine va_put (D := G.1) (ci := 1) (v := .int 0) (ty := .int) (C := RJ4) (T := TJ4) (N := 4) hx hb hts in_J4 tyJ4 tyJ4_ok nmJ4 hown hK hP hD hS 0 rfl rfl 3 (by decide) (hts _ k_fl_J5_79) (fun _ h9 => h9) rfl (by decide +kernel) rfl rfl (Nat.le_of_ble_eq_true rfl) dJ5_setLength_d00df_78 (fun H locs hP hD hS => ?_)
        replace hP : va_P G.1 vwCl [(b0, .inr (1, [.ref v2_, .int 0, .int ml, .int 0])), (v2_, .inl (G.2.1.2.2.2, n, .inl f))] H := hP
        replace hD : va_D A [(b0, .inr (1, [.ref v2_, .int 0, .int ml, .int 0])), (v2_, .inl (G.2.1.2.2.2, n, .inl f))] := hD
        have ef : (f_J5_setLength_d00df ml k) = ml := (if_pos c_4)
        refine gyOf (r1 := none) (u1 := [(b0, .inr (1, [.ref v2_, .int 0, .int (f_J5_setLength_d00df ml k), .int 0])), (v2_, .inl (G.2.1.2.2.2, n, .inl f))]) v2_ rfl rfl ?_
        exact gRetV F hr hlocks hK hP hD hS rfl (by rw [ef]) (Nat.le_of_ble_eq_true rfl) (Nat.le_of_ble_eq_true rfl) dJ5_setLength_d00df_81
      · skip
        refine lv_aload_n hx hb dJ5_setLength_d00df_71 rfl (lv_at hl 0 rfl) ?_
        refine lv_iconst (v := 1) hx hb dJ5_setLength_d00df_72 (by decide) ?_
        refine va_put (D := G.1) (ci := 1) (v := .int 1) (ty := .boolean) (C := RJ4) (T := TJ4) (N := 4) hx hb hts in_J4 tyJ4 tyJ4_ok nmJ4 hown hK hP hD hS 0 rfl rfl 2 (by decide) (hts _ k_fl_J5_73) (fun _ h9 => h9) rfl (by decide +kernel) rfl rfl (Nat.le_of_ble_eq_true rfl) dJ5_setLength_d00df_73 (fun H locs hP hD hS => ?_)
        replace hP : va_P G.1 vwCl [(b0, .inr (1, [.ref v2_, .int 0, .int 1, .int (nI k)])), (v2_, .inl (G.2.1.2.2.2, n, .inl f))] H := hP
        replace hD : va_D A [(b0, .inr (1, [.ref v2_, .int 0, .int 1, .int (nI k)])), (v2_, .inl (G.2.1.2.2.2, n, .inl f))] := hD
        refine lv_aload_n hx hb dJ5_setLength_d00df_76 rfl (lv_at hl 0 rfl) ?_
        refine lv_iload_n hx hb dJ5_setLength_d00df_77 rfl (lv_at hl 1 rfl) ?_
        refine va_put (D := G.1) (ci := 1) (v := .int 0) (ty := .int) (C := RJ4) (T := TJ4) (N := 4) hx hb hts in_J4 tyJ4 tyJ4_ok nmJ4 hown hK hP hD hS 0 rfl rfl 3 (by decide) (hts _ k_fl_J5_79) (fun _ h9 => h9) rfl (by decide +kernel) rfl rfl (Nat.le_of_ble_eq_true rfl) dJ5_setLength_d00df_78 (fun H locs hP hD hS => ?_)
        replace hP : va_P G.1 vwCl [(b0, .inr (1, [.ref v2_, .int 0, .int 1, .int 0])), (v2_, .inl (G.2.1.2.2.2, n, .inl f))] H := hP
        replace hD : va_D A [(b0, .inr (1, [.ref v2_, .int 0, .int 1, .int 0])), (v2_, .inl (G.2.1.2.2.2, n, .inl f))] := hD
        have ef : (f_J5_setLength_d00df ml k) = 1 := (if_neg c_4)
        refine gyOf (r1 := none) (u1 := [(b0, .inr (1, [.ref v2_, .int 0, .int (f_J5_setLength_d00df ml k), .int 0])), (v2_, .inl (G.2.1.2.2.2, n, .inl f))]) v2_ rfl rfl ?_
        exact gRetV F hr hlocks hK hP hD hS rfl (by rw [ef]) (Nat.le_of_ble_eq_true rfl) (Nat.le_of_ble_eq_true rfl) dJ5_setLength_d00df_81
    · exact absurd (nI_pos' (by omega)) c_3
  · exact absurd c_1 (by decide)
theorem k_sm_J5_setLength_d00df : Cond.sameMethod yJ5_setLength_d00df.cls yJ5_setLength_d00df.cls yJ5_setLength_d00df.name yJ5_setLength_d00df.desc ∈ gT := gT_t9 (i := 12) (by decide +kernel) (by decide +kernel)
theorem okSU_J5_setLength_d00df : gOkSU RJ4 yJ5_setLength_d00df cJ5_setLength_d00df 2 none 1 := ⟨⟨k_sm_J5_setLength_d00df, k_su_J4, k_im_J5_setLength_d00df, k_in_J5, k_cd_J5_setLength_d00df⟩, by decide, by decide +kernel⟩
def f_J4_setLength_d00df (ml : Int32) (k : Nat) : Int32 :=
  (f_J5_setLength_d00df ml k)
set_option maxRecDepth 100000 in
set_option maxHeartbeats 4000000 in
theorem c_J4_setLength_d00df (l : Launch) (hfl : l.stackTraces = false) (G : gG) (b0 : Nat) (v0 : Nat) (ml : Int32) (k : Nat) (n : Nat) (f : Nat → Int32) (hn : n = 16 ∨ n = 34) (hk : k ≤ 34) : gY l G yJ4_setLength_d00df cJ4_setLength_d00df 2 none { frames := 5, cells := 1, slots := 34, locals := 145 } [.ref b0, .int 0] [(b0, .inr (1, [.ref v0, .int 0, .int ml, .int (nI k)])), (v0, .inl (G.2.1.2.2.2, n, .inl f))] (fun vv => none) (fun vv => [(b0, .inr (1, [.ref vv, .int 0, .int (f_J4_setLength_d00df ml k), .int 0])), (vv, .inl (G.2.1.2.2.2, n, .inl f))]) 1 34 := by
  refine gyBegin (by decide +kernel) (Nat.le_of_ble_eq_true rfl) (fun p e s m args below meth c A F hr hlocks hname hN hSt hK hP hD hA hS ls hl => ?_)
  obtain ⟨hx, hb, hml, hown, hts⟩ := id F
  replace hP : va_P G.1 vwCl [(b0, .inr (1, [.ref v0, .int 0, .int ml, .int (nI k)])), (v0, .inl (G.2.1.2.2.2, n, .inl f))] s.heap := hP
  replace hl : lv_has ls 2 [(0, .ref b0), (1, .int 0)] := hl
  refine lv_aload_n hx hb dJ4_setLength_d00df_0 rfl (lv_at hl 0 rfl) ?_
  refine lv_iload_n hx hb dJ4_setLength_d00df_1 rfl (lv_at hl 1 rfl) ?_
  refine gySU (As := [.int 0]) (rest := []) (wr := []) (ws' := fun v1_ => [(b0, .inr (1, [.ref v1_, .int 0, .int (f_J5_setLength_d00df ml k), .int 0])), (v1_, .inl (G.2.1.2.2.2, n, .inl f))]) F (c_J5_setLength_d00df l hfl G b0 v0 ml k n f hn hk) okSU_J5_setLength_d00df k_ml_J4_333 rfl rfl ⟨Nat.le_of_ble_eq_true rfl, Nat.le_of_ble_eq_true rfl⟩ hN hSt hK hP hD hS hA [0, 1] [] [0, 1] (by decide) rfl rfl (by decide) (by decide) (by decide) (fun _ => rfl) (q0 := 0) rfl rfl rfl rfl hl.1 (Nat.le_of_ble_eq_true rfl) dJ4_setLength_d00df_2 ⟨Nat.le_of_ble_eq_true rfl, Nat.le_of_ble_eq_true rfl⟩ (fun v1_ H locs hP hD hS => ?_)
  refine gyOf (r1 := none) (u1 := [(b0, .inr (1, [.ref v1_, .int 0, .int (f_J4_setLength_d00df ml k), .int 0])), (v1_, .inl (G.2.1.2.2.2, n, .inl f))]) v1_ rfl rfl ?_
  exact gRetV F hr hlocks hK hP hD hS rfl rfl (Nat.le_of_ble_eq_true rfl) (Nat.le_of_ble_eq_true rfl) dJ4_setLength_d00df_5
theorem okV_J4_setLength_d00df : gOkV yJ4_setLength_d00df cJ4_setLength_d00df 2 none 1 := ⟨⟨k_im_J4_setLength_d00df, k_se_J4_setLength_d00df, k_in_J4, k_cd_J4_setLength_d00df⟩, by decide, by decide, by decide +kernel⟩
def f_J1_canEncode_fc78d (p0 : Int32) : Int32 :=
  if 255 < p0 then
    0
  else
    1
set_option maxRecDepth 100000 in
set_option maxHeartbeats 4000000 in
theorem c_J1_canEncode_fc78d (l : Launch) (G : gG) (p0 : Int32) : gM l G yJ1_canEncode_fc78d cJ1_canEncode_fc78d 1 (some .boolean) { frames := 0, cells := 0, slots := 0, locals := 0 } [.int p0] [] (some (.int (f_J1_canEncode_fc78d p0))) [] 0 0 := by
  refine gBegin (by decide +kernel) (Nat.le_of_ble_eq_true rfl) (fun p e s m args below meth c A F hr hlocks hname hN hK hP hD hA hS ls hl => ?_)
  obtain ⟨hx, hb, hml, hown, hts⟩ := id F
  replace hP : va_P G.1 vwCl [] s.heap := hP
  replace hl : lv_has ls 1 [(0, .int p0)] := hl
  refine lv_iload_n hx hb dJ1_canEncode_fc78d_0 rfl (lv_at hl 0 rfl) ?_
  refine lv_sipush (v := 255) hx hb dJ1_canEncode_fc78d_1 (by decide) ?_
  refine lv_icmp_gt (tgt := 11) hx hb dJ1_canEncode_fc78d_4 (by decide) (fun c_1 => ?_) (fun c_1 => ?_)
  · skip
    refine lv_iconst (v := 0) hx hb dJ1_canEncode_fc78d_11 (by decide) ?_
    have ef : (f_J1_canEncode_fc78d p0) = 0 := (if_pos c_1)
    exact gRetZ F hr hlocks hK hP hD hS rfl (by rw [ef]) rfl (Nat.le_of_ble_eq_true rfl) (Nat.le_of_ble_eq_true rfl) dJ1_canEncode_fc78d_12
  · skip
    refine lv_iconst (v := 1) hx hb dJ1_canEncode_fc78d_7 (by decide) ?_
    refine lv_goto (tgt := 12) hx hb dJ1_canEncode_fc78d_8 (by decide) ?_
    have ef : (f_J1_canEncode_fc78d p0) = 1 := (if_neg c_1)
    exact gRetZ F hr hlocks hK hP hD hS rfl (by rw [ef]) rfl (Nat.le_of_ble_eq_true rfl) (Nat.le_of_ble_eq_true rfl) dJ1_canEncode_fc78d_12
theorem okS_J1_canEncode_fc78d : gOkS yJ1_canEncode_fc78d cJ1_canEncode_fc78d 1 (some .boolean) 1 := ⟨⟨k_st_J1_canEncode_fc78d, k_in_J1, k_cd_J1_canEncode_fc78d⟩, by decide, by decide, by decide +kernel⟩
theorem can_enc {p : Int32} (h : p = 32 ∨ p = 46) : ¬ f_J1_canEncode_fc78d p = 0 := by rcases h with rfl | rfl <;> decide
theorem bch {p : Int32} (h : p = 32 ∨ p = 46) : vp_nar .byte (Int8.toInt32 (Int32.toInt8 p)) = p := by rcases h with rfl | rfl <;> decide
theorem bch_fit {p : Int32} (h : p = 32 ∨ p = 46) : fits .byte (.int p) = true := by rcases h with rfl | rfl <;> decide
set_option maxRecDepth 100000 in
set_option maxHeartbeats 4000000 in
theorem c_J5_append_3fe6f (l : Launch) (hfl : l.stackTraces = false) (G : gG) (b0 : Nat) (v0 : Nat) (ml : Int32) (k : Nat) (n : Nat) (f : Nat → Int32) (p0 : Int32) (hn : n = 16 ∨ n = 34) (hk : k + 1 ≤ 34) (hF : FB f) (hp : p0 = 32 ∨ p0 = 46) : gY l G yJ5_append_3fe6f cJ5_append_3fe6f 2 (some (.object "java/lang/AbstractStringBuilder")) { frames := 4, cells := 1, slots := 34, locals := 124 } [.ref b0, .int p0] [(b0, .inr (1, [.ref v0, .int 0, .int ml, .int (nI k)])), (v0, .inl (G.2.1.2.2.2, n, .inl f))] (fun vv => (some (.ref b0))) (fun vv => [(b0, .inr (1, [.ref vv, .int 0, .int ml, .int (nI (k + 1))])), (vv, .inl (G.2.1.2.2.2, (sbN (k + 1) n), .inl (upd (sbF (k + 1) n f) k p0)))]) 1 34 := by
  refine gyBegin (by decide +kernel) (Nat.le_of_ble_eq_true rfl) (fun p e s m args below meth c A F hr hlocks hname hN hSt hK hP hD hA hS ls hl => ?_)
  obtain ⟨hx, hb, hml, hown, hts⟩ := id F
  replace hP : va_P G.1 vwCl [(b0, .inr (1, [.ref v0, .int 0, .int ml, .int (nI k)])), (v0, .inl (G.2.1.2.2.2, n, .inl f))] s.heap := hP
  replace hl : lv_has ls 2 [(0, .ref b0), (1, .int p0)] := hl
  refine lv_aload_n hx hb dJ5_append_3fe6f_0 rfl (lv_at hl 0 rfl) ?_
  refine lv_aload_n hx hb dJ5_append_3fe6f_1 rfl (lv_at hl 0 rfl) ?_
  refine va_get (D := G.1) (ci := 1) (v := .int (nI k)) (C := RJ4) (T := TJ4) (N := 4) hx hb hts in_J4 hown hK hP 0 rfl rfl 3 (by decide) (hts _ k_fl_J5_79) (fun _ h9 => h9) rfl dJ5_append_3fe6f_2 ?_
  refine lv_iconst (v := 1) hx hb dJ5_append_3fe6f_5 (by decide) ?_
  refine lv_iadd hx hb dJ5_append_3fe6f_6 ?_
  refine W.eq (congrArg (fun z => F0 m _ ls (.int z :: _)) (nI_1 k : (((nI k) + 1) : Int32) = (nI (k + 1)))) ?_
  refine gyP (As := [.int (nI (k + 1))]) (rest := []) (wr := []) (ws' := fun v1_ => [(b0, .inr (1, [.ref v1_, .int 0, .int ml, .int (nI k)])), (v1_, .inl (G.2.1.2.2.2, (sbN (k + 1) n), .inl (sbF (k + 1) n f)))]) F (c_ens l hfl G b0 v0 ml (nI k) f (k + 1) n hn hk hF) okP_J5_ensureCapacityInternal_d00df k_ml_J5_100 rfl rfl ⟨Nat.le_of_ble_eq_true rfl, Nat.le_of_ble_eq_true rfl⟩ hN hSt hK hP hD hS hA [0, 1] [] [0, 1] (by decide) rfl rfl (by decide) (by decide) (by decide) (fun _ => rfl) (q0 := 0) rfl rfl rfl rfl hl.1 (Nat.le_of_ble_eq_true rfl) dJ5_append_3fe6f_7 ⟨Nat.le_of_ble_eq_true rfl, Nat.le_of_ble_eq_true rfl⟩ (fun v1_ H locs hP hD hS => ?_)
  refine lv_aload_n hx hb dJ5_append_3fe6f_10 rfl (lv_at hl 0 rfl) ?_
  refine gyU (As := []) (rest := []) (wr := [(v1_, .inl (G.2.1.2.2.2, (sbN (k + 1) n), .inl (sbF (k + 1) n f)))]) (ws' := fun v2_ => [(b0, .inr (1, [.ref v1_, .int 0, .int ml, .int (nI k)])), (v1_, .inl (G.2.1.2.2.2, (sbN (k + 1) n), .inl (sbF (k + 1) n f)))]) F (c_J5_isLatin1_aae02 l hfl G b0 v1_ ml (nI k)) okU_J5_isLatin1_aae02 k_ml_J5_83 rfl rfl ⟨Nat.le_of_ble_eq_true rfl, Nat.le_of_ble_eq_true rfl⟩ hN hSt hK hP hD hS hA [0] [1] [1, 0] (by decide) rfl rfl (by decide) (by decide) (by decide) (fun _ => rfl) (q0 := 0) rfl rfl rfl rfl hl.1 (Nat.le_of_ble_eq_true rfl) dJ5_append_3fe6f_11 ⟨Nat.le_of_ble_eq_true rfl, Nat.le_of_ble_eq_true rfl⟩ (fun v2_ H locs hP hD hS => ?_)
  refine W.eq (congrArg (fun z => F0 m _ ls (.int z :: _)) (rfl : (1 : Int32) = 1)) ?_
  refine lv_if_eq (tgt := 45) hx hb dJ5_append_3fe6f_14 (by decide) (fun c_3 => ?_) (fun c_3 => ?_)
  · exact absurd c_3 (by decide)
  · skip
    refine lv_iload_n hx hb dJ5_append_3fe6f_17 rfl (lv_at hl 1 rfl) ?_
    refine gS (As := [.int p0]) (rest := []) (wr := [(b0, .inr (1, [.ref v1_, .int 0, .int ml, .int (nI k)])), (v1_, .inl (G.2.1.2.2.2, (sbN (k + 1) n), .inl (sbF (k + 1) n f)))]) (ws' := [(b0, .inr (1, [.ref v1_, .int 0, .int ml, .int (nI k)])), (v1_, .inl (G.2.1.2.2.2, (sbN (k + 1) n), .inl (sbF (k + 1) n f)))]) F (c_J1_canEncode_fc78d l G p0) okS_J1_canEncode_fc78d k_ml_J5_191 rfl rfl ⟨Nat.le_of_ble_eq_true rfl, Nat.le_of_ble_eq_true rfl⟩ hN hK hP hD hS hA [] [0, 1] [0, 1] (by decide) rfl rfl (by decide) (by decide) (by decide) rfl rfl rfl hl.1 (Nat.le_of_ble_eq_true rfl) dJ5_append_3fe6f_18 ⟨Nat.le_of_ble_eq_true rfl, Nat.le_of_ble_eq_true rfl⟩ (fun H locs hP hD hS => ?_)
    refine lv_if_eq (tgt := 45) hx hb dJ5_append_3fe6f_21 (by decide) (fun c_4 => ?_) (fun c_4 => ?_)
    · exact absurd c_4 (can_enc hp)
    · skip
      refine lv_aload_n hx hb dJ5_append_3fe6f_24 rfl (lv_at hl 0 rfl) ?_
      refine va_get (D := G.1) (ci := 1) (v := .ref v1_) (C := RJ4) (T := TJ4) (N := 4) hx hb hts in_J4 hown hK hP 0 rfl rfl 0 (by decide) (hts _ k_fl_J5_15) (fun _ h9 => h9) rfl dJ5_append_3fe6f_25 ?_
      refine lv_aload_n hx hb dJ5_append_3fe6f_28 rfl (lv_at hl 0 rfl) ?_
      refine lv_dup hx hb dJ5_append_3fe6f_29 rfl ?_
      refine va_get (D := G.1) (ci := 1) (v := .int (nI k)) (C := RJ4) (T := TJ4) (N := 4) hx hb hts in_J4 hown hK hP 0 rfl rfl 3 (by decide) (hts _ k_fl_J5_79) (fun _ h9 => h9) rfl dJ5_append_3fe6f_30 ?_
      refine lv_dup_x1 hx hb dJ5_append_3fe6f_33 rfl rfl ?_
      refine lv_iconst (v := 1) hx hb dJ5_append_3fe6f_34 (by decide) ?_
      refine lv_iadd hx hb dJ5_append_3fe6f_35 ?_
      refine W.eq (congrArg (fun z => F0 m _ ls (.int z :: _)) (nI_1 k : (((nI k) + 1) : Int32) = (nI (k + 1)))) ?_
      refine va_put (D := G.1) (ci := 1) (v := .int (nI (k + 1))) (ty := .int) (C := RJ4) (T := TJ4) (N := 4) hx hb hts in_J4 tyJ4 tyJ4_ok nmJ4 hown hK hP hD hS 0 rfl rfl 3 (by decide) (hts _ k_fl_J5_79) (fun _ h9 => h9) rfl (by decide +kernel) rfl rfl (Nat.le_of_ble_eq_true rfl) dJ5_append_3fe6f_36 (fun H locs hP hD hS => ?_)
      replace hP : va_P G.1 vwCl [(b0, .inr (1, [.ref v1_, .int 0, .int ml, .int (nI (k + 1))])), (v1_, .inl (G.2.1.2.2.2, (sbN (k + 1) n), .inl (sbF (k + 1) n f)))] H := hP
      replace hD : va_D A [(b0, .inr (1, [.ref v1_, .int 0, .int ml, .int (nI (k + 1))])), (v1_, .inl (G.2.1.2.2.2, (sbN (k + 1) n), .inl (sbF (k + 1) n f)))] := hD
      refine lv_iload_n hx hb dJ5_append_3fe6f_39 rfl (lv_at hl 1 rfl) ?_
      refine lv_i2b (v := (Int8.toInt32 (Int32.toInt8 p0))) hx hb dJ5_append_3fe6f_40 rfl ?_
      refine va_bast hx hb hK hP hD hS 1 3 rfl rfl (nI_in (show k < sbN (k + 1) n from (sbN_ok hn hk).2.1) (by have := sbN_ok hn hk; omega)) dJ5_append_3fe6f_41 (fun H locs hP hD hS => ?_)
      replace hP : va_P G.1 vwCl [(b0, .inr (1, [.ref v1_, .int 0, .int ml, .int (nI (k + 1))])), (v1_, .inl (G.2.1.2.2.2, (sbN (k + 1) n), .inl (upd (sbF (k + 1) n f) (Int32.toNatClampNeg (nI k)) (vp_nar .byte (Int8.toInt32 (Int32.toInt8 p0))))))] H := hP
      replace hD : va_D A [(b0, .inr (1, [.ref v1_, .int 0, .int ml, .int (nI (k + 1))])), (v1_, .inl (G.2.1.2.2.2, (sbN (k + 1) n), .inl (upd (sbF (k + 1) n f) (Int32.toNatClampNeg (nI k)) (vp_nar .byte (Int8.toInt32 (Int32.toInt8 p0))))))] := hD
      rw [nI_clamp (n := k) (by omega), bch hp] at hP hD
      replace hP : va_P G.1 vwCl [(b0, .inr (1, [.ref v1_, .int 0, .int ml, .int (nI (k + 1))])), (v1_, .inl (G.2.1.2.2.2, (sbN (k + 1) n), .inl (upd (sbF (k + 1) n f) k p0)))] H := hP
      replace hD : va_D A [(b0, .inr (1, [.ref v1_, .int 0, .int ml, .int (nI (k + 1))])), (v1_, .inl (G.2.1.2.2.2, (sbN (k + 1) n), .inl (upd (sbF (k + 1) n f) k p0)))] := hD
      refine lv_goto (tgt := 75) hx hb dJ5_append_3fe6f_42 (by decide) ?_
      refine lv_aload_n hx hb dJ5_append_3fe6f_75 rfl (lv_at hl 0 rfl) ?_
      refine gyOf (r1 := some (.ref b0)) (u1 := [(b0, .inr (1, [.ref v1_, .int 0, .int ml, .int (nI (k + 1))])), (v1_, .inl (G.2.1.2.2.2, (sbN (k + 1) n), .inl (upd (sbF (k + 1) n f) k p0)))]) v1_ rfl rfl ?_
      exact gRetA F hr (Or.inl ⟨_, rfl⟩) hlocks hK hP hD hS rfl rfl (Nat.le_of_ble_eq_true rfl) (Nat.le_of_ble_eq_true rfl) dJ5_append_3fe6f_76
theorem k_sm_J5_append_3fe6f : Cond.sameMethod yJ5_append_3fe6f.cls yJ5_append_3fe6f.cls yJ5_append_3fe6f.name yJ5_append_3fe6f.desc ∈ gT := gT_t9 (i := 21) (by decide +kernel) (by decide +kernel)
theorem okSU_J5_append_3fe6f : gOkSU RJ4 yJ5_append_3fe6f cJ5_append_3fe6f 2 (some (.object "java/lang/AbstractStringBuilder")) 1 := ⟨⟨k_sm_J5_append_3fe6f, k_su_J4, k_im_J5_append_3fe6f, k_in_J5, k_cd_J5_append_3fe6f⟩, by decide, by decide +kernel⟩
set_option maxRecDepth 100000 in
set_option maxHeartbeats 4000000 in
theorem c_J4_append_cf468 (l : Launch) (hfl : l.stackTraces = false) (G : gG) (b0 : Nat) (v0 : Nat) (ml : Int32) (k : Nat) (n : Nat) (f : Nat → Int32) (p0 : Int32) (hn : n = 16 ∨ n = 34) (hk : k + 1 ≤ 34) (hF : FB f) (hp : p0 = 32 ∨ p0 = 46) : gY l G yJ4_append_cf468 cJ4_append_cf468 2 (some (.object "java/lang/StringBuilder")) { frames := 5, cells := 1, slots := 34, locals := 145 } [.ref b0, .int p0] [(b0, .inr (1, [.ref v0, .int 0, .int ml, .int (nI k)])), (v0, .inl (G.2.1.2.2.2, n, .inl f))] (fun vv => (some (.ref b0))) (fun vv => [(b0, .inr (1, [.ref vv, .int 0, .int ml, .int (nI (k + 1))])), (vv, .inl (G.2.1.2.2.2, (sbN (k + 1) n), .inl (upd (sbF (k + 1) n f) k p0)))]) 1 34 := by
  refine gyBegin (by decide +kernel) (Nat.le_of_ble_eq_true rfl) (fun p e s m args below meth c A F hr hlocks hname hN hSt hK hP hD hA hS ls hl => ?_)
  obtain ⟨hx, hb, hml, hown, hts⟩ := id F
  replace hP : va_P G.1 vwCl [(b0, .inr (1, [.ref v0, .int 0, .int ml, .int (nI k)])), (v0, .inl (G.2.1.2.2.2, n, .inl f))] s.heap := hP
  replace hl : lv_has ls 2 [(0, .ref b0), (1, .int p0)] := hl
  refine lv_aload_n hx hb dJ4_append_cf468_0 rfl (lv_at hl 0 rfl) ?_
  refine lv_iload_n hx hb dJ4_append_cf468_1 rfl (lv_at hl 1 rfl) ?_
  refine gySU (As := [.int p0]) (rest := []) (wr := []) (ws' := fun v1_ => [(b0, .inr (1, [.ref v1_, .int 0, .int ml, .int (nI (k + 1))])), (v1_, .inl (G.2.1.2.2.2, (sbN (k + 1) n), .inl (upd (sbF (k + 1) n f) k p0)))]) F (c_J5_append_3fe6f l hfl G b0 v0 ml k n f p0 hn hk hF hp) okSU_J5_append_3fe6f k_ml_J4_50 rfl rfl ⟨Nat.le_of_ble_eq_true rfl, Nat.le_of_ble_eq_true rfl⟩ hN hSt hK hP hD hS hA [0, 1] [] [0, 1] (by decide) rfl rfl (by decide) (by decide) (by decide) (fun _ => rfl) (q0 := 0) rfl rfl rfl rfl hl.1 (Nat.le_of_ble_eq_true rfl) dJ4_append_cf468_2 ⟨Nat.le_of_ble_eq_true rfl, Nat.le_of_ble_eq_true rfl⟩ (fun v1_ H locs hP hD hS => ?_)
  refine lv_pop hx hb dJ4_append_cf468_5 rfl ?_
  refine lv_aload_n hx hb dJ4_append_cf468_6 rfl (lv_at hl 0 rfl) ?_
  refine gyOf (r1 := some (.ref b0)) (u1 := [(b0, .inr (1, [.ref v1_, .int 0, .int ml, .int (nI (k + 1))])), (v1_, .inl (G.2.1.2.2.2, (sbN (k + 1) n), .inl (upd (sbF (k + 1) n f) k p0)))]) v1_ rfl rfl ?_
  exact gRetA F hr (Or.inl ⟨_, rfl⟩) hlocks hK hP hD hS rfl rfl (Nat.le_of_ble_eq_true rfl) (Nat.le_of_ble_eq_true rfl) dJ4_append_cf468_7
theorem okV_J4_append_cf468 : gOkV yJ4_append_cf468 cJ4_append_cf468 2 (some (.object "java/lang/StringBuilder")) 1 := ⟨⟨k_im_J4_append_cf468, k_se_J4_append_cf468, k_in_J4, k_cd_J4_append_cf468⟩, by decide, by decide, by decide +kernel⟩
set_option maxRecDepth 100000 in
set_option maxHeartbeats 4000000 in
theorem c_J5_inflateIfNeededFor_a7421 (l : Launch) (hfl : l.stackTraces = false) (G : gG) (b0 : Nat) (v0 : Nat) (ml : Int32) (cnt : Int32) (i0 : Nat) (hi0 : i0 < 21) : gY l G yJ5_inflateIfNeededFor_a7421 cJ5_inflateIfNeededFor_a7421 2 none { frames := 1, cells := 0, slots := 0, locals := 20 } [.ref b0, .ref (gK G i0)] [(b0, .inr (1, [.ref v0, .int 0, .int ml, .int cnt]))] (fun vv => none) (fun vv => [(b0, .inr (1, [.ref v0, .int 0, .int ml, .int cnt]))]) 0 0 := by
  refine gyBegin (by decide +kernel) (Nat.le_of_ble_eq_true rfl) (fun p e s m args below meth c A F hr hlocks hname hN hSt hK hP hD hA hS ls hl => ?_)
  obtain ⟨hx, hb, hml, hown, hts⟩ := id F
  replace hP : va_P G.1 vwCl [(b0, .inr (1, [.ref v0, .int 0, .int ml, .int cnt]))] s.heap := hP
  replace hl : lv_has ls 2 [(0, .ref b0), (1, .ref (gK G i0))] := hl
  refine va_gets (v := .int 1) hx hb hSt.2.2.2.1 hS hown (hts _ k_fl_J5_18) (fun _ h9 => h9) dJ5_inflateIfNeededFor_a7421_0 ?_
  refine lv_if_eq (tgt := 21) hx hb dJ5_inflateIfNeededFor_a7421_3 (by decide) (fun c_1 => ?_) (fun c_1 => ?_)
  · exact absurd c_1 (by decide)
  · skip
    refine lv_aload_n hx hb dJ5_inflateIfNeededFor_a7421_6 rfl (lv_at hl 0 rfl) ?_
    refine va_get (D := G.1) (ci := 1) (v := .int 0) (C := RJ4) (T := TJ4) (N := 4) hx hb hts in_J4 hown hK hP 0 rfl rfl 1 (by decide) (hts _ k_fl_J5_22) (fun _ h9 => h9) rfl dJ5_inflateIfNeededFor_a7421_7 ?_
    refine lv_aload_n hx hb dJ5_inflateIfNeededFor_a7421_10 rfl (lv_at hl 1 rfl) ?_
    refine gxVR (As := []) (rest := [.int 0]) (wr := [(b0, .inr (1, [.ref v0, .int 0, .int ml, .int cnt]))]) (ws' := [(b0, .inr (1, [.ref v0, .int 0, .int ml, .int cnt]))]) F (c_J0_coder_7d493 l hfl G i0 hi0) okV_J0_coder_7d493 k_ml_J5_40 rfl rfl ⟨Nat.le_of_ble_eq_true rfl, Nat.le_of_ble_eq_true rfl⟩ hN hSt hK hP hD hS hA [] [0] [0] (by decide) rfl rfl (by decide) (by decide) (by decide) rfl rfl (gRecvS (i := i0) hSt hS hi0) rfl rfl hl.1 (Nat.le_of_ble_eq_true rfl) dJ5_inflateIfNeededFor_a7421_11 ⟨Nat.le_of_ble_eq_true rfl, Nat.le_of_ble_eq_true rfl⟩ (fun _ H locs hP hD hS => ?_) (fun E9 ce9 q9 H locs x9 hP hD hS h91 h92 h93 => (Option.some_ne_none _ x9.symm).elim)
    refine W.eq (congrArg (fun z => F0 m _ ls (.int z :: _)) (rfl : (f_J0_coder_7d493 : Int32) = 0)) ?_
    refine lv_icmp_eq (tgt := 21) hx hb dJ5_inflateIfNeededFor_a7421_14 (by decide) (fun c_3 => ?_) (fun c_3 => ?_)
    · skip
      refine gyOf (r1 := none) (u1 := [(b0, .inr (1, [.ref v0, .int 0, .int ml, .int cnt]))]) 0 rfl rfl ?_
      exact gRetV F hr hlocks hK hP hD hS rfl rfl (Nat.le_of_ble_eq_true rfl) (Nat.le_of_ble_eq_true rfl) dJ5_inflateIfNeededFor_a7421_21
    · exact absurd c_3 (by decide)
theorem k_sm_J5_inflateIfNeededFor_a7421 : Cond.sameMethod yJ5_inflateIfNeededFor_a7421.cls yJ5_inflateIfNeededFor_a7421.cls yJ5_inflateIfNeededFor_a7421.name yJ5_inflateIfNeededFor_a7421.desc ∈ gT := gT_t9 (i := 18) (by decide +kernel) (by decide +kernel)
theorem okP_J5_inflateIfNeededFor_a7421 : gOkP yJ5_inflateIfNeededFor_a7421 cJ5_inflateIfNeededFor_a7421 2 none 1 := ⟨⟨k_sm_J5_inflateIfNeededFor_a7421, (by decide +kernel), k_im_J5_inflateIfNeededFor_a7421, k_in_J5, k_cd_J5_inflateIfNeededFor_a7421⟩, by decide, by decide, by decide +kernel⟩
set_option maxRecDepth 100000 in
set_option maxHeartbeats 4000000 in
theorem c_J0_getBytes_840e7 (l : Launch) (hfl : l.stackTraces = false) (G : gG) (i0 : Nat) (v0 : Nat) (k : Nat) (n : Nat) (f : Nat → Int32) (hi0 : i0 < 21) (hk : k + gLn i0 ≤ n) (hn : n < 1073741824) : gX l G yJ0_getBytes_840e7 cJ0_getBytes_840e7 4 none { frames := 1, cells := 0, slots := 0, locals := 80 } [.ref (gK G i0), .ref v0, .int (nI k), .int 0] [(v0, .inl (G.2.1.2.2.2, n, .inl f))] none none [(v0, .inl (G.2.1.2.2.2, n, .inl (va_cpy (gBy i0) f 0 k (gLn i0))))] 0 0 := by
  refine gxBegin (by decide +kernel) (Nat.le_of_ble_eq_true rfl) (fun p e s m args below meth c A F hr hlocks htab hN hSt hK hP hD hA hS ls hl => ?_)
  obtain ⟨hx, hb, hml, hown, hts⟩ := id F
  replace hP : va_P G.1 vwCl [(v0, .inl (G.2.1.2.2.2, n, .inl f))] s.heap := hP
  replace hl : lv_has ls 4 [(0, .ref (gK G i0)), (1, .ref v0), (2, .int (nI k)), (3, .int 0)] := hl
  refine lv_aload_n hx hb dJ0_getBytes_840e7_0 rfl (lv_at hl 0 rfl) ?_
  refine gxVR (As := []) (rest := []) (wr := [(v0, .inl (G.2.1.2.2.2, n, .inl f))]) (ws' := [(v0, .inl (G.2.1.2.2.2, n, .inl f))]) F (c_J0_coder_7d493 l hfl G i0 hi0) okV_J0_coder_7d493 k_ml_J0_335 rfl rfl ⟨Nat.le_of_ble_eq_true rfl, Nat.le_of_ble_eq_true rfl⟩ hN hSt hK hP hD hS hA [] [0] [0] (by decide) rfl rfl (by decide) (by decide) (by decide) rfl rfl (gRecvS (i := i0) hSt hS hi0) rfl rfl hl.1 (Nat.le_of_ble_eq_true rfl) dJ0_getBytes_840e7_1 ⟨Nat.le_of_ble_eq_true rfl, Nat.le_of_ble_eq_true rfl⟩ (fun _ H locs hP hD hS => ?_) (fun E9 ce9 q9 H locs x9 hP hD hS h91 h92 h93 => (Option.some_ne_none _ x9.symm).elim)
  refine W.eq (congrArg (fun z => F0 m _ ls (.int z :: _)) (rfl : (f_J0_coder_7d493 : Int32) = 0)) ?_
  refine lv_iload_n hx hb dJ0_getBytes_840e7_4 rfl (lv_at hl 3 rfl) ?_
  refine lv_icmp_ne (tgt := 28) hx hb dJ0_getBytes_840e7_5 (by decide) (fun c_2 => ?_) (fun c_2 => ?_)
  · exact absurd c_2 (by decide)
  · skip
    refine lv_aload_n hx hb dJ0_getBytes_840e7_8 rfl (lv_at hl 0 rfl) ?_
    refine vk_getf (v := .ref (gVa G i0)) hx hb (hSt.2.2.1 i0 hi0).2.2.1 hS hown (hts _ k_fl_J0_9) (fun _ h9 => h9) dJ0_getBytes_840e7_9 ?_
    refine lv_iconst (v := 0) hx hb dJ0_getBytes_840e7_12 (by decide) ?_
    refine lv_aload_n hx hb dJ0_getBytes_840e7_13 rfl (lv_at hl 1 rfl) ?_
    refine lv_iload_n hx hb dJ0_getBytes_840e7_14 rfl (lv_at hl 2 rfl) ?_
    refine lv_iload_n hx hb dJ0_getBytes_840e7_15 rfl (lv_at hl 3 rfl) ?_
    refine lv_ishl hx hb dJ0_getBytes_840e7_16 ?_
    refine W.eq (congrArg (fun z => F0 m _ ls (.int z :: _)) (gshl0 _ : ((((nI k) <<< ((0 : Int32) &&& 31)) : Int32) : Int32) = (nI k))) ?_
    refine lv_aload_n hx hb dJ0_getBytes_840e7_17 rfl (lv_at hl 0 rfl) ?_
    refine vk_getf (v := .ref (gVa G i0)) hx hb (hSt.2.2.1 i0 hi0).2.2.1 hS hown (hts _ k_fl_J0_9) (fun _ h9 => h9) dJ0_getBytes_840e7_18 ?_
    refine va_tlen (v := (nI (gLn i0))) hx hb (hSt.2.2.1 i0 hi0).2.2.2 hS rfl dJ0_getBytes_840e7_21 ?_
    refine vk_copyt (f := gBy i0) hx hb (hml.trans hl.1.symm) hown (hts _ k_ml_J0_212) (hts _ k_na_ac) (hts _ k_st_ac) (hts _ k_in_J10) hK hP hD hS (hSt.2.2.1 i0 hi0).2.2.2 0 3 rfl rfl (by decide) (nI_pos (by omega)) (nI_pos (by omega)) (by rw [nI_clamp (by omega)]; exact Nat.le_of_eq (Nat.zero_add _)) (by rw [nI_clamp (by omega), nI_clamp (by omega)]; exact hk) (fun i hi => by rw [nI_clamp (by omega)] at hi; exact gBy_fit i0 hi0 _ (Nat.lt_of_lt_of_le (by rw [show (0 : Int32).toNatClampNeg = 0 from rfl]; omega) (gLn_le i0 hi0))) (Nat.le_of_ble_eq_true rfl) (by decide +kernel) dJ0_getBytes_840e7_22 (fun H locs hP hD hS => ?_)
    rw [nI_clamp (n := gLn i0) (by omega), nI_clamp (n := k) (by omega)] at hP hD
    replace hP : va_P G.1 vwCl [(v0, .inl (G.2.1.2.2.2, n, .inl (va_cpy (gBy i0) f 0 k (gLn i0))))] H := hP
    replace hD : va_D A [(v0, .inl (G.2.1.2.2.2, n, .inl (va_cpy (gBy i0) f 0 k (gLn i0))))] := hD
    refine lv_goto (tgt := 43) hx hb dJ0_getBytes_840e7_25 (by decide) ?_
    refine gxOf (rfl) ?_
    exact gRetV F hr hlocks hK hP hD hS rfl rfl (Nat.le_of_ble_eq_true rfl) (Nat.le_of_ble_eq_true rfl) dJ0_getBytes_840e7_43
theorem okV_J0_getBytes_840e7 : gOkV yJ0_getBytes_840e7 cJ0_getBytes_840e7 4 none 3 := ⟨⟨k_im_J0_getBytes_840e7, k_se_J0_getBytes_840e7, k_in_J0, k_cd_J0_getBytes_840e7⟩, by decide, by decide, by decide +kernel⟩
set_option maxRecDepth 100000 in
set_option maxHeartbeats 4000000 in
theorem c_J5_putStringAt_47b60 (l : Launch) (hfl : l.stackTraces = false) (G : gG) (b0 : Nat) (v0 : Nat) (ml : Int32) (cnt : Int32) (k : Nat) (n : Nat) (f : Nat → Int32) (i0 : Nat) (hi0 : i0 < 21) (hk : k + gLn i0 ≤ n) (hn : n < 1073741824) : gY l G yJ5_putStringAt_47b60 cJ5_putStringAt_47b60 3 none { frames := 2, cells := 0, slots := 0, locals := 103 } [.ref b0, .int (nI k), .ref (gK G i0)] [(b0, .inr (1, [.ref v0, .int 0, .int ml, .int cnt])), (v0, .inl (G.2.1.2.2.2, n, .inl f))] (fun vv => none) (fun vv => [(b0, .inr (1, [.ref v0, .int 0, .int ml, .int cnt])), (v0, .inl (G.2.1.2.2.2, n, .inl (va_cpy (gBy i0) f 0 k (gLn i0))))]) 0 0 := by
  refine gyBegin (by decide +kernel) (Nat.le_of_ble_eq_true rfl) (fun p e s m args below meth c A F hr hlocks hname hN hSt hK hP hD hA hS ls hl => ?_)
  obtain ⟨hx, hb, hml, hown, hts⟩ := id F
  replace hP : va_P G.1 vwCl [(b0, .inr (1, [.ref v0, .int 0, .int ml, .int cnt])), (v0, .inl (G.2.1.2.2.2, n, .inl f))] s.heap := hP
  replace hl : lv_has ls 3 [(0, .ref b0), (1, .int (nI k)), (2, .ref (gK G i0))] := hl
  refine lv_aload_n hx hb dJ5_putStringAt_47b60_0 rfl (lv_at hl 0 rfl) ?_
  refine lv_aload_n hx hb dJ5_putStringAt_47b60_1 rfl (lv_at hl 2 rfl) ?_
  refine gyP (As := [.ref (gK G i0)]) (rest := []) (wr := [(v0, .inl (G.2.1.2.2.2, n, .inl f))]) (ws' := fun v1_ => [(b0, .inr (1, [.ref v0, .int 0, .int ml, .int cnt])), (v0, .inl (G.2.1.2.2.2, n, .inl f))]) F (c_J5_inflateIfNeededFor_a7421 l hfl G b0 v0 ml cnt i0 hi0) okP_J5_inflateIfNeededFor_a7421 k_ml_J5_397 rfl rfl ⟨Nat.le_of_ble_eq_true rfl, Nat.le_of_ble_eq_true rfl⟩ hN hSt hK hP hD hS hA [0] [1] [1, 0] (by decide) rfl rfl (by decide) (by decide) (by decide) (fun _ => rfl) (q0 := 0) rfl rfl rfl rfl hl.1 (Nat.le_of_ble_eq_true rfl) dJ5_putStringAt_47b60_2 ⟨Nat.le_of_ble_eq_true rfl, Nat.le_of_ble_eq_true rfl⟩ (fun v1_ H locs hP hD hS => ?_)
  refine lv_aload_n hx hb dJ5_putStringAt_47b60_5 rfl (lv_at hl 2 rfl) ?_
  refine lv_aload_n hx hb dJ5_putStringAt_47b60_6 rfl (lv_at hl 0 rfl) ?_
  refine va_get (D := G.1) (ci := 1) (v := .ref v0) (C := RJ4) (T := TJ4) (N := 4) hx hb hts in_J4 hown hK hP 0 rfl rfl 0 (by decide) (hts _ k_fl_J5_15) (fun _ h9 => h9) rfl dJ5_putStringAt_47b60_7 ?_
  refine lv_iload_n hx hb dJ5_putStringAt_47b60_10 rfl (lv_at hl 1 rfl) ?_
  refine lv_aload_n hx hb dJ5_putStringAt_47b60_11 rfl (lv_at hl 0 rfl) ?_
  refine va_get (D := G.1) (ci := 1) (v := .int 0) (C := RJ4) (T := TJ4) (N := 4) hx hb hts in_J4 hown hK hP 0 rfl rfl 1 (by decide) (hts _ k_fl_J5_22) (fun _ h9 => h9) rfl dJ5_putStringAt_47b60_12 ?_
  refine gxVR (As := [.ref v0, .int (nI k), .int 0]) (rest := []) (wr := [(b0, .inr (1, [.ref v0, .int 0, .int ml, .int cnt]))]) (ws' := [(b0, .inr (1, [.ref v0, .int 0, .int ml, .int cnt])), (v0, .inl (G.2.1.2.2.2, n, .inl (va_cpy (gBy i0) f 0 k (gLn i0))))]) F (c_J0_getBytes_840e7 l hfl G i0 v0 k n f hi0 hk hn) okV_J0_getBytes_840e7 k_ml_J5_399 rfl rfl ⟨Nat.le_of_ble_eq_true rfl, Nat.le_of_ble_eq_true rfl⟩ hN hSt hK hP hD hS hA [1] [0] [0, 1] (by decide) rfl rfl (by decide) (by decide) (by decide) rfl rfl (gRecvS (i := i0) hSt hS hi0) rfl rfl hl.1 (Nat.le_of_ble_eq_true rfl) dJ5_putStringAt_47b60_15 ⟨Nat.le_of_ble_eq_true rfl, Nat.le_of_ble_eq_true rfl⟩ (fun _ H locs hP hD hS => ?_) (fun E9 ce9 q9 H locs x9 hP hD hS h91 h92 h93 => (Option.some_ne_none _ x9.symm).elim)
  refine gyOf (r1 := none) (u1 := [(b0, .inr (1, [.ref v0, .int 0, .int ml, .int cnt])), (v0, .inl (G.2.1.2.2.2, n, .inl (va_cpy (gBy i0) f 0 k (gLn i0))))]) 0 rfl rfl ?_
  exact gRetV F hr hlocks hK hP hD hS rfl rfl (Nat.le_of_ble_eq_true rfl) (Nat.le_of_ble_eq_true rfl) dJ5_putStringAt_47b60_18
theorem k_sm_J5_putStringAt_47b60 : Cond.sameMethod yJ5_putStringAt_47b60.cls yJ5_putStringAt_47b60.cls yJ5_putStringAt_47b60.name yJ5_putStringAt_47b60.desc ∈ gT := gT_t9 (i := 17) (by decide +kernel) (by decide +kernel)
theorem okP_J5_putStringAt_47b60 : gOkP yJ5_putStringAt_47b60 cJ5_putStringAt_47b60 3 none 2 := ⟨⟨k_sm_J5_putStringAt_47b60, (by decide +kernel), k_im_J5_putStringAt_47b60, k_in_J5, k_cd_J5_putStringAt_47b60⟩, by decide, by decide, by decide +kernel⟩
set_option maxRecDepth 100000 in
set_option maxHeartbeats 4000000 in
theorem c_J5_append_cf1ce (l : Launch) (hfl : l.stackTraces = false) (G : gG) (b0 : Nat) (v0 : Nat) (ml : Int32) (k : Nat) (n : Nat) (f : Nat → Int32) (i0 : Nat) (hn : n = 16 ∨ n = 34) (hk : k + gLn i0 ≤ 34) (hF : FB f) (hi0 : i0 < 21) : gY l G yJ5_append_cf1ce cJ5_append_cf1ce 3 (some (.object "java/lang/AbstractStringBuilder")) { frames := 4, cells := 1, slots := 34, locals := 125 } [.ref b0, .ref (gK G i0)] [(b0, .inr (1, [.ref v0, .int 0, .int ml, .int (nI k)])), (v0, .inl (G.2.1.2.2.2, n, .inl f))] (fun vv => (some (.ref b0))) (fun vv => [(b0, .inr (1, [.ref vv, .int 0, .int ml, .int (nI (k + gLn i0))])), (vv, .inl (G.2.1.2.2.2, (sbN (k + gLn i0) n), .inl (va_cpy (gBy i0) (sbF (k + gLn i0) n f) 0 k (gLn i0))))]) 1 34 := by
  refine gyBegin (by decide +kernel) (Nat.le_of_ble_eq_true rfl) (fun p e s m args below meth c A F hr hlocks hname hN hSt hK hP hD hA hS ls hl => ?_)
  obtain ⟨hx, hb, hml, hown, hts⟩ := id F
  replace hP : va_P G.1 vwCl [(b0, .inr (1, [.ref v0, .int 0, .int ml, .int (nI k)])), (v0, .inl (G.2.1.2.2.2, n, .inl f))] s.heap := hP
  replace hl : lv_has ls 3 [(0, .ref b0), (1, .ref (gK G i0))] := hl
  refine lv_aload_n hx hb dJ5_append_cf1ce_0 rfl (lv_at hl 1 rfl) ?_
  refine lv_ifnonnull (tgt := 9) hx hb dJ5_append_cf1ce_1 (by decide) ?_
  refine lv_aload_n hx hb dJ5_append_cf1ce_9 rfl (lv_at hl 1 rfl) ?_
  refine gxVR (As := []) (rest := []) (wr := [(b0, .inr (1, [.ref v0, .int 0, .int ml, .int (nI k)])), (v0, .inl (G.2.1.2.2.2, n, .inl f))]) (ws' := [(b0, .inr (1, [.ref v0, .int 0, .int ml, .int (nI k)])), (v0, .inl (G.2.1.2.2.2, n, .inl f))]) F (c_J0_length_8abf5 l hfl G i0 hi0) okV_J0_length_8abf5 k_ml_J5_32 rfl rfl ⟨Nat.le_of_ble_eq_true rfl, Nat.le_of_ble_eq_true rfl⟩ hN hSt hK hP hD hS hA [] [0, 1] [0, 1] (by decide) rfl rfl (by decide) (by decide) (by decide) rfl rfl (gRecvS (i := i0) hSt hS hi0) rfl rfl hl.1 (Nat.le_of_ble_eq_true rfl) dJ5_append_cf1ce_10 ⟨Nat.le_of_ble_eq_true rfl, Nat.le_of_ble_eq_true rfl⟩ (fun _ H locs hP hD hS => ?_) (fun E9 ce9 q9 H locs x9 hP hD hS h91 h92 h93 => (Option.some_ne_none _ x9.symm).elim)
  refine W.eq (congrArg (fun z => F0 m _ ls (.int z :: _)) (rfl : ((f_J0_length_8abf5 i0) : Int32) = (nI (gLn i0)))) ?_
  refine lv_istore_n (lv' := [(2, .int (nI (gLn i0))), (0, .ref b0), (1, .ref (gK G i0))]) hx hb dJ5_append_cf1ce_13 rfl hl (by decide) rfl (fun ls hl => ?_)
  refine lv_aload_n hx hb dJ5_append_cf1ce_14 rfl (lv_at hl 1 rfl) ?_
  refine lv_aload_n hx hb dJ5_append_cf1ce_15 rfl (lv_at hl 1 rfl) ?_
  refine va_get (D := G.1) (ci := 1) (v := .int (nI k)) (C := RJ4) (T := TJ4) (N := 4) hx hb hts in_J4 hown hK hP 0 rfl rfl 3 (by decide) (hts _ k_fl_J5_79) (fun _ h9 => h9) rfl dJ5_append_cf1ce_16 ?_
  refine lv_iload_n hx hb dJ5_append_cf1ce_19 rfl (lv_at hl 0 rfl) ?_
  refine lv_iadd hx hb dJ5_append_cf1ce_20 ?_
  refine W.eq (congrArg (fun z => F0 m _ ls (.int z :: _)) (nI_add _ _ : (((nI k) + (nI (gLn i0))) : Int32) = (nI (k + gLn i0)))) ?_
  refine gyP (As := [.int (nI (k + gLn i0))]) (rest := []) (wr := []) (ws' := fun v2_ => [(b0, .inr (1, [.ref v2_, .int 0, .int ml, .int (nI k)])), (v2_, .inl (G.2.1.2.2.2, (sbN (k + gLn i0) n), .inl (sbF (k + gLn i0) n f)))]) F (c_ens l hfl G b0 v0 ml (nI k) f (k + gLn i0) n hn hk hF) okP_J5_ensureCapacityInternal_d00df k_ml_J5_100 rfl rfl ⟨Nat.le_of_ble_eq_true rfl, Nat.le_of_ble_eq_true rfl⟩ hN hSt hK hP hD hS hA [0, 1] [] [0, 1] (by decide) rfl rfl (by decide) (by decide) (by decide) (fun _ => rfl) (q0 := 0) rfl rfl rfl rfl hl.1 (Nat.le_of_ble_eq_true rfl) dJ5_append_cf1ce_21 ⟨Nat.le_of_ble_eq_true rfl, Nat.le_of_ble_eq_true rfl⟩ (fun v2_ H locs hP hD hS => ?_)
  refine lv_aload_n hx hb dJ5_append_cf1ce_24 rfl (lv_at hl 1 rfl) ?_
  refine lv_aload_n hx hb dJ5_append_cf1ce_25 rfl (lv_at hl 1 rfl) ?_
  refine va_get (D := G.1) (ci := 1) (v := .int (nI k)) (C := RJ4) (T := TJ4) (N := 4) hx hb hts in_J4 hown hK hP 0 rfl rfl 3 (by decide) (hts _ k_fl_J5_79) (fun _ h9 => h9) rfl dJ5_append_cf1ce_26 ?_
  refine lv_aload_n hx hb dJ5_append_cf1ce_29 rfl (lv_at hl 2 rfl) ?_
  refine gyP (As := [.int (nI k), .ref (gK G i0)]) (rest := []) (wr := []) (ws' := fun v3_ => [(b0, .inr (1, [.ref v2_, .int 0, .int ml, .int (nI k)])), (v2_, .inl (G.2.1.2.2.2, (sbN (k + gLn i0) n), .inl (va_cpy (gBy i0) (sbF (k + gLn i0) n f) 0 k (gLn i0))))]) F (c_J5_putStringAt_47b60 l hfl G b0 v2_ ml (nI k) k (sbN (k + gLn i0) n) (sbF (k + gLn i0) n f) i0 hi0 (sbN_ok hn hk).2.1 (by have := sbN_ok hn hk; omega)) okP_J5_putStringAt_47b60 k_ml_J5_208 rfl rfl ⟨Nat.le_of_ble_eq_true rfl, Nat.le_of_ble_eq_true rfl⟩ hN hSt hK hP hD hS hA [0, 1] [] [0, 1] (by decide) rfl rfl (by decide) (by decide) (by decide) (fun _ => rfl) (q0 := 0) rfl rfl rfl rfl hl.1 (Nat.le_of_ble_eq_true rfl) dJ5_append_cf1ce_30 ⟨Nat.le_of_ble_eq_true rfl, Nat.le_of_ble_eq_true rfl⟩ (fun v3_ H locs hP hD hS => ?_)
  refine lv_aload_n hx hb dJ5_append_cf1ce_33 rfl (lv_at hl 1 rfl) ?_
  refine lv_dup hx hb dJ5_append_cf1ce_34 rfl ?_
  refine va_get (D := G.1) (ci := 1) (v := .int (nI k)) (C := RJ4) (T := TJ4) (N := 4) hx hb hts in_J4 hown hK hP 0 rfl rfl 3 (by decide) (hts _ k_fl_J5_79) (fun _ h9 => h9) rfl dJ5_append_cf1ce_35 ?_
  refine lv_iload_n hx hb dJ5_append_cf1ce_38 rfl (lv_at hl 0 rfl) ?_
  refine lv_iadd hx hb dJ5_append_cf1ce_39 ?_
  refine W.eq (congrArg (fun z => F0 m _ ls (.int z :: _)) (nI_add _ _ : (((nI k) + (nI (gLn i0))) : Int32) = (nI (k + gLn i0)))) ?_
  refine va_put (D := G.1) (ci := 1) (v := .int (nI (k + gLn i0))) (ty := .int) (C := RJ4) (T := TJ4) (N := 4) hx hb hts in_J4 tyJ4 tyJ4_ok nmJ4 hown hK hP hD hS 0 rfl rfl 3 (by decide) (hts _ k_fl_J5_79) (fun _ h9 => h9) rfl (by decide +kernel) rfl rfl (Nat.le_of_ble_eq_true rfl) dJ5_append_cf1ce_40 (fun H locs hP hD hS => ?_)
  replace hP : va_P G.1 vwCl [(b0, .inr (1, [.ref v2_, .int 0, .int ml, .int (nI (k + gLn i0))])), (v2_, .inl (G.2.1.2.2.2, (sbN (k + gLn i0) n), .inl (va_cpy (gBy i0) (sbF (k + gLn i0) n f) 0 k (gLn i0))))] H := hP
  replace hD : va_D A [(b0, .inr (1, [.ref v2_, .int 0, .int ml, .int (nI (k + gLn i0))])), (v2_, .inl (G.2.1.2.2.2, (sbN (k + gLn i0) n), .inl (va_cpy (gBy i0) (sbF (k + gLn i0) n f) 0 k (gLn i0))))] := hD
  refine lv_aload_n hx hb dJ5_append_cf1ce_43 rfl (lv_at hl 1 rfl) ?_
  refine gyOf (r1 := some (.ref b0)) (u1 := [(b0, .inr (1, [.ref v2_, .int 0, .int ml, .int (nI (k + gLn i0))])), (v2_, .inl (G.2.1.2.2.2, (sbN (k + gLn i0) n), .inl (va_cpy (gBy i0) (sbF (k + gLn i0) n f) 0 k (gLn i0))))]) v2_ rfl rfl ?_
  exact gRetA F hr (Or.inl ⟨_, rfl⟩) hlocks hK hP hD hS rfl rfl (Nat.le_of_ble_eq_true rfl) (Nat.le_of_ble_eq_true rfl) dJ5_append_cf1ce_44
theorem k_sm_J5_append_cf1ce : Cond.sameMethod yJ5_append_cf1ce.cls yJ5_append_cf1ce.cls yJ5_append_cf1ce.name yJ5_append_cf1ce.desc ∈ gT := gT_t9 (i := 13) (by decide +kernel) (by decide +kernel)
theorem okSU_J5_append_cf1ce : gOkSU RJ4 yJ5_append_cf1ce cJ5_append_cf1ce 3 (some (.object "java/lang/AbstractStringBuilder")) 1 := ⟨⟨k_sm_J5_append_cf1ce, k_su_J4, k_im_J5_append_cf1ce, k_in_J5, k_cd_J5_append_cf1ce⟩, by decide, by decide +kernel⟩
set_option maxRecDepth 100000 in
set_option maxHeartbeats 4000000 in
theorem c_J4_append_15ec4 (l : Launch) (hfl : l.stackTraces = false) (G : gG) (b0 : Nat) (v0 : Nat) (ml : Int32) (k : Nat) (n : Nat) (f : Nat → Int32) (i0 : Nat) (hn : n = 16 ∨ n = 34) (hk : k + gLn i0 ≤ 34) (hF : FB f) (hi0 : i0 < 21) : gY l G yJ4_append_15ec4 cJ4_append_15ec4 2 (some (.object "java/lang/StringBuilder")) { frames := 5, cells := 1, slots := 34, locals := 147 } [.ref b0, .ref (gK G i0)] [(b0, .inr (1, [.ref v0, .int 0, .int ml, .int (nI k)])), (v0, .inl (G.2.1.2.2.2, n, .inl f))] (fun vv => (some (.ref b0))) (fun vv => [(b0, .inr (1, [.ref vv, .int 0, .int ml, .int (nI (k + gLn i0))])), (vv, .inl (G.2.1.2.2.2, (sbN (k + gLn i0) n), .inl (va_cpy (gBy i0) (sbF (k + gLn i0) n f) 0 k (gLn i0))))]) 1 34 := by
  refine gyBegin (by decide +kernel) (Nat.le_of_ble_eq_true rfl) (fun p e s m args below meth c A F hr hlocks hname hN hSt hK hP hD hA hS ls hl => ?_)
  obtain ⟨hx, hb, hml, hown, hts⟩ := id F
  replace hP : va_P G.1 vwCl [(b0, .inr (1, [.ref v0, .int 0, .int ml, .int (nI k)])), (v0, .inl (G.2.1.2.2.2, n, .inl f))] s.heap := hP
  replace hl : lv_has ls 2 [(0, .ref b0), (1, .ref (gK G i0))] := hl
  refine lv_aload_n hx hb dJ4_append_15ec4_0 rfl (lv_at hl 0 rfl) ?_
  refine lv_aload_n hx hb dJ4_append_15ec4_1 rfl (lv_at hl 1 rfl) ?_
  refine gySU (As := [.ref (gK G i0)]) (rest := []) (wr := []) (ws' := fun v1_ => [(b0, .inr (1, [.ref v1_, .int 0, .int ml, .int (nI (k + gLn i0))])), (v1_, .inl (G.2.1.2.2.2, (sbN (k + gLn i0) n), .inl (va_cpy (gBy i0) (sbF (k + gLn i0) n f) 0 k (gLn i0))))]) F (c_J5_append_cf1ce l hfl G b0 v0 ml k n f i0 hn hk hF hi0) okSU_J5_append_cf1ce k_ml_J4_29 rfl rfl ⟨Nat.le_of_ble_eq_true rfl, Nat.le_of_ble_eq_true rfl⟩ hN hSt hK hP hD hS hA [0, 1] [] [0, 1] (by decide) rfl rfl (by decide) (by decide) (by decide) (fun _ => rfl) (q0 := 0) rfl rfl rfl rfl hl.1 (Nat.le_of_ble_eq_true rfl) dJ4_append_15ec4_2 ⟨Nat.le_of_ble_eq_true rfl, Nat.le_of_ble_eq_true rfl⟩ (fun v1_ H locs hP hD hS => ?_)
  refine lv_pop hx hb dJ4_append_15ec4_5 rfl ?_
  refine lv_aload_n hx hb dJ4_append_15ec4_6 rfl (lv_at hl 0 rfl) ?_
  refine gyOf (r1 := some (.ref b0)) (u1 := [(b0, .inr (1, [.ref v1_, .int 0, .int ml, .int (nI (k + gLn i0))])), (v1_, .inl (G.2.1.2.2.2, (sbN (k + gLn i0) n), .inl (va_cpy (gBy i0) (sbF (k + gLn i0) n f) 0 k (gLn i0))))]) v1_ rfl rfl ?_
  exact gRetA F hr (Or.inl ⟨_, rfl⟩) hlocks hK hP hD hS rfl rfl (Nat.le_of_ble_eq_true rfl) (Nat.le_of_ble_eq_true rfl) dJ4_append_15ec4_7
theorem okV_J4_append_15ec4 : gOkV yJ4_append_15ec4 cJ4_append_15ec4 2 (some (.object "java/lang/StringBuilder")) 1 := ⟨⟨k_im_J4_append_15ec4, k_se_J4_append_15ec4, k_in_J4, k_cd_J4_append_15ec4⟩, by decide, by decide, by decide +kernel⟩
