theorem neg_toInt {j : Nat} (h : j < 100) : (-(nI j)).toInt = -(j : Int) := by
  rw [Int32.toInt_neg, nI_toInt (by omega)]
  exact Int.bmod_eq_of_le (by omega) (by omega)
theorem ng_100 {j : Nat} (h : j < 100) : ¬ -(nI j) ≤ (10 * (-10) : Int32) := by
  rw [Int32.le_iff_toInt_le, neg_toInt h]
  have : ((10 * (-10) : Int32)).toInt = -100 := by decide
  omega
theorem ng_m100 {j : Nat} (h : j < 100) : (-100) < -(nI j) := by
  rw [gI_lt, neg_toInt h]
  have : ((-100 : Int32)).toInt = -100 := by decide
  omega
theorem ng_10 {j : Nat} (h : j < 100) : (-(nI j) ≤ (-10)) ↔ 10 ≤ j := by
  rw [Int32.le_iff_toInt_le, neg_toInt h]
  have : ((-10 : Int32)).toInt = -10 := by decide
  omega
theorem ng_9 {j : Nat} (h : j < 100) : ((-9) ≤ -(nI j)) ↔ j < 10 := by
  rw [Int32.le_iff_toInt_le, neg_toInt h]
  have : ((-9 : Int32)).toInt = -9 := by decide
  omega
theorem gDgv_b0 : ∀ i : Nat, i < 2 → ∀ j : Nat, j < 100 → vp_nar .byte (gDgv i j) = gDgv i j ∧ fits .byte (.int (gDgv i j)) = true := by decide +kernel
theorem gDgv_b {i j : Nat} (hi : i < 2) (hj : j < 100) : vp_nar .byte (gDgv i j) = gDgv i j := (gDgv_b0 i hi j hj).1
theorem gDgv_fit {i j : Nat} (hi : i < 2) (hj : j < 100) : fits .byte (.int (gDgv i j)) = true := (gDgv_b0 i hi j hj).2
theorem nI_m1 {w : Nat} (h : 1 ≤ w) : nI w + (-1) = nI (w - 1) := by
  have e : nI w = nI (w - 1) + 1 := by rw [nI_1, Nat.sub_add_cancel h]
  rw [e, Int32.add_assoc]
  have : (1 : Int32) + -1 = 0 := by decide
  rw [this, Int32.add_zero]
/-- what getChars does with a number below 100 -/
def sbC (j w : Nat) (f : Nat → Int32) : Nat → Int32 := if j < 10 then upd f (w - 1) (gDgv 0 j) else upd (upd f (w - 1) (gDgv 0 j)) (w - 2) (gDgv 1 j)
theorem FB.C {j w : Nat} {f : Nat → Int32} (hj : j < 100) (hf : FB f) : FB (sbC j w f) := by
  unfold sbC
  split
  · exact hf.upd (gDgv_fit (by omega) hj)
  · exact (hf.upd (gDgv_fit (by omega) hj)).upd (gDgv_fit (by omega) hj)
set_option maxRecDepth 100000 in
set_option maxHeartbeats 4000000 in
theorem c_J6_stringSize_0f7a4 (l : Launch) (G : gG) (j : Nat) (hj : j < 100) : gM l G yJ6_stringSize_0f7a4 cJ6_stringSize_0f7a4 4 (some .int) { frames := 0, cells := 0, slots := 0, locals := 0 } [.int (nI j)] [] (some (.int (nI (sbD j)))) [] 0 0 := by
  refine gBegin (by decide +kernel) (Nat.le_of_ble_eq_true rfl) (fun p e s m args below meth c A F hr hlocks hname hN hK hP hD hA hS ls hl => ?_)
  obtain ⟨hx, hb, hml, hown, hts⟩ := id F
  replace hP : va_P G.1 vwCl [] s.heap := hP
  replace hl : lv_has ls 4 [(0, .int (nI j))] := hl
  refine lv_iconst (v := 1) hx hb dJ6_stringSize_0f7a4_0 (by decide) ?_
  refine lv_istore_n (lv' := [(1, .int 1), (0, .int (nI j))]) hx hb dJ6_stringSize_0f7a4_1 rfl hl (by decide) rfl (fun ls hl => ?_)
  refine lv_iload_n hx hb dJ6_stringSize_0f7a4_2 rfl (lv_at hl 1 rfl) ?_
  refine lv_if_lt (tgt := 11) hx hb dJ6_stringSize_0f7a4_3 (by decide) (fun c_1 => ?_) (fun c_1 => ?_)
  · exact absurd c_1 (nI_pos (by omega))
  · skip
    refine lv_iconst (v := 0) hx hb dJ6_stringSize_0f7a4_6 (by decide) ?_
    refine lv_istore_n (lv' := [(1, .int 0), (0, .int (nI j))]) hx hb dJ6_stringSize_0f7a4_7 rfl hl (by decide) rfl (fun ls hl => ?_)
    refine lv_iload_n hx hb dJ6_stringSize_0f7a4_8 rfl (lv_at hl 1 rfl) ?_
    refine lv_ineg hx hb dJ6_stringSize_0f7a4_9 ?_
    refine lv_istore_n (lv' := [(0, .int (-(nI j))), (1, .int 0)]) hx hb dJ6_stringSize_0f7a4_10 rfl hl (by decide) rfl (fun ls hl => ?_)
    refine lv_bipush (v := (-10)) hx hb dJ6_stringSize_0f7a4_11 (by decide) ?_
    refine lv_istore_n (lv' := [(2, .int (-10)), (0, .int (-(nI j))), (1, .int 0)]) hx hb dJ6_stringSize_0f7a4_13 rfl hl (by decide) rfl (fun ls hl => ?_)
    refine lv_iconst (v := 1) hx hb dJ6_stringSize_0f7a4_14 (by decide) ?_
    refine lv_istore_n (lv' := [(3, .int 1), (2, .int (-10)), (0, .int (-(nI j))), (1, .int 0)]) hx hb dJ6_stringSize_0f7a4_15 rfl hl (by decide) rfl (fun ls hl => ?_)
    refine lv_iload_n hx hb dJ6_stringSize_0f7a4_16 rfl (lv_at hl 0 rfl) ?_
    refine lv_bipush (v := 10) hx hb dJ6_stringSize_0f7a4_17 (by decide) ?_
    refine lv_icmp_ge (tgt := 42) hx hb dJ6_stringSize_0f7a4_19 (by decide) (fun c_2 => ?_) (fun c_2 => ?_)
    · exact absurd c_2 (by decide)
    · skip
      refine lv_iload_n hx hb dJ6_stringSize_0f7a4_22 rfl (lv_at hl 2 rfl) ?_
      refine lv_iload_n hx hb dJ6_stringSize_0f7a4_23 rfl (lv_at hl 1 rfl) ?_
      refine lv_icmp_le (tgt := 31) hx hb dJ6_stringSize_0f7a4_24 (by decide) (fun c_3 => ?_) (fun c_3 => ?_)
      · skip
        refine lv_bipush (v := 10) hx hb dJ6_stringSize_0f7a4_31 (by decide) ?_
        refine lv_iload_n hx hb dJ6_stringSize_0f7a4_33 rfl (lv_at hl 1 rfl) ?_
        refine lv_imul hx hb dJ6_stringSize_0f7a4_34 ?_
        refine lv_istore_n (lv' := [(2, .int (10 * (-10))), (3, .int 1), (0, .int (-(nI j))), (1, .int 0)]) hx hb dJ6_stringSize_0f7a4_35 rfl hl (by decide) rfl (fun ls hl => ?_)
        refine lv_iinc (v := 2) (lv' := [(3, .int 2), (2, .int (10 * (-10))), (0, .int (-(nI j))), (1, .int 0)]) hx hb dJ6_stringSize_0f7a4_36 hl (k := 1) rfl rfl (by decide) rfl (fun ls hl => ?_)
        refine lv_goto (tgt := 16) hx hb dJ6_stringSize_0f7a4_39 (by decide) ?_
        refine lv_iload_n hx hb dJ6_stringSize_0f7a4_16 rfl (lv_at hl 0 rfl) ?_
        refine lv_bipush (v := 10) hx hb dJ6_stringSize_0f7a4_17 (by decide) ?_
        refine lv_icmp_ge (tgt := 42) hx hb dJ6_stringSize_0f7a4_19 (by decide) (fun c_4 => ?_) (fun c_4 => ?_)
        · exact absurd c_4 (by decide)
        · skip
          refine lv_iload_n hx hb dJ6_stringSize_0f7a4_22 rfl (lv_at hl 2 rfl) ?_
          refine lv_iload_n hx hb dJ6_stringSize_0f7a4_23 rfl (lv_at hl 1 rfl) ?_
          refine lv_icmp_le (tgt := 31) hx hb dJ6_stringSize_0f7a4_24 (by decide) (fun c_5 => ?_) (fun c_5 => ?_)
          · exact absurd c_5 (ng_100 hj)
          · skip
            refine lv_iload_n hx hb dJ6_stringSize_0f7a4_27 rfl (lv_at hl 0 rfl) ?_
            refine lv_iload_n hx hb dJ6_stringSize_0f7a4_28 rfl (lv_at hl 3 rfl) ?_
            refine lv_iadd hx hb dJ6_stringSize_0f7a4_29 ?_
            exact gRetI F hr hlocks hK hP hD hS (by unfold sbD; rw [if_neg (Nat.not_lt.mpr ((ng_10 hj).mp c_3))]; rfl) rfl (Nat.le_of_ble_eq_true rfl) (Nat.le_of_ble_eq_true rfl) dJ6_stringSize_0f7a4_30
      · skip
        refine lv_iload_n hx hb dJ6_stringSize_0f7a4_27 rfl (lv_at hl 0 rfl) ?_
        refine lv_iload_n hx hb dJ6_stringSize_0f7a4_28 rfl (lv_at hl 3 rfl) ?_
        refine lv_iadd hx hb dJ6_stringSize_0f7a4_29 ?_
        exact gRetI F hr hlocks hK hP hD hS (by unfold sbD; rw [if_pos (Nat.not_le.mp (fun z => c_3 ((ng_10 hj).mpr z)))]; rfl) rfl (Nat.le_of_ble_eq_true rfl) (Nat.le_of_ble_eq_true rfl) dJ6_stringSize_0f7a4_30
theorem okS_J6_stringSize_0f7a4 : gOkS yJ6_stringSize_0f7a4 cJ6_stringSize_0f7a4 4 (some .int) 1 := ⟨⟨k_st_J6_stringSize_0f7a4, k_in_J6, k_cd_J6_stringSize_0f7a4⟩, by decide, by decide, by decide +kernel⟩
set_option maxRecDepth 100000 in
set_option maxHeartbeats 4000000 in
theorem c_J6_getChars_ba4f3 (l : Launch) (hfl : l.stackTraces = false) (G : gG) (j : Nat) (w : Nat) (v0 : Nat) (n : Nat) (f : Nat → Int32) (hj : j < 100) (hw : sbD j ≤ w) (hwn : w ≤ n) (hn : n < 1073741824) : gX l G yJ6_getChars_ba4f3 cJ6_getChars_ba4f3 7 (some .int) { frames := 0, cells := 0, slots := 0, locals := 0 } [.int (nI j), .int (nI w), .ref v0] [(v0, .inl (G.2.1.2.2.2, n, .inl f))] none (some (.int (nI (w - sbD j)))) [(v0, .inl (G.2.1.2.2.2, n, .inl (sbC j w f)))] 0 0 := by
  refine gxBegin (by decide +kernel) (Nat.le_of_ble_eq_true rfl) (fun p e s m args below meth c A F hr hlocks htab hN hSt hK hP hD hA hS ls hl => ?_)
  obtain ⟨hx, hb, hml, hown, hts⟩ := id F
  replace hP : va_P G.1 vwCl [(v0, .inl (G.2.1.2.2.2, n, .inl f))] s.heap := hP
  replace hl : lv_has ls 7 [(0, .int (nI j)), (1, .int (nI w)), (2, .ref v0)] := hl
  refine lv_iload_n hx hb dJ6_getChars_ba4f3_0 rfl (lv_at hl 1 rfl) ?_
  refine lv_istore (lv' := [(5, .int (nI w)), (0, .int (nI j)), (1, .int (nI w)), (2, .ref v0)]) hx hb dJ6_getChars_ba4f3_1 hl (by decide) rfl (fun ls hl => ?_)
  refine lv_iload_n hx hb dJ6_getChars_ba4f3_3 rfl (lv_at hl 1 rfl) ?_
  refine lv_if_ge (tgt := 11) hx hb dJ6_getChars_ba4f3_4 (by decide) (fun c_1 => ?_) (fun c_1 => ?_)
  · skip
    refine lv_iconst (v := 0) hx hb dJ6_getChars_ba4f3_11 (by decide) ?_
    refine lv_istore (lv' := [(6, .int 0), (5, .int (nI w)), (0, .int (nI j)), (1, .int (nI w)), (2, .ref v0)]) hx hb dJ6_getChars_ba4f3_12 hl (by decide) rfl (fun ls hl => ?_)
    refine lv_iload hx hb dJ6_getChars_ba4f3_14 (lv_at hl 0 rfl) ?_
    refine lv_if_ne (tgt := 22) hx hb dJ6_getChars_ba4f3_16 (by decide) (fun c_2 => ?_) (fun c_2 => ?_)
    · exact absurd c_2 (by decide)
    · skip
      refine lv_iload_n hx hb dJ6_getChars_ba4f3_19 rfl (lv_at hl 2 rfl) ?_
      refine lv_ineg hx hb dJ6_getChars_ba4f3_20 ?_
      refine lv_istore_n (lv' := [(0, .int (-(nI j))), (6, .int 0), (5, .int (nI w)), (1, .int (nI w)), (2, .ref v0)]) hx hb dJ6_getChars_ba4f3_21 rfl hl (by decide) rfl (fun ls hl => ?_)
      refine lv_iload_n hx hb dJ6_getChars_ba4f3_22 rfl (lv_at hl 0 rfl) ?_
      refine lv_bipush (v := (-100)) hx hb dJ6_getChars_ba4f3_23 (by decide) ?_
      refine lv_icmp_gt (tgt := 72) hx hb dJ6_getChars_ba4f3_25 (by decide) (fun c_3 => ?_) (fun c_3 => ?_)
      · skip
        refine lv_aload_n hx hb dJ6_getChars_ba4f3_72 rfl (lv_at hl 4 rfl) ?_
        refine lv_iinc (v := (nI (w - 1))) (lv' := [(5, .int (nI (w - 1))), (0, .int (-(nI j))), (6, .int 0), (1, .int (nI w)), (2, .ref v0)]) hx hb dJ6_getChars_ba4f3_73 hl (k := 2) rfl (nI_m1 (by have := sbD_le j; omega)) (by decide) rfl (fun ls hl => ?_)
        refine lv_iload hx hb dJ6_getChars_ba4f3_76 (lv_at hl 0 rfl) ?_
        refine va_gets (v := .ref (gDg G 0)) hx hb hSt.2.2.2.2.2.1.1 hS hown (hts _ k_fl_J6_83) (fun _ h9 => h9) dJ6_getChars_ba4f3_78 ?_
        refine lv_iload_n hx hb dJ6_getChars_ba4f3_81 rfl (lv_at hl 1 rfl) ?_
        refine lv_ineg hx hb dJ6_getChars_ba4f3_82 ?_
        refine W.eq (congrArg (fun z => F0 m _ ls (.int z :: _)) (Int32.neg_neg : ((-(-(nI j))) : Int32) = (nI j))) ?_
        refine va_tb (i := (nI j)) (v := .int (gDgv 0 (Int32.toNatClampNeg (nI j)))) hx hb (hSt.2.2.2.2.2.2.1 0 (by decide)) hS (nI_in (by omega) (by decide)) rfl dJ6_getChars_ba4f3_83 ?_
        refine W.eq (congrArg (fun z => F0 m _ ls (.int z :: _)) (congrArg (gDgv 0) (nI_clamp (by omega)) : ((gDgv 0 (Int32.toNatClampNeg (nI j))) : Int32) = (gDgv 0 j))) ?_
        refine va_bast hx hb hK hP hD hS 0 3 rfl rfl (nI_in (by have := sbD_le j; omega) (by omega)) dJ6_getChars_ba4f3_84 (fun H locs hP hD hS => ?_)
        replace hP : va_P G.1 vwCl [(v0, .inl (G.2.1.2.2.2, n, .inl (upd f (Int32.toNatClampNeg (nI (w - 1))) (vp_nar .byte (gDgv 0 j)))))] H := hP
        replace hD : va_D A [(v0, .inl (G.2.1.2.2.2, n, .inl (upd f (Int32.toNatClampNeg (nI (w - 1))) (vp_nar .byte (gDgv 0 j)))))] := hD
        rw [nI_clamp (n := w - 1) (by omega), gDgv_b (by omega) hj] at hP hD
        replace hP : va_P G.1 vwCl [(v0, .inl (G.2.1.2.2.2, n, .inl (upd f (w - 1) (gDgv 0 j))))] H := hP
        replace hD : va_D A [(v0, .inl (G.2.1.2.2.2, n, .inl (upd f (w - 1) (gDgv 0 j))))] := hD
        refine lv_iload_n hx hb dJ6_getChars_ba4f3_85 rfl (lv_at hl 1 rfl) ?_
        refine lv_bipush (v := (-9)) hx hb dJ6_getChars_ba4f3_86 (by decide) ?_
        refine lv_icmp_ge (tgt := 104) hx hb dJ6_getChars_ba4f3_88 (by decide) (fun c_4 => ?_) (fun c_4 => ?_)
        · skip
          refine lv_iload hx hb dJ6_getChars_ba4f3_104 (lv_at hl 2 rfl) ?_
          refine lv_if_eq (tgt := 118) hx hb dJ6_getChars_ba4f3_106 (by decide) (fun c_5 => ?_) (fun c_5 => ?_)
          · skip
            refine lv_iload hx hb dJ6_getChars_ba4f3_118 (lv_at hl 0 rfl) ?_
            refine gxOf (rfl) ?_
            exact gRetI F hr hlocks hK hP hD hS (by unfold sbD; rw [if_pos ((ng_9 hj).mp c_4)]) (by unfold sbC; rw [if_pos ((ng_9 hj).mp c_4)]) (Nat.le_of_ble_eq_true rfl) (Nat.le_of_ble_eq_true rfl) dJ6_getChars_ba4f3_120
          · exact absurd c_5 (by decide)
        · skip
          refine lv_aload_n hx hb dJ6_getChars_ba4f3_91 rfl (lv_at hl 4 rfl) ?_
          refine lv_iinc (v := (nI (w - 2))) (lv' := [(5, .int (nI (w - 2))), (0, .int (-(nI j))), (6, .int 0), (1, .int (nI w)), (2, .ref v0)]) hx hb dJ6_getChars_ba4f3_92 hl (k := 0) rfl ((nI_m1 (by have q2 : sbD j = 2 := if_neg (fun z => c_4 ((ng_9 hj).mpr z)); omega)).trans (congrArg nI (by omega))) (by decide) rfl (fun ls hl => ?_)
          refine lv_iload hx hb dJ6_getChars_ba4f3_95 (lv_at hl 0 rfl) ?_
          refine va_gets (v := .ref (gDg G 1)) hx hb hSt.2.2.2.2.2.1.2 hS hown (hts _ k_fl_J6_87) (fun _ h9 => h9) dJ6_getChars_ba4f3_97 ?_
          refine lv_iload_n hx hb dJ6_getChars_ba4f3_100 rfl (lv_at hl 1 rfl) ?_
          refine lv_ineg hx hb dJ6_getChars_ba4f3_101 ?_
          refine W.eq (congrArg (fun z => F0 m _ ls (.int z :: _)) (Int32.neg_neg : ((-(-(nI j))) : Int32) = (nI j))) ?_
          refine va_tb (i := (nI j)) (v := .int (gDgv 1 (Int32.toNatClampNeg (nI j)))) hx hb (hSt.2.2.2.2.2.2.1 1 (by decide)) hS (nI_in (by omega) (by decide)) rfl dJ6_getChars_ba4f3_102 ?_
          refine W.eq (congrArg (fun z => F0 m _ ls (.int z :: _)) (congrArg (gDgv 1) (nI_clamp (by omega)) : ((gDgv 1 (Int32.toNatClampNeg (nI j))) : Int32) = (gDgv 1 j))) ?_
          refine va_bast hx hb hK hP hD hS 0 3 rfl rfl (nI_in (by have q2 : sbD j = 2 := if_neg (fun z => c_4 ((ng_9 hj).mpr z)); omega) (by omega)) dJ6_getChars_ba4f3_103 (fun H locs hP hD hS => ?_)
          replace hP : va_P G.1 vwCl [(v0, .inl (G.2.1.2.2.2, n, .inl (upd (upd f (w - 1) (gDgv 0 j)) (Int32.toNatClampNeg (nI (w - 2))) (vp_nar .byte (gDgv 1 j)))))] H := hP
          replace hD : va_D A [(v0, .inl (G.2.1.2.2.2, n, .inl (upd (upd f (w - 1) (gDgv 0 j)) (Int32.toNatClampNeg (nI (w - 2))) (vp_nar .byte (gDgv 1 j)))))] := hD
          rw [nI_clamp (n := w - 2) (by omega), gDgv_b (by omega) hj] at hP hD
          replace hP : va_P G.1 vwCl [(v0, .inl (G.2.1.2.2.2, n, .inl (upd (upd f (w - 1) (gDgv 0 j)) (w - 2) (gDgv 1 j))))] H := hP
          replace hD : va_D A [(v0, .inl (G.2.1.2.2.2, n, .inl (upd (upd f (w - 1) (gDgv 0 j)) (w - 2) (gDgv 1 j))))] := hD
          refine lv_iload hx hb dJ6_getChars_ba4f3_104 (lv_at hl 2 rfl) ?_
          refine lv_if_eq (tgt := 118) hx hb dJ6_getChars_ba4f3_106 (by decide) (fun c_6 => ?_) (fun c_6 => ?_)
          · skip
            refine lv_iload hx hb dJ6_getChars_ba4f3_118 (lv_at hl 0 rfl) ?_
            refine gxOf (rfl) ?_
            exact gRetI F hr hlocks hK hP hD hS (by unfold sbD; rw [if_neg (fun z => c_4 ((ng_9 hj).mpr z))]) (by unfold sbC; rw [if_neg (fun z => c_4 ((ng_9 hj).mpr z))]) (Nat.le_of_ble_eq_true rfl) (Nat.le_of_ble_eq_true rfl) dJ6_getChars_ba4f3_120
          · exact absurd c_6 (by decide)
      · exact absurd (ng_m100 hj) c_3
  · exact absurd (nI_pos' (by omega)) c_1
theorem okS_J6_getChars_ba4f3 : gOkS yJ6_getChars_ba4f3 cJ6_getChars_ba4f3 7 (some .int) 3 := ⟨⟨k_st_J6_getChars_ba4f3, k_in_J6, k_cd_J6_getChars_ba4f3⟩, by decide, by decide, by decide +kernel⟩
set_option maxRecDepth 100000 in
set_option maxHeartbeats 4000000 in
theorem c_J5_append_c97b9 (l : Launch) (hfl : l.stackTraces = false) (G : gG) (b0 : Nat) (v0 : Nat) (ml : Int32) (k : Nat) (n : Nat) (f : Nat → Int32) (j : Nat) (hn : n = 16 ∨ n = 34) (hk : k + sbD j ≤ 34) (hF : FB f) (hj : j < 100) : gY l G yJ5_append_c97b9 cJ5_append_c97b9 4 (some (.object "java/lang/AbstractStringBuilder")) { frames := 4, cells := 1, slots := 34, locals := 124 } [.ref b0, .int (nI j)] [(b0, .inr (1, [.ref v0, .int 0, .int ml, .int (nI k)])), (v0, .inl (G.2.1.2.2.2, n, .inl f))] (fun vv => (some (.ref b0))) (fun vv => [(b0, .inr (1, [.ref vv, .int 0, .int ml, .int (nI (k + sbD j))])), (vv, .inl (G.2.1.2.2.2, (sbN (k + sbD j) n), .inl (sbC j (k + sbD j) (sbF (k + sbD j) n f))))]) 1 34 := by
  refine gyBegin (by decide +kernel) (Nat.le_of_ble_eq_true rfl) (fun p e s m args below meth c A F hr hlocks hname hN hSt hK hP hD hA hS ls hl => ?_)
  obtain ⟨hx, hb, hml, hown, hts⟩ := id F
  replace hP : va_P G.1 vwCl [(b0, .inr (1, [.ref v0, .int 0, .int ml, .int (nI k)])), (v0, .inl (G.2.1.2.2.2, n, .inl f))] s.heap := hP
  replace hl : lv_has ls 4 [(0, .ref b0), (1, .int (nI j))] := hl
  refine lv_aload_n hx hb dJ5_append_c97b9_0 rfl (lv_at hl 0 rfl) ?_
  refine va_get (D := G.1) (ci := 1) (v := .int (nI k)) (C := RJ4) (T := TJ4) (N := 4) hx hb hts in_J4 hown hK hP 0 rfl rfl 3 (by decide) (hts _ k_fl_J5_79) (fun _ h9 => h9) rfl dJ5_append_c97b9_1 ?_
  refine lv_istore_n (lv' := [(2, .int (nI k)), (0, .ref b0), (1, .int (nI j))]) hx hb dJ5_append_c97b9_4 rfl hl (by decide) rfl (fun ls hl => ?_)
  refine lv_iload_n hx hb dJ5_append_c97b9_5 rfl (lv_at hl 0 rfl) ?_
  refine lv_iload_n hx hb dJ5_append_c97b9_6 rfl (lv_at hl 2 rfl) ?_
  refine gS (As := [.int (nI j)]) (rest := [.int (nI k)]) (wr := [(b0, .inr (1, [.ref v0, .int 0, .int ml, .int (nI k)])), (v0, .inl (G.2.1.2.2.2, n, .inl f))]) (ws' := [(b0, .inr (1, [.ref v0, .int 0, .int ml, .int (nI k)])), (v0, .inl (G.2.1.2.2.2, n, .inl f))]) F (c_J6_stringSize_0f7a4 l G j hj) okS_J6_stringSize_0f7a4 k_ml_J5_245 rfl rfl ⟨Nat.le_of_ble_eq_true rfl, Nat.le_of_ble_eq_true rfl⟩ hN hK hP hD hS hA [] [0, 1] [0, 1] (by decide) rfl rfl (by decide) (by decide) (by decide) rfl rfl rfl hl.1 (Nat.le_of_ble_eq_true rfl) dJ5_append_c97b9_7 ⟨Nat.le_of_ble_eq_true rfl, Nat.le_of_ble_eq_true rfl⟩ (fun H locs hP hD hS => ?_)
  refine lv_iadd hx hb dJ5_append_c97b9_10 ?_
  refine W.eq (congrArg (fun z => F0 m _ ls (.int z :: _)) (nI_add _ _ : (((nI k) + (nI (sbD j))) : Int32) = (nI (k + sbD j)))) ?_
  refine lv_istore_n (lv' := [(3, .int (nI (k + sbD j))), (2, .int (nI k)), (0, .ref b0), (1, .int (nI j))]) hx hb dJ5_append_c97b9_11 rfl hl (by decide) rfl (fun ls hl => ?_)
  refine lv_aload_n hx hb dJ5_append_c97b9_12 rfl (lv_at hl 2 rfl) ?_
  refine lv_iload_n hx hb dJ5_append_c97b9_13 rfl (lv_at hl 0 rfl) ?_
  refine gyP (As := [.int (nI (k + sbD j))]) (rest := []) (wr := []) (ws' := fun v1_ => [(b0, .inr (1, [.ref v1_, .int 0, .int ml, .int (nI k)])), (v1_, .inl (G.2.1.2.2.2, (sbN (k + sbD j) n), .inl (sbF (k + sbD j) n f)))]) F (c_ens l hfl G b0 v0 ml (nI k) f (k + sbD j) n hn hk hF) okP_J5_ensureCapacityInternal_d00df k_ml_J5_100 rfl rfl ⟨Nat.le_of_ble_eq_true rfl, Nat.le_of_ble_eq_true rfl⟩ hN hSt hK hP hD hS hA [0, 1] [] [0, 1] (by decide) rfl rfl (by decide) (by decide) (by decide) (fun _ => rfl) (q0 := 0) rfl rfl rfl rfl hl.1 (Nat.le_of_ble_eq_true rfl) dJ5_append_c97b9_14 ⟨Nat.le_of_ble_eq_true rfl, Nat.le_of_ble_eq_true rfl⟩ (fun v1_ H locs hP hD hS => ?_)
  refine lv_aload_n hx hb dJ5_append_c97b9_17 rfl (lv_at hl 2 rfl) ?_
  refine gyU (As := []) (rest := []) (wr := [(v1_, .inl (G.2.1.2.2.2, (sbN (k + sbD j) n), .inl (sbF (k + sbD j) n f)))]) (ws' := fun v2_ => [(b0, .inr (1, [.ref v1_, .int 0, .int ml, .int (nI k)])), (v1_, .inl (G.2.1.2.2.2, (sbN (k + sbD j) n), .inl (sbF (k + sbD j) n f)))]) F (c_J5_isLatin1_aae02 l hfl G b0 v1_ ml (nI k)) okU_J5_isLatin1_aae02 k_ml_J5_83 rfl rfl ⟨Nat.le_of_ble_eq_true rfl, Nat.le_of_ble_eq_true rfl⟩ hN hSt hK hP hD hS hA [0] [1] [1, 0] (by decide) rfl rfl (by decide) (by decide) (by decide) (fun _ => rfl) (q0 := 0) rfl rfl rfl rfl hl.1 (Nat.le_of_ble_eq_true rfl) dJ5_append_c97b9_18 ⟨Nat.le_of_ble_eq_true rfl, Nat.le_of_ble_eq_true rfl⟩ (fun v2_ H locs hP hD hS => ?_)
  refine W.eq (congrArg (fun z => F0 m _ ls (.int z :: _)) (rfl : (1 : Int32) = 1)) ?_
  refine lv_if_eq (tgt := 37) hx hb dJ5_append_c97b9_21 (by decide) (fun c_3 => ?_) (fun c_3 => ?_)
  · exact absurd c_3 (by decide)
  · skip
    refine lv_iload_n hx hb dJ5_append_c97b9_24 rfl (lv_at hl 3 rfl) ?_
    refine lv_iload_n hx hb dJ5_append_c97b9_25 rfl (lv_at hl 0 rfl) ?_
    refine lv_aload_n hx hb dJ5_append_c97b9_26 rfl (lv_at hl 2 rfl) ?_
    refine va_get (D := G.1) (ci := 1) (v := .ref v1_) (C := RJ4) (T := TJ4) (N := 4) hx hb hts in_J4 hown hK hP 0 rfl rfl 0 (by decide) (hts _ k_fl_J5_15) (fun _ h9 => h9) rfl dJ5_append_c97b9_27 ?_
    refine gxS (As := [.int (nI j), .int (nI (k + sbD j)), .ref v1_]) (rest := []) (wr := [(b0, .inr (1, [.ref v1_, .int 0, .int ml, .int (nI k)]))]) (ws' := [(b0, .inr (1, [.ref v1_, .int 0, .int ml, .int (nI k)])), (v1_, .inl (G.2.1.2.2.2, (sbN (k + sbD j) n), .inl (sbC j (k + sbD j) (sbF (k + sbD j) n f))))]) F (c_J6_getChars_ba4f3 l hfl G j (k + sbD j) v1_ (sbN (k + sbD j) n) (sbF (k + sbD j) n f) hj (by omega) (sbN_ok hn hk).2.1 (by have := sbN_ok hn hk; omega)) okS_J6_getChars_ba4f3 k_ml_J5_248 rfl rfl ⟨Nat.le_of_ble_eq_true rfl, Nat.le_of_ble_eq_true rfl⟩ hN hSt hK hP hD hS hA [1] [0] [0, 1] (by decide) rfl rfl (by decide) (by decide) (by decide) rfl rfl rfl rfl hl.1 (Nat.le_of_ble_eq_true rfl) dJ5_append_c97b9_30 ⟨Nat.le_of_ble_eq_true rfl, Nat.le_of_ble_eq_true rfl⟩ (fun _ H locs hP hD hS => ?_) (fun E9 ce9 q9 H locs x9 hP hD hS h91 h92 h93 => (Option.some_ne_none _ x9.symm).elim)
    refine lv_pop hx hb dJ5_append_c97b9_33 rfl ?_
    refine lv_goto (tgt := 48) hx hb dJ5_append_c97b9_34 (by decide) ?_
    refine lv_aload_n hx hb dJ5_append_c97b9_48 rfl (lv_at hl 2 rfl) ?_
    refine lv_iload_n hx hb dJ5_append_c97b9_49 rfl (lv_at hl 0 rfl) ?_
    refine va_put (D := G.1) (ci := 1) (v := .int (nI (k + sbD j))) (ty := .int) (C := RJ4) (T := TJ4) (N := 4) hx hb hts in_J4 tyJ4 tyJ4_ok nmJ4 hown hK hP hD hS 0 rfl rfl 3 (by decide) (hts _ k_fl_J5_79) (fun _ h9 => h9) rfl (by decide +kernel) rfl rfl (Nat.le_of_ble_eq_true rfl) dJ5_append_c97b9_50 (fun H locs hP hD hS => ?_)
    replace hP : va_P G.1 vwCl [(b0, .inr (1, [.ref v1_, .int 0, .int ml, .int (nI (k + sbD j))])), (v1_, .inl (G.2.1.2.2.2, (sbN (k + sbD j) n), .inl (sbC j (k + sbD j) (sbF (k + sbD j) n f))))] H := hP
    replace hD : va_D A [(b0, .inr (1, [.ref v1_, .int 0, .int ml, .int (nI (k + sbD j))])), (v1_, .inl (G.2.1.2.2.2, (sbN (k + sbD j) n), .inl (sbC j (k + sbD j) (sbF (k + sbD j) n f))))] := hD
    refine lv_aload_n hx hb dJ5_append_c97b9_53 rfl (lv_at hl 2 rfl) ?_
    refine gyOf (r1 := some (.ref b0)) (u1 := [(b0, .inr (1, [.ref v1_, .int 0, .int ml, .int (nI (k + sbD j))])), (v1_, .inl (G.2.1.2.2.2, (sbN (k + sbD j) n), .inl (sbC j (k + sbD j) (sbF (k + sbD j) n f))))]) v1_ rfl rfl ?_
    exact gRetA F hr (Or.inl ⟨_, rfl⟩) hlocks hK hP hD hS rfl rfl (Nat.le_of_ble_eq_true rfl) (Nat.le_of_ble_eq_true rfl) dJ5_append_c97b9_54
theorem k_sm_J5_append_c97b9 : Cond.sameMethod yJ5_append_c97b9.cls yJ5_append_c97b9.cls yJ5_append_c97b9.name yJ5_append_c97b9.desc ∈ gT := gT_t9 (i := 20) (by decide +kernel) (by decide +kernel)
theorem okSU_J5_append_c97b9 : gOkSU RJ4 yJ5_append_c97b9 cJ5_append_c97b9 4 (some (.object "java/lang/AbstractStringBuilder")) 1 := ⟨⟨k_sm_J5_append_c97b9, k_su_J4, k_im_J5_append_c97b9, k_in_J5, k_cd_J5_append_c97b9⟩, by decide, by decide +kernel⟩
set_option maxRecDepth 100000 in
set_option maxHeartbeats 4000000 in
theorem c_J4_append_bf812 (l : Launch) (hfl : l.stackTraces = false) (G : gG) (b0 : Nat) (v0 : Nat) (ml : Int32) (k : Nat) (n : Nat) (f : Nat → Int32) (j : Nat) (hn : n = 16 ∨ n = 34) (hk : k + sbD j ≤ 34) (hF : FB f) (hj : j < 100) : gY l G yJ4_append_bf812 cJ4_append_bf812 2 (some (.object "java/lang/StringBuilder")) { frames := 5, cells := 1, slots := 34, locals := 147 } [.ref b0, .int (nI j)] [(b0, .inr (1, [.ref v0, .int 0, .int ml, .int (nI k)])), (v0, .inl (G.2.1.2.2.2, n, .inl f))] (fun vv => (some (.ref b0))) (fun vv => [(b0, .inr (1, [.ref vv, .int 0, .int ml, .int (nI (k + sbD j))])), (vv, .inl (G.2.1.2.2.2, (sbN (k + sbD j) n), .inl (sbC j (k + sbD j) (sbF (k + sbD j) n f))))]) 1 34 := by
  refine gyBegin (by decide +kernel) (Nat.le_of_ble_eq_true rfl) (fun p e s m args below meth c A F hr hlocks hname hN hSt hK hP hD hA hS ls hl => ?_)
  obtain ⟨hx, hb, hml, hown, hts⟩ := id F
  replace hP : va_P G.1 vwCl [(b0, .inr (1, [.ref v0, .int 0, .int ml, .int (nI k)])), (v0, .inl (G.2.1.2.2.2, n, .inl f))] s.heap := hP
  replace hl : lv_has ls 2 [(0, .ref b0), (1, .int (nI j))] := hl
  refine lv_aload_n hx hb dJ4_append_bf812_0 rfl (lv_at hl 0 rfl) ?_
  refine lv_iload_n hx hb dJ4_append_bf812_1 rfl (lv_at hl 1 rfl) ?_
  refine gySU (As := [.int (nI j)]) (rest := []) (wr := []) (ws' := fun v1_ => [(b0, .inr (1, [.ref v1_, .int 0, .int ml, .int (nI (k + sbD j))])), (v1_, .inl (G.2.1.2.2.2, (sbN (k + sbD j) n), .inl (sbC j (k + sbD j) (sbF (k + sbD j) n f))))]) F (c_J5_append_c97b9 l hfl G b0 v0 ml k n f j hn hk hF hj) okSU_J5_append_c97b9 k_ml_J4_53 rfl rfl ⟨Nat.le_of_ble_eq_true rfl, Nat.le_of_ble_eq_true rfl⟩ hN hSt hK hP hD hS hA [0, 1] [] [0, 1] (by decide) rfl rfl (by decide) (by decide) (by decide) (fun _ => rfl) (q0 := 0) rfl rfl rfl rfl hl.1 (Nat.le_of_ble_eq_true rfl) dJ4_append_bf812_2 ⟨Nat.le_of_ble_eq_true rfl, Nat.le_of_ble_eq_true rfl⟩ (fun v1_ H locs hP hD hS => ?_)
  refine lv_pop hx hb dJ4_append_bf812_5 rfl ?_
  refine lv_aload_n hx hb dJ4_append_bf812_6 rfl (lv_at hl 0 rfl) ?_
  refine gyOf (r1 := some (.ref b0)) (u1 := [(b0, .inr (1, [.ref v1_, .int 0, .int ml, .int (nI (k + sbD j))])), (v1_, .inl (G.2.1.2.2.2, (sbN (k + sbD j) n), .inl (sbC j (k + sbD j) (sbF (k + sbD j) n f))))]) v1_ rfl rfl ?_
  exact gRetA F hr (Or.inl ⟨_, rfl⟩) hlocks hK hP hD hS rfl rfl (Nat.le_of_ble_eq_true rfl) (Nat.le_of_ble_eq_true rfl) dJ4_append_bf812_7
theorem okV_J4_append_bf812 : gOkV yJ4_append_bf812 cJ4_append_bf812 2 (some (.object "java/lang/StringBuilder")) 1 := ⟨⟨k_im_J4_append_bf812, k_se_J4_append_bf812, k_in_J4, k_cd_J4_append_bf812⟩, by decide, by decide, by decide +kernel⟩
