/-! LAW W: the cases together, and the loop -/
def casePc (t : Nat) : Nat := [240, 344, 400, 444, 457, 470, 538, 618, 674, 722, 778, 834, 847, 915, 971, 1027, 1083, 1124, 1180, 1193, 1249, 1262, 1275, 1288, 1336, 1392, 1448, 1461, 1474, 1487, 1500, 1513, 1569, 1613, 1626, 1639, 1707, 1720, 1776, 1844, 1924, 2004, 2084, 2152, 2208, 2244].getD t 0
theorem case_off : ∀ t : Nat, t < 46 → (#[200, 304, 360, 404, 417, 430, 498, 578, 634, 682, 738, 794, 807, 875, 931, 987, 1043, 1084, 1140, 1153, 1209, 1222, 1235, 1248, 1296, 1352, 1408, 1421, 1434, 1447, 1460, 1473, 1529, 1573, 1586, 1599, 1667, 1680, 1736, 1804, 1884, 1964, 2044, 2112, 2168, 2204] : Array Int)[t]? = some ((casePc t : Int) - 40) := by decide +kernel
section LWl
variable {p : Program} {l : Launch} {e : Env} {s : State} {m : MethodId} {below : List Frame} {meth : Method} {c : Code} {H : Heap} {locs : List Loc} {cells slots : Nat} {Q : State → Prop} {G : gG} {b L i B T : Nat} {xs : Nat → Int32} {ls : Array Slot} {z0 m0 qo : Nat}
set_option maxRecDepth 100000 in
set_option maxHeartbeats 4000000 in
theorem lw_case (F : LWF p l s m meth c G b L xs) (hL : L ≤ 3072) (hi : i + 6 ≤ L) (hLI : LWI G (fun q => s.heap.size ≤ q) B z0 m0 qo H) (hS : va_S (fun q => s.heap.size ≤ q) s.heap H locs) (hB : B < 170000000) (hl : lv_has ls 7 [(0, .ref b), (1, .ref z0), (2, .ref m0), (3, .ref qo), (4, .int (nI i))]) (hcl : cells + 60 ≤ 601024) (hsl : slots + 1000 ≤ 7293034)
    (kk : ∀ (H : Heap) (locs : List Loc) (ls : Array Slot), LWI G (fun q => s.heap.size ≤ q) (B + 49500) z0 m0 qo H → va_S (fun q => s.heap.size ≤ q) s.heap H locs → lv_has ls 7 [(0, .ref b), (1, .ref z0), (2, .ref m0), (3, .ref qo), (4, .int (nI i))] → W p l e room_1 s m #[Value.ref b] below meth c H locs (cells + 60) (slots + 1000) Q (F0 m 2280 ls [])) (t : Nat) (ht : t < 46) : W p l e room_1 s m #[Value.ref b] below meth c H locs cells slots Q (F0 m (casePc t) ls []) := by
  obtain ⟨c0, s0, s1, s2, s3, k0, k1, i0, i1, o0, o1, x0, c0q, s0q, s1q, s2q, s3q, k0q, k1q, i0q, i1q, o0q, o1q, x0q, c0u, s0u, s1u, s2u, s3u, k0u, k1u, i0u, i1u, o0u, o1u, x0u, c0v, s0v, s1v, s2v, s3v, k0v, k1v, i0v, i1v, o0v, o1v, x0v, a0, a1, a2, a3, b0, v0, m1, m2, m3, m6, m13, m14, m17, m18, m19, k, n, sv, sw, et, wt, tm, sta, he, ac, ov, dr, pt, ot, fp, on, fi, li, fo, lo, etq, wtq, tmq, staq, heq, acq, ovq, drq, ptq, otq, fpq, onq, fiq, liq, foq, loq, etu, wtu, tmu, stau, heu, acu, ovu, dru, ptu, otu, fpu, onu, fiu, liu, fou, lou, etv, wtv, tmv, stav, hev, acv, ovv, drv, ptv, otv, fpv, onv, fiv, liv, fov, lov, len, ec, ep, wcn, sl, pl, ki, ts, te, nu, ml, rz, hf, hs, lenm, ecm, epm, pos, bg, bad, plc, stam, shm, bits, ring, slips, temps, rin, rout, cnt, bitsq, ringq, slipsq, tempsq, rinq, routq, cntq, bitsu, ringu, slipsu, tempsu, rinu, routu, cntu, bitsv, ringv, slipsv, tempsv, rinv, routv, cntv, text, words, wri, f, w, aside, saved, texm, draft, wrim, mring, msh, mn, oc, T, hP, hD, hT, hC, hSn, hAs, hMn, hFm⟩ := hLI
  match t, ht with
  | 0, _ => exact ks_append F hL hi hP hD hS hT hB hC hSn hAs hMn hFm hl hcl hsl kk
  | 1, _ => exact ks_truncate F hL hi hP hD hS hT hB hC hSn hAs hMn hFm hl hcl hsl kk
  | 2, _ => exact ks_assemble F hL hi hP hD hS hT hB hC hSn hAs hMn hFm hl hcl hsl kk
  | 3, _ => exact ks_errorCode F hL hi hP hD hS hT hB hC hSn hAs hMn hFm hl hcl hsl kk
  | 4, _ => exact ks_errorPosition F hL hi hP hD hS hT hB hC hSn hAs hMn hFm hl hcl hsl kk
  | 5, _ => exact ks_readWord F hL hi hP hD hS hT hB hC hSn hAs hMn hFm hl hcl hsl kk
  | 6, _ => exact ks_writeWord F hL hi hP hD hS hT hB hC hSn hAs hMn hFm hl hcl hsl kk
  | 7, _ => exact ks_clearTank F hL hi hP hD hS hT hB hC hSn hAs hMn hFm hl hcl hsl kk
  | 8, _ => exact ks_swapTanks F hL hi hP hD hS hT hB hC hSn hAs hMn hFm hl hcl hsl kk
  | 9, _ => exact ks_bitCount F hL hi hP hD hS hT hB hC hSn hAs hMn hFm hl hcl hsl kk
  | 10, _ => exact ks_slips F hL hi hP hD hS hT hB hC hSn hAs hMn hFm hl hcl hsl kk
  | 11, _ => exact ks_dropouts F hL hi hP hD hS hT hB hC hSn hAs hMn hFm hl hcl hsl kk
  | 12, _ => exact ks_setTemperature F hL hi hP hD hS hT hB hC hSn hAs hMn hFm hl hcl hsl kk
  | 13, _ => exact ks_temperature F hL hi hP hD hS hT hB hC hSn hAs hMn hFm hl hcl hsl kk
  | 14, _ => exact ks_setOven F hL hi hP hD hS hT hB hC hSn hAs hMn hFm hl hcl hsl kk
  | 15, _ => exact ks_setPilotTemperature F hL hi hP hD hS hT hB hC hSn hAs hMn hFm hl hcl hsl kk
  | 16, _ => exact ks_setPilot F hL hi hP hD hS hT hB hC hSn hAs hMn hFm hl hcl hsl kk
  | 17, _ => exact ks_setFixedPeriod F hL hi hP hD hS hT hB hC hSn hAs hMn hFm hl hcl hsl kk
  | 18, _ => exact ks_period F hL hi hP hD hS hT hB hC hSn hAs hMn hFm hl hcl hsl kk
  | 19, _ => exact ks_mismatch F hL hi hP hD hS hT hB hC hSn hAs hMn hFm hl hcl hsl kk
  | 20, _ => exact ks_leastSafeTemperature F hL hi hP hD hS hT hB hC hSn hAs hMn hFm hl hcl hsl kk
  | 21, _ => exact ks_greatestSafeTemperature F hL hi hP hD hS hT hB hC hSn hAs hMn hFm hl hcl hsl kk
  | 22, _ => exact ks_unsafeAfter F hL hi hP hD hS hT hB hC hSn hAs hMn hFm hl hcl hsl kk
  | 23, _ => exact ks_start F hL hi hP hD hS hT hB hC hSn hAs hMn hFm hl hcl hsl kk
  | 24, _ => exact ks_run F hL hi hP hD hS hT hB hC hSn hAs hMn hFm hl hcl hsl kk
  | 25, _ => exact ks_idle F hL hi hP hD hS hT hB hC hSn hAs hMn hFm hl hcl hsl kk
  | 26, _ => exact ks_time F hL hi hP hD hS hT hB hC hSn hAs hMn hFm hl hcl hsl kk
  | 27, _ => exact ks_state F hL hi hP hD hS hT hB hC hSn hAs hMn hFm hl hcl hsl kk
  | 28, _ => exact ks_accumulator F hL hi hP hD hS hT hB hC hSn hAs hMn hFm hl hcl hsl kk
  | 29, _ => exact ks_hasOverflow F hL hi hP hD hS hT hB hC hSn hAs hMn hFm hl hcl hsl kk
  | 30, _ => exact ks_location F hL hi hP hD hS hT hB hC hSn hAs hMn hFm hl hcl hsl kk
  | 31, _ => exact ks_offerInput F hL hi hP hD hS hT hB hC hSn hAs hMn hFm hl hcl hsl kk
  | 32, _ => exact ks_takeOutput F hL hi hP hD hS hT hB hC hSn hAs hMn hFm hl hcl hsl kk
  | 33, _ => exact ks_outputLength F hL hi hP hD hS hT hB hC hSn hAs hMn hFm hl hcl hsl kk
  | 34, _ => exact ks_executed F hL hi hP hD hS hT hB hC hSn hAs hMn hFm hl hcl hsl kk
  | 35, _ => exact ks_executedAt F hL hi hP hD hS hT hB hC hSn hAs hMn hFm hl hcl hsl kk
  | 36, _ => exact ks_waited F hL hi hP hD hS hT hB hC hSn hAs hMn hFm hl hcl hsl kk
  | 37, _ => exact ks_predictTime F hL hi hP hD hS hT hB hC hSn hAs hMn hFm hl hcl hsl kk
  | 38, _ => exact ks_idealNextCycle F hL hi hP hD hS hT hB hC hSn hAs hMn hFm hl hcl hsl kk
  | 39, _ => exact ks_pathTime F hL hi hP hD hS hT hB hC hSn hAs hMn hFm hl hcl hsl kk
  | 40, _ => exact ks_bestFreeCycle F hL hi hP hD hS hT hB hC hSn hAs hMn hFm hl hcl hsl kk
  | 41, _ => exact ks_moveNext F hL hi hP hD hS hT hB hC hSn hAs hMn hFm hl hcl hsl kk
  | 42, _ => exact ks_format F hL hi hP hD hS hT hB hC hSn hAs hMn hFm hl hcl hsl kk
  | 43, _ => exact ks_formattedByte F hL hi hP hD hS hT hB hC hSn hAs hMn hFm hl hcl hsl kk
  | 44, _ => exact ks_save F hL hi hP hD hS hT hB hC hSn hAs hMn hFm hl hcl hsl kk
  | 45, _ => exact ks_restore F hL hi hP hD hS hT hB hC hSn hAs hMn hFm hl hcl hsl kk
/-- one turn of the loop, from its switch -/
theorem lw_turn (F : LWF p l s m meth c G b L xs) (hL : L ≤ 3072) (hi : i + 6 ≤ L) (hLI : LWI G (fun q => s.heap.size ≤ q) B z0 m0 qo H) (hS : va_S (fun q => s.heap.size ≤ q) s.heap H locs) (hB : B < 170000000) (hl : lv_has ls 7 [(0, .ref b), (1, .ref z0), (2, .ref m0), (3, .ref qo), (4, .int (nI i))]) (hcl : cells + 60 ≤ 601024) (hsl : slots + 1000 ≤ 7293034)
    (kk : ∀ (H : Heap) (locs : List Loc) (ls : Array Slot), LWI G (fun q => s.heap.size ≤ q) (B + 49500) z0 m0 qo H → va_S (fun q => s.heap.size ≤ q) s.heap H locs → lv_has ls 7 [(0, .ref b), (1, .ref z0), (2, .ref m0), (3, .ref qo), (4, .int (nI i))] → W p l e room_1 s m #[Value.ref b] below meth c H locs (cells + 60) (slots + 1000) Q (F0 m 2280 ls [])) : W p l e room_1 s m #[Value.ref b] below meth c H locs cells slots Q (F0 m 33 ls []) := by
  obtain ⟨⟨hx, hb, hml, hown, hts⟩, hfl, hN, hSt, hNc, hK, hX, hbl⟩ := id F
  have hbA : ¬ (fun q : Nat => s.heap.size ≤ q) b := Nat.not_le.mpr hbl
  refine lv_aload_n hx hb dL_law_33 rfl (lv_at hl 0 rfl) ?_
  refine lv_iload hx hb dL_law_34 (lv_at hl 4 rfl) ?_
  refine va_sld hx hb hX hbl hbA hS (vp_in_nI (by omega) (by omega)) dL_law_36 ?_
  refine lv_bipush (v := 63) hx hb dL_law_37 (by decide) ?_
  refine lv_iand hx hb dL_law_39 ?_
  have hv := gI_and63 (xs (nI i).toNatClampNeg)
  refine lv_topi (fun v ev => ?_)
  rw [← ev] at hv
  have hr : 0 ≤ v.toInt ∧ v.toInt < 64 := by
    rw [hv]
    omega
  by_cases c9 : v.toInt < 46
  · obtain ⟨t, ht, rfl⟩ := of_rng (x := v) (N := 46) (by decide) (by omega)
    have ht2 : (nI t).toInt = t := nI_toInt (by omega)
    refine lv_tableIn (off := (casePc t : Int) - 40) (tgt := casePc t) hx hb dL_law_40 (by omega) (by omega) ?_ (by omega) ?_
    · rw [ht2, show ((t : Int) - 0).toNat = t by omega]
      exact case_off t ht
    · exact lw_case F hL hi hLI hS hB hl hcl hsl kk t ht
  · refine lv_tableOut (tgt := 2280) hx hb dL_law_40 (by omega) (by decide) ?_
    refine W.widen (k := cells + 60) (n := slots + 1000) (by omega) (by omega) ?_
    obtain ⟨c0, s0, s1, s2, s3, k0, k1, i0, i1, o0, o1, x0, c0q, s0q, s1q, s2q, s3q, k0q, k1q, i0q, i1q, o0q, o1q, x0q, c0u, s0u, s1u, s2u, s3u, k0u, k1u, i0u, i1u, o0u, o1u, x0u, c0v, s0v, s1v, s2v, s3v, k0v, k1v, i0v, i1v, o0v, o1v, x0v, a0, a1, a2, a3, b0, v0, m1, m2, m3, m6, m13, m14, m17, m18, m19, k, n, sv, sw, et, wt, tm, sta, he, ac, ov, dr, pt, ot, fp, on, fi, li, fo, lo, etq, wtq, tmq, staq, heq, acq, ovq, drq, ptq, otq, fpq, onq, fiq, liq, foq, loq, etu, wtu, tmu, stau, heu, acu, ovu, dru, ptu, otu, fpu, onu, fiu, liu, fou, lou, etv, wtv, tmv, stav, hev, acv, ovv, drv, ptv, otv, fpv, onv, fiv, liv, fov, lov, len, ec, ep, wcn, sl, pl, ki, ts, te, nu, ml, rz, hf, hs, lenm, ecm, epm, pos, bg, bad, plc, stam, shm, bits, ring, slips, temps, rin, rout, cnt, bitsq, ringq, slipsq, tempsq, rinq, routq, cntq, bitsu, ringu, slipsu, tempsu, rinu, routu, cntu, bitsv, ringv, slipsv, tempsv, rinv, routv, cntv, text, words, wri, f, w, aside, saved, texm, draft, wrim, mring, msh, mn, oc, T, hP, hD, hT, hC, hSn, hAs, hMn, hFm⟩ := hLI
    exact kk H locs ls (LWI.mk hP hD (by omega) hC (hSn.mono (Nat.le_add_right _ _)) hAs hMn hFm) hS hl
end LWl
section LWm
variable {p : Program} {l : Launch} {e : Env} {s : State} {m : MethodId} {below : List Frame} {meth : Method} {c : Code} {G : gG} {b L : Nat} {xs : Nat → Int32} {z0 m0 qo : Nat}
theorem lw_loop (F : LWF p l s m meth c G b L xs) (hr : meth.sig.returnType = ret) (hlocks : meth.locks = false) (hL : L ≤ 3072) : ∀ (n j : Nat), L + 6 ≤ 6 * j + n → 6 * j ≤ L + 5 → ∀ (H : Heap) (locs : List Loc) (ls : Array Slot), LWI G (fun q => s.heap.size ≤ q) (49500 * j) z0 m0 qo H → va_S (fun q => s.heap.size ≤ q) s.heap H locs → lv_has ls 7 [(0, .ref b), (1, .ref z0), (2, .ref m0), (3, .ref qo), (4, .int (nI (6 * j)))] → W p l e room_1 s m #[Value.ref b] below meth c H locs (100 + 60 * j) (9000 + 1000 * j) (lw_Z below #[Value.ref b] s) (F0 m 23 ls []) := by
  obtain ⟨⟨hx, hb, hml, hown, hts⟩, hfl, hN, hSt, hNc, hK, hX, hbl⟩ := id F
  have hbA : ¬ (fun q : Nat => s.heap.size ≤ q) b := Nat.not_le.mpr hbl
  intro n
  induction n with
  | zero =>
    intro j h1 h2
    omega
  | succ n ih =>
    intro j h1 h2 H locs ls hLI hS hl
    refine lv_iload hx hb dL_law_23 (lv_at hl 4 rfl) ?_
    refine lv_aload_n hx hb dL_law_25 rfl (lv_at hl 0 rfl) ?_
    refine va_slen hx hb hX hbl hbA hS dL_law_26 ?_
    refine lv_bipush (v := 6) hx hb dL_law_27 (by decide) ?_
    refine lv_isub hx hb dL_law_29 ?_
    have e6 : (Int32.ofNat L - 6).toInt = (L : Int) - 6 := pk_sub_toInt (a := L) (b := 6) (by omega) (by omega)
    have ei : (nI (6 * j)).toInt = ((6 * j : Nat) : Int) := nI_toInt (by omega)
    refine lv_icmp_gt (tgt := 2286) hx hb dL_law_30 (by decide) (fun _ => ?_) (fun c0 => ?_)
    · refine lv_iconst (v := 1) hx hb dL_law_2286 (by decide) ?_
      refine va_forget hS.2.2 ?_
      refine W.widen (k := 601024) (n := 7293034) (by omega) (by omega) ?_
      exact lw_ret hx hb hr hlocks dL_law_2287
    · rw [gI_lt, e6, ei] at c0
      have hi : 6 * j + 6 ≤ L := by omega
      refine lw_turn F hL hi hLI hS (by omega) hl (by omega) (by omega) (fun H locs ls hLI hS hl => ?_)
      refine lv_iinc (v := nI (6 * (j + 1))) (lv' := [(4, .int (nI (6 * (j + 1)))), (0, .ref b), (1, .ref z0), (2, .ref m0), (3, .ref qo)]) hx hb dL_law_2280 hl (k := 4) rfl ?_ (by decide) rfl (fun ls hl => ?_)
      · exact (nI_add (6 * j) 6)
      refine lv_goto (tgt := 23) hx hb dL_law_2283 (by decide) ?_
      have e1 : 100 + 60 * j + 60 = 100 + 60 * (j + 1) := by omega
      have e2 : 9000 + 1000 * j + 1000 = 9000 + 1000 * (j + 1) := by omega
      have e3 : 49500 * j + 49500 = 49500 * (j + 1) := by omega
      rw [e1, e2]
      rw [e3] at hLI
      exact ih (j + 1) (by omega) (by omega) H locs ls hLI hS (lv_sub hl [1, 2, 3, 4, 0] rfl)
end LWm
