def FB (f : Nat → Int32) : Prop := ∀ i : Nat, fits .byte (.int (f i)) = true
def sbN (q n : Nat) : Nat := if q ≤ n then n else 34
def sbF (q n : Nat) (f : Nat → Int32) : Nat → Int32 := if q ≤ n then f else va_cpy f (fun _ => 0) 0 0 16
def sbD (j : Nat) : Nat := if j < 10 then 1 else 2
theorem sbD_le (j : Nat) : 1 ≤ sbD j ∧ sbD j ≤ 2 := by unfold sbD; split <;> omega
theorem FB.cpy {f g : Nat → Int32} {a b k : Nat} (hf : FB f) (hg : FB g) : FB (va_cpy f g a b k) := by
  intro i
  unfold va_cpy
  split
  · exact hf _
  · exact hg _
theorem FB.zero : FB (fun _ => 0) := fun _ => rfl
theorem FB.F {f : Nat → Int32} {q n : Nat} (hf : FB f) : FB (sbF q n f) := by
  unfold sbF
  split
  · exact hf
  · exact hf.cpy FB.zero
theorem FB.upd {f : Nat → Int32} {k : Nat} {v : Int32} (hf : FB f) (hv : fits .byte (.int v) = true) : FB (upd f k v) := by
  intro i
  unfold Jvm.Pilot.@@N@@.upd
  split
  · exact hv
  · exact hf i
theorem gBy_fit : ∀ i : Nat, i < 21 → ∀ j : Nat, j < 6 → fits .byte (.int (gBy i j)) = true := by decide +kernel
theorem FB.cpyS {g : Nat → Int32} {i b : Nat} (hi : i < 21) (hg : FB g) : FB (va_cpy (gBy i) g 0 b (gLn i)) := by
  intro j
  have hl := gLn_le i hi
  unfold va_cpy
  split
  · exact gBy_fit i hi _ (by omega)
  · exact hg _
theorem sbN_ok {q n : Nat} (hn : n = 16 ∨ n = 34) (hq : q ≤ 34) : (sbN q n = 16 ∨ sbN q n = 34) ∧ q ≤ sbN q n ∧ n ≤ sbN q n := by
  unfold sbN
  split <;> omega
theorem ens_le {q n : Nat} (hq : q ≤ n) (hn : n < 2 ^ 30) : nI q - nI n ≤ 0 := by
  rw [Int32.le_iff_toInt_le, pk_sub_toInt (by omega) (by omega)]
  have : (0 : Int32).toInt = 0 := (by decide)
  omega
theorem ens_gt {q : Nat} (h1 : 16 < q) (hq : q ≤ 34) : ¬ nI q - 16 ≤ 0 := by
  intro h
  rw [Int32.le_iff_toInt_le, show (16 : Int32) = nI 16 from rfl, pk_sub_toInt (by omega) (by omega)] at h
  have : (0 : Int32).toInt = 0 := (by decide)
  omega
theorem gshl0 (x : Int32) : x <<< ((0 : Int32) &&& 31) = x := by
  have e : ((0 : Int32) &&& 31) = 0 := by decide
  rw [e]
  simp
theorem max18 {q : Nat} (h1 : 16 < q) (hq : q ≤ 34) : f_J9_max_7cf53 (nI q - 16) 18 = 18 := by
  unfold f_J9_max_7cf53
  have e : (nI q - 16).toInt = (q : Int) - 16 := by
    rw [show (16 : Int32) = nI 16 from rfl, pk_sub_toInt (by omega) (by omega)]
    rfl
  have e2 : (18 : Int32).toInt = 18 := by decide
  split
  · rfl
  · next h =>
    rw [Int32.lt_iff_toInt_lt] at h
    exact gI_ext (by omega)
theorem i2c_tab : ∀ k : Nat, k < 256 → UInt32.toInt32 (Int32.toUInt32 (nI k) % 65536) = nI k := by decide +kernel
theorem i2c_255 (x : Int32) : UInt32.toInt32 (Int32.toUInt32 (x &&& 255) % 65536) = x &&& 255 := by
  have h := gI_and255 x
  have e := gI_nI (x := x &&& 255) (by omega)
  have c := gI_clamp (x := x &&& 255) (by omega)
  rw [e]
  exact i2c_tab _ (by omega)
theorem nar_255 (x : Int32) : narrow .char (.int (x &&& 255)) = .int (x &&& 255) := congrArg Value.int (i2c_255 x)
set_option maxRecDepth 100000 in
set_option maxHeartbeats 4000000 in
theorem c_J5_isLatin1_aae02 (l : Launch) (hfl : l.stackTraces = false) (G : gG) (b0 : Nat) (v0 : Nat) (ml : Int32) (cnt : Int32) : gY l G yJ5_isLatin1_aae02 cJ5_isLatin1_aae02 1 (some .boolean) { frames := 0, cells := 0, slots := 0, locals := 0 } [.ref b0] [(b0, .inr (1, [.ref v0, .int 0, .int ml, .int cnt]))] (fun vv => (some (.int 1))) (fun vv => [(b0, .inr (1, [.ref v0, .int 0, .int ml, .int cnt]))]) 0 0 := by
  refine gyBegin (by decide +kernel) (Nat.le_of_ble_eq_true rfl) (fun p e s m args below meth c A F hr hlocks hname hN hSt hK hP hD hA hS ls hl => ?_)
  obtain ⟨hx, hb, hml, hown, hts⟩ := id F
  replace hP : va_P G.1 vwCl [(b0, .inr (1, [.ref v0, .int 0, .int ml, .int cnt]))] s.heap := hP
  replace hl : lv_has ls 1 [(0, .ref b0)] := hl
  refine va_gets (v := .int 1) hx hb hSt.2.2.2.1 hS hown (hts _ k_fl_J5_18) (fun _ h9 => h9) dJ5_isLatin1_aae02_0 ?_
  refine lv_if_eq (tgt := 17) hx hb dJ5_isLatin1_aae02_3 (by decide) (fun c_1 => ?_) (fun c_1 => ?_)
  · exact absurd c_1 (by decide)
  · skip
    refine lv_aload_n hx hb dJ5_isLatin1_aae02_6 rfl (lv_at hl 0 rfl) ?_
    refine va_get (D := G.1) (ci := 1) (v := .int 0) (C := RJ4) (T := TJ4) (N := 4) hx hb hts in_J4 hown hK hP 0 rfl rfl 1 (by decide) (hts _ k_fl_J5_22) (fun _ h9 => h9) rfl dJ5_isLatin1_aae02_7 ?_
    refine lv_if_ne (tgt := 17) hx hb dJ5_isLatin1_aae02_10 (by decide) (fun c_2 => ?_) (fun c_2 => ?_)
    · exact absurd c_2 (by decide)
    · skip
      refine lv_iconst (v := 1) hx hb dJ5_isLatin1_aae02_13 (by decide) ?_
      refine lv_goto (tgt := 18) hx hb dJ5_isLatin1_aae02_14 (by decide) ?_
      refine gyOf (r1 := some (.int 1)) (u1 := [(b0, .inr (1, [.ref v0, .int 0, .int ml, .int cnt]))]) 0 rfl rfl ?_
      exact gRetZ F hr hlocks hK hP hD hS rfl rfl rfl (Nat.le_of_ble_eq_true rfl) (Nat.le_of_ble_eq_true rfl) dJ5_isLatin1_aae02_18
theorem k_sm_J5_isLatin1_aae02 : Cond.sameMethod yJ5_isLatin1_aae02.cls yJ5_isLatin1_aae02.cls yJ5_isLatin1_aae02.name yJ5_isLatin1_aae02.desc ∈ gT := gT_t5 (i := 194) (by decide +kernel) (by decide +kernel)
theorem okU_J5_isLatin1_aae02 : gOkU RJ4 yJ5_isLatin1_aae02 cJ5_isLatin1_aae02 1 (some .boolean) 0 := ⟨⟨k_sm_J5_isLatin1_aae02, k_se_J5_isLatin1_aae02, k_im_J5_isLatin1_aae02, k_in_J5, k_cd_J5_isLatin1_aae02⟩, by decide, by decide, by decide +kernel⟩
set_option maxRecDepth 100000 in
set_option maxHeartbeats 4000000 in
theorem c_J5_length_8abf5 (l : Launch) (hfl : l.stackTraces = false) (G : gG) (b0 : Nat) (v0 : Nat) (ml : Int32) (cnt : Int32) : gY l G yJ5_length_8abf5 cJ5_length_8abf5 1 (some .int) { frames := 0, cells := 0, slots := 0, locals := 0 } [.ref b0] [(b0, .inr (1, [.ref v0, .int 0, .int ml, .int cnt]))] (fun vv => (some (.int cnt))) (fun vv => [(b0, .inr (1, [.ref v0, .int 0, .int ml, .int cnt]))]) 0 0 := by
  refine gyBegin (by decide +kernel) (Nat.le_of_ble_eq_true rfl) (fun p e s m args below meth c A F hr hlocks hname hN hSt hK hP hD hA hS ls hl => ?_)
  obtain ⟨hx, hb, hml, hown, hts⟩ := id F
  replace hP : va_P G.1 vwCl [(b0, .inr (1, [.ref v0, .int 0, .int ml, .int cnt]))] s.heap := hP
  replace hl : lv_has ls 1 [(0, .ref b0)] := hl
  refine lv_aload_n hx hb dJ5_length_8abf5_0 rfl (lv_at hl 0 rfl) ?_
  refine va_get (D := G.1) (ci := 1) (v := .int cnt) (C := RJ4) (T := TJ4) (N := 4) hx hb hts in_J4 hown hK hP 0 rfl rfl 3 (by decide) (hts _ k_fl_J5_79) (fun _ h9 => h9) rfl dJ5_length_8abf5_1 ?_
  refine gyOf (r1 := some (.int cnt)) (u1 := [(b0, .inr (1, [.ref v0, .int 0, .int ml, .int cnt]))]) 0 rfl rfl ?_
  exact gRetI F hr hlocks hK hP hD hS rfl rfl (Nat.le_of_ble_eq_true rfl) (Nat.le_of_ble_eq_true rfl) dJ5_length_8abf5_4
theorem k_sm_J5_length_8abf5 : Cond.sameMethod yJ5_length_8abf5.cls yJ5_length_8abf5.cls yJ5_length_8abf5.name yJ5_length_8abf5.desc ∈ gT := gT_t6 (i := 52) (by decide +kernel) (by decide +kernel)
theorem k_su_J4 : Cond.superclass RJ4 RJ5 ∈ gT := gT_t2 (i := 1) (by decide +kernel) (by decide +kernel)
theorem okSU_J5_length_8abf5 : gOkSU RJ4 yJ5_length_8abf5 cJ5_length_8abf5 1 (some .int) 0 := ⟨⟨k_sm_J5_length_8abf5, k_su_J4, k_im_J5_length_8abf5, k_in_J5, k_cd_J5_length_8abf5⟩, by decide, by decide +kernel⟩
set_option maxRecDepth 100000 in
set_option maxHeartbeats 4000000 in
theorem c_J4_length_8abf5 (l : Launch) (hfl : l.stackTraces = false) (G : gG) (b0 : Nat) (v0 : Nat) (ml : Int32) (cnt : Int32) : gY l G yJ4_length_8abf5 cJ4_length_8abf5 1 (some .int) { frames := 1, cells := 0, slots := 0, locals := 20 } [.ref b0] [(b0, .inr (1, [.ref v0, .int 0, .int ml, .int cnt]))] (fun vv => (some (.int cnt))) (fun vv => [(b0, .inr (1, [.ref v0, .int 0, .int ml, .int cnt]))]) 0 0 := by
  refine gyBegin (by decide +kernel) (Nat.le_of_ble_eq_true rfl) (fun p e s m args below meth c A F hr hlocks hname hN hSt hK hP hD hA hS ls hl => ?_)
  obtain ⟨hx, hb, hml, hown, hts⟩ := id F
  replace hP : va_P G.1 vwCl [(b0, .inr (1, [.ref v0, .int 0, .int ml, .int cnt]))] s.heap := hP
  replace hl : lv_has ls 1 [(0, .ref b0)] := hl
  refine lv_aload_n hx hb dJ4_length_8abf5_0 rfl (lv_at hl 0 rfl) ?_
  refine gySU (As := []) (rest := []) (wr := []) (ws' := fun v1_ => [(b0, .inr (1, [.ref v0, .int 0, .int ml, .int cnt]))]) F (c_J5_length_8abf5 l hfl G b0 v0 ml cnt) okSU_J5_length_8abf5 k_ml_J4_343 rfl rfl ⟨Nat.le_of_ble_eq_true rfl, Nat.le_of_ble_eq_true rfl⟩ hN hSt hK hP hD hS hA [0] [] [0] (by decide) rfl rfl (by decide) (by decide) (by decide) (fun _ => rfl) (q0 := 0) rfl rfl rfl rfl hl.1 (Nat.le_of_ble_eq_true rfl) dJ4_length_8abf5_1 ⟨Nat.le_of_ble_eq_true rfl, Nat.le_of_ble_eq_true rfl⟩ (fun v1_ H locs hP hD hS => ?_)
  refine gyOf (r1 := some (.int cnt)) (u1 := [(b0, .inr (1, [.ref v0, .int 0, .int ml, .int cnt]))]) 0 rfl rfl ?_
  exact gRetI F hr hlocks hK hP hD hS rfl rfl (Nat.le_of_ble_eq_true rfl) (Nat.le_of_ble_eq_true rfl) dJ4_length_8abf5_4
theorem okV_J4_length_8abf5 : gOkV yJ4_length_8abf5 cJ4_length_8abf5 1 (some .int) 0 := ⟨⟨k_im_J4_length_8abf5, k_se_J4_length_8abf5, k_in_J4, k_cd_J4_length_8abf5⟩, by decide, by decide, by decide +kernel⟩
set_option maxRecDepth 100000 in
set_option maxHeartbeats 4000000 in
theorem c_J5_charAt_5068e (l : Launch) (hfl : l.stackTraces = false) (G : gG) (b0 : Nat) (v0 : Nat) (ml : Int32) (k : Nat) (n : Nat) (f : Nat → Int32) (j : Nat) (hj : j < k) (hk : k ≤ n) (hn : n < 2 ^ 31) : gY l G yJ5_charAt_5068e cJ5_charAt_5068e 5 (some .char) { frames := 2, cells := 0, slots := 0, locals := 43 } [.ref b0, .int (nI j)] [(b0, .inr (1, [.ref v0, .int 0, .int ml, .int (nI k)])), (v0, .inl (G.2.1.2.2.2, n, .inl f))] (fun vv => (some (.int (f j &&& 255)))) (fun vv => [(b0, .inr (1, [.ref v0, .int 0, .int ml, .int (nI k)])), (v0, .inl (G.2.1.2.2.2, n, .inl f))]) 0 0 := by
  refine gyBegin (by decide +kernel) (Nat.le_of_ble_eq_true rfl) (fun p e s m args below meth c A F hr hlocks hname hN hSt hK hP hD hA hS ls hl => ?_)
  obtain ⟨hx, hb, hml, hown, hts⟩ := id F
  replace hP : va_P G.1 vwCl [(b0, .inr (1, [.ref v0, .int 0, .int ml, .int (nI k)])), (v0, .inl (G.2.1.2.2.2, n, .inl f))] s.heap := hP
  replace hl : lv_has ls 5 [(0, .ref b0), (1, .int (nI j))] := hl
  refine lv_aload_n hx hb dJ5_charAt_5068e_0 rfl (lv_at hl 0 rfl) ?_
  refine va_get (D := G.1) (ci := 1) (v := .int 0) (C := RJ4) (T := TJ4) (N := 4) hx hb hts in_J4 hown hK hP 0 rfl rfl 1 (by decide) (hts _ k_fl_J5_22) (fun _ h9 => h9) rfl dJ5_charAt_5068e_1 ?_
  refine lv_istore_n (lv' := [(2, .int 0), (0, .ref b0), (1, .int (nI j))]) hx hb dJ5_charAt_5068e_4 rfl hl (by decide) rfl (fun ls hl => ?_)
  refine lv_aload_n hx hb dJ5_charAt_5068e_5 rfl (lv_at hl 1 rfl) ?_
  refine va_get (D := G.1) (ci := 1) (v := .ref v0) (C := RJ4) (T := TJ4) (N := 4) hx hb hts in_J4 hown hK hP 0 rfl rfl 0 (by decide) (hts _ k_fl_J5_15) (fun _ h9 => h9) rfl dJ5_charAt_5068e_6 ?_
  refine lv_astore_n (lv' := [(3, .ref v0), (2, .int 0), (0, .ref b0), (1, .int (nI j))]) hx hb dJ5_charAt_5068e_9 rfl hl (by decide) rfl (fun ls hl => ?_)
  refine lv_aload_n hx hb dJ5_charAt_5068e_10 rfl (lv_at hl 2 rfl) ?_
  refine va_get (D := G.1) (ci := 1) (v := .int (nI k)) (C := RJ4) (T := TJ4) (N := 4) hx hb hts in_J4 hown hK hP 0 rfl rfl 3 (by decide) (hts _ k_fl_J5_79) (fun _ h9 => h9) rfl dJ5_charAt_5068e_11 ?_
  refine lv_aload_n hx hb dJ5_charAt_5068e_14 rfl (lv_at hl 0 rfl) ?_
  refine va_alen (v := (nI n)) hx hb hK hP 1 3 rfl rfl rfl dJ5_charAt_5068e_15 ?_
  refine lv_iload_n hx hb dJ5_charAt_5068e_16 rfl (lv_at hl 1 rfl) ?_
  refine lv_ishr hx hb dJ5_charAt_5068e_17 ?_
  refine W.eq (congrArg (fun z => F0 m _ ls (.int z :: _)) (gshr0 _ : ((((nI n) >>> ((0 : Int32) &&& 31)) : Int32) : Int32) = (nI n))) ?_
  refine gS (As := [.int (nI k), .int (nI n)]) (rest := []) (wr := [(b0, .inr (1, [.ref v0, .int 0, .int ml, .int (nI k)])), (v0, .inl (G.2.1.2.2.2, n, .inl f))]) (ws' := [(b0, .inr (1, [.ref v0, .int 0, .int ml, .int (nI k)])), (v0, .inl (G.2.1.2.2.2, n, .inl f))]) F (c_J9_min_7cf53 l G (nI k) (nI n)) okS_J9_min_7cf53 k_ml_J5_138 rfl rfl ⟨Nat.le_of_ble_eq_true rfl, Nat.le_of_ble_eq_true rfl⟩ hN hK hP hD hS hA [] [0, 1] [0, 1] (by decide) rfl rfl (by decide) (by decide) (by decide) rfl rfl rfl hl.1 (Nat.le_of_ble_eq_true rfl) dJ5_charAt_5068e_18 ⟨Nat.le_of_ble_eq_true rfl, Nat.le_of_ble_eq_true rfl⟩ (fun H locs hP hD hS => ?_)
  refine W.eq (congrArg (fun z => F0 m _ ls (.int z :: _)) ((by unfold f_J9_min_7cf53; exact if_neg (nI_nlt hk hn)) : ((f_J9_min_7cf53 (nI k) (nI n)) : Int32) = (nI k))) ?_
  refine lv_istore (lv' := [(4, .int (nI k)), (3, .ref v0), (2, .int 0), (0, .ref b0), (1, .int (nI j))]) hx hb dJ5_charAt_5068e_21 hl (by decide) rfl (fun ls hl => ?_)
  refine lv_iload_n hx hb dJ5_charAt_5068e_23 rfl (lv_at hl 4 rfl) ?_
  refine lv_iload hx hb dJ5_charAt_5068e_24 (lv_at hl 0 rfl) ?_
  refine gxS (As := [.int (nI j), .int (nI k)]) (rest := []) (wr := [(b0, .inr (1, [.ref v0, .int 0, .int ml, .int (nI k)])), (v0, .inl (G.2.1.2.2.2, n, .inl f))]) (ws' := [(b0, .inr (1, [.ref v0, .int 0, .int ml, .int (nI k)])), (v0, .inl (G.2.1.2.2.2, n, .inl f))]) F (c_J0_checkIndex_df160 l hfl G j k hj (by omega)) okS_J0_checkIndex_df160 k_ml_J5_144 rfl rfl ⟨Nat.le_of_ble_eq_true rfl, Nat.le_of_ble_eq_true rfl⟩ hN hSt hK hP hD hS hA [] [0, 1] [0, 1] (by decide) rfl rfl (by decide) (by decide) (by decide) rfl rfl rfl rfl hl.1 (Nat.le_of_ble_eq_true rfl) dJ5_charAt_5068e_26 ⟨Nat.le_of_ble_eq_true rfl, Nat.le_of_ble_eq_true rfl⟩ (fun _ H locs hP hD hS => ?_) (fun E9 ce9 q9 H locs x9 hP hD hS h91 h92 h93 => (Option.some_ne_none _ x9.symm).elim)
  refine lv_iload_n hx hb dJ5_charAt_5068e_29 rfl (lv_at hl 2 rfl) ?_
  refine lv_if_ne (tgt := 42) hx hb dJ5_charAt_5068e_30 (by decide) (fun c_2 => ?_) (fun c_2 => ?_)
  · exact absurd c_2 (by decide)
  · skip
    refine lv_aload_n hx hb dJ5_charAt_5068e_33 rfl (lv_at hl 1 rfl) ?_
    refine lv_iload_n hx hb dJ5_charAt_5068e_34 rfl (lv_at hl 4 rfl) ?_
    refine va_bald hx hb hK hP 1 3 rfl rfl (nI_in (by omega) (by omega)) dJ5_charAt_5068e_35 ?_
    refine W.eq (congrArg (fun z => F0 m _ ls (.int z :: _)) (congrArg f (nI_clamp (by omega)) : ((f (Int32.toNatClampNeg (nI j))) : Int32) = (f j))) ?_
    refine lv_sipush (v := 255) hx hb dJ5_charAt_5068e_36 (by decide) ?_
    refine lv_iand hx hb dJ5_charAt_5068e_39 ?_
    refine lv_i2c (v := (UInt32.toInt32 (Int32.toUInt32 ((f j) &&& 255) % 65536))) hx hb dJ5_charAt_5068e_40 rfl ?_
    refine W.eq (congrArg (fun z => F0 m _ ls (.int z :: _)) (i2c_255 _ : ((UInt32.toInt32 (Int32.toUInt32 ((f j) &&& 255) % 65536)) : Int32) = (f j &&& 255))) ?_
    refine gyOf (r1 := some (.int (f j &&& 255))) (u1 := [(b0, .inr (1, [.ref v0, .int 0, .int ml, .int (nI k)])), (v0, .inl (G.2.1.2.2.2, n, .inl f))]) 0 rfl rfl ?_
    exact gRetT (rt := .char) F hr hlocks hK hP hD hS (nar_255 _) rfl rfl (Nat.le_of_ble_eq_true rfl) (Nat.le_of_ble_eq_true rfl) dJ5_charAt_5068e_41
theorem k_sm_J5_charAt_5068e : Cond.sameMethod yJ5_charAt_5068e.cls yJ5_charAt_5068e.cls yJ5_charAt_5068e.name yJ5_charAt_5068e.desc ∈ gT := gT_t9 (i := 23) (by decide +kernel) (by decide +kernel)
theorem okSU_J5_charAt_5068e : gOkSU RJ4 yJ5_charAt_5068e cJ5_charAt_5068e 5 (some .char) 1 := ⟨⟨k_sm_J5_charAt_5068e, k_su_J4, k_im_J5_charAt_5068e, k_in_J5, k_cd_J5_charAt_5068e⟩, by decide, by decide +kernel⟩
set_option maxRecDepth 100000 in
set_option maxHeartbeats 4000000 in
theorem c_J4_charAt_5068e (l : Launch) (hfl : l.stackTraces = false) (G : gG) (b0 : Nat) (v0 : Nat) (ml : Int32) (k : Nat) (n : Nat) (f : Nat → Int32) (j : Nat) (hj : j < k) (hk : k ≤ n) (hn : n < 2 ^ 31) : gY l G yJ4_charAt_5068e cJ4_charAt_5068e 2 (some .char) { frames := 3, cells := 0, slots := 0, locals := 67 } [.ref b0, .int (nI j)] [(b0, .inr (1, [.ref v0, .int 0, .int ml, .int (nI k)])), (v0, .inl (G.2.1.2.2.2, n, .inl f))] (fun vv => (some (.int (f j &&& 255)))) (fun vv => [(b0, .inr (1, [.ref v0, .int 0, .int ml, .int (nI k)])), (v0, .inl (G.2.1.2.2.2, n, .inl f))]) 0 0 := by
  refine gyBegin (by decide +kernel) (Nat.le_of_ble_eq_true rfl) (fun p e s m args below meth c A F hr hlocks hname hN hSt hK hP hD hA hS ls hl => ?_)
  obtain ⟨hx, hb, hml, hown, hts⟩ := id F
  replace hP : va_P G.1 vwCl [(b0, .inr (1, [.ref v0, .int 0, .int ml, .int (nI k)])), (v0, .inl (G.2.1.2.2.2, n, .inl f))] s.heap := hP
  replace hl : lv_has ls 2 [(0, .ref b0), (1, .int (nI j))] := hl
  refine lv_aload_n hx hb dJ4_charAt_5068e_0 rfl (lv_at hl 0 rfl) ?_
  refine lv_iload_n hx hb dJ4_charAt_5068e_1 rfl (lv_at hl 1 rfl) ?_
  refine gySU (As := [.int (nI j)]) (rest := []) (wr := []) (ws' := fun v1_ => [(b0, .inr (1, [.ref v0, .int 0, .int ml, .int (nI k)])), (v0, .inl (G.2.1.2.2.2, n, .inl f))]) F (c_J5_charAt_5068e l hfl G b0 v0 ml k n f j hj hk hn) okSU_J5_charAt_5068e k_ml_J4_329 rfl rfl ⟨Nat.le_of_ble_eq_true rfl, Nat.le_of_ble_eq_true rfl⟩ hN hSt hK hP hD hS hA [0, 1] [] [0, 1] (by decide) rfl rfl (by decide) (by decide) (by decide) (fun _ => rfl) (q0 := 0) rfl rfl rfl rfl hl.1 (Nat.le_of_ble_eq_true rfl) dJ4_charAt_5068e_2 ⟨Nat.le_of_ble_eq_true rfl, Nat.le_of_ble_eq_true rfl⟩ (fun v1_ H locs hP hD hS => ?_)
  refine gyOf (r1 := some (.int (f j &&& 255))) (u1 := [(b0, .inr (1, [.ref v0, .int 0, .int ml, .int (nI k)])), (v0, .inl (G.2.1.2.2.2, n, .inl f))]) 0 rfl rfl ?_
  exact gRetT (rt := .char) F hr hlocks hK hP hD hS (nar_255 _) rfl rfl (Nat.le_of_ble_eq_true rfl) (Nat.le_of_ble_eq_true rfl) dJ4_charAt_5068e_5
theorem okV_J4_charAt_5068e : gOkV yJ4_charAt_5068e cJ4_charAt_5068e 2 (some .char) 1 := ⟨⟨k_im_J4_charAt_5068e, k_se_J4_charAt_5068e, k_in_J4, k_cd_J4_charAt_5068e⟩, by decide, by decide, by decide +kernel⟩
def f_J8_newLength_cabcc  : Int32 :=
  34
set_option maxRecDepth 100000 in
set_option maxHeartbeats 4000000 in
theorem c_J8_newLength_cabcc (l : Launch) (G : gG) (q : Nat) (hq : 16 < q) (hq2 : q ≤ 34) : gM l G yJ8_newLength_cabcc cJ8_newLength_cabcc 4 (some .int) { frames := 1, cells := 0, slots := 0, locals := 21 } [.int 16, .int ((nI q) - 16), .int 18] [] (some (.int f_J8_newLength_cabcc)) [] 0 0 := by
  refine gBegin (by decide +kernel) (Nat.le_of_ble_eq_true rfl) (fun p e s m args below meth c A F hr hlocks hname hN hK hP hD hA hS ls hl => ?_)
  obtain ⟨hx, hb, hml, hown, hts⟩ := id F
  replace hP : va_P G.1 vwCl [] s.heap := hP
  replace hl : lv_has ls 4 [(0, .int 16), (1, .int ((nI q) - 16)), (2, .int 18)] := hl
  refine lv_iload_n hx hb dJ8_newLength_cabcc_0 rfl (lv_at hl 0 rfl) ?_
  refine lv_iload_n hx hb dJ8_newLength_cabcc_1 rfl (lv_at hl 1 rfl) ?_
  refine lv_iload_n hx hb dJ8_newLength_cabcc_2 rfl (lv_at hl 2 rfl) ?_
  refine gS (As := [.int ((nI q) - 16), .int 18]) (rest := [.int 16]) (wr := []) (ws' := []) F (c_J9_max_7cf53 l G ((nI q) - 16) 18) okS_J9_max_7cf53 k_ml_J8_194 rfl rfl ⟨Nat.le_of_ble_eq_true rfl, Nat.le_of_ble_eq_true rfl⟩ hN hK hP hD hS hA [] [] [] (by decide) rfl rfl (by decide) (by decide) (by decide) rfl rfl rfl hl.1 (Nat.le_of_ble_eq_true rfl) dJ8_newLength_cabcc_3 ⟨Nat.le_refl _, Nat.le_refl _⟩ (fun H locs hP hD hS => ?_)
  refine W.eq (congrArg (fun z => F0 m _ ls (.int z :: _)) (max18 hq hq2 : ((f_J9_max_7cf53 ((nI q) - 16) 18) : Int32) = 18)) ?_
  refine lv_iadd hx hb dJ8_newLength_cabcc_6 ?_
  refine W.eq (congrArg (fun z => F0 m _ ls (.int z :: _)) (rfl : ((16 + 18) : Int32) = 34)) ?_
  refine lv_istore_n (lv' := [(3, .int 34), (0, .int 16), (1, .int ((nI q) - 16)), (2, .int 18)]) hx hb dJ8_newLength_cabcc_7 rfl hl (by decide) rfl (fun ls hl => ?_)
  refine lv_iconst (v := 0) hx hb dJ8_newLength_cabcc_8 (by decide) ?_
  refine lv_iload_n hx hb dJ8_newLength_cabcc_9 rfl (lv_at hl 0 rfl) ?_
  refine lv_icmp_ge (tgt := 21) hx hb dJ8_newLength_cabcc_10 (by decide) (fun c_1 => ?_) (fun c_1 => ?_)
  · exact absurd c_1 (by decide)
  · skip
    refine lv_iload_n hx hb dJ8_newLength_cabcc_13 rfl (lv_at hl 0 rfl) ?_
    refine lv_ldc (v := 2147483639) hx hb hown (hts _ k_co_J8_200) dJ8_newLength_cabcc_14 ?_
    refine lv_icmp_gt (tgt := 21) hx hb dJ8_newLength_cabcc_16 (by decide) (fun c_2 => ?_) (fun c_2 => ?_)
    · exact absurd c_2 (by decide)
    · skip
      refine lv_iload_n hx hb dJ8_newLength_cabcc_19 rfl (lv_at hl 0 rfl) ?_
      exact gRetI F hr hlocks hK hP hD hS rfl rfl (Nat.le_of_ble_eq_true rfl) (Nat.le_of_ble_eq_true rfl) dJ8_newLength_cabcc_20
theorem okS_J8_newLength_cabcc : gOkS yJ8_newLength_cabcc cJ8_newLength_cabcc 4 (some .int) 3 := ⟨⟨k_st_J8_newLength_cabcc, k_in_J8, k_cd_J8_newLength_cabcc⟩, by decide, by decide, by decide +kernel⟩
set_option maxRecDepth 100000 in
set_option maxHeartbeats 4000000 in
theorem c_J5_newCapacity_0f7a4 (l : Launch) (hfl : l.stackTraces = false) (G : gG) (b0 : Nat) (v0 : Nat) (ml : Int32) (cnt : Int32) (f : Nat → Int32) (q : Nat) (hq : 16 < q) (hq2 : q ≤ 34) : gY l G yJ5_newCapacity_0f7a4 cJ5_newCapacity_0f7a4 6 (some .int) { frames := 2, cells := 0, slots := 0, locals := 44 } [.ref b0, .int (nI q)] [(b0, .inr (1, [.ref v0, .int 0, .int ml, .int cnt])), (v0, .inl (G.2.1.2.2.2, 16, .inl f))] (fun vv => (some (.int 34))) (fun vv => [(b0, .inr (1, [.ref v0, .int 0, .int ml, .int cnt])), (v0, .inl (G.2.1.2.2.2, 16, .inl f))]) 0 0 := by
  refine gyBegin (by decide +kernel) (Nat.le_of_ble_eq_true rfl) (fun p e s m args below meth c A F hr hlocks hname hN hSt hK hP hD hA hS ls hl => ?_)
  obtain ⟨hx, hb, hml, hown, hts⟩ := id F
  replace hP : va_P G.1 vwCl [(b0, .inr (1, [.ref v0, .int 0, .int ml, .int cnt])), (v0, .inl (G.2.1.2.2.2, 16, .inl f))] s.heap := hP
  replace hl : lv_has ls 6 [(0, .ref b0), (1, .int (nI q))] := hl
  refine lv_aload_n hx hb dJ5_newCapacity_0f7a4_0 rfl (lv_at hl 0 rfl) ?_
  refine va_get (D := G.1) (ci := 1) (v := .ref v0) (C := RJ4) (T := TJ4) (N := 4) hx hb hts in_J4 hown hK hP 0 rfl rfl 0 (by decide) (hts _ k_fl_J5_15) (fun _ h9 => h9) rfl dJ5_newCapacity_0f7a4_1 ?_
  refine va_alen (v := 16) hx hb hK hP 1 3 rfl rfl rfl dJ5_newCapacity_0f7a4_4 ?_
  refine lv_istore_n (lv' := [(2, .int 16), (0, .ref b0), (1, .int (nI q))]) hx hb dJ5_newCapacity_0f7a4_5 rfl hl (by decide) rfl (fun ls hl => ?_)
  refine lv_iload_n hx hb dJ5_newCapacity_0f7a4_6 rfl (lv_at hl 2 rfl) ?_
  refine lv_aload_n hx hb dJ5_newCapacity_0f7a4_7 rfl (lv_at hl 1 rfl) ?_
  refine va_get (D := G.1) (ci := 1) (v := .int 0) (C := RJ4) (T := TJ4) (N := 4) hx hb hts in_J4 hown hK hP 0 rfl rfl 1 (by decide) (hts _ k_fl_J5_22) (fun _ h9 => h9) rfl dJ5_newCapacity_0f7a4_8 ?_
  refine lv_ishl hx hb dJ5_newCapacity_0f7a4_11 ?_
  refine W.eq (congrArg (fun z => F0 m _ ls (.int z :: _)) (gshl0 _ : ((((nI q) <<< ((0 : Int32) &&& 31)) : Int32) : Int32) = (nI q))) ?_
  refine lv_istore_n (lv' := [(3, .int (nI q)), (2, .int 16), (0, .ref b0), (1, .int (nI q))]) hx hb dJ5_newCapacity_0f7a4_12 rfl hl (by decide) rfl (fun ls hl => ?_)
  refine lv_iload_n hx hb dJ5_newCapacity_0f7a4_13 rfl (lv_at hl 0 rfl) ?_
  refine lv_iload_n hx hb dJ5_newCapacity_0f7a4_14 rfl (lv_at hl 1 rfl) ?_
  refine lv_isub hx hb dJ5_newCapacity_0f7a4_15 ?_
  refine lv_istore (lv' := [(4, .int ((nI q) - 16)), (3, .int (nI q)), (2, .int 16), (0, .ref b0), (1, .int (nI q))]) hx hb dJ5_newCapacity_0f7a4_16 hl (by decide) rfl (fun ls hl => ?_)
  refine lv_iload_n hx hb dJ5_newCapacity_0f7a4_18 rfl (lv_at hl 2 rfl) ?_
  refine lv_iload hx hb dJ5_newCapacity_0f7a4_19 (lv_at hl 0 rfl) ?_
  refine lv_iload_n hx hb dJ5_newCapacity_0f7a4_21 rfl (lv_at hl 2 rfl) ?_
  refine lv_iconst (v := 2) hx hb dJ5_newCapacity_0f7a4_22 (by decide) ?_
  refine lv_aload_n hx hb dJ5_newCapacity_0f7a4_23 rfl (lv_at hl 3 rfl) ?_
  refine va_get (D := G.1) (ci := 1) (v := .int 0) (C := RJ4) (T := TJ4) (N := 4) hx hb hts in_J4 hown hK hP 0 rfl rfl 1 (by decide) (hts _ k_fl_J5_22) (fun _ h9 => h9) rfl dJ5_newCapacity_0f7a4_24 ?_
  refine lv_ishl hx hb dJ5_newCapacity_0f7a4_27 ?_
  refine W.eq (congrArg (fun z => F0 m _ ls (.int z :: _)) (gshl0 _ : ((((2 : Int32) <<< ((0 : Int32) &&& 31)) : Int32) : Int32) = 2)) ?_
  refine lv_iadd hx hb dJ5_newCapacity_0f7a4_28 ?_
  refine W.eq (congrArg (fun z => F0 m _ ls (.int z :: _)) (rfl : ((16 + 2) : Int32) = 18)) ?_
  refine gS (As := [.int 16, .int ((nI q) - 16), .int 18]) (rest := []) (wr := [(b0, .inr (1, [.ref v0, .int 0, .int ml, .int cnt])), (v0, .inl (G.2.1.2.2.2, 16, .inl f))]) (ws' := [(b0, .inr (1, [.ref v0, .int 0, .int ml, .int cnt])), (v0, .inl (G.2.1.2.2.2, 16, .inl f))]) F (c_J8_newLength_cabcc l G q hq hq2) okS_J8_newLength_cabcc k_ml_J5_114 rfl rfl ⟨Nat.le_of_ble_eq_true rfl, Nat.le_of_ble_eq_true rfl⟩ hN hK hP hD hS hA [] [0, 1] [0, 1] (by decide) rfl rfl (by decide) (by decide) (by decide) rfl rfl rfl hl.1 (Nat.le_of_ble_eq_true rfl) dJ5_newCapacity_0f7a4_29 ⟨Nat.le_of_ble_eq_true rfl, Nat.le_of_ble_eq_true rfl⟩ (fun H locs hP hD hS => ?_)
  refine W.eq (congrArg (fun z => F0 m _ ls (.int z :: _)) (rfl : (f_J8_newLength_cabcc : Int32) = 34)) ?_
  refine lv_istore (lv' := [(5, .int 34), (4, .int ((nI q) - 16)), (3, .int (nI q)), (2, .int 16), (0, .ref b0), (1, .int (nI q))]) hx hb dJ5_newCapacity_0f7a4_32 hl (by decide) rfl (fun ls hl => ?_)
  refine lv_iload hx hb dJ5_newCapacity_0f7a4_34 (lv_at hl 0 rfl) ?_
  refine lv_ldc (v := 2147483647) hx hb hown (hts _ k_co_J5_39) dJ5_newCapacity_0f7a4_36 ?_
  refine lv_icmp_ne (tgt := 51) hx hb dJ5_newCapacity_0f7a4_38 (by decide) (fun c_1 => ?_) (fun c_1 => ?_)
  · skip
    refine lv_iload hx hb dJ5_newCapacity_0f7a4_51 (lv_at hl 0 rfl) ?_
    refine lv_aload_n hx hb dJ5_newCapacity_0f7a4_53 rfl (lv_at hl 4 rfl) ?_
    refine va_get (D := G.1) (ci := 1) (v := .int 0) (C := RJ4) (T := TJ4) (N := 4) hx hb hts in_J4 hown hK hP 0 rfl rfl 1 (by decide) (hts _ k_fl_J5_22) (fun _ h9 => h9) rfl dJ5_newCapacity_0f7a4_54 ?_
    refine lv_ishr hx hb dJ5_newCapacity_0f7a4_57 ?_
    refine W.eq (congrArg (fun z => F0 m _ ls (.int z :: _)) (gshr0 _ : ((((34 : Int32) >>> ((0 : Int32) &&& 31)) : Int32) : Int32) = 34)) ?_
    refine gyOf (r1 := some (.int 34)) (u1 := [(b0, .inr (1, [.ref v0, .int 0, .int ml, .int cnt])), (v0, .inl (G.2.1.2.2.2, 16, .inl f))]) 0 rfl rfl ?_
    exact gRetI F hr hlocks hK hP hD hS rfl rfl (Nat.le_of_ble_eq_true rfl) (Nat.le_of_ble_eq_true rfl) dJ5_newCapacity_0f7a4_58
  · exact absurd c_1 (by decide)
theorem k_sm_J5_newCapacity_0f7a4 : Cond.sameMethod yJ5_newCapacity_0f7a4.cls yJ5_newCapacity_0f7a4.cls yJ5_newCapacity_0f7a4.name yJ5_newCapacity_0f7a4.desc ∈ gT := gT_t9 (i := 16) (by decide +kernel) (by decide +kernel)
theorem okP_J5_newCapacity_0f7a4 : gOkP yJ5_newCapacity_0f7a4 cJ5_newCapacity_0f7a4 6 (some .int) 1 := ⟨⟨k_sm_J5_newCapacity_0f7a4, (by decide +kernel), k_im_J5_newCapacity_0f7a4, k_in_J5, k_cd_J5_newCapacity_0f7a4⟩, by decide, by decide, by decide +kernel⟩
set_option maxRecDepth 100000 in
set_option maxHeartbeats 4000000 in
theorem c_J7_copyOf_9075b (l : Launch) (hfl : l.stackTraces = false) (G : gG) (v0 : Nat) (f : Nat → Int32) (hF : FB f) : gY l G yJ7_copyOf_9075b cJ7_copyOf_9075b 3 (some (.array .byte)) { frames := 1, cells := 1, slots := 34, locals := 80 } [.ref v0, .int 34] [(v0, .inl (G.2.1.2.2.2, 16, .inl f))] (fun vv => (some (.ref vv))) (fun vv => [(v0, .inl (G.2.1.2.2.2, 16, .inl f)), (vv, .inl (G.2.1.2.2.2, 34, .inl (va_cpy f (fun _ => 0) 0 0 16)))]) 1 34 := by
  refine gyBegin (by decide +kernel) (Nat.le_of_ble_eq_true rfl) (fun p e s m args below meth c A F hr hlocks hname hN hSt hK hP hD hA hS ls hl => ?_)
  obtain ⟨hx, hb, hml, hown, hts⟩ := id F
  replace hP : va_P G.1 vwCl [(v0, .inl (G.2.1.2.2.2, 16, .inl f))] s.heap := hP
  replace hl : lv_has ls 3 [(0, .ref v0), (1, .int 34)] := hl
  refine lv_iload_n hx hb dJ7_copyOf_9075b_0 rfl (lv_at hl 1 rfl) ?_
  refine lv_aload_n hx hb dJ7_copyOf_9075b_1 rfl (lv_at hl 0 rfl) ?_
  refine va_alen (v := 16) hx hb hK hP 0 3 rfl rfl rfl dJ7_copyOf_9075b_2 ?_
  refine lv_icmp_ne (tgt := 14) hx hb dJ7_copyOf_9075b_3 (by decide) (fun c_1 => ?_) (fun c_1 => ?_)
  · skip
    refine lv_iload_n hx hb dJ7_copyOf_9075b_14 rfl (lv_at hl 1 rfl) ?_
    refine gNewa (atype := .byte) (a0 := (34, .inl (fun _ => 0))) (N' := 34) hx hb (hts _ k_ac_byte) rfl hK hP hD hS hA 3 rfl (fun _ => rfl) (by decide) (by decide) (by decide) (Nat.le_of_ble_eq_true rfl) (Nat.le_of_ble_eq_true rfl) dJ7_copyOf_9075b_15 (fun q2_ H hP hD hS => ?_)
    replace hP : va_P G.1 vwCl [(v0, .inl (G.2.1.2.2.2, 16, .inl f)), (q2_, .inl (G.2.1.2.2.2, 34, .inl (fun _ => 0)))] H := hP
    replace hD : va_D A [(v0, .inl (G.2.1.2.2.2, 16, .inl f)), (q2_, .inl (G.2.1.2.2.2, 34, .inl (fun _ => 0)))] := hD
    refine lv_astore_n (lv' := [(2, .ref q2_), (0, .ref v0), (1, .int 34)]) hx hb dJ7_copyOf_9075b_17 rfl hl (by decide) rfl (fun ls hl => ?_)
    refine lv_aload_n hx hb dJ7_copyOf_9075b_18 rfl (lv_at hl 1 rfl) ?_
    refine lv_iconst (v := 0) hx hb dJ7_copyOf_9075b_19 (by decide) ?_
    refine lv_aload_n hx hb dJ7_copyOf_9075b_20 rfl (lv_at hl 0 rfl) ?_
    refine lv_iconst (v := 0) hx hb dJ7_copyOf_9075b_21 (by decide) ?_
    refine lv_aload_n hx hb dJ7_copyOf_9075b_22 rfl (lv_at hl 1 rfl) ?_
    refine va_alen (v := 16) hx hb hK hP 0 3 rfl rfl rfl dJ7_copyOf_9075b_23 ?_
    refine lv_iload_n hx hb dJ7_copyOf_9075b_24 rfl (lv_at hl 2 rfl) ?_
    refine gS (As := [.int 16, .int 34]) (rest := [.int 0, .ref q2_, .int 0, .ref v0]) (wr := [(v0, .inl (G.2.1.2.2.2, 16, .inl f)), (q2_, .inl (G.2.1.2.2.2, 34, .inl (fun _ => 0)))]) (ws' := [(v0, .inl (G.2.1.2.2.2, 16, .inl f)), (q2_, .inl (G.2.1.2.2.2, 34, .inl (fun _ => 0)))]) F (c_J9_min_7cf53 l G 16 34) okS_J9_min_7cf53 k_ml_J7_304 rfl rfl ⟨Nat.le_of_ble_eq_true rfl, Nat.le_of_ble_eq_true rfl⟩ hN hK hP hD hS hA [] [0, 1] [0, 1] (by decide) rfl rfl (by decide) (by decide) (by decide) rfl rfl rfl hl.1 (Nat.le_of_ble_eq_true rfl) dJ7_copyOf_9075b_25 ⟨Nat.le_of_ble_eq_true rfl, Nat.le_of_ble_eq_true rfl⟩ (fun H locs hP hD hS => ?_)
    refine W.eq (congrArg (fun z => F0 m _ ls (.int z :: _)) (rfl : ((f_J9_min_7cf53 16 34) : Int32) = 16)) ?_
    refine va_copyi (ty := .byte) hx hb (hml.trans hl.1.symm) hown (hts _ k_ml_J7_150) (hts _ k_na_ac) (hts _ k_st_ac) (hts _ k_in_J10) hK hP hD hS 0 1 3 3 rfl rfl rfl rfl rfl (by decide) (by decide) (by decide) (by decide) (by decide) (fun _ _ => hF _) (Nat.le_of_ble_eq_true rfl) (by decide +kernel) dJ7_copyOf_9075b_28 (fun H locs hP hD hS => ?_)
    replace hP : va_P G.1 vwCl [(v0, .inl (G.2.1.2.2.2, 16, .inl f)), (q2_, .inl (G.2.1.2.2.2, 34, .inl (va_cpy f (fun _ => 0) 0 0 16)))] H := hP
    replace hD : va_D A [(v0, .inl (G.2.1.2.2.2, 16, .inl f)), (q2_, .inl (G.2.1.2.2.2, 34, .inl (va_cpy f (fun _ => 0) 0 0 16)))] := hD
    refine lv_aload_n hx hb dJ7_copyOf_9075b_31 rfl (lv_at hl 0 rfl) ?_
    refine gyOf (r1 := some (.ref q2_)) (u1 := [(v0, .inl (G.2.1.2.2.2, 16, .inl f)), (q2_, .inl (G.2.1.2.2.2, 34, .inl (va_cpy f (fun _ => 0) 0 0 16)))]) q2_ rfl rfl ?_
    exact gRetA F hr (Or.inr ⟨_, rfl⟩) hlocks hK hP hD hS rfl rfl (Nat.le_of_ble_eq_true rfl) (Nat.le_of_ble_eq_true rfl) dJ7_copyOf_9075b_32
  · exact absurd c_1 (by decide)
theorem okS_J7_copyOf_9075b : gOkS yJ7_copyOf_9075b cJ7_copyOf_9075b 3 (some (.array .byte)) 2 := ⟨⟨k_st_J7_copyOf_9075b, k_in_J7, k_cd_J7_copyOf_9075b⟩, by decide, by decide, by decide +kernel⟩
