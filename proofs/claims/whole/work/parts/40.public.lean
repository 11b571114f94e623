theorem sN {a : String} (h : (some a : Option String) = none) : False := Option.some_ne_none _ h
theorem rt_rng {x : Int32} (h : th_X6_requireTank x = none) : 0 ≤ x.toInt ∧ x.toInt < 8 := by
  unfold th_X6_requireTank at h
  have z0 : (0 : Int32).toInt = 0 := by decide
  have z8 : (8 : Int32).toInt = 8 := by decide
  split at h
  · exact (sN h).elim
  · next a =>
    split at h
    · next b => rw [gI_lt] at a b; omega
    · exact (sN h).elim
theorem rl_rng {x y : Int32} (h : th_X6_requireLocation x y = none) : (0 ≤ x.toInt ∧ x.toInt < 8) ∧ 0 ≤ y.toInt ∧ y.toInt < 32 := by
  unfold th_X6_requireLocation at h
  have z0 : (0 : Int32).toInt = 0 := by decide
  have z8 : (8 : Int32).toInt = 8 := by decide
  have z32 : (32 : Int32).toInt = 32 := by decide
  split at h
  · exact (sN h).elim
  · next a =>
    split at h
    · exact (sN h).elim
    · next b =>
      split at h
      · exact (sN h).elim
      · next c =>
        split at h
        · next d => rw [gI_lt] at a c d; rw [gI_le] at b; omega
        · exact (sN h).elim
theorem rc_rng {x y : Int32} (h : th_X6_requireCount x y = none) : 1 ≤ x.toInt ∧ x.toInt ≤ y.toInt := by
  unfold th_X6_requireCount at h
  have z1 : (1 : Int32).toInt = 1 := by decide
  split at h
  · exact (sN h).elim
  · next a =>
    split at h
    · next b => rw [gI_lt] at a; rw [gI_le] at b; omega
    · exact (sN h).elim
theorem rc_500 {x : Int32} (h : th_X6_requireCount x 500 = none) : 1 ≤ x.toInt ∧ x.toInt ≤ 500 := by have q := rc_rng h; have z : (500 : Int32).toInt = 500 := (by decide); omega
theorem rc_200 {x : Int32} (h : th_X6_requireCount x 200 = none) : 1 ≤ x.toInt ∧ x.toInt ≤ 200 := by have q := rc_rng h; have z : (200 : Int32).toInt = 200 := (by decide); omega
theorem rc_3200 {x : Int32} (h : th_X6_requireCount x 3200 = none) : 1 ≤ x.toInt ∧ x.toInt ≤ 3200 := by have q := rc_rng h; have z : (3200 : Int32).toInt = 3200 := (by decide); omega
def f_X6_cycleAfter (bits : Nat → Int32) (p0 : Int32) : Int32 :=
  (f_X6_cycleOf ((f_X6_cycleOf p0) + (f_X3_duration (f_X5_wordAt bits p0) (f_X6_cycleOf p0))))
set_option maxRecDepth 100000 in
set_option maxHeartbeats 4000000 in
theorem c_X6_cycleAfter (l : Launch) (G : gG) (z0 : Nat) (c0 : Nat) (c0q : Nat) (c0u : Nat) (c0v : Nat) (a0 : Nat) (b0 : Nat) (sv : Int32) (sw : Int32) (s0 : Nat) (k0 : Nat) (i0 : Nat) (o0 : Nat) (x0 : Nat) (et : Int32) (wt : Int32) (tm : Int32) (sta : Int32) (he : Int32) (ac : Int32) (ov : Int32) (s1 : Nat) (s2 : Nat) (s3 : Nat) (dr : Int32) (bits : Nat → Int32) (p0 : Int32) : gM l G yX6_cycleAfter cX6_cycleAfter 3 (some .int) { frames := 4, cells := 0, slots := 0, locals := 83 } [.ref z0, .int p0] [(z0, .inr (9, [.ref c0, .ref c0q, .ref c0u, .ref c0v, .int sv, .int sw, .ref a0, .ref b0])), (c0, .inr (6, [.ref s0, .ref k0, .ref i0, .ref o0, .ref x0, .int et, .int wt, .int tm, .int sta, .int he, .int ac, .int ov])), (s0, .inr (8, [.ref s1, .ref s2, .ref s3, .int dr])), (s1, .inl (G.2.1.1, 256, .inl bits))] (some (.int (f_X6_cycleAfter bits p0))) [(z0, .inr (9, [.ref c0, .ref c0q, .ref c0u, .ref c0v, .int sv, .int sw, .ref a0, .ref b0])), (c0, .inr (6, [.ref s0, .ref k0, .ref i0, .ref o0, .ref x0, .int et, .int wt, .int tm, .int sta, .int he, .int ac, .int ov])), (s0, .inr (8, [.ref s1, .ref s2, .ref s3, .int dr])), (s1, .inl (G.2.1.1, 256, .inl bits))] 0 0 := by
  refine gBegin (by decide +kernel) (Nat.le_of_ble_eq_true rfl) (fun p e s m args below meth c A F hr hlocks hname hN hK hP hD hA hS ls hl => ?_)
  obtain ⟨hx, hb, hml, hown, hts⟩ := id F
  replace hP : va_P G.1 vwCl [(z0, .inr (9, [.ref c0, .ref c0q, .ref c0u, .ref c0v, .int sv, .int sw, .ref a0, .ref b0])), (c0, .inr (6, [.ref s0, .ref k0, .ref i0, .ref o0, .ref x0, .int et, .int wt, .int tm, .int sta, .int he, .int ac, .int ov])), (s0, .inr (8, [.ref s1, .ref s2, .ref s3, .int dr])), (s1, .inl (G.2.1.1, 256, .inl bits))] s.heap := hP
  replace hl : lv_has ls 3 [(0, .ref z0), (1, .int p0)] := hl
  refine lv_iload_n hx hb dX6_cycleAfter_0 rfl (lv_at hl 1 rfl) ?_
  refine gS (As := [.int p0]) (rest := []) (wr := [(z0, .inr (9, [.ref c0, .ref c0q, .ref c0u, .ref c0v, .int sv, .int sw, .ref a0, .ref b0])), (c0, .inr (6, [.ref s0, .ref k0, .ref i0, .ref o0, .ref x0, .int et, .int wt, .int tm, .int sta, .int he, .int ac, .int ov])), (s0, .inr (8, [.ref s1, .ref s2, .ref s3, .int dr])), (s1, .inl (G.2.1.1, 256, .inl bits))]) (ws' := [(z0, .inr (9, [.ref c0, .ref c0q, .ref c0u, .ref c0v, .int sv, .int sw, .ref a0, .ref b0])), (c0, .inr (6, [.ref s0, .ref k0, .ref i0, .ref o0, .ref x0, .int et, .int wt, .int tm, .int sta, .int he, .int ac, .int ov])), (s0, .inr (8, [.ref s1, .ref s2, .ref s3, .int dr])), (s1, .inl (G.2.1.1, 256, .inl bits))]) F (c_X6_cycleOf l G p0) okS_X6_cycleOf k_ml_X6_254 rfl rfl ⟨Nat.le_of_ble_eq_true rfl, Nat.le_of_ble_eq_true rfl⟩ hN hK hP hD hS hA [] [0, 1, 2, 3] [0, 1, 2, 3] (by decide) rfl rfl (by decide) (by decide) (by decide) rfl rfl rfl hl.1 (Nat.le_of_ble_eq_true rfl) dX6_cycleAfter_1 ⟨Nat.le_refl _, Nat.le_refl _⟩ (fun H locs hP hD hS => ?_)
  refine lv_istore_n (lv' := [(2, .int (f_X6_cycleOf p0)), (0, .ref z0), (1, .int p0)]) hx hb dX6_cycleAfter_4 rfl hl (by decide) rfl (fun ls hl => ?_)
  refine lv_iload_n hx hb dX6_cycleAfter_5 rfl (lv_at hl 0 rfl) ?_
  refine lv_aload_n hx hb dX6_cycleAfter_6 rfl (lv_at hl 1 rfl) ?_
  refine va_get (D := G.1) (ci := 9) (v := .ref c0) (C := RX6) (T := TX6) (N := 8) hx hb hts in_X6 hown hK hP 0 rfl rfl 0 (by decide) (hts _ k_fl_X6_12) (fun _ h9 => h9) rfl dX6_cycleAfter_7 ?_
  refine va_get (D := G.1) (ci := 6) (v := .ref s0) (C := RX2) (T := TX2) (N := 12) hx hb hts in_X2 hown hK hP 1 rfl rfl 0 (by decide) (hts _ k_fl_X6_72) (fun _ h9 => h9) rfl dX6_cycleAfter_10 ?_
  refine lv_iload_n hx hb dX6_cycleAfter_13 rfl (lv_at hl 2 rfl) ?_
  refine gV (As := [.int p0]) (rest := [.int (f_X6_cycleOf p0)]) (wr := [(z0, .inr (9, [.ref c0, .ref c0q, .ref c0u, .ref c0v, .int sv, .int sw, .ref a0, .ref b0])), (c0, .inr (6, [.ref s0, .ref k0, .ref i0, .ref o0, .ref x0, .int et, .int wt, .int tm, .int sta, .int he, .int ac, .int ov]))]) (ws' := [(z0, .inr (9, [.ref c0, .ref c0q, .ref c0u, .ref c0v, .int sv, .int sw, .ref a0, .ref b0])), (c0, .inr (6, [.ref s0, .ref k0, .ref i0, .ref o0, .ref x0, .int et, .int wt, .int tm, .int sta, .int he, .int ac, .int ov])), (s0, .inr (8, [.ref s1, .ref s2, .ref s3, .int dr])), (s1, .inl (G.2.1.1, 256, .inl bits))]) F (c_X5_wordAt l G s0 s1 s2 s3 bits dr p0) okV_X5_wordAt k_ml_X6_108 rfl rfl ⟨Nat.le_of_ble_eq_true rfl, Nat.le_of_ble_eq_true rfl⟩ hN hK hP hD hS hA [2, 3] [0, 1] [0, 1, 2, 3] (by decide) rfl rfl (by decide) (by decide) (by decide) rfl (q0 := 2) rfl rfl rfl rfl hl.1 (Nat.le_of_ble_eq_true rfl) dX6_cycleAfter_14 ⟨Nat.le_refl _, Nat.le_refl _⟩ (fun H locs hP hD hS => ?_)
  refine lv_iload_n hx hb dX6_cycleAfter_17 rfl (lv_at hl 0 rfl) ?_
  refine gS (As := [.int (f_X5_wordAt bits p0), .int (f_X6_cycleOf p0)]) (rest := [.int (f_X6_cycleOf p0)]) (wr := [(z0, .inr (9, [.ref c0, .ref c0q, .ref c0u, .ref c0v, .int sv, .int sw, .ref a0, .ref b0])), (c0, .inr (6, [.ref s0, .ref k0, .ref i0, .ref o0, .ref x0, .int et, .int wt, .int tm, .int sta, .int he, .int ac, .int ov])), (s0, .inr (8, [.ref s1, .ref s2, .ref s3, .int dr])), (s1, .inl (G.2.1.1, 256, .inl bits))]) (ws' := [(z0, .inr (9, [.ref c0, .ref c0q, .ref c0u, .ref c0v, .int sv, .int sw, .ref a0, .ref b0])), (c0, .inr (6, [.ref s0, .ref k0, .ref i0, .ref o0, .ref x0, .int et, .int wt, .int tm, .int sta, .int he, .int ac, .int ov])), (s0, .inr (8, [.ref s1, .ref s2, .ref s3, .int dr])), (s1, .inl (G.2.1.1, 256, .inl bits))]) F (c_X3_duration l G (f_X5_wordAt bits p0) (f_X6_cycleOf p0)) okS_X3_duration k_ml_X6_257 rfl rfl ⟨Nat.le_of_ble_eq_true rfl, Nat.le_of_ble_eq_true rfl⟩ hN hK hP hD hS hA [] [0, 1, 2, 3] [0, 1, 2, 3] (by decide) rfl rfl (by decide) (by decide) (by decide) rfl rfl rfl hl.1 (Nat.le_of_ble_eq_true rfl) dX6_cycleAfter_18 ⟨Nat.le_refl _, Nat.le_refl _⟩ (fun H locs hP hD hS => ?_)
  refine lv_iadd hx hb dX6_cycleAfter_21 ?_
  refine gS (As := [.int ((f_X6_cycleOf p0) + (f_X3_duration (f_X5_wordAt bits p0) (f_X6_cycleOf p0)))]) (rest := []) (wr := [(z0, .inr (9, [.ref c0, .ref c0q, .ref c0u, .ref c0v, .int sv, .int sw, .ref a0, .ref b0])), (c0, .inr (6, [.ref s0, .ref k0, .ref i0, .ref o0, .ref x0, .int et, .int wt, .int tm, .int sta, .int he, .int ac, .int ov])), (s0, .inr (8, [.ref s1, .ref s2, .ref s3, .int dr])), (s1, .inl (G.2.1.1, 256, .inl bits))]) (ws' := [(z0, .inr (9, [.ref c0, .ref c0q, .ref c0u, .ref c0v, .int sv, .int sw, .ref a0, .ref b0])), (c0, .inr (6, [.ref s0, .ref k0, .ref i0, .ref o0, .ref x0, .int et, .int wt, .int tm, .int sta, .int he, .int ac, .int ov])), (s0, .inr (8, [.ref s1, .ref s2, .ref s3, .int dr])), (s1, .inl (G.2.1.1, 256, .inl bits))]) F (c_X6_cycleOf l G ((f_X6_cycleOf p0) + (f_X3_duration (f_X5_wordAt bits p0) (f_X6_cycleOf p0)))) okS_X6_cycleOf k_ml_X6_254 rfl rfl ⟨Nat.le_of_ble_eq_true rfl, Nat.le_of_ble_eq_true rfl⟩ hN hK hP hD hS hA [] [0, 1, 2, 3] [0, 1, 2, 3] (by decide) rfl rfl (by decide) (by decide) (by decide) rfl rfl rfl hl.1 (Nat.le_of_ble_eq_true rfl) dX6_cycleAfter_22 ⟨Nat.le_refl _, Nat.le_refl _⟩ (fun H locs hP hD hS => ?_)
  exact gRetI F hr hlocks hK hP hD hS rfl rfl (Nat.le_of_ble_eq_true rfl) (Nat.le_of_ble_eq_true rfl) dX6_cycleAfter_25
theorem okV_X6_cycleAfter : gOkV yX6_cycleAfter cX6_cycleAfter 3 (some .int) 1 := ⟨⟨k_im_X6_cycleAfter, k_se_X6_cycleAfter, k_in_X6, k_cd_X6_cycleAfter⟩, by decide, by decide, by decide +kernel⟩
def wl_X6_freeCycleAfter (bits : Nat → Int32) (p0 : Int32) (p1 : Int32) : Nat → Nat → Int32
  | 0, _ =>
    (-1)
  | n + 1, k =>
    if (f_X6_locationOf p1 (f_X6_cycleOf ((f_X6_cycleAfter bits p0) + (nI k)))) = p0 then
      wl_X6_freeCycleAfter bits p0 p1 n (k + 1)
    else
      if (f_X5_wordAt bits (f_X6_locationOf p1 (f_X6_cycleOf ((f_X6_cycleAfter bits p0) + (nI k))))) = 0 then
        (f_X6_cycleOf (f_X6_locationOf p1 (f_X6_cycleOf ((f_X6_cycleAfter bits p0) + (nI k)))))
      else
        wl_X6_freeCycleAfter bits p0 p1 n (k + 1)
def f_X6_freeCycleAfter (bits : Nat → Int32) (p0 : Int32) (p1 : Int32) : Int32 :=
  (wl_X6_freeCycleAfter bits p0 p1 32 0)
set_option maxRecDepth 100000 in
set_option maxHeartbeats 4000000 in
theorem c_X6_freeCycleAfter (l : Launch) (G : gG) (z0 : Nat) (c0 : Nat) (c0q : Nat) (c0u : Nat) (c0v : Nat) (a0 : Nat) (b0 : Nat) (sv : Int32) (sw : Int32) (s0 : Nat) (k0 : Nat) (i0 : Nat) (o0 : Nat) (x0 : Nat) (et : Int32) (wt : Int32) (tm : Int32) (sta : Int32) (he : Int32) (ac : Int32) (ov : Int32) (s1 : Nat) (s2 : Nat) (s3 : Nat) (dr : Int32) (bits : Nat → Int32) (p0 : Int32) (p1 : Int32) : gM l G yX6_freeCycleAfter cX6_freeCycleAfter 6 (some .int) { frames := 5, cells := 0, slots := 0, locals := 105 } [.ref z0, .int p0, .int p1] [(z0, .inr (9, [.ref c0, .ref c0q, .ref c0u, .ref c0v, .int sv, .int sw, .ref a0, .ref b0])), (c0, .inr (6, [.ref s0, .ref k0, .ref i0, .ref o0, .ref x0, .int et, .int wt, .int tm, .int sta, .int he, .int ac, .int ov])), (s0, .inr (8, [.ref s1, .ref s2, .ref s3, .int dr])), (s1, .inl (G.2.1.1, 256, .inl bits))] (some (.int (f_X6_freeCycleAfter bits p0 p1))) [(z0, .inr (9, [.ref c0, .ref c0q, .ref c0u, .ref c0v, .int sv, .int sw, .ref a0, .ref b0])), (c0, .inr (6, [.ref s0, .ref k0, .ref i0, .ref o0, .ref x0, .int et, .int wt, .int tm, .int sta, .int he, .int ac, .int ov])), (s0, .inr (8, [.ref s1, .ref s2, .ref s3, .int dr])), (s1, .inl (G.2.1.1, 256, .inl bits))] 0 0 := by
  refine gBegin (by decide +kernel) (Nat.le_of_ble_eq_true rfl) (fun p e s m args below meth c A F hr hlocks hname hN hK hP hD hA hS ls hl => ?_)
  obtain ⟨hx, hb, hml, hown, hts⟩ := id F
  replace hP : va_P G.1 vwCl [(z0, .inr (9, [.ref c0, .ref c0q, .ref c0u, .ref c0v, .int sv, .int sw, .ref a0, .ref b0])), (c0, .inr (6, [.ref s0, .ref k0, .ref i0, .ref o0, .ref x0, .int et, .int wt, .int tm, .int sta, .int he, .int ac, .int ov])), (s0, .inr (8, [.ref s1, .ref s2, .ref s3, .int dr])), (s1, .inl (G.2.1.1, 256, .inl bits))] s.heap := hP
  replace hl : lv_has ls 6 [(0, .ref z0), (1, .int p0), (2, .int p1)] := hl
  refine lv_aload_n hx hb dX6_freeCycleAfter_0 rfl (lv_at hl 0 rfl) ?_
  refine lv_iload_n hx hb dX6_freeCycleAfter_1 rfl (lv_at hl 1 rfl) ?_
  refine gV (As := [.int p0]) (rest := []) (wr := []) (ws' := [(z0, .inr (9, [.ref c0, .ref c0q, .ref c0u, .ref c0v, .int sv, .int sw, .ref a0, .ref b0])), (c0, .inr (6, [.ref s0, .ref k0, .ref i0, .ref o0, .ref x0, .int et, .int wt, .int tm, .int sta, .int he, .int ac, .int ov])), (s0, .inr (8, [.ref s1, .ref s2, .ref s3, .int dr])), (s1, .inl (G.2.1.1, 256, .inl bits))]) F (c_X6_cycleAfter l G z0 c0 c0q c0u c0v a0 b0 sv sw s0 k0 i0 o0 x0 et wt tm sta he ac ov s1 s2 s3 dr bits p0) okV_X6_cycleAfter k_ml_X6_251 rfl rfl ⟨Nat.le_of_ble_eq_true rfl, Nat.le_of_ble_eq_true rfl⟩ hN hK hP hD hS hA [0, 1, 2, 3] [] [0, 1, 2, 3] (by decide) rfl rfl (by decide) (by decide) (by decide) rfl (q0 := 0) rfl rfl rfl rfl hl.1 (Nat.le_of_ble_eq_true rfl) dX6_freeCycleAfter_2 ⟨Nat.le_refl _, Nat.le_refl _⟩ (fun H locs hP hD hS => ?_)
  refine lv_istore_n (lv' := [(3, .int (f_X6_cycleAfter bits p0)), (0, .ref z0), (1, .int p0), (2, .int p1)]) hx hb dX6_freeCycleAfter_5 rfl hl (by decide) rfl (fun ls hl => ?_)
  refine lv_iconst (v := 0) hx hb dX6_freeCycleAfter_6 (by decide) ?_
  refine lv_istore (lv' := [(4, .int 0), (3, .int (f_X6_cycleAfter bits p0)), (0, .ref z0), (1, .int p0), (2, .int p1)]) hx hb dX6_freeCycleAfter_7 hl (by decide) rfl (fun ls hl => ?_)
  have loop_9 : ∀ (fu k : Nat), k + fu = 32 → (f_X6_freeCycleAfter bits p0 p1) = wl_X6_freeCycleAfter bits p0 p1 fu k → ∀ (H : Heap) (locs : List Loc), va_P G.1 vwCl [(z0, .inr (9, [.ref c0, .ref c0q, .ref c0u, .ref c0v, .int sv, .int sw, .ref a0, .ref b0])), (c0, .inr (6, [.ref s0, .ref k0, .ref i0, .ref o0, .ref x0, .int et, .int wt, .int tm, .int sta, .int he, .int ac, .int ov])), (s0, .inr (8, [.ref s1, .ref s2, .ref s3, .int dr])), (s1, .inl (G.2.1.1, 256, .inl bits))] H → va_D A [(z0, .inr (9, [.ref c0, .ref c0q, .ref c0u, .ref c0v, .int sv, .int sw, .ref a0, .ref b0])), (c0, .inr (6, [.ref s0, .ref k0, .ref i0, .ref o0, .ref x0, .int et, .int wt, .int tm, .int sta, .int he, .int ac, .int ov])), (s0, .inr (8, [.ref s1, .ref s2, .ref s3, .int dr])), (s1, .inl (G.2.1.1, 256, .inl bits))] → va_S A s.heap H locs → ∀ ls : Array Slot, lv_has ls 6 [(4, .int (nI k)), (3, .int (f_X6_cycleAfter bits p0)), (0, .ref z0), (1, .int p0), (2, .int p1)] → W p l e { frames := 5, cells := 0, slots := 0, locals := 105 } s m args below meth c H locs 0 0 (MQ below (gQ G (some (.int (f_X6_freeCycleAfter bits p0 p1))) [(z0, .inr (9, [.ref c0, .ref c0q, .ref c0u, .ref c0v, .int sv, .int sw, .ref a0, .ref b0])), (c0, .inr (6, [.ref s0, .ref k0, .ref i0, .ref o0, .ref x0, .int et, .int wt, .int tm, .int sta, .int he, .int ac, .int ov])), (s0, .inr (8, [.ref s1, .ref s2, .ref s3, .int dr])), (s1, .inl (G.2.1.1, 256, .inl bits))] A) args s 0 0 A) (F0 m 9 ls []) := by
    intro fu
    induction fu with
    | zero =>
      intro k hk hO H locs hP hD hS ls hl
      have ek : 32 = k := by omega
      subst ek
      refine lv_iload hx hb dX6_freeCycleAfter_9 (lv_at hl 0 rfl) ?_
      refine lv_bipush (v := 32) hx hb dX6_freeCycleAfter_11 (by decide) ?_
      refine lv_icmp_ge (tgt := 62) hx hb dX6_freeCycleAfter_13 (by decide) (fun c_1 => ?_) (fun c_1 => ?_)
      · skip
        refine lv_iconst (v := (-1)) hx hb dX6_freeCycleAfter_62 (by decide) ?_
        have ef : (f_X6_freeCycleAfter bits p0 p1) = (-1) := hO
        exact gRetI F hr hlocks hK hP hD hS (by rw [ef]) rfl (Nat.le_of_ble_eq_true rfl) (Nat.le_of_ble_eq_true rfl) dX6_freeCycleAfter_63
      · exact absurd (Int32.le_refl _) c_1
    | succ fu ih =>
      intro k hk hO H locs hP hD hS ls hl
      have hlt_k : k < 32 := by omega
      refine lv_iload hx hb dX6_freeCycleAfter_9 (lv_at hl 0 rfl) ?_
      refine lv_bipush (v := 32) hx hb dX6_freeCycleAfter_11 (by decide) ?_
      refine lv_icmp_ge (tgt := 62) hx hb dX6_freeCycleAfter_13 (by decide) (fun c_2 => ?_) (fun c_2 => ?_)
      · exact absurd c_2 (nI_ge hlt_k (by decide))
      · skip
        refine lv_iload_n hx hb dX6_freeCycleAfter_16 rfl (lv_at hl 4 rfl) ?_
        refine lv_iload_n hx hb dX6_freeCycleAfter_17 rfl (lv_at hl 1 rfl) ?_
        refine lv_iload hx hb dX6_freeCycleAfter_18 (lv_at hl 0 rfl) ?_
        refine lv_iadd hx hb dX6_freeCycleAfter_20 ?_
        refine gS (As := [.int ((f_X6_cycleAfter bits p0) + (nI k))]) (rest := [.int p1]) (wr := [(z0, .inr (9, [.ref c0, .ref c0q, .ref c0u, .ref c0v, .int sv, .int sw, .ref a0, .ref b0])), (c0, .inr (6, [.ref s0, .ref k0, .ref i0, .ref o0, .ref x0, .int et, .int wt, .int tm, .int sta, .int he, .int ac, .int ov])), (s0, .inr (8, [.ref s1, .ref s2, .ref s3, .int dr])), (s1, .inl (G.2.1.1, 256, .inl bits))]) (ws' := [(z0, .inr (9, [.ref c0, .ref c0q, .ref c0u, .ref c0v, .int sv, .int sw, .ref a0, .ref b0])), (c0, .inr (6, [.ref s0, .ref k0, .ref i0, .ref o0, .ref x0, .int et, .int wt, .int tm, .int sta, .int he, .int ac, .int ov])), (s0, .inr (8, [.ref s1, .ref s2, .ref s3, .int dr])), (s1, .inl (G.2.1.1, 256, .inl bits))]) F (c_X6_cycleOf l G ((f_X6_cycleAfter bits p0) + (nI k))) okS_X6_cycleOf k_ml_X6_254 rfl rfl ⟨Nat.le_of_ble_eq_true rfl, Nat.le_of_ble_eq_true rfl⟩ hN hK hP hD hS hA [] [0, 1, 2, 3] [0, 1, 2, 3] (by decide) rfl rfl (by decide) (by decide) (by decide) rfl rfl rfl hl.1 (Nat.le_of_ble_eq_true rfl) dX6_freeCycleAfter_21 ⟨Nat.le_refl _, Nat.le_refl _⟩ (fun H locs hP hD hS => ?_)
        refine gS (As := [.int p1, .int (f_X6_cycleOf ((f_X6_cycleAfter bits p0) + (nI k)))]) (rest := []) (wr := [(z0, .inr (9, [.ref c0, .ref c0q, .ref c0u, .ref c0v, .int sv, .int sw, .ref a0, .ref b0])), (c0, .inr (6, [.ref s0, .ref k0, .ref i0, .ref o0, .ref x0, .int et, .int wt, .int tm, .int sta, .int he, .int ac, .int ov])), (s0, .inr (8, [.ref s1, .ref s2, .ref s3, .int dr])), (s1, .inl (G.2.1.1, 256, .inl bits))]) (ws' := [(z0, .inr (9, [.ref c0, .ref c0q, .ref c0u, .ref c0v, .int sv, .int sw, .ref a0, .ref b0])), (c0, .inr (6, [.ref s0, .ref k0, .ref i0, .ref o0, .ref x0, .int et, .int wt, .int tm, .int sta, .int he, .int ac, .int ov])), (s0, .inr (8, [.ref s1, .ref s2, .ref s3, .int dr])), (s1, .inl (G.2.1.1, 256, .inl bits))]) F (c_X6_locationOf l G p1 (f_X6_cycleOf ((f_X6_cycleAfter bits p0) + (nI k)))) okS_X6_locationOf k_ml_X6_104 rfl rfl ⟨Nat.le_of_ble_eq_true rfl, Nat.le_of_ble_eq_true rfl⟩ hN hK hP hD hS hA [] [0, 1, 2, 3] [0, 1, 2, 3] (by decide) rfl rfl (by decide) (by decide) (by decide) rfl rfl rfl hl.1 (Nat.le_of_ble_eq_true rfl) dX6_freeCycleAfter_24 ⟨Nat.le_refl _, Nat.le_refl _⟩ (fun H locs hP hD hS => ?_)
        refine lv_istore (lv' := [(5, .int (f_X6_locationOf p1 (f_X6_cycleOf ((f_X6_cycleAfter bits p0) + (nI k))))), (4, .int (nI k)), (3, .int (f_X6_cycleAfter bits p0)), (0, .ref z0), (1, .int p0), (2, .int p1)]) hx hb dX6_freeCycleAfter_27 hl (by decide) rfl (fun ls hl => ?_)
        refine lv_iload hx hb dX6_freeCycleAfter_29 (lv_at hl 0 rfl) ?_
        refine lv_iload_n hx hb dX6_freeCycleAfter_31 rfl (lv_at hl 4 rfl) ?_
        refine lv_icmp_eq (tgt := 56) hx hb dX6_freeCycleAfter_32 (by decide) (fun c_3 => ?_) (fun c_3 => ?_)
        · skip
          refine lv_iinc (v := (nI (k + 1))) (lv' := [(4, .int (nI (k + 1))), (5, .int (f_X6_locationOf p1 (f_X6_cycleOf ((f_X6_cycleAfter bits p0) + (nI k))))), (3, .int (f_X6_cycleAfter bits p0)), (0, .ref z0), (1, .int p0), (2, .int p1)]) hx hb dX6_freeCycleAfter_56 hl (k := 1) rfl (nI_1 k) (by decide) rfl (fun ls hl => ?_)
          refine lv_goto (tgt := 9) hx hb dX6_freeCycleAfter_59 (by decide) ?_
          exact ih (k + 1) (by omega) (hO.trans (if_pos c_3)) _ _ hP hD hS ls (lv_sub hl [0, 2, 3, 4, 5] rfl)
        · skip
          refine lv_aload_n hx hb dX6_freeCycleAfter_35 rfl (lv_at hl 3 rfl) ?_
          refine va_get (D := G.1) (ci := 9) (v := .ref c0) (C := RX6) (T := TX6) (N := 8) hx hb hts in_X6 hown hK hP 0 rfl rfl 0 (by decide) (hts _ k_fl_X6_12) (fun _ h9 => h9) rfl dX6_freeCycleAfter_36 ?_
          refine va_get (D := G.1) (ci := 6) (v := .ref s0) (C := RX2) (T := TX2) (N := 12) hx hb hts in_X2 hown hK hP 1 rfl rfl 0 (by decide) (hts _ k_fl_X6_72) (fun _ h9 => h9) rfl dX6_freeCycleAfter_39 ?_
          refine lv_iload hx hb dX6_freeCycleAfter_42 (lv_at hl 0 rfl) ?_
          refine gV (As := [.int (f_X6_locationOf p1 (f_X6_cycleOf ((f_X6_cycleAfter bits p0) + (nI k))))]) (rest := []) (wr := [(z0, .inr (9, [.ref c0, .ref c0q, .ref c0u, .ref c0v, .int sv, .int sw, .ref a0, .ref b0])), (c0, .inr (6, [.ref s0, .ref k0, .ref i0, .ref o0, .ref x0, .int et, .int wt, .int tm, .int sta, .int he, .int ac, .int ov]))]) (ws' := [(z0, .inr (9, [.ref c0, .ref c0q, .ref c0u, .ref c0v, .int sv, .int sw, .ref a0, .ref b0])), (c0, .inr (6, [.ref s0, .ref k0, .ref i0, .ref o0, .ref x0, .int et, .int wt, .int tm, .int sta, .int he, .int ac, .int ov])), (s0, .inr (8, [.ref s1, .ref s2, .ref s3, .int dr])), (s1, .inl (G.2.1.1, 256, .inl bits))]) F (c_X5_wordAt l G s0 s1 s2 s3 bits dr (f_X6_locationOf p1 (f_X6_cycleOf ((f_X6_cycleAfter bits p0) + (nI k))))) okV_X5_wordAt k_ml_X6_108 rfl rfl ⟨Nat.le_of_ble_eq_true rfl, Nat.le_of_ble_eq_true rfl⟩ hN hK hP hD hS hA [2, 3] [0, 1] [0, 1, 2, 3] (by decide) rfl rfl (by decide) (by decide) (by decide) rfl (q0 := 2) rfl rfl rfl rfl hl.1 (Nat.le_of_ble_eq_true rfl) dX6_freeCycleAfter_44 ⟨Nat.le_refl _, Nat.le_refl _⟩ (fun H locs hP hD hS => ?_)
          refine lv_if_ne (tgt := 56) hx hb dX6_freeCycleAfter_47 (by decide) (fun c_4 => ?_) (fun c_4 => ?_)
          · skip
            refine lv_iinc (v := (nI (k + 1))) (lv' := [(4, .int (nI (k + 1))), (5, .int (f_X6_locationOf p1 (f_X6_cycleOf ((f_X6_cycleAfter bits p0) + (nI k))))), (3, .int (f_X6_cycleAfter bits p0)), (0, .ref z0), (1, .int p0), (2, .int p1)]) hx hb dX6_freeCycleAfter_56 hl (k := 1) rfl (nI_1 k) (by decide) rfl (fun ls hl => ?_)
            refine lv_goto (tgt := 9) hx hb dX6_freeCycleAfter_59 (by decide) ?_
            exact ih (k + 1) (by omega) (hO.trans (((if_neg c_3).trans (if_neg c_4)))) _ _ hP hD hS ls (lv_sub hl [0, 2, 3, 4, 5] rfl)
          · skip
            refine lv_iload hx hb dX6_freeCycleAfter_50 (lv_at hl 0 rfl) ?_
            refine gS (As := [.int (f_X6_locationOf p1 (f_X6_cycleOf ((f_X6_cycleAfter bits p0) + (nI k))))]) (rest := []) (wr := [(z0, .inr (9, [.ref c0, .ref c0q, .ref c0u, .ref c0v, .int sv, .int sw, .ref a0, .ref b0])), (c0, .inr (6, [.ref s0, .ref k0, .ref i0, .ref o0, .ref x0, .int et, .int wt, .int tm, .int sta, .int he, .int ac, .int ov])), (s0, .inr (8, [.ref s1, .ref s2, .ref s3, .int dr])), (s1, .inl (G.2.1.1, 256, .inl bits))]) (ws' := [(z0, .inr (9, [.ref c0, .ref c0q, .ref c0u, .ref c0v, .int sv, .int sw, .ref a0, .ref b0])), (c0, .inr (6, [.ref s0, .ref k0, .ref i0, .ref o0, .ref x0, .int et, .int wt, .int tm, .int sta, .int he, .int ac, .int ov])), (s0, .inr (8, [.ref s1, .ref s2, .ref s3, .int dr])), (s1, .inl (G.2.1.1, 256, .inl bits))]) F (c_X6_cycleOf l G (f_X6_locationOf p1 (f_X6_cycleOf ((f_X6_cycleAfter bits p0) + (nI k))))) okS_X6_cycleOf k_ml_X6_254 rfl rfl ⟨Nat.le_of_ble_eq_true rfl, Nat.le_of_ble_eq_true rfl⟩ hN hK hP hD hS hA [] [0, 1, 2, 3] [0, 1, 2, 3] (by decide) rfl rfl (by decide) (by decide) (by decide) rfl rfl rfl hl.1 (Nat.le_of_ble_eq_true rfl) dX6_freeCycleAfter_52 ⟨Nat.le_refl _, Nat.le_refl _⟩ (fun H locs hP hD hS => ?_)
            have ef : (f_X6_freeCycleAfter bits p0 p1) = (f_X6_cycleOf (f_X6_locationOf p1 (f_X6_cycleOf ((f_X6_cycleAfter bits p0) + (nI k))))) := (hO.trans (((if_neg c_3).trans (if_pos c_4))))
            exact gRetI F hr hlocks hK hP hD hS (by rw [ef]) rfl (Nat.le_of_ble_eq_true rfl) (Nat.le_of_ble_eq_true rfl) dX6_freeCycleAfter_55
  exact loop_9 32 0 (by omega) (rfl) _ _ hP hD hS ls (lv_sub hl [0, 1, 2, 3, 4] rfl)
theorem okV_X6_freeCycleAfter : gOkV yX6_freeCycleAfter cX6_freeCycleAfter 6 (some .int) 2 := ⟨⟨k_im_X6_freeCycleAfter, k_se_X6_freeCycleAfter, k_in_X6, k_cd_X6_freeCycleAfter⟩, by decide, by decide, by decide +kernel⟩
def th_X6_requireReady (sta : Int32) : Option String :=
  if sta = 0 then
    none
  else
    (some "java/lang/IllegalStateException")
set_option maxRecDepth 100000 in
set_option maxHeartbeats 4000000 in
theorem c_X6_requireReady (l : Launch) (hfl : l.stackTraces = false) (G : gG) (z0 : Nat) (c0 : Nat) (c0q : Nat) (c0u : Nat) (c0v : Nat) (a0 : Nat) (b0 : Nat) (sv : Int32) (sw : Int32) (s0 : Nat) (k0 : Nat) (i0 : Nat) (o0 : Nat) (x0 : Nat) (et : Int32) (wt : Int32) (tm : Int32) (sta : Int32) (he : Int32) (ac : Int32) (ov : Int32) : gX l G yX6_requireReady cX6_requireReady 1 none { frames := 6, cells := 1, slots := 6, locals := 90 } [.ref z0] [(z0, .inr (9, [.ref c0, .ref c0q, .ref c0u, .ref c0v, .int sv, .int sw, .ref a0, .ref b0])), (c0, .inr (6, [.ref s0, .ref k0, .ref i0, .ref o0, .ref x0, .int et, .int wt, .int tm, .int sta, .int he, .int ac, .int ov]))] (th_X6_requireReady sta) none [(z0, .inr (9, [.ref c0, .ref c0q, .ref c0u, .ref c0v, .int sv, .int sw, .ref a0, .ref b0])), (c0, .inr (6, [.ref s0, .ref k0, .ref i0, .ref o0, .ref x0, .int et, .int wt, .int tm, .int sta, .int he, .int ac, .int ov]))] 1 6 := by
  refine gxBegin (by decide +kernel) (Nat.le_of_ble_eq_true rfl) (fun p e s m args below meth c A F hr hlocks htab hN hSt hK hP hD hA hS ls hl => ?_)
  obtain ⟨hx, hb, hml, hown, hts⟩ := id F
  replace hP : va_P G.1 vwCl [(z0, .inr (9, [.ref c0, .ref c0q, .ref c0u, .ref c0v, .int sv, .int sw, .ref a0, .ref b0])), (c0, .inr (6, [.ref s0, .ref k0, .ref i0, .ref o0, .ref x0, .int et, .int wt, .int tm, .int sta, .int he, .int ac, .int ov]))] s.heap := hP
  replace hl : lv_has ls 1 [(0, .ref z0)] := hl
  refine lv_aload_n hx hb dX6_requireReady_0 rfl (lv_at hl 0 rfl) ?_
  refine va_get (D := G.1) (ci := 9) (v := .ref c0) (C := RX6) (T := TX6) (N := 8) hx hb hts in_X6 hown hK hP 0 rfl rfl 0 (by decide) (hts _ k_fl_X6_12) (fun _ h9 => h9) rfl dX6_requireReady_1 ?_
  refine va_get (D := G.1) (ci := 6) (v := .int sta) (C := RX2) (T := TX2) (N := 12) hx hb hts in_X2 hown hK hP 1 rfl rfl 8 (by decide) (hts _ k_fl_X6_201) (fun _ h9 => h9) rfl dX6_requireReady_4 ?_
  refine lv_if_eq (tgt := 21) hx hb dX6_requireReady_7 (by decide) (fun c_1 => ?_) (fun c_1 => ?_)
  · skip
    refine gxOf ((if_pos c_1)) ?_
    exact gRetV F hr hlocks hK hP hD hS rfl rfl (Nat.le_of_ble_eq_true rfl) (Nat.le_of_ble_eq_true rfl) dX6_requireReady_21
  · skip
    exact gxThrowW (text := "the computer is not ready") (names := ["java/lang/RuntimeException", "java/lang/Exception"]) F hfl hN hSt hK hP hD hS hlocks htab hl.1 (by decide +kernel) (by decide +kernel) k_cl_X6_43 k_in_java_lang_IllegalStateException (by decide +kernel) xa_X6_47 xb_X6_47 xc_X6_47 dX6_requireReady_10 dX6_requireReady_13 dX6_requireReady_14 dX6_requireReady_17 dX6_requireReady_20 (if_neg c_1) (by decide) (Nat.le_of_ble_eq_true rfl) (Nat.le_of_ble_eq_true rfl) (Nat.le_of_ble_eq_true rfl) (Nat.le_of_ble_eq_true rfl) (Nat.le_of_ble_eq_true rfl)
theorem okV_X6_requireReady : gOkV yX6_requireReady cX6_requireReady 1 none 0 := ⟨⟨k_im_X6_requireReady, k_se_X6_requireReady, k_in_X6, k_cd_X6_requireReady⟩, by decide, by decide, by decide +kernel⟩
def f_X6_readWord (bits : Nat → Int32) (p0 : Int32) (p1 : Int32) : Int32 :=
  if (th_X6_requireLocation p0 p1) = none then
    (f_X5_wordAt bits (f_X6_locationOf p0 p1))
  else
    0
def th_X6_readWord (p0 : Int32) (p1 : Int32) : Option String :=
  if (th_X6_requireLocation p0 p1) = none then
    none
  else
    (th_X6_requireLocation p0 p1)
set_option maxRecDepth 100000 in
set_option maxHeartbeats 4000000 in
theorem c_X6_readWord (l : Launch) (hfl : l.stackTraces = false) (G : gG) (z0 : Nat) (c0 : Nat) (c0q : Nat) (c0u : Nat) (c0v : Nat) (a0 : Nat) (b0 : Nat) (sv : Int32) (sw : Int32) (s0 : Nat) (k0 : Nat) (i0 : Nat) (o0 : Nat) (x0 : Nat) (et : Int32) (wt : Int32) (tm : Int32) (sta : Int32) (he : Int32) (ac : Int32) (ov : Int32) (s1 : Nat) (s2 : Nat) (s3 : Nat) (dr : Int32) (bits : Nat → Int32) (p0 : Int32) (p1 : Int32) : gX l G yX6_readWord cX6_readWord 3 (some .int) { frames := 7, cells := 1, slots := 6, locals := 111 } [.ref z0, .int p0, .int p1] [(z0, .inr (9, [.ref c0, .ref c0q, .ref c0u, .ref c0v, .int sv, .int sw, .ref a0, .ref b0])), (c0, .inr (6, [.ref s0, .ref k0, .ref i0, .ref o0, .ref x0, .int et, .int wt, .int tm, .int sta, .int he, .int ac, .int ov])), (s0, .inr (8, [.ref s1, .ref s2, .ref s3, .int dr])), (s1, .inl (G.2.1.1, 256, .inl bits))] (th_X6_readWord p0 p1) (some (.int (f_X6_readWord bits p0 p1))) [(z0, .inr (9, [.ref c0, .ref c0q, .ref c0u, .ref c0v, .int sv, .int sw, .ref a0, .ref b0])), (c0, .inr (6, [.ref s0, .ref k0, .ref i0, .ref o0, .ref x0, .int et, .int wt, .int tm, .int sta, .int he, .int ac, .int ov])), (s0, .inr (8, [.ref s1, .ref s2, .ref s3, .int dr])), (s1, .inl (G.2.1.1, 256, .inl bits))] 1 6 := by
  refine gxBegin (by decide +kernel) (Nat.le_of_ble_eq_true rfl) (fun p e s m args below meth c A F hr hlocks htab hN hSt hK hP hD hA hS ls hl => ?_)
  obtain ⟨hx, hb, hml, hown, hts⟩ := id F
  replace hP : va_P G.1 vwCl [(z0, .inr (9, [.ref c0, .ref c0q, .ref c0u, .ref c0v, .int sv, .int sw, .ref a0, .ref b0])), (c0, .inr (6, [.ref s0, .ref k0, .ref i0, .ref o0, .ref x0, .int et, .int wt, .int tm, .int sta, .int he, .int ac, .int ov])), (s0, .inr (8, [.ref s1, .ref s2, .ref s3, .int dr])), (s1, .inl (G.2.1.1, 256, .inl bits))] s.heap := hP
  replace hl : lv_has ls 3 [(0, .ref z0), (1, .int p0), (2, .int p1)] := hl
  refine lv_iload_n hx hb dX6_readWord_0 rfl (lv_at hl 1 rfl) ?_
  refine lv_iload_n hx hb dX6_readWord_1 rfl (lv_at hl 2 rfl) ?_
  refine gxS (As := [.int p0, .int p1]) (rest := []) (wr := [(z0, .inr (9, [.ref c0, .ref c0q, .ref c0u, .ref c0v, .int sv, .int sw, .ref a0, .ref b0])), (c0, .inr (6, [.ref s0, .ref k0, .ref i0, .ref o0, .ref x0, .int et, .int wt, .int tm, .int sta, .int he, .int ac, .int ov])), (s0, .inr (8, [.ref s1, .ref s2, .ref s3, .int dr])), (s1, .inl (G.2.1.1, 256, .inl bits))]) (ws' := [(z0, .inr (9, [.ref c0, .ref c0q, .ref c0u, .ref c0v, .int sv, .int sw, .ref a0, .ref b0])), (c0, .inr (6, [.ref s0, .ref k0, .ref i0, .ref o0, .ref x0, .int et, .int wt, .int tm, .int sta, .int he, .int ac, .int ov])), (s0, .inr (8, [.ref s1, .ref s2, .ref s3, .int dr])), (s1, .inl (G.2.1.1, 256, .inl bits))]) F (c_X6_requireLocation l hfl G p0 p1) okS_X6_requireLocation k_ml_X6_101 rfl rfl ⟨Nat.le_of_ble_eq_true rfl, Nat.le_of_ble_eq_true rfl⟩ hN hSt hK hP hD hS hA [] [0, 1, 2, 3] [0, 1, 2, 3] (by decide) rfl rfl (by decide) (by decide) (by decide) rfl rfl rfl rfl hl.1 (Nat.le_of_ble_eq_true rfl) dX6_readWord_2 ⟨Nat.le_of_ble_eq_true rfl, Nat.le_of_ble_eq_true rfl⟩ (fun c_1 H locs hP hD hS => ?_) (fun E9 ce9 q9 H locs x9 hP hD hS h91 h92 h93 => ?_)
  · skip
    refine lv_aload_n hx hb dX6_readWord_5 rfl (lv_at hl 0 rfl) ?_
    refine va_get (D := G.1) (ci := 9) (v := .ref c0) (C := RX6) (T := TX6) (N := 8) hx hb hts in_X6 hown hK hP 0 rfl rfl 0 (by decide) (hts _ k_fl_X6_12) (fun _ h9 => h9) rfl dX6_readWord_6 ?_
    refine va_get (D := G.1) (ci := 6) (v := .ref s0) (C := RX2) (T := TX2) (N := 12) hx hb hts in_X2 hown hK hP 1 rfl rfl 0 (by decide) (hts _ k_fl_X6_72) (fun _ h9 => h9) rfl dX6_readWord_9 ?_
    refine lv_iload_n hx hb dX6_readWord_12 rfl (lv_at hl 1 rfl) ?_
    refine lv_iload_n hx hb dX6_readWord_13 rfl (lv_at hl 2 rfl) ?_
    refine gS (As := [.int p0, .int p1]) (rest := [.ref s0]) (wr := [(z0, .inr (9, [.ref c0, .ref c0q, .ref c0u, .ref c0v, .int sv, .int sw, .ref a0, .ref b0])), (c0, .inr (6, [.ref s0, .ref k0, .ref i0, .ref o0, .ref x0, .int et, .int wt, .int tm, .int sta, .int he, .int ac, .int ov])), (s0, .inr (8, [.ref s1, .ref s2, .ref s3, .int dr])), (s1, .inl (G.2.1.1, 256, .inl bits))]) (ws' := [(z0, .inr (9, [.ref c0, .ref c0q, .ref c0u, .ref c0v, .int sv, .int sw, .ref a0, .ref b0])), (c0, .inr (6, [.ref s0, .ref k0, .ref i0, .ref o0, .ref x0, .int et, .int wt, .int tm, .int sta, .int he, .int ac, .int ov])), (s0, .inr (8, [.ref s1, .ref s2, .ref s3, .int dr])), (s1, .inl (G.2.1.1, 256, .inl bits))]) F (c_X6_locationOf l G p0 p1) okS_X6_locationOf k_ml_X6_104 rfl rfl ⟨Nat.le_of_ble_eq_true rfl, Nat.le_of_ble_eq_true rfl⟩ hN hK hP hD hS hA [] [0, 1, 2, 3] [0, 1, 2, 3] (by decide) rfl rfl (by decide) (by decide) (by decide) rfl rfl rfl hl.1 (Nat.le_of_ble_eq_true rfl) dX6_readWord_14 ⟨Nat.le_of_ble_eq_true rfl, Nat.le_of_ble_eq_true rfl⟩ (fun H locs hP hD hS => ?_)
    refine gV (As := [.int (f_X6_locationOf p0 p1)]) (rest := []) (wr := [(z0, .inr (9, [.ref c0, .ref c0q, .ref c0u, .ref c0v, .int sv, .int sw, .ref a0, .ref b0])), (c0, .inr (6, [.ref s0, .ref k0, .ref i0, .ref o0, .ref x0, .int et, .int wt, .int tm, .int sta, .int he, .int ac, .int ov]))]) (ws' := [(z0, .inr (9, [.ref c0, .ref c0q, .ref c0u, .ref c0v, .int sv, .int sw, .ref a0, .ref b0])), (c0, .inr (6, [.ref s0, .ref k0, .ref i0, .ref o0, .ref x0, .int et, .int wt, .int tm, .int sta, .int he, .int ac, .int ov])), (s0, .inr (8, [.ref s1, .ref s2, .ref s3, .int dr])), (s1, .inl (G.2.1.1, 256, .inl bits))]) F (c_X5_wordAt l G s0 s1 s2 s3 bits dr (f_X6_locationOf p0 p1)) okV_X5_wordAt k_ml_X6_108 rfl rfl ⟨Nat.le_of_ble_eq_true rfl, Nat.le_of_ble_eq_true rfl⟩ hN hK hP hD hS hA [2, 3] [0, 1] [0, 1, 2, 3] (by decide) rfl rfl (by decide) (by decide) (by decide) rfl (q0 := 2) rfl rfl rfl rfl hl.1 (Nat.le_of_ble_eq_true rfl) dX6_readWord_17 ⟨Nat.le_of_ble_eq_true rfl, Nat.le_of_ble_eq_true rfl⟩ (fun H locs hP hD hS => ?_)
    have ef : (f_X6_readWord bits p0 p1) = (f_X5_wordAt bits (f_X6_locationOf p0 p1)) := (if_pos c_1)
    refine gxOf ((if_pos c_1)) ?_
    exact gRetI F hr hlocks hK hP hD hS (by rw [ef]) rfl (Nat.le_of_ble_eq_true rfl) (Nat.le_of_ble_eq_true rfl) dX6_readWord_20
  · have c_1 : ¬ (th_X6_requireLocation p0 p1) = none := (by rw [x9]; exact Option.some_ne_none _)
    exact gxOut hlocks htab hK hP hD hS h91 h92 h93 (((if_neg c_1)).trans x9) (Nat.le_of_ble_eq_true rfl) (Nat.le_of_ble_eq_true rfl)
theorem okV_X6_readWord : gOkV yX6_readWord cX6_readWord 3 (some .int) 2 := ⟨⟨k_im_X6_readWord, k_se_X6_readWord, k_in_X6, k_cd_X6_readWord⟩, by decide, by decide, by decide +kernel⟩
def f_X6_writeWord (bits : Nat → Int32) (p0 : Int32) (p1 : Int32) (p2 : Int32) : Int32 × (Nat → Int32) :=
  if (th_X6_requireLocation p0 p1) = none then
    if (th_X6_requireWord p2) = none then
      ((f_X5_wordAt bits (f_X6_locationOf p0 p1)), (f_X5_putWord bits (f_X6_locationOf p0 p1) p2))
    else
      (0, bits)
  else
    (0, bits)
def th_X6_writeWord (p0 : Int32) (p1 : Int32) (p2 : Int32) : Option String :=
  if (th_X6_requireLocation p0 p1) = none then
    if (th_X6_requireWord p2) = none then
      none
    else
      (th_X6_requireWord p2)
  else
    (th_X6_requireLocation p0 p1)
set_option maxRecDepth 100000 in
set_option maxHeartbeats 4000000 in
theorem c_X6_writeWord (l : Launch) (hfl : l.stackTraces = false) (G : gG) (z0 : Nat) (c0 : Nat) (c0q : Nat) (c0u : Nat) (c0v : Nat) (a0 : Nat) (b0 : Nat) (sv : Int32) (sw : Int32) (s0 : Nat) (k0 : Nat) (i0 : Nat) (o0 : Nat) (x0 : Nat) (et : Int32) (wt : Int32) (tm : Int32) (sta : Int32) (he : Int32) (ac : Int32) (ov : Int32) (s1 : Nat) (s2 : Nat) (s3 : Nat) (dr : Int32) (bits : Nat → Int32) (p0 : Int32) (p1 : Int32) (p2 : Int32) : gX l G yX6_writeWord cX6_writeWord 6 (some .int) { frames := 7, cells := 2, slots := 12, locals := 111 } [.ref z0, .int p0, .int p1, .int p2] [(z0, .inr (9, [.ref c0, .ref c0q, .ref c0u, .ref c0v, .int sv, .int sw, .ref a0, .ref b0])), (c0, .inr (6, [.ref s0, .ref k0, .ref i0, .ref o0, .ref x0, .int et, .int wt, .int tm, .int sta, .int he, .int ac, .int ov])), (s0, .inr (8, [.ref s1, .ref s2, .ref s3, .int dr])), (s1, .inl (G.2.1.1, 256, .inl bits))] (th_X6_writeWord p0 p1 p2) (some (.int ((f_X6_writeWord bits p0 p1 p2).1))) [(z0, .inr (9, [.ref c0, .ref c0q, .ref c0u, .ref c0v, .int sv, .int sw, .ref a0, .ref b0])), (c0, .inr (6, [.ref s0, .ref k0, .ref i0, .ref o0, .ref x0, .int et, .int wt, .int tm, .int sta, .int he, .int ac, .int ov])), (s0, .inr (8, [.ref s1, .ref s2, .ref s3, .int dr])), (s1, .inl (G.2.1.1, 256, .inl ((f_X6_writeWord bits p0 p1 p2).2)))] 2 12 := by
  refine gxBegin (by decide +kernel) (Nat.le_of_ble_eq_true rfl) (fun p e s m args below meth c A F hr hlocks htab hN hSt hK hP hD hA hS ls hl => ?_)
  obtain ⟨hx, hb, hml, hown, hts⟩ := id F
  replace hP : va_P G.1 vwCl [(z0, .inr (9, [.ref c0, .ref c0q, .ref c0u, .ref c0v, .int sv, .int sw, .ref a0, .ref b0])), (c0, .inr (6, [.ref s0, .ref k0, .ref i0, .ref o0, .ref x0, .int et, .int wt, .int tm, .int sta, .int he, .int ac, .int ov])), (s0, .inr (8, [.ref s1, .ref s2, .ref s3, .int dr])), (s1, .inl (G.2.1.1, 256, .inl bits))] s.heap := hP
  replace hl : lv_has ls 6 [(0, .ref z0), (1, .int p0), (2, .int p1), (3, .int p2)] := hl
  refine lv_iload_n hx hb dX6_writeWord_0 rfl (lv_at hl 1 rfl) ?_
  refine lv_iload_n hx hb dX6_writeWord_1 rfl (lv_at hl 2 rfl) ?_
  refine gxS (As := [.int p0, .int p1]) (rest := []) (wr := [(z0, .inr (9, [.ref c0, .ref c0q, .ref c0u, .ref c0v, .int sv, .int sw, .ref a0, .ref b0])), (c0, .inr (6, [.ref s0, .ref k0, .ref i0, .ref o0, .ref x0, .int et, .int wt, .int tm, .int sta, .int he, .int ac, .int ov])), (s0, .inr (8, [.ref s1, .ref s2, .ref s3, .int dr])), (s1, .inl (G.2.1.1, 256, .inl bits))]) (ws' := [(z0, .inr (9, [.ref c0, .ref c0q, .ref c0u, .ref c0v, .int sv, .int sw, .ref a0, .ref b0])), (c0, .inr (6, [.ref s0, .ref k0, .ref i0, .ref o0, .ref x0, .int et, .int wt, .int tm, .int sta, .int he, .int ac, .int ov])), (s0, .inr (8, [.ref s1, .ref s2, .ref s3, .int dr])), (s1, .inl (G.2.1.1, 256, .inl bits))]) F (c_X6_requireLocation l hfl G p0 p1) okS_X6_requireLocation k_ml_X6_101 rfl rfl ⟨Nat.le_of_ble_eq_true rfl, Nat.le_of_ble_eq_true rfl⟩ hN hSt hK hP hD hS hA [] [0, 1, 2, 3] [0, 1, 2, 3] (by decide) rfl rfl (by decide) (by decide) (by decide) rfl rfl rfl rfl hl.1 (Nat.le_of_ble_eq_true rfl) dX6_writeWord_2 ⟨Nat.le_of_ble_eq_true rfl, Nat.le_of_ble_eq_true rfl⟩ (fun c_1 H locs hP hD hS => ?_) (fun E9 ce9 q9 H locs x9 hP hD hS h91 h92 h93 => ?_)
  · skip
    refine lv_iload_n hx hb dX6_writeWord_5 rfl (lv_at hl 3 rfl) ?_
    refine gxS (As := [.int p2]) (rest := []) (wr := [(z0, .inr (9, [.ref c0, .ref c0q, .ref c0u, .ref c0v, .int sv, .int sw, .ref a0, .ref b0])), (c0, .inr (6, [.ref s0, .ref k0, .ref i0, .ref o0, .ref x0, .int et, .int wt, .int tm, .int sta, .int he, .int ac, .int ov])), (s0, .inr (8, [.ref s1, .ref s2, .ref s3, .int dr])), (s1, .inl (G.2.1.1, 256, .inl bits))]) (ws' := [(z0, .inr (9, [.ref c0, .ref c0q, .ref c0u, .ref c0v, .int sv, .int sw, .ref a0, .ref b0])), (c0, .inr (6, [.ref s0, .ref k0, .ref i0, .ref o0, .ref x0, .int et, .int wt, .int tm, .int sta, .int he, .int ac, .int ov])), (s0, .inr (8, [.ref s1, .ref s2, .ref s3, .int dr])), (s1, .inl (G.2.1.1, 256, .inl bits))]) F (c_X6_requireWord l hfl G p2) okS_X6_requireWord k_ml_X6_111 rfl rfl ⟨Nat.le_of_ble_eq_true rfl, Nat.le_of_ble_eq_true rfl⟩ hN hSt hK hP hD hS hA [] [0, 1, 2, 3] [0, 1, 2, 3] (by decide) rfl rfl (by decide) (by decide) (by decide) rfl rfl rfl rfl hl.1 (Nat.le_of_ble_eq_true rfl) dX6_writeWord_6 ⟨Nat.le_of_ble_eq_true rfl, Nat.le_of_ble_eq_true rfl⟩ (fun c_2 H locs hP hD hS => ?_) (fun E9 ce9 q9 H locs x9 hP hD hS h91 h92 h93 => ?_)
    · skip
      refine lv_iload_n hx hb dX6_writeWord_9 rfl (lv_at hl 1 rfl) ?_
      refine lv_iload_n hx hb dX6_writeWord_10 rfl (lv_at hl 2 rfl) ?_
      refine gS (As := [.int p0, .int p1]) (rest := []) (wr := [(z0, .inr (9, [.ref c0, .ref c0q, .ref c0u, .ref c0v, .int sv, .int sw, .ref a0, .ref b0])), (c0, .inr (6, [.ref s0, .ref k0, .ref i0, .ref o0, .ref x0, .int et, .int wt, .int tm, .int sta, .int he, .int ac, .int ov])), (s0, .inr (8, [.ref s1, .ref s2, .ref s3, .int dr])), (s1, .inl (G.2.1.1, 256, .inl bits))]) (ws' := [(z0, .inr (9, [.ref c0, .ref c0q, .ref c0u, .ref c0v, .int sv, .int sw, .ref a0, .ref b0])), (c0, .inr (6, [.ref s0, .ref k0, .ref i0, .ref o0, .ref x0, .int et, .int wt, .int tm, .int sta, .int he, .int ac, .int ov])), (s0, .inr (8, [.ref s1, .ref s2, .ref s3, .int dr])), (s1, .inl (G.2.1.1, 256, .inl bits))]) F (c_X6_locationOf l G p0 p1) okS_X6_locationOf k_ml_X6_104 rfl rfl ⟨Nat.le_of_ble_eq_true rfl, Nat.le_of_ble_eq_true rfl⟩ hN hK hP hD hS hA [] [0, 1, 2, 3] [0, 1, 2, 3] (by decide) rfl rfl (by decide) (by decide) (by decide) rfl rfl rfl hl.1 (Nat.le_of_ble_eq_true rfl) dX6_writeWord_11 ⟨Nat.le_of_ble_eq_true rfl, Nat.le_of_ble_eq_true rfl⟩ (fun H locs hP hD hS => ?_)
      refine lv_istore (lv' := [(4, .int (f_X6_locationOf p0 p1)), (0, .ref z0), (1, .int p0), (2, .int p1), (3, .int p2)]) hx hb dX6_writeWord_14 hl (by decide) rfl (fun ls hl => ?_)
      refine lv_aload_n hx hb dX6_writeWord_16 rfl (lv_at hl 1 rfl) ?_
      refine va_get (D := G.1) (ci := 9) (v := .ref c0) (C := RX6) (T := TX6) (N := 8) hx hb hts in_X6 hown hK hP 0 rfl rfl 0 (by decide) (hts _ k_fl_X6_12) (fun _ h9 => h9) rfl dX6_writeWord_17 ?_
      refine va_get (D := G.1) (ci := 6) (v := .ref s0) (C := RX2) (T := TX2) (N := 12) hx hb hts in_X2 hown hK hP 1 rfl rfl 0 (by decide) (hts _ k_fl_X6_72) (fun _ h9 => h9) rfl dX6_writeWord_20 ?_
      refine lv_iload hx hb dX6_writeWord_23 (lv_at hl 0 rfl) ?_
      refine gV (As := [.int (f_X6_locationOf p0 p1)]) (rest := []) (wr := [(z0, .inr (9, [.ref c0, .ref c0q, .ref c0u, .ref c0v, .int sv, .int sw, .ref a0, .ref b0])), (c0, .inr (6, [.ref s0, .ref k0, .ref i0, .ref o0, .ref x0, .int et, .int wt, .int tm, .int sta, .int he, .int ac, .int ov]))]) (ws' := [(z0, .inr (9, [.ref c0, .ref c0q, .ref c0u, .ref c0v, .int sv, .int sw, .ref a0, .ref b0])), (c0, .inr (6, [.ref s0, .ref k0, .ref i0, .ref o0, .ref x0, .int et, .int wt, .int tm, .int sta, .int he, .int ac, .int ov])), (s0, .inr (8, [.ref s1, .ref s2, .ref s3, .int dr])), (s1, .inl (G.2.1.1, 256, .inl bits))]) F (c_X5_wordAt l G s0 s1 s2 s3 bits dr (f_X6_locationOf p0 p1)) okV_X5_wordAt k_ml_X6_108 rfl rfl ⟨Nat.le_of_ble_eq_true rfl, Nat.le_of_ble_eq_true rfl⟩ hN hK hP hD hS hA [2, 3] [0, 1] [0, 1, 2, 3] (by decide) rfl rfl (by decide) (by decide) (by decide) rfl (q0 := 2) rfl rfl rfl rfl hl.1 (Nat.le_of_ble_eq_true rfl) dX6_writeWord_25 ⟨Nat.le_of_ble_eq_true rfl, Nat.le_of_ble_eq_true rfl⟩ (fun H locs hP hD hS => ?_)
      refine lv_istore (lv' := [(5, .int (f_X5_wordAt bits (f_X6_locationOf p0 p1))), (4, .int (f_X6_locationOf p0 p1)), (0, .ref z0), (1, .int p0), (2, .int p1), (3, .int p2)]) hx hb dX6_writeWord_28 hl (by decide) rfl (fun ls hl => ?_)
      refine lv_aload_n hx hb dX6_writeWord_30 rfl (lv_at hl 2 rfl) ?_
      refine va_get (D := G.1) (ci := 9) (v := .ref c0) (C := RX6) (T := TX6) (N := 8) hx hb hts in_X6 hown hK hP 0 rfl rfl 0 (by decide) (hts _ k_fl_X6_12) (fun _ h9 => h9) rfl dX6_writeWord_31 ?_
      refine va_get (D := G.1) (ci := 6) (v := .ref s0) (C := RX2) (T := TX2) (N := 12) hx hb hts in_X2 hown hK hP 1 rfl rfl 0 (by decide) (hts _ k_fl_X6_72) (fun _ h9 => h9) rfl dX6_writeWord_34 ?_
      refine lv_iload hx hb dX6_writeWord_37 (lv_at hl 1 rfl) ?_
      refine lv_iload_n hx hb dX6_writeWord_39 rfl (lv_at hl 5 rfl) ?_
      refine gV (As := [.int (f_X6_locationOf p0 p1), .int p2]) (rest := []) (wr := [(z0, .inr (9, [.ref c0, .ref c0q, .ref c0u, .ref c0v, .int sv, .int sw, .ref a0, .ref b0])), (c0, .inr (6, [.ref s0, .ref k0, .ref i0, .ref o0, .ref x0, .int et, .int wt, .int tm, .int sta, .int he, .int ac, .int ov]))]) (ws' := [(z0, .inr (9, [.ref c0, .ref c0q, .ref c0u, .ref c0v, .int sv, .int sw, .ref a0, .ref b0])), (c0, .inr (6, [.ref s0, .ref k0, .ref i0, .ref o0, .ref x0, .int et, .int wt, .int tm, .int sta, .int he, .int ac, .int ov])), (s0, .inr (8, [.ref s1, .ref s2, .ref s3, .int dr])), (s1, .inl (G.2.1.1, 256, .inl (f_X5_putWord bits (f_X6_locationOf p0 p1) p2)))]) F (c_X5_putWord l G s0 s1 s2 s3 bits dr (f_X6_locationOf p0 p1) p2) okV_X5_putWord k_ml_X6_80 rfl rfl ⟨Nat.le_of_ble_eq_true rfl, Nat.le_of_ble_eq_true rfl⟩ hN hK hP hD hS hA [2, 3] [0, 1] [0, 1, 2, 3] (by decide) rfl rfl (by decide) (by decide) (by decide) rfl (q0 := 2) rfl rfl rfl rfl hl.1 (Nat.le_of_ble_eq_true rfl) dX6_writeWord_40 ⟨Nat.le_of_ble_eq_true rfl, Nat.le_of_ble_eq_true rfl⟩ (fun H locs hP hD hS => ?_)
      refine lv_iload hx hb dX6_writeWord_43 (lv_at hl 0 rfl) ?_
      have ef : (f_X6_writeWord bits p0 p1 p2) = ((f_X5_wordAt bits (f_X6_locationOf p0 p1)), (f_X5_putWord bits (f_X6_locationOf p0 p1) p2)) := ((if_pos c_1).trans (if_pos c_2))
      refine gxOf (((if_pos c_1).trans (if_pos c_2))) ?_
      exact gRetI F hr hlocks hK hP hD hS (by rw [ef]) (by rw [ef]) (Nat.le_of_ble_eq_true rfl) (Nat.le_of_ble_eq_true rfl) dX6_writeWord_45
    · have c_2 : ¬ (th_X6_requireWord p2) = none := (by rw [x9]; exact Option.some_ne_none _)
      exact gxOut hlocks htab hK hP hD hS h91 h92 h93 ((((if_pos c_1).trans (if_neg c_2))).trans x9) (Nat.le_of_ble_eq_true rfl) (Nat.le_of_ble_eq_true rfl)
  · have c_1 : ¬ (th_X6_requireLocation p0 p1) = none := (by rw [x9]; exact Option.some_ne_none _)
    exact gxOut hlocks htab hK hP hD hS h91 h92 h93 (((if_neg c_1)).trans x9) (Nat.le_of_ble_eq_true rfl) (Nat.le_of_ble_eq_true rfl)
theorem okV_X6_writeWord : gOkV yX6_writeWord cX6_writeWord 6 (some .int) 3 := ⟨⟨k_im_X6_writeWord, k_se_X6_writeWord, k_in_X6, k_cd_X6_writeWord⟩, by decide, by decide, by decide +kernel⟩
def f_X6_clearTank (bits : Nat → Int32) (p0 : Int32) : Int32 × (Nat → Int32) :=
  if (th_X6_requireTank p0) = none then
    ((f_X5_countOnes bits p0), (f_X5_clearBits bits p0))
  else
    (0, bits)
def th_X6_clearTank (p0 : Int32) : Option String :=
  if (th_X6_requireTank p0) = none then
    none
  else
    (th_X6_requireTank p0)
set_option maxRecDepth 100000 in
set_option maxHeartbeats 4000000 in
theorem c_X6_clearTank (l : Launch) (hfl : l.stackTraces = false) (G : gG) (z0 : Nat) (c0 : Nat) (c0q : Nat) (c0u : Nat) (c0v : Nat) (a0 : Nat) (b0 : Nat) (sv : Int32) (sw : Int32) (s0 : Nat) (k0 : Nat) (i0 : Nat) (o0 : Nat) (x0 : Nat) (et : Int32) (wt : Int32) (tm : Int32) (sta : Int32) (he : Int32) (ac : Int32) (ov : Int32) (s1 : Nat) (s2 : Nat) (s3 : Nat) (dr : Int32) (bits : Nat → Int32) (p0 : Int32) : gX l G yX6_clearTank cX6_clearTank 3 (some .int) { frames := 7, cells := 1, slots := 6, locals := 110 } [.ref z0, .int p0] [(z0, .inr (9, [.ref c0, .ref c0q, .ref c0u, .ref c0v, .int sv, .int sw, .ref a0, .ref b0])), (c0, .inr (6, [.ref s0, .ref k0, .ref i0, .ref o0, .ref x0, .int et, .int wt, .int tm, .int sta, .int he, .int ac, .int ov])), (s0, .inr (8, [.ref s1, .ref s2, .ref s3, .int dr])), (s1, .inl (G.2.1.1, 256, .inl bits))] (th_X6_clearTank p0) (some (.int ((f_X6_clearTank bits p0).1))) [(z0, .inr (9, [.ref c0, .ref c0q, .ref c0u, .ref c0v, .int sv, .int sw, .ref a0, .ref b0])), (c0, .inr (6, [.ref s0, .ref k0, .ref i0, .ref o0, .ref x0, .int et, .int wt, .int tm, .int sta, .int he, .int ac, .int ov])), (s0, .inr (8, [.ref s1, .ref s2, .ref s3, .int dr])), (s1, .inl (G.2.1.1, 256, .inl ((f_X6_clearTank bits p0).2)))] 1 6 := by
  refine gxBegin (by decide +kernel) (Nat.le_of_ble_eq_true rfl) (fun p e s m args below meth c A F hr hlocks htab hN hSt hK hP hD hA hS ls hl => ?_)
  obtain ⟨hx, hb, hml, hown, hts⟩ := id F
  replace hP : va_P G.1 vwCl [(z0, .inr (9, [.ref c0, .ref c0q, .ref c0u, .ref c0v, .int sv, .int sw, .ref a0, .ref b0])), (c0, .inr (6, [.ref s0, .ref k0, .ref i0, .ref o0, .ref x0, .int et, .int wt, .int tm, .int sta, .int he, .int ac, .int ov])), (s0, .inr (8, [.ref s1, .ref s2, .ref s3, .int dr])), (s1, .inl (G.2.1.1, 256, .inl bits))] s.heap := hP
  replace hl : lv_has ls 3 [(0, .ref z0), (1, .int p0)] := hl
  refine lv_iload_n hx hb dX6_clearTank_0 rfl (lv_at hl 1 rfl) ?_
  refine gxS (As := [.int p0]) (rest := []) (wr := [(z0, .inr (9, [.ref c0, .ref c0q, .ref c0u, .ref c0v, .int sv, .int sw, .ref a0, .ref b0])), (c0, .inr (6, [.ref s0, .ref k0, .ref i0, .ref o0, .ref x0, .int et, .int wt, .int tm, .int sta, .int he, .int ac, .int ov])), (s0, .inr (8, [.ref s1, .ref s2, .ref s3, .int dr])), (s1, .inl (G.2.1.1, 256, .inl bits))]) (ws' := [(z0, .inr (9, [.ref c0, .ref c0q, .ref c0u, .ref c0v, .int sv, .int sw, .ref a0, .ref b0])), (c0, .inr (6, [.ref s0, .ref k0, .ref i0, .ref o0, .ref x0, .int et, .int wt, .int tm, .int sta, .int he, .int ac, .int ov])), (s0, .inr (8, [.ref s1, .ref s2, .ref s3, .int dr])), (s1, .inl (G.2.1.1, 256, .inl bits))]) F (c_X6_requireTank l hfl G p0) okS_X6_requireTank k_ml_X6_114 rfl rfl ⟨Nat.le_of_ble_eq_true rfl, Nat.le_of_ble_eq_true rfl⟩ hN hSt hK hP hD hS hA [] [0, 1, 2, 3] [0, 1, 2, 3] (by decide) rfl rfl (by decide) (by decide) (by decide) rfl rfl rfl rfl hl.1 (Nat.le_of_ble_eq_true rfl) dX6_clearTank_1 ⟨Nat.le_of_ble_eq_true rfl, Nat.le_of_ble_eq_true rfl⟩ (fun c_1 H locs hP hD hS => ?_) (fun E9 ce9 q9 H locs x9 hP hD hS h91 h92 h93 => ?_)
  · skip
    refine lv_aload_n hx hb dX6_clearTank_4 rfl (lv_at hl 0 rfl) ?_
    refine va_get (D := G.1) (ci := 9) (v := .ref c0) (C := RX6) (T := TX6) (N := 8) hx hb hts in_X6 hown hK hP 0 rfl rfl 0 (by decide) (hts _ k_fl_X6_12) (fun _ h9 => h9) rfl dX6_clearTank_5 ?_
    refine va_get (D := G.1) (ci := 6) (v := .ref s0) (C := RX2) (T := TX2) (N := 12) hx hb hts in_X2 hown hK hP 1 rfl rfl 0 (by decide) (hts _ k_fl_X6_72) (fun _ h9 => h9) rfl dX6_clearTank_8 ?_
    refine lv_iload_n hx hb dX6_clearTank_11 rfl (lv_at hl 1 rfl) ?_
    refine gV (As := [.int p0]) (rest := []) (wr := [(z0, .inr (9, [.ref c0, .ref c0q, .ref c0u, .ref c0v, .int sv, .int sw, .ref a0, .ref b0])), (c0, .inr (6, [.ref s0, .ref k0, .ref i0, .ref o0, .ref x0, .int et, .int wt, .int tm, .int sta, .int he, .int ac, .int ov]))]) (ws' := [(z0, .inr (9, [.ref c0, .ref c0q, .ref c0u, .ref c0v, .int sv, .int sw, .ref a0, .ref b0])), (c0, .inr (6, [.ref s0, .ref k0, .ref i0, .ref o0, .ref x0, .int et, .int wt, .int tm, .int sta, .int he, .int ac, .int ov])), (s0, .inr (8, [.ref s1, .ref s2, .ref s3, .int dr])), (s1, .inl (G.2.1.1, 256, .inl bits))]) F (c_X5_countOnes l G s0 s1 s2 s3 bits dr p0) okV_X5_countOnes k_ml_X6_117 rfl rfl ⟨Nat.le_of_ble_eq_true rfl, Nat.le_of_ble_eq_true rfl⟩ hN hK hP hD hS hA [2, 3] [0, 1] [0, 1, 2, 3] (by decide) rfl rfl (by decide) (by decide) (by decide) rfl (q0 := 2) rfl rfl rfl rfl hl.1 (Nat.le_of_ble_eq_true rfl) dX6_clearTank_12 ⟨Nat.le_of_ble_eq_true rfl, Nat.le_of_ble_eq_true rfl⟩ (fun H locs hP hD hS => ?_)
    refine lv_istore_n (lv' := [(2, .int (f_X5_countOnes bits p0)), (0, .ref z0), (1, .int p0)]) hx hb dX6_clearTank_15 rfl hl (by decide) rfl (fun ls hl => ?_)
    refine lv_aload_n hx hb dX6_clearTank_16 rfl (lv_at hl 1 rfl) ?_
    refine va_get (D := G.1) (ci := 9) (v := .ref c0) (C := RX6) (T := TX6) (N := 8) hx hb hts in_X6 hown hK hP 0 rfl rfl 0 (by decide) (hts _ k_fl_X6_12) (fun _ h9 => h9) rfl dX6_clearTank_17 ?_
    refine va_get (D := G.1) (ci := 6) (v := .ref s0) (C := RX2) (T := TX2) (N := 12) hx hb hts in_X2 hown hK hP 1 rfl rfl 0 (by decide) (hts _ k_fl_X6_72) (fun _ h9 => h9) rfl dX6_clearTank_20 ?_
    refine lv_iload_n hx hb dX6_clearTank_23 rfl (lv_at hl 2 rfl) ?_
    refine gV (As := [.int p0]) (rest := []) (wr := [(z0, .inr (9, [.ref c0, .ref c0q, .ref c0u, .ref c0v, .int sv, .int sw, .ref a0, .ref b0])), (c0, .inr (6, [.ref s0, .ref k0, .ref i0, .ref o0, .ref x0, .int et, .int wt, .int tm, .int sta, .int he, .int ac, .int ov]))]) (ws' := [(z0, .inr (9, [.ref c0, .ref c0q, .ref c0u, .ref c0v, .int sv, .int sw, .ref a0, .ref b0])), (c0, .inr (6, [.ref s0, .ref k0, .ref i0, .ref o0, .ref x0, .int et, .int wt, .int tm, .int sta, .int he, .int ac, .int ov])), (s0, .inr (8, [.ref s1, .ref s2, .ref s3, .int dr])), (s1, .inl (G.2.1.1, 256, .inl (f_X5_clearBits bits p0)))]) F (c_X5_clearBits l G s0 s1 s2 s3 bits dr p0) okV_X5_clearBits k_ml_X6_120 rfl rfl ⟨Nat.le_of_ble_eq_true rfl, Nat.le_of_ble_eq_true rfl⟩ hN hK hP hD hS hA [2, 3] [0, 1] [0, 1, 2, 3] (by decide) rfl rfl (by decide) (by decide) (by decide) rfl (q0 := 2) rfl rfl rfl rfl hl.1 (Nat.le_of_ble_eq_true rfl) dX6_clearTank_24 ⟨Nat.le_of_ble_eq_true rfl, Nat.le_of_ble_eq_true rfl⟩ (fun H locs hP hD hS => ?_)
    refine lv_iload_n hx hb dX6_clearTank_27 rfl (lv_at hl 0 rfl) ?_
    have ef : (f_X6_clearTank bits p0) = ((f_X5_countOnes bits p0), (f_X5_clearBits bits p0)) := (if_pos c_1)
    refine gxOf ((if_pos c_1)) ?_
    exact gRetI F hr hlocks hK hP hD hS (by rw [ef]) (by rw [ef]) (Nat.le_of_ble_eq_true rfl) (Nat.le_of_ble_eq_true rfl) dX6_clearTank_28
  · have c_1 : ¬ (th_X6_requireTank p0) = none := (by rw [x9]; exact Option.some_ne_none _)
    exact gxOut hlocks htab hK hP hD hS h91 h92 h93 (((if_neg c_1)).trans x9) (Nat.le_of_ble_eq_true rfl) (Nat.le_of_ble_eq_true rfl)
theorem okV_X6_clearTank : gOkV yX6_clearTank cX6_clearTank 3 (some .int) 1 := ⟨⟨k_im_X6_clearTank, k_se_X6_clearTank, k_in_X6, k_cd_X6_clearTank⟩, by decide, by decide, by decide +kernel⟩
def f_X6_swapTanks (bits : Nat → Int32) (slips : Nat → Int32) (temps : Nat → Int32) (p0 : Int32) (p1 : Int32) : (Nat → Int32) × (Nat → Int32) × (Nat → Int32) :=
  if (th_X6_requireTank p0) = none then
    if (th_X6_requireTank p1) = none then
      ((f_X5_exchange bits slips p0 p1).1, (f_X5_exchange bits slips p0 p1).2, (f_X1_exchange temps p0 p1))
    else
      (bits, slips, temps)
  else
    (bits, slips, temps)
def th_X6_swapTanks (p0 : Int32) (p1 : Int32) : Option String :=
  if (th_X6_requireTank p0) = none then
    if (th_X6_requireTank p1) = none then
      none
    else
      (th_X6_requireTank p1)
  else
    (th_X6_requireTank p0)
set_option maxRecDepth 100000 in
set_option maxHeartbeats 4000000 in
theorem c_X6_swapTanks (l : Launch) (hfl : l.stackTraces = false) (G : gG) (z0 : Nat) (c0 : Nat) (c0q : Nat) (c0u : Nat) (c0v : Nat) (a0 : Nat) (b0 : Nat) (sv : Int32) (sw : Int32) (s0 : Nat) (k0 : Nat) (i0 : Nat) (o0 : Nat) (x0 : Nat) (et : Int32) (wt : Int32) (tm : Int32) (sta : Int32) (he : Int32) (ac : Int32) (ov : Int32) (s1 : Nat) (s2 : Nat) (s3 : Nat) (dr : Int32) (bits : Nat → Int32) (slips : Nat → Int32) (k1 : Nat) (pt : Int32) (ot : Int32) (fp : Int32) (on : Int32) (temps : Nat → Int32) (p0 : Int32) (p1 : Int32) : gX l G yX6_swapTanks cX6_swapTanks 3 none { frames := 7, cells := 2, slots := 12, locals := 110 } [.ref z0, .int p0, .int p1] [(z0, .inr (9, [.ref c0, .ref c0q, .ref c0u, .ref c0v, .int sv, .int sw, .ref a0, .ref b0])), (c0, .inr (6, [.ref s0, .ref k0, .ref i0, .ref o0, .ref x0, .int et, .int wt, .int tm, .int sta, .int he, .int ac, .int ov])), (s0, .inr (8, [.ref s1, .ref s2, .ref s3, .int dr])), (s1, .inl (G.2.1.1, 256, .inl bits)), (s3, .inl (G.2.1.1, 8, .inl slips)), (k0, .inr (5, [.ref k1, .int pt, .int ot, .int fp, .int on])), (k1, .inl (G.2.1.1, 8, .inl temps))] (th_X6_swapTanks p0 p1) none [(z0, .inr (9, [.ref c0, .ref c0q, .ref c0u, .ref c0v, .int sv, .int sw, .ref a0, .ref b0])), (c0, .inr (6, [.ref s0, .ref k0, .ref i0, .ref o0, .ref x0, .int et, .int wt, .int tm, .int sta, .int he, .int ac, .int ov])), (s0, .inr (8, [.ref s1, .ref s2, .ref s3, .int dr])), (s1, .inl (G.2.1.1, 256, .inl ((f_X6_swapTanks bits slips temps p0 p1).1))), (s3, .inl (G.2.1.1, 8, .inl ((f_X6_swapTanks bits slips temps p0 p1).2.1))), (k0, .inr (5, [.ref k1, .int pt, .int ot, .int fp, .int on])), (k1, .inl (G.2.1.1, 8, .inl ((f_X6_swapTanks bits slips temps p0 p1).2.2)))] 2 12 := by
  refine gxBegin (by decide +kernel) (Nat.le_of_ble_eq_true rfl) (fun p e s m args below meth c A F hr hlocks htab hN hSt hK hP hD hA hS ls hl => ?_)
  obtain ⟨hx, hb, hml, hown, hts⟩ := id F
  replace hP : va_P G.1 vwCl [(z0, .inr (9, [.ref c0, .ref c0q, .ref c0u, .ref c0v, .int sv, .int sw, .ref a0, .ref b0])), (c0, .inr (6, [.ref s0, .ref k0, .ref i0, .ref o0, .ref x0, .int et, .int wt, .int tm, .int sta, .int he, .int ac, .int ov])), (s0, .inr (8, [.ref s1, .ref s2, .ref s3, .int dr])), (s1, .inl (G.2.1.1, 256, .inl bits)), (s3, .inl (G.2.1.1, 8, .inl slips)), (k0, .inr (5, [.ref k1, .int pt, .int ot, .int fp, .int on])), (k1, .inl (G.2.1.1, 8, .inl temps))] s.heap := hP
  replace hl : lv_has ls 3 [(0, .ref z0), (1, .int p0), (2, .int p1)] := hl
  refine lv_iload_n hx hb dX6_swapTanks_0 rfl (lv_at hl 1 rfl) ?_
  refine gxS (As := [.int p0]) (rest := []) (wr := [(z0, .inr (9, [.ref c0, .ref c0q, .ref c0u, .ref c0v, .int sv, .int sw, .ref a0, .ref b0])), (c0, .inr (6, [.ref s0, .ref k0, .ref i0, .ref o0, .ref x0, .int et, .int wt, .int tm, .int sta, .int he, .int ac, .int ov])), (s0, .inr (8, [.ref s1, .ref s2, .ref s3, .int dr])), (s1, .inl (G.2.1.1, 256, .inl bits)), (s3, .inl (G.2.1.1, 8, .inl slips)), (k0, .inr (5, [.ref k1, .int pt, .int ot, .int fp, .int on])), (k1, .inl (G.2.1.1, 8, .inl temps))]) (ws' := [(z0, .inr (9, [.ref c0, .ref c0q, .ref c0u, .ref c0v, .int sv, .int sw, .ref a0, .ref b0])), (c0, .inr (6, [.ref s0, .ref k0, .ref i0, .ref o0, .ref x0, .int et, .int wt, .int tm, .int sta, .int he, .int ac, .int ov])), (s0, .inr (8, [.ref s1, .ref s2, .ref s3, .int dr])), (s1, .inl (G.2.1.1, 256, .inl bits)), (s3, .inl (G.2.1.1, 8, .inl slips)), (k0, .inr (5, [.ref k1, .int pt, .int ot, .int fp, .int on])), (k1, .inl (G.2.1.1, 8, .inl temps))]) F (c_X6_requireTank l hfl G p0) okS_X6_requireTank k_ml_X6_114 rfl rfl ⟨Nat.le_of_ble_eq_true rfl, Nat.le_of_ble_eq_true rfl⟩ hN hSt hK hP hD hS hA [] [0, 1, 2, 3, 4, 5, 6] [0, 1, 2, 3, 4, 5, 6] (by decide) rfl rfl (by decide) (by decide) (by decide) rfl rfl rfl rfl hl.1 (Nat.le_of_ble_eq_true rfl) dX6_swapTanks_1 ⟨Nat.le_of_ble_eq_true rfl, Nat.le_of_ble_eq_true rfl⟩ (fun c_1 H locs hP hD hS => ?_) (fun E9 ce9 q9 H locs x9 hP hD hS h91 h92 h93 => ?_)
  · skip
    refine lv_iload_n hx hb dX6_swapTanks_4 rfl (lv_at hl 2 rfl) ?_
    refine gxS (As := [.int p1]) (rest := []) (wr := [(z0, .inr (9, [.ref c0, .ref c0q, .ref c0u, .ref c0v, .int sv, .int sw, .ref a0, .ref b0])), (c0, .inr (6, [.ref s0, .ref k0, .ref i0, .ref o0, .ref x0, .int et, .int wt, .int tm, .int sta, .int he, .int ac, .int ov])), (s0, .inr (8, [.ref s1, .ref s2, .ref s3, .int dr])), (s1, .inl (G.2.1.1, 256, .inl bits)), (s3, .inl (G.2.1.1, 8, .inl slips)), (k0, .inr (5, [.ref k1, .int pt, .int ot, .int fp, .int on])), (k1, .inl (G.2.1.1, 8, .inl temps))]) (ws' := [(z0, .inr (9, [.ref c0, .ref c0q, .ref c0u, .ref c0v, .int sv, .int sw, .ref a0, .ref b0])), (c0, .inr (6, [.ref s0, .ref k0, .ref i0, .ref o0, .ref x0, .int et, .int wt, .int tm, .int sta, .int he, .int ac, .int ov])), (s0, .inr (8, [.ref s1, .ref s2, .ref s3, .int dr])), (s1, .inl (G.2.1.1, 256, .inl bits)), (s3, .inl (G.2.1.1, 8, .inl slips)), (k0, .inr (5, [.ref k1, .int pt, .int ot, .int fp, .int on])), (k1, .inl (G.2.1.1, 8, .inl temps))]) F (c_X6_requireTank l hfl G p1) okS_X6_requireTank k_ml_X6_114 rfl rfl ⟨Nat.le_of_ble_eq_true rfl, Nat.le_of_ble_eq_true rfl⟩ hN hSt hK hP hD hS hA [] [0, 1, 2, 3, 4, 5, 6] [0, 1, 2, 3, 4, 5, 6] (by decide) rfl rfl (by decide) (by decide) (by decide) rfl rfl rfl rfl hl.1 (Nat.le_of_ble_eq_true rfl) dX6_swapTanks_5 ⟨Nat.le_of_ble_eq_true rfl, Nat.le_of_ble_eq_true rfl⟩ (fun c_2 H locs hP hD hS => ?_) (fun E9 ce9 q9 H locs x9 hP hD hS h91 h92 h93 => ?_)
    · skip
      refine lv_aload_n hx hb dX6_swapTanks_8 rfl (lv_at hl 0 rfl) ?_
      refine va_get (D := G.1) (ci := 9) (v := .ref c0) (C := RX6) (T := TX6) (N := 8) hx hb hts in_X6 hown hK hP 0 rfl rfl 0 (by decide) (hts _ k_fl_X6_12) (fun _ h9 => h9) rfl dX6_swapTanks_9 ?_
      refine va_get (D := G.1) (ci := 6) (v := .ref s0) (C := RX2) (T := TX2) (N := 12) hx hb hts in_X2 hown hK hP 1 rfl rfl 0 (by decide) (hts _ k_fl_X6_72) (fun _ h9 => h9) rfl dX6_swapTanks_12 ?_
      refine lv_iload_n hx hb dX6_swapTanks_15 rfl (lv_at hl 1 rfl) ?_
      refine lv_iload_n hx hb dX6_swapTanks_16 rfl (lv_at hl 2 rfl) ?_
      refine gV (As := [.int p0, .int p1]) (rest := []) (wr := [(z0, .inr (9, [.ref c0, .ref c0q, .ref c0u, .ref c0v, .int sv, .int sw, .ref a0, .ref b0])), (c0, .inr (6, [.ref s0, .ref k0, .ref i0, .ref o0, .ref x0, .int et, .int wt, .int tm, .int sta, .int he, .int ac, .int ov])), (k0, .inr (5, [.ref k1, .int pt, .int ot, .int fp, .int on])), (k1, .inl (G.2.1.1, 8, .inl temps))]) (ws' := [(z0, .inr (9, [.ref c0, .ref c0q, .ref c0u, .ref c0v, .int sv, .int sw, .ref a0, .ref b0])), (c0, .inr (6, [.ref s0, .ref k0, .ref i0, .ref o0, .ref x0, .int et, .int wt, .int tm, .int sta, .int he, .int ac, .int ov])), (s0, .inr (8, [.ref s1, .ref s2, .ref s3, .int dr])), (s1, .inl (G.2.1.1, 256, .inl ((f_X5_exchange bits slips p0 p1).1))), (s3, .inl (G.2.1.1, 8, .inl ((f_X5_exchange bits slips p0 p1).2))), (k0, .inr (5, [.ref k1, .int pt, .int ot, .int fp, .int on])), (k1, .inl (G.2.1.1, 8, .inl temps))]) F (c_X5_exchange l G s0 s1 s2 s3 bits slips dr p0 p1) okV_X5_exchange k_ml_X6_123 rfl rfl ⟨Nat.le_of_ble_eq_true rfl, Nat.le_of_ble_eq_true rfl⟩ hN hK hP hD hS hA [2, 3, 4] [0, 1, 5, 6] [0, 1, 4, 5, 6, 2, 3] (by decide) rfl rfl (by decide) (by decide) (by decide) rfl (q0 := 2) rfl rfl rfl rfl hl.1 (Nat.le_of_ble_eq_true rfl) dX6_swapTanks_17 ⟨Nat.le_of_ble_eq_true rfl, Nat.le_of_ble_eq_true rfl⟩ (fun H locs hP hD hS => ?_)
      refine lv_aload_n hx hb dX6_swapTanks_20 rfl (lv_at hl 0 rfl) ?_
      refine va_get (D := G.1) (ci := 9) (v := .ref c0) (C := RX6) (T := TX6) (N := 8) hx hb hts in_X6 hown hK hP 0 rfl rfl 0 (by decide) (hts _ k_fl_X6_12) (fun _ h9 => h9) rfl dX6_swapTanks_21 ?_
      refine va_get (D := G.1) (ci := 6) (v := .ref k0) (C := RX2) (T := TX2) (N := 12) hx hb hts in_X2 hown hK hP 1 rfl rfl 1 (by decide) (hts _ k_fl_X6_126) (fun _ h9 => h9) rfl dX6_swapTanks_24 ?_
      refine lv_iload_n hx hb dX6_swapTanks_27 rfl (lv_at hl 1 rfl) ?_
      refine lv_iload_n hx hb dX6_swapTanks_28 rfl (lv_at hl 2 rfl) ?_
      refine gV (As := [.int p0, .int p1]) (rest := []) (wr := [(z0, .inr (9, [.ref c0, .ref c0q, .ref c0u, .ref c0v, .int sv, .int sw, .ref a0, .ref b0])), (c0, .inr (6, [.ref s0, .ref k0, .ref i0, .ref o0, .ref x0, .int et, .int wt, .int tm, .int sta, .int he, .int ac, .int ov])), (s0, .inr (8, [.ref s1, .ref s2, .ref s3, .int dr])), (s1, .inl (G.2.1.1, 256, .inl ((f_X5_exchange bits slips p0 p1).1))), (s3, .inl (G.2.1.1, 8, .inl ((f_X5_exchange bits slips p0 p1).2)))]) (ws' := [(z0, .inr (9, [.ref c0, .ref c0q, .ref c0u, .ref c0v, .int sv, .int sw, .ref a0, .ref b0])), (c0, .inr (6, [.ref s0, .ref k0, .ref i0, .ref o0, .ref x0, .int et, .int wt, .int tm, .int sta, .int he, .int ac, .int ov])), (s0, .inr (8, [.ref s1, .ref s2, .ref s3, .int dr])), (s1, .inl (G.2.1.1, 256, .inl ((f_X5_exchange bits slips p0 p1).1))), (s3, .inl (G.2.1.1, 8, .inl ((f_X5_exchange bits slips p0 p1).2))), (k0, .inr (5, [.ref k1, .int pt, .int ot, .int fp, .int on])), (k1, .inl (G.2.1.1, 8, .inl (f_X1_exchange temps p0 p1)))]) F (c_X1_exchange l G k0 k1 pt ot fp on temps p0 p1) okV_X1_exchange k_ml_X6_130 rfl rfl ⟨Nat.le_of_ble_eq_true rfl, Nat.le_of_ble_eq_true rfl⟩ hN hK hP hD hS hA [5, 6] [0, 1, 2, 3, 4] [0, 1, 2, 3, 4, 5, 6] (by decide) rfl rfl (by decide) (by decide) (by decide) rfl (q0 := 5) rfl rfl rfl rfl hl.1 (Nat.le_of_ble_eq_true rfl) dX6_swapTanks_29 ⟨Nat.le_of_ble_eq_true rfl, Nat.le_of_ble_eq_true rfl⟩ (fun H locs hP hD hS => ?_)
      have ef : (f_X6_swapTanks bits slips temps p0 p1) = ((f_X5_exchange bits slips p0 p1).1, (f_X5_exchange bits slips p0 p1).2, (f_X1_exchange temps p0 p1)) := ((if_pos c_1).trans (if_pos c_2))
      refine gxOf (((if_pos c_1).trans (if_pos c_2))) ?_
      exact gRetV F hr hlocks hK hP hD hS rfl (by rw [ef]) (Nat.le_of_ble_eq_true rfl) (Nat.le_of_ble_eq_true rfl) dX6_swapTanks_32
    · have c_2 : ¬ (th_X6_requireTank p1) = none := (by rw [x9]; exact Option.some_ne_none _)
      exact gxOut hlocks htab hK hP hD hS h91 h92 h93 ((((if_pos c_1).trans (if_neg c_2))).trans x9) (Nat.le_of_ble_eq_true rfl) (Nat.le_of_ble_eq_true rfl)
  · have c_1 : ¬ (th_X6_requireTank p0) = none := (by rw [x9]; exact Option.some_ne_none _)
    exact gxOut hlocks htab hK hP hD hS h91 h92 h93 (((if_neg c_1)).trans x9) (Nat.le_of_ble_eq_true rfl) (Nat.le_of_ble_eq_true rfl)
theorem okV_X6_swapTanks : gOkV yX6_swapTanks cX6_swapTanks 3 none 2 := ⟨⟨k_im_X6_swapTanks, k_se_X6_swapTanks, k_in_X6, k_cd_X6_swapTanks⟩, by decide, by decide, by decide +kernel⟩
def f_X6_bitCount (bits : Nat → Int32) (p0 : Int32) : Int32 :=
  if (th_X6_requireTank p0) = none then
    (f_X5_countOnes bits p0)
  else
    0
def th_X6_bitCount (p0 : Int32) : Option String :=
  if (th_X6_requireTank p0) = none then
    none
  else
    (th_X6_requireTank p0)
set_option maxRecDepth 100000 in
set_option maxHeartbeats 4000000 in
theorem c_X6_bitCount (l : Launch) (hfl : l.stackTraces = false) (G : gG) (z0 : Nat) (c0 : Nat) (c0q : Nat) (c0u : Nat) (c0v : Nat) (a0 : Nat) (b0 : Nat) (sv : Int32) (sw : Int32) (s0 : Nat) (k0 : Nat) (i0 : Nat) (o0 : Nat) (x0 : Nat) (et : Int32) (wt : Int32) (tm : Int32) (sta : Int32) (he : Int32) (ac : Int32) (ov : Int32) (s1 : Nat) (s2 : Nat) (s3 : Nat) (dr : Int32) (bits : Nat → Int32) (p0 : Int32) : gX l G yX6_bitCount cX6_bitCount 2 (some .int) { frames := 7, cells := 1, slots := 6, locals := 110 } [.ref z0, .int p0] [(z0, .inr (9, [.ref c0, .ref c0q, .ref c0u, .ref c0v, .int sv, .int sw, .ref a0, .ref b0])), (c0, .inr (6, [.ref s0, .ref k0, .ref i0, .ref o0, .ref x0, .int et, .int wt, .int tm, .int sta, .int he, .int ac, .int ov])), (s0, .inr (8, [.ref s1, .ref s2, .ref s3, .int dr])), (s1, .inl (G.2.1.1, 256, .inl bits))] (th_X6_bitCount p0) (some (.int (f_X6_bitCount bits p0))) [(z0, .inr (9, [.ref c0, .ref c0q, .ref c0u, .ref c0v, .int sv, .int sw, .ref a0, .ref b0])), (c0, .inr (6, [.ref s0, .ref k0, .ref i0, .ref o0, .ref x0, .int et, .int wt, .int tm, .int sta, .int he, .int ac, .int ov])), (s0, .inr (8, [.ref s1, .ref s2, .ref s3, .int dr])), (s1, .inl (G.2.1.1, 256, .inl bits))] 1 6 := by
  refine gxBegin (by decide +kernel) (Nat.le_of_ble_eq_true rfl) (fun p e s m args below meth c A F hr hlocks htab hN hSt hK hP hD hA hS ls hl => ?_)
  obtain ⟨hx, hb, hml, hown, hts⟩ := id F
  replace hP : va_P G.1 vwCl [(z0, .inr (9, [.ref c0, .ref c0q, .ref c0u, .ref c0v, .int sv, .int sw, .ref a0, .ref b0])), (c0, .inr (6, [.ref s0, .ref k0, .ref i0, .ref o0, .ref x0, .int et, .int wt, .int tm, .int sta, .int he, .int ac, .int ov])), (s0, .inr (8, [.ref s1, .ref s2, .ref s3, .int dr])), (s1, .inl (G.2.1.1, 256, .inl bits))] s.heap := hP
  replace hl : lv_has ls 2 [(0, .ref z0), (1, .int p0)] := hl
  refine lv_iload_n hx hb dX6_bitCount_0 rfl (lv_at hl 1 rfl) ?_
  refine gxS (As := [.int p0]) (rest := []) (wr := [(z0, .inr (9, [.ref c0, .ref c0q, .ref c0u, .ref c0v, .int sv, .int sw, .ref a0, .ref b0])), (c0, .inr (6, [.ref s0, .ref k0, .ref i0, .ref o0, .ref x0, .int et, .int wt, .int tm, .int sta, .int he, .int ac, .int ov])), (s0, .inr (8, [.ref s1, .ref s2, .ref s3, .int dr])), (s1, .inl (G.2.1.1, 256, .inl bits))]) (ws' := [(z0, .inr (9, [.ref c0, .ref c0q, .ref c0u, .ref c0v, .int sv, .int sw, .ref a0, .ref b0])), (c0, .inr (6, [.ref s0, .ref k0, .ref i0, .ref o0, .ref x0, .int et, .int wt, .int tm, .int sta, .int he, .int ac, .int ov])), (s0, .inr (8, [.ref s1, .ref s2, .ref s3, .int dr])), (s1, .inl (G.2.1.1, 256, .inl bits))]) F (c_X6_requireTank l hfl G p0) okS_X6_requireTank k_ml_X6_114 rfl rfl ⟨Nat.le_of_ble_eq_true rfl, Nat.le_of_ble_eq_true rfl⟩ hN hSt hK hP hD hS hA [] [0, 1, 2, 3] [0, 1, 2, 3] (by decide) rfl rfl (by decide) (by decide) (by decide) rfl rfl rfl rfl hl.1 (Nat.le_of_ble_eq_true rfl) dX6_bitCount_1 ⟨Nat.le_of_ble_eq_true rfl, Nat.le_of_ble_eq_true rfl⟩ (fun c_1 H locs hP hD hS => ?_) (fun E9 ce9 q9 H locs x9 hP hD hS h91 h92 h93 => ?_)
  · skip
    refine lv_aload_n hx hb dX6_bitCount_4 rfl (lv_at hl 0 rfl) ?_
    refine va_get (D := G.1) (ci := 9) (v := .ref c0) (C := RX6) (T := TX6) (N := 8) hx hb hts in_X6 hown hK hP 0 rfl rfl 0 (by decide) (hts _ k_fl_X6_12) (fun _ h9 => h9) rfl dX6_bitCount_5 ?_
    refine va_get (D := G.1) (ci := 6) (v := .ref s0) (C := RX2) (T := TX2) (N := 12) hx hb hts in_X2 hown hK hP 1 rfl rfl 0 (by decide) (hts _ k_fl_X6_72) (fun _ h9 => h9) rfl dX6_bitCount_8 ?_
    refine lv_iload_n hx hb dX6_bitCount_11 rfl (lv_at hl 1 rfl) ?_
    refine gV (As := [.int p0]) (rest := []) (wr := [(z0, .inr (9, [.ref c0, .ref c0q, .ref c0u, .ref c0v, .int sv, .int sw, .ref a0, .ref b0])), (c0, .inr (6, [.ref s0, .ref k0, .ref i0, .ref o0, .ref x0, .int et, .int wt, .int tm, .int sta, .int he, .int ac, .int ov]))]) (ws' := [(z0, .inr (9, [.ref c0, .ref c0q, .ref c0u, .ref c0v, .int sv, .int sw, .ref a0, .ref b0])), (c0, .inr (6, [.ref s0, .ref k0, .ref i0, .ref o0, .ref x0, .int et, .int wt, .int tm, .int sta, .int he, .int ac, .int ov])), (s0, .inr (8, [.ref s1, .ref s2, .ref s3, .int dr])), (s1, .inl (G.2.1.1, 256, .inl bits))]) F (c_X5_countOnes l G s0 s1 s2 s3 bits dr p0) okV_X5_countOnes k_ml_X6_117 rfl rfl ⟨Nat.le_of_ble_eq_true rfl, Nat.le_of_ble_eq_true rfl⟩ hN hK hP hD hS hA [2, 3] [0, 1] [0, 1, 2, 3] (by decide) rfl rfl (by decide) (by decide) (by decide) rfl (q0 := 2) rfl rfl rfl rfl hl.1 (Nat.le_of_ble_eq_true rfl) dX6_bitCount_12 ⟨Nat.le_of_ble_eq_true rfl, Nat.le_of_ble_eq_true rfl⟩ (fun H locs hP hD hS => ?_)
    have ef : (f_X6_bitCount bits p0) = (f_X5_countOnes bits p0) := (if_pos c_1)
    refine gxOf ((if_pos c_1)) ?_
    exact gRetI F hr hlocks hK hP hD hS (by rw [ef]) rfl (Nat.le_of_ble_eq_true rfl) (Nat.le_of_ble_eq_true rfl) dX6_bitCount_15
  · have c_1 : ¬ (th_X6_requireTank p0) = none := (by rw [x9]; exact Option.some_ne_none _)
    exact gxOut hlocks htab hK hP hD hS h91 h92 h93 (((if_neg c_1)).trans x9) (Nat.le_of_ble_eq_true rfl) (Nat.le_of_ble_eq_true rfl)
theorem okV_X6_bitCount : gOkV yX6_bitCount cX6_bitCount 2 (some .int) 1 := ⟨⟨k_im_X6_bitCount, k_se_X6_bitCount, k_in_X6, k_cd_X6_bitCount⟩, by decide, by decide, by decide +kernel⟩
def f_X6_slips (slips : Nat → Int32) (p0 : Int32) : Int32 :=
  if (th_X6_requireTank p0) = none then
    (f_X5_slipCountOf slips p0)
  else
    0
def th_X6_slips (p0 : Int32) : Option String :=
  if (th_X6_requireTank p0) = none then
    none
  else
    (th_X6_requireTank p0)
set_option maxRecDepth 100000 in
set_option maxHeartbeats 4000000 in
theorem c_X6_slips (l : Launch) (hfl : l.stackTraces = false) (G : gG) (z0 : Nat) (c0 : Nat) (c0q : Nat) (c0u : Nat) (c0v : Nat) (a0 : Nat) (b0 : Nat) (sv : Int32) (sw : Int32) (s0 : Nat) (k0 : Nat) (i0 : Nat) (o0 : Nat) (x0 : Nat) (et : Int32) (wt : Int32) (tm : Int32) (sta : Int32) (he : Int32) (ac : Int32) (ov : Int32) (s1 : Nat) (s2 : Nat) (s3 : Nat) (dr : Int32) (slips : Nat → Int32) (p0 : Int32) : gX l G yX6_slips cX6_slips 2 (some .int) { frames := 7, cells := 1, slots := 6, locals := 110 } [.ref z0, .int p0] [(z0, .inr (9, [.ref c0, .ref c0q, .ref c0u, .ref c0v, .int sv, .int sw, .ref a0, .ref b0])), (c0, .inr (6, [.ref s0, .ref k0, .ref i0, .ref o0, .ref x0, .int et, .int wt, .int tm, .int sta, .int he, .int ac, .int ov])), (s0, .inr (8, [.ref s1, .ref s2, .ref s3, .int dr])), (s3, .inl (G.2.1.1, 8, .inl slips))] (th_X6_slips p0) (some (.int (f_X6_slips slips p0))) [(z0, .inr (9, [.ref c0, .ref c0q, .ref c0u, .ref c0v, .int sv, .int sw, .ref a0, .ref b0])), (c0, .inr (6, [.ref s0, .ref k0, .ref i0, .ref o0, .ref x0, .int et, .int wt, .int tm, .int sta, .int he, .int ac, .int ov])), (s0, .inr (8, [.ref s1, .ref s2, .ref s3, .int dr])), (s3, .inl (G.2.1.1, 8, .inl slips))] 1 6 := by
  refine gxBegin (by decide +kernel) (Nat.le_of_ble_eq_true rfl) (fun p e s m args below meth c A F hr hlocks htab hN hSt hK hP hD hA hS ls hl => ?_)
  obtain ⟨hx, hb, hml, hown, hts⟩ := id F
  replace hP : va_P G.1 vwCl [(z0, .inr (9, [.ref c0, .ref c0q, .ref c0u, .ref c0v, .int sv, .int sw, .ref a0, .ref b0])), (c0, .inr (6, [.ref s0, .ref k0, .ref i0, .ref o0, .ref x0, .int et, .int wt, .int tm, .int sta, .int he, .int ac, .int ov])), (s0, .inr (8, [.ref s1, .ref s2, .ref s3, .int dr])), (s3, .inl (G.2.1.1, 8, .inl slips))] s.heap := hP
  replace hl : lv_has ls 2 [(0, .ref z0), (1, .int p0)] := hl
  refine lv_iload_n hx hb dX6_slips_0 rfl (lv_at hl 1 rfl) ?_
  refine gxS (As := [.int p0]) (rest := []) (wr := [(z0, .inr (9, [.ref c0, .ref c0q, .ref c0u, .ref c0v, .int sv, .int sw, .ref a0, .ref b0])), (c0, .inr (6, [.ref s0, .ref k0, .ref i0, .ref o0, .ref x0, .int et, .int wt, .int tm, .int sta, .int he, .int ac, .int ov])), (s0, .inr (8, [.ref s1, .ref s2, .ref s3, .int dr])), (s3, .inl (G.2.1.1, 8, .inl slips))]) (ws' := [(z0, .inr (9, [.ref c0, .ref c0q, .ref c0u, .ref c0v, .int sv, .int sw, .ref a0, .ref b0])), (c0, .inr (6, [.ref s0, .ref k0, .ref i0, .ref o0, .ref x0, .int et, .int wt, .int tm, .int sta, .int he, .int ac, .int ov])), (s0, .inr (8, [.ref s1, .ref s2, .ref s3, .int dr])), (s3, .inl (G.2.1.1, 8, .inl slips))]) F (c_X6_requireTank l hfl G p0) okS_X6_requireTank k_ml_X6_114 rfl rfl ⟨Nat.le_of_ble_eq_true rfl, Nat.le_of_ble_eq_true rfl⟩ hN hSt hK hP hD hS hA [] [0, 1, 2, 3] [0, 1, 2, 3] (by decide) rfl rfl (by decide) (by decide) (by decide) rfl rfl rfl rfl hl.1 (Nat.le_of_ble_eq_true rfl) dX6_slips_1 ⟨Nat.le_of_ble_eq_true rfl, Nat.le_of_ble_eq_true rfl⟩ (fun c_1 H locs hP hD hS => ?_) (fun E9 ce9 q9 H locs x9 hP hD hS h91 h92 h93 => ?_)
  · skip
    refine lv_aload_n hx hb dX6_slips_4 rfl (lv_at hl 0 rfl) ?_
    refine va_get (D := G.1) (ci := 9) (v := .ref c0) (C := RX6) (T := TX6) (N := 8) hx hb hts in_X6 hown hK hP 0 rfl rfl 0 (by decide) (hts _ k_fl_X6_12) (fun _ h9 => h9) rfl dX6_slips_5 ?_
    refine va_get (D := G.1) (ci := 6) (v := .ref s0) (C := RX2) (T := TX2) (N := 12) hx hb hts in_X2 hown hK hP 1 rfl rfl 0 (by decide) (hts _ k_fl_X6_72) (fun _ h9 => h9) rfl dX6_slips_8 ?_
    refine lv_iload_n hx hb dX6_slips_11 rfl (lv_at hl 1 rfl) ?_
    refine gV (As := [.int p0]) (rest := []) (wr := [(z0, .inr (9, [.ref c0, .ref c0q, .ref c0u, .ref c0v, .int sv, .int sw, .ref a0, .ref b0])), (c0, .inr (6, [.ref s0, .ref k0, .ref i0, .ref o0, .ref x0, .int et, .int wt, .int tm, .int sta, .int he, .int ac, .int ov]))]) (ws' := [(z0, .inr (9, [.ref c0, .ref c0q, .ref c0u, .ref c0v, .int sv, .int sw, .ref a0, .ref b0])), (c0, .inr (6, [.ref s0, .ref k0, .ref i0, .ref o0, .ref x0, .int et, .int wt, .int tm, .int sta, .int he, .int ac, .int ov])), (s0, .inr (8, [.ref s1, .ref s2, .ref s3, .int dr])), (s3, .inl (G.2.1.1, 8, .inl slips))]) F (c_X5_slipCountOf l G s0 s1 s2 s3 slips dr p0) okV_X5_slipCountOf k_ml_X6_133 rfl rfl ⟨Nat.le_of_ble_eq_true rfl, Nat.le_of_ble_eq_true rfl⟩ hN hK hP hD hS hA [2, 3] [0, 1] [0, 1, 2, 3] (by decide) rfl rfl (by decide) (by decide) (by decide) rfl (q0 := 2) rfl rfl rfl rfl hl.1 (Nat.le_of_ble_eq_true rfl) dX6_slips_12 ⟨Nat.le_of_ble_eq_true rfl, Nat.le_of_ble_eq_true rfl⟩ (fun H locs hP hD hS => ?_)
    have ef : (f_X6_slips slips p0) = (f_X5_slipCountOf slips p0) := (if_pos c_1)
    refine gxOf ((if_pos c_1)) ?_
    exact gRetI F hr hlocks hK hP hD hS (by rw [ef]) rfl (Nat.le_of_ble_eq_true rfl) (Nat.le_of_ble_eq_true rfl) dX6_slips_15
  · have c_1 : ¬ (th_X6_requireTank p0) = none := (by rw [x9]; exact Option.some_ne_none _)
    exact gxOut hlocks htab hK hP hD hS h91 h92 h93 (((if_neg c_1)).trans x9) (Nat.le_of_ble_eq_true rfl) (Nat.le_of_ble_eq_true rfl)
theorem okV_X6_slips : gOkV yX6_slips cX6_slips 2 (some .int) 1 := ⟨⟨k_im_X6_slips, k_se_X6_slips, k_in_X6, k_cd_X6_slips⟩, by decide, by decide, by decide +kernel⟩
def f_X6_dropouts (dr : Int32) : Int32 :=
  dr
set_option maxRecDepth 100000 in
set_option maxHeartbeats 4000000 in
theorem c_X6_dropouts (l : Launch) (G : gG) (z0 : Nat) (c0 : Nat) (c0q : Nat) (c0u : Nat) (c0v : Nat) (a0 : Nat) (b0 : Nat) (sv : Int32) (sw : Int32) (s0 : Nat) (k0 : Nat) (i0 : Nat) (o0 : Nat) (x0 : Nat) (et : Int32) (wt : Int32) (tm : Int32) (sta : Int32) (he : Int32) (ac : Int32) (ov : Int32) (s1 : Nat) (s2 : Nat) (s3 : Nat) (dr : Int32) : gM l G yX6_dropouts cX6_dropouts 1 (some .int) { frames := 0, cells := 0, slots := 0, locals := 0 } [.ref z0] [(z0, .inr (9, [.ref c0, .ref c0q, .ref c0u, .ref c0v, .int sv, .int sw, .ref a0, .ref b0])), (c0, .inr (6, [.ref s0, .ref k0, .ref i0, .ref o0, .ref x0, .int et, .int wt, .int tm, .int sta, .int he, .int ac, .int ov])), (s0, .inr (8, [.ref s1, .ref s2, .ref s3, .int dr]))] (some (.int (f_X6_dropouts dr))) [(z0, .inr (9, [.ref c0, .ref c0q, .ref c0u, .ref c0v, .int sv, .int sw, .ref a0, .ref b0])), (c0, .inr (6, [.ref s0, .ref k0, .ref i0, .ref o0, .ref x0, .int et, .int wt, .int tm, .int sta, .int he, .int ac, .int ov])), (s0, .inr (8, [.ref s1, .ref s2, .ref s3, .int dr]))] 0 0 := by
  refine gBegin (by decide +kernel) (Nat.le_of_ble_eq_true rfl) (fun p e s m args below meth c A F hr hlocks hname hN hK hP hD hA hS ls hl => ?_)
  obtain ⟨hx, hb, hml, hown, hts⟩ := id F
  replace hP : va_P G.1 vwCl [(z0, .inr (9, [.ref c0, .ref c0q, .ref c0u, .ref c0v, .int sv, .int sw, .ref a0, .ref b0])), (c0, .inr (6, [.ref s0, .ref k0, .ref i0, .ref o0, .ref x0, .int et, .int wt, .int tm, .int sta, .int he, .int ac, .int ov])), (s0, .inr (8, [.ref s1, .ref s2, .ref s3, .int dr]))] s.heap := hP
  replace hl : lv_has ls 1 [(0, .ref z0)] := hl
  refine lv_aload_n hx hb dX6_dropouts_0 rfl (lv_at hl 0 rfl) ?_
  refine va_get (D := G.1) (ci := 9) (v := .ref c0) (C := RX6) (T := TX6) (N := 8) hx hb hts in_X6 hown hK hP 0 rfl rfl 0 (by decide) (hts _ k_fl_X6_12) (fun _ h9 => h9) rfl dX6_dropouts_1 ?_
  refine va_get (D := G.1) (ci := 6) (v := .ref s0) (C := RX2) (T := TX2) (N := 12) hx hb hts in_X2 hown hK hP 1 rfl rfl 0 (by decide) (hts _ k_fl_X6_72) (fun _ h9 => h9) rfl dX6_dropouts_4 ?_
  refine va_get (D := G.1) (ci := 8) (v := .int dr) (C := RX5) (T := TX5) (N := 4) hx hb hts in_X5 hown hK hP 2 rfl rfl 3 (by decide) (hts _ k_fl_X6_136) (fun _ h9 => h9) rfl dX6_dropouts_7 ?_
  exact gRetI F hr hlocks hK hP hD hS rfl rfl (Nat.le_of_ble_eq_true rfl) (Nat.le_of_ble_eq_true rfl) dX6_dropouts_10
theorem okV_X6_dropouts : gOkV yX6_dropouts cX6_dropouts 1 (some .int) 0 := ⟨⟨k_im_X6_dropouts, k_se_X6_dropouts, k_in_X6, k_cd_X6_dropouts⟩, by decide, by decide, by decide +kernel⟩
def f_X6_setTemperature (temps : Nat → Int32) (p0 : Int32) (p1 : Int32) : Int32 × (Nat → Int32) :=
  if (th_X6_requireTank p0) = none then
    if (th_X6_requireTemperature p1) = none then
      ((f_X1_temperatureOf temps p0), (f_X1_putTemperature temps p0 p1))
    else
      (0, temps)
  else
    (0, temps)
def th_X6_setTemperature (p0 : Int32) (p1 : Int32) : Option String :=
  if (th_X6_requireTank p0) = none then
    if (th_X6_requireTemperature p1) = none then
      none
    else
      (th_X6_requireTemperature p1)
  else
    (th_X6_requireTank p0)
set_option maxRecDepth 100000 in
set_option maxHeartbeats 4000000 in
theorem c_X6_setTemperature (l : Launch) (hfl : l.stackTraces = false) (G : gG) (z0 : Nat) (c0 : Nat) (c0q : Nat) (c0u : Nat) (c0v : Nat) (a0 : Nat) (b0 : Nat) (sv : Int32) (sw : Int32) (s0 : Nat) (k0 : Nat) (i0 : Nat) (o0 : Nat) (x0 : Nat) (et : Int32) (wt : Int32) (tm : Int32) (sta : Int32) (he : Int32) (ac : Int32) (ov : Int32) (k1 : Nat) (pt : Int32) (ot : Int32) (fp : Int32) (on : Int32) (temps : Nat → Int32) (p0 : Int32) (p1 : Int32) : gX l G yX6_setTemperature cX6_setTemperature 4 (some .int) { frames := 7, cells := 2, slots := 12, locals := 110 } [.ref z0, .int p0, .int p1] [(z0, .inr (9, [.ref c0, .ref c0q, .ref c0u, .ref c0v, .int sv, .int sw, .ref a0, .ref b0])), (c0, .inr (6, [.ref s0, .ref k0, .ref i0, .ref o0, .ref x0, .int et, .int wt, .int tm, .int sta, .int he, .int ac, .int ov])), (k0, .inr (5, [.ref k1, .int pt, .int ot, .int fp, .int on])), (k1, .inl (G.2.1.1, 8, .inl temps))] (th_X6_setTemperature p0 p1) (some (.int ((f_X6_setTemperature temps p0 p1).1))) [(z0, .inr (9, [.ref c0, .ref c0q, .ref c0u, .ref c0v, .int sv, .int sw, .ref a0, .ref b0])), (c0, .inr (6, [.ref s0, .ref k0, .ref i0, .ref o0, .ref x0, .int et, .int wt, .int tm, .int sta, .int he, .int ac, .int ov])), (k0, .inr (5, [.ref k1, .int pt, .int ot, .int fp, .int on])), (k1, .inl (G.2.1.1, 8, .inl ((f_X6_setTemperature temps p0 p1).2)))] 2 12 := by
  refine gxBegin (by decide +kernel) (Nat.le_of_ble_eq_true rfl) (fun p e s m args below meth c A F hr hlocks htab hN hSt hK hP hD hA hS ls hl => ?_)
  obtain ⟨hx, hb, hml, hown, hts⟩ := id F
  replace hP : va_P G.1 vwCl [(z0, .inr (9, [.ref c0, .ref c0q, .ref c0u, .ref c0v, .int sv, .int sw, .ref a0, .ref b0])), (c0, .inr (6, [.ref s0, .ref k0, .ref i0, .ref o0, .ref x0, .int et, .int wt, .int tm, .int sta, .int he, .int ac, .int ov])), (k0, .inr (5, [.ref k1, .int pt, .int ot, .int fp, .int on])), (k1, .inl (G.2.1.1, 8, .inl temps))] s.heap := hP
  replace hl : lv_has ls 4 [(0, .ref z0), (1, .int p0), (2, .int p1)] := hl
  refine lv_iload_n hx hb dX6_setTemperature_0 rfl (lv_at hl 1 rfl) ?_
  refine gxS (As := [.int p0]) (rest := []) (wr := [(z0, .inr (9, [.ref c0, .ref c0q, .ref c0u, .ref c0v, .int sv, .int sw, .ref a0, .ref b0])), (c0, .inr (6, [.ref s0, .ref k0, .ref i0, .ref o0, .ref x0, .int et, .int wt, .int tm, .int sta, .int he, .int ac, .int ov])), (k0, .inr (5, [.ref k1, .int pt, .int ot, .int fp, .int on])), (k1, .inl (G.2.1.1, 8, .inl temps))]) (ws' := [(z0, .inr (9, [.ref c0, .ref c0q, .ref c0u, .ref c0v, .int sv, .int sw, .ref a0, .ref b0])), (c0, .inr (6, [.ref s0, .ref k0, .ref i0, .ref o0, .ref x0, .int et, .int wt, .int tm, .int sta, .int he, .int ac, .int ov])), (k0, .inr (5, [.ref k1, .int pt, .int ot, .int fp, .int on])), (k1, .inl (G.2.1.1, 8, .inl temps))]) F (c_X6_requireTank l hfl G p0) okS_X6_requireTank k_ml_X6_114 rfl rfl ⟨Nat.le_of_ble_eq_true rfl, Nat.le_of_ble_eq_true rfl⟩ hN hSt hK hP hD hS hA [] [0, 1, 2, 3] [0, 1, 2, 3] (by decide) rfl rfl (by decide) (by decide) (by decide) rfl rfl rfl rfl hl.1 (Nat.le_of_ble_eq_true rfl) dX6_setTemperature_1 ⟨Nat.le_of_ble_eq_true rfl, Nat.le_of_ble_eq_true rfl⟩ (fun c_1 H locs hP hD hS => ?_) (fun E9 ce9 q9 H locs x9 hP hD hS h91 h92 h93 => ?_)
  · skip
    refine lv_iload_n hx hb dX6_setTemperature_4 rfl (lv_at hl 2 rfl) ?_
    refine gxS (As := [.int p1]) (rest := []) (wr := [(z0, .inr (9, [.ref c0, .ref c0q, .ref c0u, .ref c0v, .int sv, .int sw, .ref a0, .ref b0])), (c0, .inr (6, [.ref s0, .ref k0, .ref i0, .ref o0, .ref x0, .int et, .int wt, .int tm, .int sta, .int he, .int ac, .int ov])), (k0, .inr (5, [.ref k1, .int pt, .int ot, .int fp, .int on])), (k1, .inl (G.2.1.1, 8, .inl temps))]) (ws' := [(z0, .inr (9, [.ref c0, .ref c0q, .ref c0u, .ref c0v, .int sv, .int sw, .ref a0, .ref b0])), (c0, .inr (6, [.ref s0, .ref k0, .ref i0, .ref o0, .ref x0, .int et, .int wt, .int tm, .int sta, .int he, .int ac, .int ov])), (k0, .inr (5, [.ref k1, .int pt, .int ot, .int fp, .int on])), (k1, .inl (G.2.1.1, 8, .inl temps))]) F (c_X6_requireTemperature l hfl G p1) okS_X6_requireTemperature k_ml_X6_139 rfl rfl ⟨Nat.le_of_ble_eq_true rfl, Nat.le_of_ble_eq_true rfl⟩ hN hSt hK hP hD hS hA [] [0, 1, 2, 3] [0, 1, 2, 3] (by decide) rfl rfl (by decide) (by decide) (by decide) rfl rfl rfl rfl hl.1 (Nat.le_of_ble_eq_true rfl) dX6_setTemperature_5 ⟨Nat.le_of_ble_eq_true rfl, Nat.le_of_ble_eq_true rfl⟩ (fun c_2 H locs hP hD hS => ?_) (fun E9 ce9 q9 H locs x9 hP hD hS h91 h92 h93 => ?_)
    · skip
      refine lv_aload_n hx hb dX6_setTemperature_8 rfl (lv_at hl 0 rfl) ?_
      refine va_get (D := G.1) (ci := 9) (v := .ref c0) (C := RX6) (T := TX6) (N := 8) hx hb hts in_X6 hown hK hP 0 rfl rfl 0 (by decide) (hts _ k_fl_X6_12) (fun _ h9 => h9) rfl dX6_setTemperature_9 ?_
      refine va_get (D := G.1) (ci := 6) (v := .ref k0) (C := RX2) (T := TX2) (N := 12) hx hb hts in_X2 hown hK hP 1 rfl rfl 1 (by decide) (hts _ k_fl_X6_126) (fun _ h9 => h9) rfl dX6_setTemperature_12 ?_
      refine lv_iload_n hx hb dX6_setTemperature_15 rfl (lv_at hl 1 rfl) ?_
      refine gV (As := [.int p0]) (rest := []) (wr := [(z0, .inr (9, [.ref c0, .ref c0q, .ref c0u, .ref c0v, .int sv, .int sw, .ref a0, .ref b0])), (c0, .inr (6, [.ref s0, .ref k0, .ref i0, .ref o0, .ref x0, .int et, .int wt, .int tm, .int sta, .int he, .int ac, .int ov]))]) (ws' := [(z0, .inr (9, [.ref c0, .ref c0q, .ref c0u, .ref c0v, .int sv, .int sw, .ref a0, .ref b0])), (c0, .inr (6, [.ref s0, .ref k0, .ref i0, .ref o0, .ref x0, .int et, .int wt, .int tm, .int sta, .int he, .int ac, .int ov])), (k0, .inr (5, [.ref k1, .int pt, .int ot, .int fp, .int on])), (k1, .inl (G.2.1.1, 8, .inl temps))]) F (c_X1_temperatureOf l G k0 k1 pt ot fp on temps p0) okV_X1_temperatureOf k_ml_X6_142 rfl rfl ⟨Nat.le_of_ble_eq_true rfl, Nat.le_of_ble_eq_true rfl⟩ hN hK hP hD hS hA [2, 3] [0, 1] [0, 1, 2, 3] (by decide) rfl rfl (by decide) (by decide) (by decide) rfl (q0 := 2) rfl rfl rfl rfl hl.1 (Nat.le_of_ble_eq_true rfl) dX6_setTemperature_16 ⟨Nat.le_of_ble_eq_true rfl, Nat.le_of_ble_eq_true rfl⟩ (fun H locs hP hD hS => ?_)
      refine lv_istore_n (lv' := [(3, .int (f_X1_temperatureOf temps p0)), (0, .ref z0), (1, .int p0), (2, .int p1)]) hx hb dX6_setTemperature_19 rfl hl (by decide) rfl (fun ls hl => ?_)
      refine lv_aload_n hx hb dX6_setTemperature_20 rfl (lv_at hl 1 rfl) ?_
      refine va_get (D := G.1) (ci := 9) (v := .ref c0) (C := RX6) (T := TX6) (N := 8) hx hb hts in_X6 hown hK hP 0 rfl rfl 0 (by decide) (hts _ k_fl_X6_12) (fun _ h9 => h9) rfl dX6_setTemperature_21 ?_
      refine va_get (D := G.1) (ci := 6) (v := .ref k0) (C := RX2) (T := TX2) (N := 12) hx hb hts in_X2 hown hK hP 1 rfl rfl 1 (by decide) (hts _ k_fl_X6_126) (fun _ h9 => h9) rfl dX6_setTemperature_24 ?_
      refine lv_iload_n hx hb dX6_setTemperature_27 rfl (lv_at hl 2 rfl) ?_
      refine lv_iload_n hx hb dX6_setTemperature_28 rfl (lv_at hl 3 rfl) ?_
      refine gV (As := [.int p0, .int p1]) (rest := []) (wr := [(z0, .inr (9, [.ref c0, .ref c0q, .ref c0u, .ref c0v, .int sv, .int sw, .ref a0, .ref b0])), (c0, .inr (6, [.ref s0, .ref k0, .ref i0, .ref o0, .ref x0, .int et, .int wt, .int tm, .int sta, .int he, .int ac, .int ov]))]) (ws' := [(z0, .inr (9, [.ref c0, .ref c0q, .ref c0u, .ref c0v, .int sv, .int sw, .ref a0, .ref b0])), (c0, .inr (6, [.ref s0, .ref k0, .ref i0, .ref o0, .ref x0, .int et, .int wt, .int tm, .int sta, .int he, .int ac, .int ov])), (k0, .inr (5, [.ref k1, .int pt, .int ot, .int fp, .int on])), (k1, .inl (G.2.1.1, 8, .inl (f_X1_putTemperature temps p0 p1)))]) F (c_X1_putTemperature l G k0 k1 pt ot fp on temps p0 p1) okV_X1_putTemperature k_ml_X6_145 rfl rfl ⟨Nat.le_of_ble_eq_true rfl, Nat.le_of_ble_eq_true rfl⟩ hN hK hP hD hS hA [2, 3] [0, 1] [0, 1, 2, 3] (by decide) rfl rfl (by decide) (by decide) (by decide) rfl (q0 := 2) rfl rfl rfl rfl hl.1 (Nat.le_of_ble_eq_true rfl) dX6_setTemperature_29 ⟨Nat.le_of_ble_eq_true rfl, Nat.le_of_ble_eq_true rfl⟩ (fun H locs hP hD hS => ?_)
      refine lv_iload_n hx hb dX6_setTemperature_32 rfl (lv_at hl 0 rfl) ?_
      have ef : (f_X6_setTemperature temps p0 p1) = ((f_X1_temperatureOf temps p0), (f_X1_putTemperature temps p0 p1)) := ((if_pos c_1).trans (if_pos c_2))
      refine gxOf (((if_pos c_1).trans (if_pos c_2))) ?_
      exact gRetI F hr hlocks hK hP hD hS (by rw [ef]) (by rw [ef]) (Nat.le_of_ble_eq_true rfl) (Nat.le_of_ble_eq_true rfl) dX6_setTemperature_33
    · have c_2 : ¬ (th_X6_requireTemperature p1) = none := (by rw [x9]; exact Option.some_ne_none _)
      exact gxOut hlocks htab hK hP hD hS h91 h92 h93 ((((if_pos c_1).trans (if_neg c_2))).trans x9) (Nat.le_of_ble_eq_true rfl) (Nat.le_of_ble_eq_true rfl)
  · have c_1 : ¬ (th_X6_requireTank p0) = none := (by rw [x9]; exact Option.some_ne_none _)
    exact gxOut hlocks htab hK hP hD hS h91 h92 h93 (((if_neg c_1)).trans x9) (Nat.le_of_ble_eq_true rfl) (Nat.le_of_ble_eq_true rfl)
theorem okV_X6_setTemperature : gOkV yX6_setTemperature cX6_setTemperature 4 (some .int) 2 := ⟨⟨k_im_X6_setTemperature, k_se_X6_setTemperature, k_in_X6, k_cd_X6_setTemperature⟩, by decide, by decide, by decide +kernel⟩
def f_X6_temperature (temps : Nat → Int32) (p0 : Int32) : Int32 :=
  if (th_X6_requireTank p0) = none then
    (f_X1_temperatureOf temps p0)
  else
    0
def th_X6_temperature (p0 : Int32) : Option String :=
  if (th_X6_requireTank p0) = none then
    none
  else
    (th_X6_requireTank p0)
set_option maxRecDepth 100000 in
set_option maxHeartbeats 4000000 in
theorem c_X6_temperature (l : Launch) (hfl : l.stackTraces = false) (G : gG) (z0 : Nat) (c0 : Nat) (c0q : Nat) (c0u : Nat) (c0v : Nat) (a0 : Nat) (b0 : Nat) (sv : Int32) (sw : Int32) (s0 : Nat) (k0 : Nat) (i0 : Nat) (o0 : Nat) (x0 : Nat) (et : Int32) (wt : Int32) (tm : Int32) (sta : Int32) (he : Int32) (ac : Int32) (ov : Int32) (k1 : Nat) (pt : Int32) (ot : Int32) (fp : Int32) (on : Int32) (temps : Nat → Int32) (p0 : Int32) : gX l G yX6_temperature cX6_temperature 2 (some .int) { frames := 7, cells := 1, slots := 6, locals := 110 } [.ref z0, .int p0] [(z0, .inr (9, [.ref c0, .ref c0q, .ref c0u, .ref c0v, .int sv, .int sw, .ref a0, .ref b0])), (c0, .inr (6, [.ref s0, .ref k0, .ref i0, .ref o0, .ref x0, .int et, .int wt, .int tm, .int sta, .int he, .int ac, .int ov])), (k0, .inr (5, [.ref k1, .int pt, .int ot, .int fp, .int on])), (k1, .inl (G.2.1.1, 8, .inl temps))] (th_X6_temperature p0) (some (.int (f_X6_temperature temps p0))) [(z0, .inr (9, [.ref c0, .ref c0q, .ref c0u, .ref c0v, .int sv, .int sw, .ref a0, .ref b0])), (c0, .inr (6, [.ref s0, .ref k0, .ref i0, .ref o0, .ref x0, .int et, .int wt, .int tm, .int sta, .int he, .int ac, .int ov])), (k0, .inr (5, [.ref k1, .int pt, .int ot, .int fp, .int on])), (k1, .inl (G.2.1.1, 8, .inl temps))] 1 6 := by
  refine gxBegin (by decide +kernel) (Nat.le_of_ble_eq_true rfl) (fun p e s m args below meth c A F hr hlocks htab hN hSt hK hP hD hA hS ls hl => ?_)
  obtain ⟨hx, hb, hml, hown, hts⟩ := id F
  replace hP : va_P G.1 vwCl [(z0, .inr (9, [.ref c0, .ref c0q, .ref c0u, .ref c0v, .int sv, .int sw, .ref a0, .ref b0])), (c0, .inr (6, [.ref s0, .ref k0, .ref i0, .ref o0, .ref x0, .int et, .int wt, .int tm, .int sta, .int he, .int ac, .int ov])), (k0, .inr (5, [.ref k1, .int pt, .int ot, .int fp, .int on])), (k1, .inl (G.2.1.1, 8, .inl temps))] s.heap := hP
  replace hl : lv_has ls 2 [(0, .ref z0), (1, .int p0)] := hl
  refine lv_iload_n hx hb dX6_temperature_0 rfl (lv_at hl 1 rfl) ?_
  refine gxS (As := [.int p0]) (rest := []) (wr := [(z0, .inr (9, [.ref c0, .ref c0q, .ref c0u, .ref c0v, .int sv, .int sw, .ref a0, .ref b0])), (c0, .inr (6, [.ref s0, .ref k0, .ref i0, .ref o0, .ref x0, .int et, .int wt, .int tm, .int sta, .int he, .int ac, .int ov])), (k0, .inr (5, [.ref k1, .int pt, .int ot, .int fp, .int on])), (k1, .inl (G.2.1.1, 8, .inl temps))]) (ws' := [(z0, .inr (9, [.ref c0, .ref c0q, .ref c0u, .ref c0v, .int sv, .int sw, .ref a0, .ref b0])), (c0, .inr (6, [.ref s0, .ref k0, .ref i0, .ref o0, .ref x0, .int et, .int wt, .int tm, .int sta, .int he, .int ac, .int ov])), (k0, .inr (5, [.ref k1, .int pt, .int ot, .int fp, .int on])), (k1, .inl (G.2.1.1, 8, .inl temps))]) F (c_X6_requireTank l hfl G p0) okS_X6_requireTank k_ml_X6_114 rfl rfl ⟨Nat.le_of_ble_eq_true rfl, Nat.le_of_ble_eq_true rfl⟩ hN hSt hK hP hD hS hA [] [0, 1, 2, 3] [0, 1, 2, 3] (by decide) rfl rfl (by decide) (by decide) (by decide) rfl rfl rfl rfl hl.1 (Nat.le_of_ble_eq_true rfl) dX6_temperature_1 ⟨Nat.le_of_ble_eq_true rfl, Nat.le_of_ble_eq_true rfl⟩ (fun c_1 H locs hP hD hS => ?_) (fun E9 ce9 q9 H locs x9 hP hD hS h91 h92 h93 => ?_)
  · skip
    refine lv_aload_n hx hb dX6_temperature_4 rfl (lv_at hl 0 rfl) ?_
    refine va_get (D := G.1) (ci := 9) (v := .ref c0) (C := RX6) (T := TX6) (N := 8) hx hb hts in_X6 hown hK hP 0 rfl rfl 0 (by decide) (hts _ k_fl_X6_12) (fun _ h9 => h9) rfl dX6_temperature_5 ?_
    refine va_get (D := G.1) (ci := 6) (v := .ref k0) (C := RX2) (T := TX2) (N := 12) hx hb hts in_X2 hown hK hP 1 rfl rfl 1 (by decide) (hts _ k_fl_X6_126) (fun _ h9 => h9) rfl dX6_temperature_8 ?_
    refine lv_iload_n hx hb dX6_temperature_11 rfl (lv_at hl 1 rfl) ?_
    refine gV (As := [.int p0]) (rest := []) (wr := [(z0, .inr (9, [.ref c0, .ref c0q, .ref c0u, .ref c0v, .int sv, .int sw, .ref a0, .ref b0])), (c0, .inr (6, [.ref s0, .ref k0, .ref i0, .ref o0, .ref x0, .int et, .int wt, .int tm, .int sta, .int he, .int ac, .int ov]))]) (ws' := [(z0, .inr (9, [.ref c0, .ref c0q, .ref c0u, .ref c0v, .int sv, .int sw, .ref a0, .ref b0])), (c0, .inr (6, [.ref s0, .ref k0, .ref i0, .ref o0, .ref x0, .int et, .int wt, .int tm, .int sta, .int he, .int ac, .int ov])), (k0, .inr (5, [.ref k1, .int pt, .int ot, .int fp, .int on])), (k1, .inl (G.2.1.1, 8, .inl temps))]) F (c_X1_temperatureOf l G k0 k1 pt ot fp on temps p0) okV_X1_temperatureOf k_ml_X6_142 rfl rfl ⟨Nat.le_of_ble_eq_true rfl, Nat.le_of_ble_eq_true rfl⟩ hN hK hP hD hS hA [2, 3] [0, 1] [0, 1, 2, 3] (by decide) rfl rfl (by decide) (by decide) (by decide) rfl (q0 := 2) rfl rfl rfl rfl hl.1 (Nat.le_of_ble_eq_true rfl) dX6_temperature_12 ⟨Nat.le_of_ble_eq_true rfl, Nat.le_of_ble_eq_true rfl⟩ (fun H locs hP hD hS => ?_)
    have ef : (f_X6_temperature temps p0) = (f_X1_temperatureOf temps p0) := (if_pos c_1)
    refine gxOf ((if_pos c_1)) ?_
    exact gRetI F hr hlocks hK hP hD hS (by rw [ef]) rfl (Nat.le_of_ble_eq_true rfl) (Nat.le_of_ble_eq_true rfl) dX6_temperature_15
  · have c_1 : ¬ (th_X6_requireTank p0) = none := (by rw [x9]; exact Option.some_ne_none _)
    exact gxOut hlocks htab hK hP hD hS h91 h92 h93 (((if_neg c_1)).trans x9) (Nat.le_of_ble_eq_true rfl) (Nat.le_of_ble_eq_true rfl)
theorem okV_X6_temperature : gOkV yX6_temperature cX6_temperature 2 (some .int) 1 := ⟨⟨k_im_X6_temperature, k_se_X6_temperature, k_in_X6, k_cd_X6_temperature⟩, by decide, by decide, by decide +kernel⟩
def f_X6_setOven (ot : Int32) (p0 : Int32) : Int32 × Int32 :=
  if (th_X6_requireTemperature p0) = none then
    (ot, p0)
  else
    (0, ot)
def th_X6_setOven (p0 : Int32) : Option String :=
  if (th_X6_requireTemperature p0) = none then
    none
  else
    (th_X6_requireTemperature p0)
set_option maxRecDepth 100000 in
set_option maxHeartbeats 4000000 in
theorem c_X6_setOven (l : Launch) (hfl : l.stackTraces = false) (G : gG) (z0 : Nat) (c0 : Nat) (c0q : Nat) (c0u : Nat) (c0v : Nat) (a0 : Nat) (b0 : Nat) (sv : Int32) (sw : Int32) (s0 : Nat) (k0 : Nat) (i0 : Nat) (o0 : Nat) (x0 : Nat) (et : Int32) (wt : Int32) (tm : Int32) (sta : Int32) (he : Int32) (ac : Int32) (ov : Int32) (k1 : Nat) (pt : Int32) (ot : Int32) (fp : Int32) (on : Int32) (p0 : Int32) : gX l G yX6_setOven cX6_setOven 3 (some .int) { frames := 7, cells := 1, slots := 6, locals := 110 } [.ref z0, .int p0] [(z0, .inr (9, [.ref c0, .ref c0q, .ref c0u, .ref c0v, .int sv, .int sw, .ref a0, .ref b0])), (c0, .inr (6, [.ref s0, .ref k0, .ref i0, .ref o0, .ref x0, .int et, .int wt, .int tm, .int sta, .int he, .int ac, .int ov])), (k0, .inr (5, [.ref k1, .int pt, .int ot, .int fp, .int on]))] (th_X6_setOven p0) (some (.int ((f_X6_setOven ot p0).1))) [(z0, .inr (9, [.ref c0, .ref c0q, .ref c0u, .ref c0v, .int sv, .int sw, .ref a0, .ref b0])), (c0, .inr (6, [.ref s0, .ref k0, .ref i0, .ref o0, .ref x0, .int et, .int wt, .int tm, .int sta, .int he, .int ac, .int ov])), (k0, .inr (5, [.ref k1, .int pt, .int ((f_X6_setOven ot p0).2), .int fp, .int on]))] 1 6 := by
  refine gxBegin (by decide +kernel) (Nat.le_of_ble_eq_true rfl) (fun p e s m args below meth c A F hr hlocks htab hN hSt hK hP hD hA hS ls hl => ?_)
  obtain ⟨hx, hb, hml, hown, hts⟩ := id F
  replace hP : va_P G.1 vwCl [(z0, .inr (9, [.ref c0, .ref c0q, .ref c0u, .ref c0v, .int sv, .int sw, .ref a0, .ref b0])), (c0, .inr (6, [.ref s0, .ref k0, .ref i0, .ref o0, .ref x0, .int et, .int wt, .int tm, .int sta, .int he, .int ac, .int ov])), (k0, .inr (5, [.ref k1, .int pt, .int ot, .int fp, .int on]))] s.heap := hP
  replace hl : lv_has ls 3 [(0, .ref z0), (1, .int p0)] := hl
  refine lv_iload_n hx hb dX6_setOven_0 rfl (lv_at hl 1 rfl) ?_
  refine gxS (As := [.int p0]) (rest := []) (wr := [(z0, .inr (9, [.ref c0, .ref c0q, .ref c0u, .ref c0v, .int sv, .int sw, .ref a0, .ref b0])), (c0, .inr (6, [.ref s0, .ref k0, .ref i0, .ref o0, .ref x0, .int et, .int wt, .int tm, .int sta, .int he, .int ac, .int ov])), (k0, .inr (5, [.ref k1, .int pt, .int ot, .int fp, .int on]))]) (ws' := [(z0, .inr (9, [.ref c0, .ref c0q, .ref c0u, .ref c0v, .int sv, .int sw, .ref a0, .ref b0])), (c0, .inr (6, [.ref s0, .ref k0, .ref i0, .ref o0, .ref x0, .int et, .int wt, .int tm, .int sta, .int he, .int ac, .int ov])), (k0, .inr (5, [.ref k1, .int pt, .int ot, .int fp, .int on]))]) F (c_X6_requireTemperature l hfl G p0) okS_X6_requireTemperature k_ml_X6_139 rfl rfl ⟨Nat.le_of_ble_eq_true rfl, Nat.le_of_ble_eq_true rfl⟩ hN hSt hK hP hD hS hA [] [0, 1, 2] [0, 1, 2] (by decide) rfl rfl (by decide) (by decide) (by decide) rfl rfl rfl rfl hl.1 (Nat.le_of_ble_eq_true rfl) dX6_setOven_1 ⟨Nat.le_of_ble_eq_true rfl, Nat.le_of_ble_eq_true rfl⟩ (fun c_1 H locs hP hD hS => ?_) (fun E9 ce9 q9 H locs x9 hP hD hS h91 h92 h93 => ?_)
  · skip
    refine lv_aload_n hx hb dX6_setOven_4 rfl (lv_at hl 0 rfl) ?_
    refine va_get (D := G.1) (ci := 9) (v := .ref c0) (C := RX6) (T := TX6) (N := 8) hx hb hts in_X6 hown hK hP 0 rfl rfl 0 (by decide) (hts _ k_fl_X6_12) (fun _ h9 => h9) rfl dX6_setOven_5 ?_
    refine va_get (D := G.1) (ci := 6) (v := .ref k0) (C := RX2) (T := TX2) (N := 12) hx hb hts in_X2 hown hK hP 1 rfl rfl 1 (by decide) (hts _ k_fl_X6_126) (fun _ h9 => h9) rfl dX6_setOven_8 ?_
    refine va_get (D := G.1) (ci := 5) (v := .int ot) (C := RX1) (T := TX1) (N := 5) hx hb hts in_X1 hown hK hP 2 rfl rfl 2 (by decide) (hts _ k_fl_X6_148) (fun _ h9 => h9) rfl dX6_setOven_11 ?_
    refine lv_istore_n (lv' := [(2, .int ot), (0, .ref z0), (1, .int p0)]) hx hb dX6_setOven_14 rfl hl (by decide) rfl (fun ls hl => ?_)
    refine lv_aload_n hx hb dX6_setOven_15 rfl (lv_at hl 1 rfl) ?_
    refine va_get (D := G.1) (ci := 9) (v := .ref c0) (C := RX6) (T := TX6) (N := 8) hx hb hts in_X6 hown hK hP 0 rfl rfl 0 (by decide) (hts _ k_fl_X6_12) (fun _ h9 => h9) rfl dX6_setOven_16 ?_
    refine va_get (D := G.1) (ci := 6) (v := .ref k0) (C := RX2) (T := TX2) (N := 12) hx hb hts in_X2 hown hK hP 1 rfl rfl 1 (by decide) (hts _ k_fl_X6_126) (fun _ h9 => h9) rfl dX6_setOven_19 ?_
    refine lv_iload_n hx hb dX6_setOven_22 rfl (lv_at hl 2 rfl) ?_
    refine va_put (D := G.1) (ci := 5) (v := .int p0) (ty := .int) (C := RX1) (T := TX1) (N := 5) hx hb hts in_X1 tyX1 tyX1_ok nmX1 hown hK hP hD hS 2 rfl rfl 2 (by decide) (hts _ k_fl_X6_148) (fun _ h9 => h9) rfl (by decide +kernel) rfl rfl (Nat.le_of_ble_eq_true rfl) dX6_setOven_23 (fun H locs hP hD hS => ?_)
    replace hP : va_P G.1 vwCl [(z0, .inr (9, [.ref c0, .ref c0q, .ref c0u, .ref c0v, .int sv, .int sw, .ref a0, .ref b0])), (c0, .inr (6, [.ref s0, .ref k0, .ref i0, .ref o0, .ref x0, .int et, .int wt, .int tm, .int sta, .int he, .int ac, .int ov])), (k0, .inr (5, [.ref k1, .int pt, .int p0, .int fp, .int on]))] H := hP
    replace hD : va_D A [(z0, .inr (9, [.ref c0, .ref c0q, .ref c0u, .ref c0v, .int sv, .int sw, .ref a0, .ref b0])), (c0, .inr (6, [.ref s0, .ref k0, .ref i0, .ref o0, .ref x0, .int et, .int wt, .int tm, .int sta, .int he, .int ac, .int ov])), (k0, .inr (5, [.ref k1, .int pt, .int p0, .int fp, .int on]))] := hD
    refine lv_iload_n hx hb dX6_setOven_26 rfl (lv_at hl 0 rfl) ?_
    have ef : (f_X6_setOven ot p0) = (ot, p0) := (if_pos c_1)
    refine gxOf ((if_pos c_1)) ?_
    exact gRetI F hr hlocks hK hP hD hS (by rw [ef]) (by rw [ef]) (Nat.le_of_ble_eq_true rfl) (Nat.le_of_ble_eq_true rfl) dX6_setOven_27
  · have c_1 : ¬ (th_X6_requireTemperature p0) = none := (by rw [x9]; exact Option.some_ne_none _)
    exact gxOut hlocks htab hK hP hD hS h91 h92 h93 (((if_neg c_1)).trans x9) (Nat.le_of_ble_eq_true rfl) (Nat.le_of_ble_eq_true rfl)
theorem okV_X6_setOven : gOkV yX6_setOven cX6_setOven 3 (some .int) 1 := ⟨⟨k_im_X6_setOven, k_se_X6_setOven, k_in_X6, k_cd_X6_setOven⟩, by decide, by decide, by decide +kernel⟩
def f_X6_setPilotTemperature (pt : Int32) (p0 : Int32) : Int32 × Int32 :=
  if (th_X6_requireTemperature p0) = none then
    (pt, p0)
  else
    (0, pt)
def th_X6_setPilotTemperature (p0 : Int32) : Option String :=
  if (th_X6_requireTemperature p0) = none then
    none
  else
    (th_X6_requireTemperature p0)
set_option maxRecDepth 100000 in
set_option maxHeartbeats 4000000 in
theorem c_X6_setPilotTemperature (l : Launch) (hfl : l.stackTraces = false) (G : gG) (z0 : Nat) (c0 : Nat) (c0q : Nat) (c0u : Nat) (c0v : Nat) (a0 : Nat) (b0 : Nat) (sv : Int32) (sw : Int32) (s0 : Nat) (k0 : Nat) (i0 : Nat) (o0 : Nat) (x0 : Nat) (et : Int32) (wt : Int32) (tm : Int32) (sta : Int32) (he : Int32) (ac : Int32) (ov : Int32) (k1 : Nat) (pt : Int32) (ot : Int32) (fp : Int32) (on : Int32) (p0 : Int32) : gX l G yX6_setPilotTemperature cX6_setPilotTemperature 3 (some .int) { frames := 7, cells := 1, slots := 6, locals := 110 } [.ref z0, .int p0] [(z0, .inr (9, [.ref c0, .ref c0q, .ref c0u, .ref c0v, .int sv, .int sw, .ref a0, .ref b0])), (c0, .inr (6, [.ref s0, .ref k0, .ref i0, .ref o0, .ref x0, .int et, .int wt, .int tm, .int sta, .int he, .int ac, .int ov])), (k0, .inr (5, [.ref k1, .int pt, .int ot, .int fp, .int on]))] (th_X6_setPilotTemperature p0) (some (.int ((f_X6_setPilotTemperature pt p0).1))) [(z0, .inr (9, [.ref c0, .ref c0q, .ref c0u, .ref c0v, .int sv, .int sw, .ref a0, .ref b0])), (c0, .inr (6, [.ref s0, .ref k0, .ref i0, .ref o0, .ref x0, .int et, .int wt, .int tm, .int sta, .int he, .int ac, .int ov])), (k0, .inr (5, [.ref k1, .int ((f_X6_setPilotTemperature pt p0).2), .int ot, .int fp, .int on]))] 1 6 := by
  refine gxBegin (by decide +kernel) (Nat.le_of_ble_eq_true rfl) (fun p e s m args below meth c A F hr hlocks htab hN hSt hK hP hD hA hS ls hl => ?_)
  obtain ⟨hx, hb, hml, hown, hts⟩ := id F
  replace hP : va_P G.1 vwCl [(z0, .inr (9, [.ref c0, .ref c0q, .ref c0u, .ref c0v, .int sv, .int sw, .ref a0, .ref b0])), (c0, .inr (6, [.ref s0, .ref k0, .ref i0, .ref o0, .ref x0, .int et, .int wt, .int tm, .int sta, .int he, .int ac, .int ov])), (k0, .inr (5, [.ref k1, .int pt, .int ot, .int fp, .int on]))] s.heap := hP
  replace hl : lv_has ls 3 [(0, .ref z0), (1, .int p0)] := hl
  refine lv_iload_n hx hb dX6_setPilotTemperature_0 rfl (lv_at hl 1 rfl) ?_
  refine gxS (As := [.int p0]) (rest := []) (wr := [(z0, .inr (9, [.ref c0, .ref c0q, .ref c0u, .ref c0v, .int sv, .int sw, .ref a0, .ref b0])), (c0, .inr (6, [.ref s0, .ref k0, .ref i0, .ref o0, .ref x0, .int et, .int wt, .int tm, .int sta, .int he, .int ac, .int ov])), (k0, .inr (5, [.ref k1, .int pt, .int ot, .int fp, .int on]))]) (ws' := [(z0, .inr (9, [.ref c0, .ref c0q, .ref c0u, .ref c0v, .int sv, .int sw, .ref a0, .ref b0])), (c0, .inr (6, [.ref s0, .ref k0, .ref i0, .ref o0, .ref x0, .int et, .int wt, .int tm, .int sta, .int he, .int ac, .int ov])), (k0, .inr (5, [.ref k1, .int pt, .int ot, .int fp, .int on]))]) F (c_X6_requireTemperature l hfl G p0) okS_X6_requireTemperature k_ml_X6_139 rfl rfl ⟨Nat.le_of_ble_eq_true rfl, Nat.le_of_ble_eq_true rfl⟩ hN hSt hK hP hD hS hA [] [0, 1, 2] [0, 1, 2] (by decide) rfl rfl (by decide) (by decide) (by decide) rfl rfl rfl rfl hl.1 (Nat.le_of_ble_eq_true rfl) dX6_setPilotTemperature_1 ⟨Nat.le_of_ble_eq_true rfl, Nat.le_of_ble_eq_true rfl⟩ (fun c_1 H locs hP hD hS => ?_) (fun E9 ce9 q9 H locs x9 hP hD hS h91 h92 h93 => ?_)
  · skip
    refine lv_aload_n hx hb dX6_setPilotTemperature_4 rfl (lv_at hl 0 rfl) ?_
    refine va_get (D := G.1) (ci := 9) (v := .ref c0) (C := RX6) (T := TX6) (N := 8) hx hb hts in_X6 hown hK hP 0 rfl rfl 0 (by decide) (hts _ k_fl_X6_12) (fun _ h9 => h9) rfl dX6_setPilotTemperature_5 ?_
    refine va_get (D := G.1) (ci := 6) (v := .ref k0) (C := RX2) (T := TX2) (N := 12) hx hb hts in_X2 hown hK hP 1 rfl rfl 1 (by decide) (hts _ k_fl_X6_126) (fun _ h9 => h9) rfl dX6_setPilotTemperature_8 ?_
    refine va_get (D := G.1) (ci := 5) (v := .int pt) (C := RX1) (T := TX1) (N := 5) hx hb hts in_X1 hown hK hP 2 rfl rfl 1 (by decide) (hts _ k_fl_X6_151) (fun _ h9 => h9) rfl dX6_setPilotTemperature_11 ?_
    refine lv_istore_n (lv' := [(2, .int pt), (0, .ref z0), (1, .int p0)]) hx hb dX6_setPilotTemperature_14 rfl hl (by decide) rfl (fun ls hl => ?_)
    refine lv_aload_n hx hb dX6_setPilotTemperature_15 rfl (lv_at hl 1 rfl) ?_
    refine va_get (D := G.1) (ci := 9) (v := .ref c0) (C := RX6) (T := TX6) (N := 8) hx hb hts in_X6 hown hK hP 0 rfl rfl 0 (by decide) (hts _ k_fl_X6_12) (fun _ h9 => h9) rfl dX6_setPilotTemperature_16 ?_
    refine va_get (D := G.1) (ci := 6) (v := .ref k0) (C := RX2) (T := TX2) (N := 12) hx hb hts in_X2 hown hK hP 1 rfl rfl 1 (by decide) (hts _ k_fl_X6_126) (fun _ h9 => h9) rfl dX6_setPilotTemperature_19 ?_
    refine lv_iload_n hx hb dX6_setPilotTemperature_22 rfl (lv_at hl 2 rfl) ?_
    refine va_put (D := G.1) (ci := 5) (v := .int p0) (ty := .int) (C := RX1) (T := TX1) (N := 5) hx hb hts in_X1 tyX1 tyX1_ok nmX1 hown hK hP hD hS 2 rfl rfl 1 (by decide) (hts _ k_fl_X6_151) (fun _ h9 => h9) rfl (by decide +kernel) rfl rfl (Nat.le_of_ble_eq_true rfl) dX6_setPilotTemperature_23 (fun H locs hP hD hS => ?_)
    replace hP : va_P G.1 vwCl [(z0, .inr (9, [.ref c0, .ref c0q, .ref c0u, .ref c0v, .int sv, .int sw, .ref a0, .ref b0])), (c0, .inr (6, [.ref s0, .ref k0, .ref i0, .ref o0, .ref x0, .int et, .int wt, .int tm, .int sta, .int he, .int ac, .int ov])), (k0, .inr (5, [.ref k1, .int p0, .int ot, .int fp, .int on]))] H := hP
    replace hD : va_D A [(z0, .inr (9, [.ref c0, .ref c0q, .ref c0u, .ref c0v, .int sv, .int sw, .ref a0, .ref b0])), (c0, .inr (6, [.ref s0, .ref k0, .ref i0, .ref o0, .ref x0, .int et, .int wt, .int tm, .int sta, .int he, .int ac, .int ov])), (k0, .inr (5, [.ref k1, .int p0, .int ot, .int fp, .int on]))] := hD
    refine lv_iload_n hx hb dX6_setPilotTemperature_26 rfl (lv_at hl 0 rfl) ?_
    have ef : (f_X6_setPilotTemperature pt p0) = (pt, p0) := (if_pos c_1)
    refine gxOf ((if_pos c_1)) ?_
    exact gRetI F hr hlocks hK hP hD hS (by rw [ef]) (by rw [ef]) (Nat.le_of_ble_eq_true rfl) (Nat.le_of_ble_eq_true rfl) dX6_setPilotTemperature_27
  · have c_1 : ¬ (th_X6_requireTemperature p0) = none := (by rw [x9]; exact Option.some_ne_none _)
    exact gxOut hlocks htab hK hP hD hS h91 h92 h93 (((if_neg c_1)).trans x9) (Nat.le_of_ble_eq_true rfl) (Nat.le_of_ble_eq_true rfl)
theorem okV_X6_setPilotTemperature : gOkV yX6_setPilotTemperature cX6_setPilotTemperature 3 (some .int) 1 := ⟨⟨k_im_X6_setPilotTemperature, k_se_X6_setPilotTemperature, k_in_X6, k_cd_X6_setPilotTemperature⟩, by decide, by decide, by decide +kernel⟩
def f_X6_setPilot (on : Int32) (p0 : Int32) : Int32 × Int32 :=
  (on, p0)
set_option maxRecDepth 100000 in
set_option maxHeartbeats 4000000 in
theorem c_X6_setPilot (l : Launch) (G : gG) (z0 : Nat) (c0 : Nat) (c0q : Nat) (c0u : Nat) (c0v : Nat) (a0 : Nat) (b0 : Nat) (sv : Int32) (sw : Int32) (s0 : Nat) (k0 : Nat) (i0 : Nat) (o0 : Nat) (x0 : Nat) (et : Int32) (wt : Int32) (tm : Int32) (sta : Int32) (he : Int32) (ac : Int32) (ov : Int32) (k1 : Nat) (pt : Int32) (ot : Int32) (fp : Int32) (on : Int32) (p0 : Int32) (hon : g01 on) (hp0 : g01 p0) : gM l G yX6_setPilot cX6_setPilot 3 (some .boolean) { frames := 0, cells := 0, slots := 0, locals := 0 } [.ref z0, .int p0] [(z0, .inr (9, [.ref c0, .ref c0q, .ref c0u, .ref c0v, .int sv, .int sw, .ref a0, .ref b0])), (c0, .inr (6, [.ref s0, .ref k0, .ref i0, .ref o0, .ref x0, .int et, .int wt, .int tm, .int sta, .int he, .int ac, .int ov])), (k0, .inr (5, [.ref k1, .int pt, .int ot, .int fp, .int on]))] (some (.int ((f_X6_setPilot on p0).1))) [(z0, .inr (9, [.ref c0, .ref c0q, .ref c0u, .ref c0v, .int sv, .int sw, .ref a0, .ref b0])), (c0, .inr (6, [.ref s0, .ref k0, .ref i0, .ref o0, .ref x0, .int et, .int wt, .int tm, .int sta, .int he, .int ac, .int ov])), (k0, .inr (5, [.ref k1, .int pt, .int ot, .int fp, .int ((f_X6_setPilot on p0).2)]))] 0 0 := by
  refine gBegin (by decide +kernel) (Nat.le_of_ble_eq_true rfl) (fun p e s m args below meth c A F hr hlocks hname hN hK hP hD hA hS ls hl => ?_)
  obtain ⟨hx, hb, hml, hown, hts⟩ := id F
  replace hP : va_P G.1 vwCl [(z0, .inr (9, [.ref c0, .ref c0q, .ref c0u, .ref c0v, .int sv, .int sw, .ref a0, .ref b0])), (c0, .inr (6, [.ref s0, .ref k0, .ref i0, .ref o0, .ref x0, .int et, .int wt, .int tm, .int sta, .int he, .int ac, .int ov])), (k0, .inr (5, [.ref k1, .int pt, .int ot, .int fp, .int on]))] s.heap := hP
  replace hl : lv_has ls 3 [(0, .ref z0), (1, .int p0)] := hl
  refine lv_aload_n hx hb dX6_setPilot_0 rfl (lv_at hl 0 rfl) ?_
  refine va_get (D := G.1) (ci := 9) (v := .ref c0) (C := RX6) (T := TX6) (N := 8) hx hb hts in_X6 hown hK hP 0 rfl rfl 0 (by decide) (hts _ k_fl_X6_12) (fun _ h9 => h9) rfl dX6_setPilot_1 ?_
  refine va_get (D := G.1) (ci := 6) (v := .ref k0) (C := RX2) (T := TX2) (N := 12) hx hb hts in_X2 hown hK hP 1 rfl rfl 1 (by decide) (hts _ k_fl_X6_126) (fun _ h9 => h9) rfl dX6_setPilot_4 ?_
  refine va_get (D := G.1) (ci := 5) (v := .int on) (C := RX1) (T := TX1) (N := 5) hx hb hts in_X1 hown hK hP 2 rfl rfl 4 (by decide) (hts _ k_fl_X6_154) (fun _ h9 => h9) rfl dX6_setPilot_7 ?_
  refine lv_istore_n (lv' := [(2, .int on), (0, .ref z0), (1, .int p0)]) hx hb dX6_setPilot_10 rfl hl (by decide) rfl (fun ls hl => ?_)
  refine lv_aload_n hx hb dX6_setPilot_11 rfl (lv_at hl 1 rfl) ?_
  refine va_get (D := G.1) (ci := 9) (v := .ref c0) (C := RX6) (T := TX6) (N := 8) hx hb hts in_X6 hown hK hP 0 rfl rfl 0 (by decide) (hts _ k_fl_X6_12) (fun _ h9 => h9) rfl dX6_setPilot_12 ?_
  refine va_get (D := G.1) (ci := 6) (v := .ref k0) (C := RX2) (T := TX2) (N := 12) hx hb hts in_X2 hown hK hP 1 rfl rfl 1 (by decide) (hts _ k_fl_X6_126) (fun _ h9 => h9) rfl dX6_setPilot_15 ?_
  refine lv_iload_n hx hb dX6_setPilot_18 rfl (lv_at hl 2 rfl) ?_
  refine va_put (D := G.1) (ci := 5) (v := .int p0) (ty := .boolean) (C := RX1) (T := TX1) (N := 5) hx hb hts in_X1 tyX1 tyX1_ok nmX1 hown hK hP hD hS 2 rfl rfl 4 (by decide) (hts _ k_fl_X6_154) (fun _ h9 => h9) rfl (by decide +kernel) (gNz hp0) (gFz hp0) (Nat.le_of_ble_eq_true rfl) dX6_setPilot_19 (fun H locs hP hD hS => ?_)
  replace hP : va_P G.1 vwCl [(z0, .inr (9, [.ref c0, .ref c0q, .ref c0u, .ref c0v, .int sv, .int sw, .ref a0, .ref b0])), (c0, .inr (6, [.ref s0, .ref k0, .ref i0, .ref o0, .ref x0, .int et, .int wt, .int tm, .int sta, .int he, .int ac, .int ov])), (k0, .inr (5, [.ref k1, .int pt, .int ot, .int fp, .int p0]))] H := hP
  replace hD : va_D A [(z0, .inr (9, [.ref c0, .ref c0q, .ref c0u, .ref c0v, .int sv, .int sw, .ref a0, .ref b0])), (c0, .inr (6, [.ref s0, .ref k0, .ref i0, .ref o0, .ref x0, .int et, .int wt, .int tm, .int sta, .int he, .int ac, .int ov])), (k0, .inr (5, [.ref k1, .int pt, .int ot, .int fp, .int p0]))] := hD
  refine lv_iload_n hx hb dX6_setPilot_22 rfl (lv_at hl 0 rfl) ?_
  exact gRetZ F hr hlocks hK hP hD hS (gNz hon) rfl rfl (Nat.le_of_ble_eq_true rfl) (Nat.le_of_ble_eq_true rfl) dX6_setPilot_23
theorem okV_X6_setPilot : gOkV yX6_setPilot cX6_setPilot 3 (some .boolean) 1 := ⟨⟨k_im_X6_setPilot, k_se_X6_setPilot, k_in_X6, k_cd_X6_setPilot⟩, by decide, by decide, by decide +kernel⟩
def f_X6_setFixedPeriod (fp : Int32) (p0 : Int32) : Int32 × Int32 :=
  if p0 < 900000 then
    (0, fp)
  else
    if p0 ≤ 1100000 then
      (fp, p0)
    else
      (0, fp)
def th_X6_setFixedPeriod (p0 : Int32) : Option String :=
  if p0 < 900000 then
    (some "java/lang/IllegalArgumentException")
  else
    if p0 ≤ 1100000 then
      none
    else
      (some "java/lang/IllegalArgumentException")
set_option maxRecDepth 100000 in
set_option maxHeartbeats 4000000 in
theorem c_X6_setFixedPeriod (l : Launch) (hfl : l.stackTraces = false) (G : gG) (z0 : Nat) (c0 : Nat) (c0q : Nat) (c0u : Nat) (c0v : Nat) (a0 : Nat) (b0 : Nat) (sv : Int32) (sw : Int32) (s0 : Nat) (k0 : Nat) (i0 : Nat) (o0 : Nat) (x0 : Nat) (et : Int32) (wt : Int32) (tm : Int32) (sta : Int32) (he : Int32) (ac : Int32) (ov : Int32) (k1 : Nat) (pt : Int32) (ot : Int32) (fp : Int32) (on : Int32) (p0 : Int32) : gX l G yX6_setFixedPeriod cX6_setFixedPeriod 3 (some .int) { frames := 6, cells := 1, slots := 6, locals := 90 } [.ref z0, .int p0] [(z0, .inr (9, [.ref c0, .ref c0q, .ref c0u, .ref c0v, .int sv, .int sw, .ref a0, .ref b0])), (c0, .inr (6, [.ref s0, .ref k0, .ref i0, .ref o0, .ref x0, .int et, .int wt, .int tm, .int sta, .int he, .int ac, .int ov])), (k0, .inr (5, [.ref k1, .int pt, .int ot, .int fp, .int on]))] (th_X6_setFixedPeriod p0) (some (.int ((f_X6_setFixedPeriod fp p0).1))) [(z0, .inr (9, [.ref c0, .ref c0q, .ref c0u, .ref c0v, .int sv, .int sw, .ref a0, .ref b0])), (c0, .inr (6, [.ref s0, .ref k0, .ref i0, .ref o0, .ref x0, .int et, .int wt, .int tm, .int sta, .int he, .int ac, .int ov])), (k0, .inr (5, [.ref k1, .int pt, .int ot, .int ((f_X6_setFixedPeriod fp p0).2), .int on]))] 1 6 := by
  refine gxBegin (by decide +kernel) (Nat.le_of_ble_eq_true rfl) (fun p e s m args below meth c A F hr hlocks htab hN hSt hK hP hD hA hS ls hl => ?_)
  obtain ⟨hx, hb, hml, hown, hts⟩ := id F
  replace hP : va_P G.1 vwCl [(z0, .inr (9, [.ref c0, .ref c0q, .ref c0u, .ref c0v, .int sv, .int sw, .ref a0, .ref b0])), (c0, .inr (6, [.ref s0, .ref k0, .ref i0, .ref o0, .ref x0, .int et, .int wt, .int tm, .int sta, .int he, .int ac, .int ov])), (k0, .inr (5, [.ref k1, .int pt, .int ot, .int fp, .int on]))] s.heap := hP
  replace hl : lv_has ls 3 [(0, .ref z0), (1, .int p0)] := hl
  refine lv_iload_n hx hb dX6_setFixedPeriod_0 rfl (lv_at hl 1 rfl) ?_
  refine lv_ldc (v := 900000) hx hb hown (hts _ k_co_X6_158) dX6_setFixedPeriod_1 ?_
  refine lv_icmp_lt (tgt := 12) hx hb dX6_setFixedPeriod_3 (by decide) (fun c_1 => ?_) (fun c_1 => ?_)
  · skip
    exact gxThrowS (text := "no fixed period") (names := ["java/lang/RuntimeException", "java/lang/Exception"]) F hfl hN hSt hK hP hD hS hlocks htab hl.1 (by decide +kernel) (by decide +kernel) k_cl_X6_63 k_in_java_lang_IllegalArgumentException (by decide +kernel) xa_X6_67 xb_X6_67 xc_X6_67 dX6_setFixedPeriod_12 dX6_setFixedPeriod_15 dX6_setFixedPeriod_16 dX6_setFixedPeriod_18 dX6_setFixedPeriod_21 (if_pos c_1) (by decide) (Nat.le_of_ble_eq_true rfl) (Nat.le_of_ble_eq_true rfl) (Nat.le_of_ble_eq_true rfl) (Nat.le_of_ble_eq_true rfl) (Nat.le_of_ble_eq_true rfl)
  · skip
    refine lv_iload_n hx hb dX6_setFixedPeriod_6 rfl (lv_at hl 1 rfl) ?_
    refine lv_ldc (v := 1100000) hx hb hown (hts _ k_co_X6_159) dX6_setFixedPeriod_7 ?_
    refine lv_icmp_le (tgt := 22) hx hb dX6_setFixedPeriod_9 (by decide) (fun c_2 => ?_) (fun c_2 => ?_)
    · skip
      refine lv_aload_n hx hb dX6_setFixedPeriod_22 rfl (lv_at hl 0 rfl) ?_
      refine va_get (D := G.1) (ci := 9) (v := .ref c0) (C := RX6) (T := TX6) (N := 8) hx hb hts in_X6 hown hK hP 0 rfl rfl 0 (by decide) (hts _ k_fl_X6_12) (fun _ h9 => h9) rfl dX6_setFixedPeriod_23 ?_
      refine va_get (D := G.1) (ci := 6) (v := .ref k0) (C := RX2) (T := TX2) (N := 12) hx hb hts in_X2 hown hK hP 1 rfl rfl 1 (by decide) (hts _ k_fl_X6_126) (fun _ h9 => h9) rfl dX6_setFixedPeriod_26 ?_
      refine va_get (D := G.1) (ci := 5) (v := .int fp) (C := RX1) (T := TX1) (N := 5) hx hb hts in_X1 hown hK hP 2 rfl rfl 3 (by decide) (hts _ k_fl_X6_162) (fun _ h9 => h9) rfl dX6_setFixedPeriod_29 ?_
      refine lv_istore_n (lv' := [(2, .int fp), (0, .ref z0), (1, .int p0)]) hx hb dX6_setFixedPeriod_32 rfl hl (by decide) rfl (fun ls hl => ?_)
      refine lv_aload_n hx hb dX6_setFixedPeriod_33 rfl (lv_at hl 1 rfl) ?_
      refine va_get (D := G.1) (ci := 9) (v := .ref c0) (C := RX6) (T := TX6) (N := 8) hx hb hts in_X6 hown hK hP 0 rfl rfl 0 (by decide) (hts _ k_fl_X6_12) (fun _ h9 => h9) rfl dX6_setFixedPeriod_34 ?_
      refine va_get (D := G.1) (ci := 6) (v := .ref k0) (C := RX2) (T := TX2) (N := 12) hx hb hts in_X2 hown hK hP 1 rfl rfl 1 (by decide) (hts _ k_fl_X6_126) (fun _ h9 => h9) rfl dX6_setFixedPeriod_37 ?_
      refine lv_iload_n hx hb dX6_setFixedPeriod_40 rfl (lv_at hl 2 rfl) ?_
      refine va_put (D := G.1) (ci := 5) (v := .int p0) (ty := .int) (C := RX1) (T := TX1) (N := 5) hx hb hts in_X1 tyX1 tyX1_ok nmX1 hown hK hP hD hS 2 rfl rfl 3 (by decide) (hts _ k_fl_X6_162) (fun _ h9 => h9) rfl (by decide +kernel) rfl rfl (Nat.le_of_ble_eq_true rfl) dX6_setFixedPeriod_41 (fun H locs hP hD hS => ?_)
      replace hP : va_P G.1 vwCl [(z0, .inr (9, [.ref c0, .ref c0q, .ref c0u, .ref c0v, .int sv, .int sw, .ref a0, .ref b0])), (c0, .inr (6, [.ref s0, .ref k0, .ref i0, .ref o0, .ref x0, .int et, .int wt, .int tm, .int sta, .int he, .int ac, .int ov])), (k0, .inr (5, [.ref k1, .int pt, .int ot, .int p0, .int on]))] H := hP
      replace hD : va_D A [(z0, .inr (9, [.ref c0, .ref c0q, .ref c0u, .ref c0v, .int sv, .int sw, .ref a0, .ref b0])), (c0, .inr (6, [.ref s0, .ref k0, .ref i0, .ref o0, .ref x0, .int et, .int wt, .int tm, .int sta, .int he, .int ac, .int ov])), (k0, .inr (5, [.ref k1, .int pt, .int ot, .int p0, .int on]))] := hD
      refine lv_iload_n hx hb dX6_setFixedPeriod_44 rfl (lv_at hl 0 rfl) ?_
      have ef : (f_X6_setFixedPeriod fp p0) = (fp, p0) := ((if_neg c_1).trans (if_pos c_2))
      refine gxOf (((if_neg c_1).trans (if_pos c_2))) ?_
      exact gRetI F hr hlocks hK hP hD hS (by rw [ef]) (by rw [ef]) (Nat.le_of_ble_eq_true rfl) (Nat.le_of_ble_eq_true rfl) dX6_setFixedPeriod_45
    · skip
      exact gxThrowS (text := "no fixed period") (names := ["java/lang/RuntimeException", "java/lang/Exception"]) F hfl hN hSt hK hP hD hS hlocks htab hl.1 (by decide +kernel) (by decide +kernel) k_cl_X6_63 k_in_java_lang_IllegalArgumentException (by decide +kernel) xa_X6_67 xb_X6_67 xc_X6_67 dX6_setFixedPeriod_12 dX6_setFixedPeriod_15 dX6_setFixedPeriod_16 dX6_setFixedPeriod_18 dX6_setFixedPeriod_21 ((if_neg c_1).trans (if_neg c_2)) (by decide) (Nat.le_of_ble_eq_true rfl) (Nat.le_of_ble_eq_true rfl) (Nat.le_of_ble_eq_true rfl) (Nat.le_of_ble_eq_true rfl) (Nat.le_of_ble_eq_true rfl)
theorem okV_X6_setFixedPeriod : gOkV yX6_setFixedPeriod cX6_setFixedPeriod 3 (some .int) 1 := ⟨⟨k_im_X6_setFixedPeriod, k_se_X6_setFixedPeriod, k_in_X6, k_cd_X6_setFixedPeriod⟩, by decide, by decide, by decide +kernel⟩
def f_X6_period (pt : Int32) (fp : Int32) (on : Int32) : Int32 :=
  (f_X1_clockPeriod pt fp on)
set_option maxRecDepth 100000 in
set_option maxHeartbeats 4000000 in
theorem c_X6_period (l : Launch) (G : gG) (z0 : Nat) (c0 : Nat) (c0q : Nat) (c0u : Nat) (c0v : Nat) (a0 : Nat) (b0 : Nat) (sv : Int32) (sw : Int32) (s0 : Nat) (k0 : Nat) (i0 : Nat) (o0 : Nat) (x0 : Nat) (et : Int32) (wt : Int32) (tm : Int32) (sta : Int32) (he : Int32) (ac : Int32) (ov : Int32) (k1 : Nat) (pt : Int32) (ot : Int32) (fp : Int32) (on : Int32) : gM l G yX6_period cX6_period 1 (some .int) { frames := 2, cells := 0, slots := 0, locals := 40 } [.ref z0] [(z0, .inr (9, [.ref c0, .ref c0q, .ref c0u, .ref c0v, .int sv, .int sw, .ref a0, .ref b0])), (c0, .inr (6, [.ref s0, .ref k0, .ref i0, .ref o0, .ref x0, .int et, .int wt, .int tm, .int sta, .int he, .int ac, .int ov])), (k0, .inr (5, [.ref k1, .int pt, .int ot, .int fp, .int on]))] (some (.int (f_X6_period pt fp on))) [(z0, .inr (9, [.ref c0, .ref c0q, .ref c0u, .ref c0v, .int sv, .int sw, .ref a0, .ref b0])), (c0, .inr (6, [.ref s0, .ref k0, .ref i0, .ref o0, .ref x0, .int et, .int wt, .int tm, .int sta, .int he, .int ac, .int ov])), (k0, .inr (5, [.ref k1, .int pt, .int ot, .int fp, .int on]))] 0 0 := by
  refine gBegin (by decide +kernel) (Nat.le_of_ble_eq_true rfl) (fun p e s m args below meth c A F hr hlocks hname hN hK hP hD hA hS ls hl => ?_)
  obtain ⟨hx, hb, hml, hown, hts⟩ := id F
  replace hP : va_P G.1 vwCl [(z0, .inr (9, [.ref c0, .ref c0q, .ref c0u, .ref c0v, .int sv, .int sw, .ref a0, .ref b0])), (c0, .inr (6, [.ref s0, .ref k0, .ref i0, .ref o0, .ref x0, .int et, .int wt, .int tm, .int sta, .int he, .int ac, .int ov])), (k0, .inr (5, [.ref k1, .int pt, .int ot, .int fp, .int on]))] s.heap := hP
  replace hl : lv_has ls 1 [(0, .ref z0)] := hl
  refine lv_aload_n hx hb dX6_period_0 rfl (lv_at hl 0 rfl) ?_
  refine va_get (D := G.1) (ci := 9) (v := .ref c0) (C := RX6) (T := TX6) (N := 8) hx hb hts in_X6 hown hK hP 0 rfl rfl 0 (by decide) (hts _ k_fl_X6_12) (fun _ h9 => h9) rfl dX6_period_1 ?_
  refine va_get (D := G.1) (ci := 6) (v := .ref k0) (C := RX2) (T := TX2) (N := 12) hx hb hts in_X2 hown hK hP 1 rfl rfl 1 (by decide) (hts _ k_fl_X6_126) (fun _ h9 => h9) rfl dX6_period_4 ?_
  refine gV (As := []) (rest := []) (wr := [(z0, .inr (9, [.ref c0, .ref c0q, .ref c0u, .ref c0v, .int sv, .int sw, .ref a0, .ref b0])), (c0, .inr (6, [.ref s0, .ref k0, .ref i0, .ref o0, .ref x0, .int et, .int wt, .int tm, .int sta, .int he, .int ac, .int ov]))]) (ws' := [(z0, .inr (9, [.ref c0, .ref c0q, .ref c0u, .ref c0v, .int sv, .int sw, .ref a0, .ref b0])), (c0, .inr (6, [.ref s0, .ref k0, .ref i0, .ref o0, .ref x0, .int et, .int wt, .int tm, .int sta, .int he, .int ac, .int ov])), (k0, .inr (5, [.ref k1, .int pt, .int ot, .int fp, .int on]))]) F (c_X1_clockPeriod l G k0 k1 pt ot fp on) okV_X1_clockPeriod k_ml_X6_165 rfl rfl ⟨Nat.le_of_ble_eq_true rfl, Nat.le_of_ble_eq_true rfl⟩ hN hK hP hD hS hA [2] [0, 1] [0, 1, 2] (by decide) rfl rfl (by decide) (by decide) (by decide) rfl (q0 := 2) rfl rfl rfl rfl hl.1 (Nat.le_of_ble_eq_true rfl) dX6_period_7 ⟨Nat.le_refl _, Nat.le_refl _⟩ (fun H locs hP hD hS => ?_)
  exact gRetI F hr hlocks hK hP hD hS rfl rfl (Nat.le_of_ble_eq_true rfl) (Nat.le_of_ble_eq_true rfl) dX6_period_10
theorem okV_X6_period : gOkV yX6_period cX6_period 1 (some .int) 0 := ⟨⟨k_im_X6_period, k_se_X6_period, k_in_X6, k_cd_X6_period⟩, by decide, by decide, by decide +kernel⟩
def f_X6_mismatch (pt : Int32) (fp : Int32) (on : Int32) (temps : Nat → Int32) (p0 : Int32) : Int32 :=
  if (th_X6_requireTank p0) = none then
    (f_X6_mismatchOf (f_X1_temperatureOf temps p0) (f_X1_clockPeriod pt fp on))
  else
    0
def th_X6_mismatch (p0 : Int32) : Option String :=
  if (th_X6_requireTank p0) = none then
    none
  else
    (th_X6_requireTank p0)
set_option maxRecDepth 100000 in
set_option maxHeartbeats 4000000 in
theorem c_X6_mismatch (l : Launch) (hfl : l.stackTraces = false) (G : gG) (z0 : Nat) (c0 : Nat) (c0q : Nat) (c0u : Nat) (c0v : Nat) (a0 : Nat) (b0 : Nat) (sv : Int32) (sw : Int32) (s0 : Nat) (k0 : Nat) (i0 : Nat) (o0 : Nat) (x0 : Nat) (et : Int32) (wt : Int32) (tm : Int32) (sta : Int32) (he : Int32) (ac : Int32) (ov : Int32) (k1 : Nat) (pt : Int32) (ot : Int32) (fp : Int32) (on : Int32) (temps : Nat → Int32) (p0 : Int32) : gX l G yX6_mismatch cX6_mismatch 3 (some .int) { frames := 7, cells := 1, slots := 6, locals := 110 } [.ref z0, .int p0] [(z0, .inr (9, [.ref c0, .ref c0q, .ref c0u, .ref c0v, .int sv, .int sw, .ref a0, .ref b0])), (c0, .inr (6, [.ref s0, .ref k0, .ref i0, .ref o0, .ref x0, .int et, .int wt, .int tm, .int sta, .int he, .int ac, .int ov])), (k0, .inr (5, [.ref k1, .int pt, .int ot, .int fp, .int on])), (k1, .inl (G.2.1.1, 8, .inl temps))] (th_X6_mismatch p0) (some (.int (f_X6_mismatch pt fp on temps p0))) [(z0, .inr (9, [.ref c0, .ref c0q, .ref c0u, .ref c0v, .int sv, .int sw, .ref a0, .ref b0])), (c0, .inr (6, [.ref s0, .ref k0, .ref i0, .ref o0, .ref x0, .int et, .int wt, .int tm, .int sta, .int he, .int ac, .int ov])), (k0, .inr (5, [.ref k1, .int pt, .int ot, .int fp, .int on])), (k1, .inl (G.2.1.1, 8, .inl temps))] 1 6 := by
  refine gxBegin (by decide +kernel) (Nat.le_of_ble_eq_true rfl) (fun p e s m args below meth c A F hr hlocks htab hN hSt hK hP hD hA hS ls hl => ?_)
  obtain ⟨hx, hb, hml, hown, hts⟩ := id F
  replace hP : va_P G.1 vwCl [(z0, .inr (9, [.ref c0, .ref c0q, .ref c0u, .ref c0v, .int sv, .int sw, .ref a0, .ref b0])), (c0, .inr (6, [.ref s0, .ref k0, .ref i0, .ref o0, .ref x0, .int et, .int wt, .int tm, .int sta, .int he, .int ac, .int ov])), (k0, .inr (5, [.ref k1, .int pt, .int ot, .int fp, .int on])), (k1, .inl (G.2.1.1, 8, .inl temps))] s.heap := hP
  replace hl : lv_has ls 3 [(0, .ref z0), (1, .int p0)] := hl
  refine lv_iload_n hx hb dX6_mismatch_0 rfl (lv_at hl 1 rfl) ?_
  refine gxS (As := [.int p0]) (rest := []) (wr := [(z0, .inr (9, [.ref c0, .ref c0q, .ref c0u, .ref c0v, .int sv, .int sw, .ref a0, .ref b0])), (c0, .inr (6, [.ref s0, .ref k0, .ref i0, .ref o0, .ref x0, .int et, .int wt, .int tm, .int sta, .int he, .int ac, .int ov])), (k0, .inr (5, [.ref k1, .int pt, .int ot, .int fp, .int on])), (k1, .inl (G.2.1.1, 8, .inl temps))]) (ws' := [(z0, .inr (9, [.ref c0, .ref c0q, .ref c0u, .ref c0v, .int sv, .int sw, .ref a0, .ref b0])), (c0, .inr (6, [.ref s0, .ref k0, .ref i0, .ref o0, .ref x0, .int et, .int wt, .int tm, .int sta, .int he, .int ac, .int ov])), (k0, .inr (5, [.ref k1, .int pt, .int ot, .int fp, .int on])), (k1, .inl (G.2.1.1, 8, .inl temps))]) F (c_X6_requireTank l hfl G p0) okS_X6_requireTank k_ml_X6_114 rfl rfl ⟨Nat.le_of_ble_eq_true rfl, Nat.le_of_ble_eq_true rfl⟩ hN hSt hK hP hD hS hA [] [0, 1, 2, 3] [0, 1, 2, 3] (by decide) rfl rfl (by decide) (by decide) (by decide) rfl rfl rfl rfl hl.1 (Nat.le_of_ble_eq_true rfl) dX6_mismatch_1 ⟨Nat.le_of_ble_eq_true rfl, Nat.le_of_ble_eq_true rfl⟩ (fun c_1 H locs hP hD hS => ?_) (fun E9 ce9 q9 H locs x9 hP hD hS h91 h92 h93 => ?_)
  · skip
    refine lv_aload_n hx hb dX6_mismatch_4 rfl (lv_at hl 0 rfl) ?_
    refine va_get (D := G.1) (ci := 9) (v := .ref c0) (C := RX6) (T := TX6) (N := 8) hx hb hts in_X6 hown hK hP 0 rfl rfl 0 (by decide) (hts _ k_fl_X6_12) (fun _ h9 => h9) rfl dX6_mismatch_5 ?_
    refine va_get (D := G.1) (ci := 6) (v := .ref k0) (C := RX2) (T := TX2) (N := 12) hx hb hts in_X2 hown hK hP 1 rfl rfl 1 (by decide) (hts _ k_fl_X6_126) (fun _ h9 => h9) rfl dX6_mismatch_8 ?_
    refine lv_astore_n (lv' := [(2, .ref k0), (0, .ref z0), (1, .int p0)]) hx hb dX6_mismatch_11 rfl hl (by decide) rfl (fun ls hl => ?_)
    refine lv_aload_n hx hb dX6_mismatch_12 rfl (lv_at hl 0 rfl) ?_
    refine lv_iload_n hx hb dX6_mismatch_13 rfl (lv_at hl 2 rfl) ?_
    refine gV (As := [.int p0]) (rest := []) (wr := [(z0, .inr (9, [.ref c0, .ref c0q, .ref c0u, .ref c0v, .int sv, .int sw, .ref a0, .ref b0])), (c0, .inr (6, [.ref s0, .ref k0, .ref i0, .ref o0, .ref x0, .int et, .int wt, .int tm, .int sta, .int he, .int ac, .int ov]))]) (ws' := [(z0, .inr (9, [.ref c0, .ref c0q, .ref c0u, .ref c0v, .int sv, .int sw, .ref a0, .ref b0])), (c0, .inr (6, [.ref s0, .ref k0, .ref i0, .ref o0, .ref x0, .int et, .int wt, .int tm, .int sta, .int he, .int ac, .int ov])), (k0, .inr (5, [.ref k1, .int pt, .int ot, .int fp, .int on])), (k1, .inl (G.2.1.1, 8, .inl temps))]) F (c_X1_temperatureOf l G k0 k1 pt ot fp on temps p0) okV_X1_temperatureOf k_ml_X6_142 rfl rfl ⟨Nat.le_of_ble_eq_true rfl, Nat.le_of_ble_eq_true rfl⟩ hN hK hP hD hS hA [2, 3] [0, 1] [0, 1, 2, 3] (by decide) rfl rfl (by decide) (by decide) (by decide) rfl (q0 := 2) rfl rfl rfl rfl hl.1 (Nat.le_of_ble_eq_true rfl) dX6_mismatch_14 ⟨Nat.le_of_ble_eq_true rfl, Nat.le_of_ble_eq_true rfl⟩ (fun H locs hP hD hS => ?_)
    refine lv_aload_n hx hb dX6_mismatch_17 rfl (lv_at hl 0 rfl) ?_
    refine gV (As := []) (rest := [.int (f_X1_temperatureOf temps p0)]) (wr := [(z0, .inr (9, [.ref c0, .ref c0q, .ref c0u, .ref c0v, .int sv, .int sw, .ref a0, .ref b0])), (c0, .inr (6, [.ref s0, .ref k0, .ref i0, .ref o0, .ref x0, .int et, .int wt, .int tm, .int sta, .int he, .int ac, .int ov])), (k1, .inl (G.2.1.1, 8, .inl temps))]) (ws' := [(z0, .inr (9, [.ref c0, .ref c0q, .ref c0u, .ref c0v, .int sv, .int sw, .ref a0, .ref b0])), (c0, .inr (6, [.ref s0, .ref k0, .ref i0, .ref o0, .ref x0, .int et, .int wt, .int tm, .int sta, .int he, .int ac, .int ov])), (k0, .inr (5, [.ref k1, .int pt, .int ot, .int fp, .int on])), (k1, .inl (G.2.1.1, 8, .inl temps))]) F (c_X1_clockPeriod l G k0 k1 pt ot fp on) okV_X1_clockPeriod k_ml_X6_165 rfl rfl ⟨Nat.le_of_ble_eq_true rfl, Nat.le_of_ble_eq_true rfl⟩ hN hK hP hD hS hA [2] [0, 1, 3] [0, 1, 3, 2] (by decide) rfl rfl (by decide) (by decide) (by decide) rfl (q0 := 2) rfl rfl rfl rfl hl.1 (Nat.le_of_ble_eq_true rfl) dX6_mismatch_18 ⟨Nat.le_of_ble_eq_true rfl, Nat.le_of_ble_eq_true rfl⟩ (fun H locs hP hD hS => ?_)
    refine gS (As := [.int (f_X1_temperatureOf temps p0), .int (f_X1_clockPeriod pt fp on)]) (rest := []) (wr := [(z0, .inr (9, [.ref c0, .ref c0q, .ref c0u, .ref c0v, .int sv, .int sw, .ref a0, .ref b0])), (c0, .inr (6, [.ref s0, .ref k0, .ref i0, .ref o0, .ref x0, .int et, .int wt, .int tm, .int sta, .int he, .int ac, .int ov])), (k0, .inr (5, [.ref k1, .int pt, .int ot, .int fp, .int on])), (k1, .inl (G.2.1.1, 8, .inl temps))]) (ws' := [(z0, .inr (9, [.ref c0, .ref c0q, .ref c0u, .ref c0v, .int sv, .int sw, .ref a0, .ref b0])), (c0, .inr (6, [.ref s0, .ref k0, .ref i0, .ref o0, .ref x0, .int et, .int wt, .int tm, .int sta, .int he, .int ac, .int ov])), (k0, .inr (5, [.ref k1, .int pt, .int ot, .int fp, .int on])), (k1, .inl (G.2.1.1, 8, .inl temps))]) F (c_X6_mismatchOf l G (f_X1_temperatureOf temps p0) (f_X1_clockPeriod pt fp on)) okS_X6_mismatchOf k_ml_X6_169 rfl rfl ⟨Nat.le_of_ble_eq_true rfl, Nat.le_of_ble_eq_true rfl⟩ hN hK hP hD hS hA [] [0, 1, 2, 3] [0, 1, 2, 3] (by decide) rfl rfl (by decide) (by decide) (by decide) rfl rfl rfl hl.1 (Nat.le_of_ble_eq_true rfl) dX6_mismatch_21 ⟨Nat.le_of_ble_eq_true rfl, Nat.le_of_ble_eq_true rfl⟩ (fun H locs hP hD hS => ?_)
    have ef : (f_X6_mismatch pt fp on temps p0) = (f_X6_mismatchOf (f_X1_temperatureOf temps p0) (f_X1_clockPeriod pt fp on)) := (if_pos c_1)
    refine gxOf ((if_pos c_1)) ?_
    exact gRetI F hr hlocks hK hP hD hS (by rw [ef]) rfl (Nat.le_of_ble_eq_true rfl) (Nat.le_of_ble_eq_true rfl) dX6_mismatch_24
  · have c_1 : ¬ (th_X6_requireTank p0) = none := (by rw [x9]; exact Option.some_ne_none _)
    exact gxOut hlocks htab hK hP hD hS h91 h92 h93 (((if_neg c_1)).trans x9) (Nat.le_of_ble_eq_true rfl) (Nat.le_of_ble_eq_true rfl)
theorem okV_X6_mismatch : gOkV yX6_mismatch cX6_mismatch 3 (some .int) 1 := ⟨⟨k_im_X6_mismatch, k_se_X6_mismatch, k_in_X6, k_cd_X6_mismatch⟩, by decide, by decide, by decide +kernel⟩
def wl_X6_leastSafeTemperature (pt : Int32) (fp : Int32) (on : Int32) : Nat → Nat → Int32
  | 0, _ =>
    (-1)
  | n + 1, k =>
    if (f_X6_isSafe (nI k) (f_X1_clockPeriod pt fp on)) = 0 then
      wl_X6_leastSafeTemperature pt fp on n (k + 1)
    else
      (nI k)
def f_X6_leastSafeTemperature (pt : Int32) (fp : Int32) (on : Int32) : Int32 :=
  (wl_X6_leastSafeTemperature pt fp on 1001 0)
set_option maxRecDepth 100000 in
set_option maxHeartbeats 4000000 in
theorem c_X6_leastSafeTemperature (l : Launch) (G : gG) (z0 : Nat) (c0 : Nat) (c0q : Nat) (c0u : Nat) (c0v : Nat) (a0 : Nat) (b0 : Nat) (sv : Int32) (sw : Int32) (s0 : Nat) (k0 : Nat) (i0 : Nat) (o0 : Nat) (x0 : Nat) (et : Int32) (wt : Int32) (tm : Int32) (sta : Int32) (he : Int32) (ac : Int32) (ov : Int32) (k1 : Nat) (pt : Int32) (ot : Int32) (fp : Int32) (on : Int32) : gM l G yX6_leastSafeTemperature cX6_leastSafeTemperature 3 (some .int) { frames := 3, cells := 0, slots := 0, locals := 62 } [.ref z0] [(z0, .inr (9, [.ref c0, .ref c0q, .ref c0u, .ref c0v, .int sv, .int sw, .ref a0, .ref b0])), (c0, .inr (6, [.ref s0, .ref k0, .ref i0, .ref o0, .ref x0, .int et, .int wt, .int tm, .int sta, .int he, .int ac, .int ov])), (k0, .inr (5, [.ref k1, .int pt, .int ot, .int fp, .int on]))] (some (.int (f_X6_leastSafeTemperature pt fp on))) [(z0, .inr (9, [.ref c0, .ref c0q, .ref c0u, .ref c0v, .int sv, .int sw, .ref a0, .ref b0])), (c0, .inr (6, [.ref s0, .ref k0, .ref i0, .ref o0, .ref x0, .int et, .int wt, .int tm, .int sta, .int he, .int ac, .int ov])), (k0, .inr (5, [.ref k1, .int pt, .int ot, .int fp, .int on]))] 0 0 := by
  refine gBegin (by decide +kernel) (Nat.le_of_ble_eq_true rfl) (fun p e s m args below meth c A F hr hlocks hname hN hK hP hD hA hS ls hl => ?_)
  obtain ⟨hx, hb, hml, hown, hts⟩ := id F
  replace hP : va_P G.1 vwCl [(z0, .inr (9, [.ref c0, .ref c0q, .ref c0u, .ref c0v, .int sv, .int sw, .ref a0, .ref b0])), (c0, .inr (6, [.ref s0, .ref k0, .ref i0, .ref o0, .ref x0, .int et, .int wt, .int tm, .int sta, .int he, .int ac, .int ov])), (k0, .inr (5, [.ref k1, .int pt, .int ot, .int fp, .int on]))] s.heap := hP
  replace hl : lv_has ls 3 [(0, .ref z0)] := hl
  refine lv_aload_n hx hb dX6_leastSafeTemperature_0 rfl (lv_at hl 0 rfl) ?_
  refine va_get (D := G.1) (ci := 9) (v := .ref c0) (C := RX6) (T := TX6) (N := 8) hx hb hts in_X6 hown hK hP 0 rfl rfl 0 (by decide) (hts _ k_fl_X6_12) (fun _ h9 => h9) rfl dX6_leastSafeTemperature_1 ?_
  refine va_get (D := G.1) (ci := 6) (v := .ref k0) (C := RX2) (T := TX2) (N := 12) hx hb hts in_X2 hown hK hP 1 rfl rfl 1 (by decide) (hts _ k_fl_X6_126) (fun _ h9 => h9) rfl dX6_leastSafeTemperature_4 ?_
  refine gV (As := []) (rest := []) (wr := [(z0, .inr (9, [.ref c0, .ref c0q, .ref c0u, .ref c0v, .int sv, .int sw, .ref a0, .ref b0])), (c0, .inr (6, [.ref s0, .ref k0, .ref i0, .ref o0, .ref x0, .int et, .int wt, .int tm, .int sta, .int he, .int ac, .int ov]))]) (ws' := [(z0, .inr (9, [.ref c0, .ref c0q, .ref c0u, .ref c0v, .int sv, .int sw, .ref a0, .ref b0])), (c0, .inr (6, [.ref s0, .ref k0, .ref i0, .ref o0, .ref x0, .int et, .int wt, .int tm, .int sta, .int he, .int ac, .int ov])), (k0, .inr (5, [.ref k1, .int pt, .int ot, .int fp, .int on]))]) F (c_X1_clockPeriod l G k0 k1 pt ot fp on) okV_X1_clockPeriod k_ml_X6_165 rfl rfl ⟨Nat.le_of_ble_eq_true rfl, Nat.le_of_ble_eq_true rfl⟩ hN hK hP hD hS hA [2] [0, 1] [0, 1, 2] (by decide) rfl rfl (by decide) (by decide) (by decide) rfl (q0 := 2) rfl rfl rfl rfl hl.1 (Nat.le_of_ble_eq_true rfl) dX6_leastSafeTemperature_7 ⟨Nat.le_refl _, Nat.le_refl _⟩ (fun H locs hP hD hS => ?_)
  refine lv_istore_n (lv' := [(1, .int (f_X1_clockPeriod pt fp on)), (0, .ref z0)]) hx hb dX6_leastSafeTemperature_10 rfl hl (by decide) rfl (fun ls hl => ?_)
  refine lv_iconst (v := 0) hx hb dX6_leastSafeTemperature_11 (by decide) ?_
  refine lv_istore_n (lv' := [(2, .int 0), (1, .int (f_X1_clockPeriod pt fp on)), (0, .ref z0)]) hx hb dX6_leastSafeTemperature_12 rfl hl (by decide) rfl (fun ls hl => ?_)
  have loop_13 : ∀ (fu k : Nat), k + fu = 1001 → (f_X6_leastSafeTemperature pt fp on) = wl_X6_leastSafeTemperature pt fp on fu k → ∀ (H : Heap) (locs : List Loc), va_P G.1 vwCl [(z0, .inr (9, [.ref c0, .ref c0q, .ref c0u, .ref c0v, .int sv, .int sw, .ref a0, .ref b0])), (c0, .inr (6, [.ref s0, .ref k0, .ref i0, .ref o0, .ref x0, .int et, .int wt, .int tm, .int sta, .int he, .int ac, .int ov])), (k0, .inr (5, [.ref k1, .int pt, .int ot, .int fp, .int on]))] H → va_D A [(z0, .inr (9, [.ref c0, .ref c0q, .ref c0u, .ref c0v, .int sv, .int sw, .ref a0, .ref b0])), (c0, .inr (6, [.ref s0, .ref k0, .ref i0, .ref o0, .ref x0, .int et, .int wt, .int tm, .int sta, .int he, .int ac, .int ov])), (k0, .inr (5, [.ref k1, .int pt, .int ot, .int fp, .int on]))] → va_S A s.heap H locs → ∀ ls : Array Slot, lv_has ls 3 [(2, .int (nI k)), (1, .int (f_X1_clockPeriod pt fp on)), (0, .ref z0)] → W p l e { frames := 3, cells := 0, slots := 0, locals := 62 } s m args below meth c H locs 0 0 (MQ below (gQ G (some (.int (f_X6_leastSafeTemperature pt fp on))) [(z0, .inr (9, [.ref c0, .ref c0q, .ref c0u, .ref c0v, .int sv, .int sw, .ref a0, .ref b0])), (c0, .inr (6, [.ref s0, .ref k0, .ref i0, .ref o0, .ref x0, .int et, .int wt, .int tm, .int sta, .int he, .int ac, .int ov])), (k0, .inr (5, [.ref k1, .int pt, .int ot, .int fp, .int on]))] A) args s 0 0 A) (F0 m 13 ls []) := by
    intro fu
    induction fu with
    | zero =>
      intro k hk hO H locs hP hD hS ls hl
      have ek : 1001 = k := by omega
      subst ek
      refine lv_iload_n hx hb dX6_leastSafeTemperature_13 rfl (lv_at hl 0 rfl) ?_
      refine lv_sipush (v := 1000) hx hb dX6_leastSafeTemperature_14 (by decide) ?_
      refine lv_icmp_gt (tgt := 36) hx hb dX6_leastSafeTemperature_17 (by decide) (fun c_1 => ?_) (fun c_1 => ?_)
      · skip
        refine lv_iconst (v := (-1)) hx hb dX6_leastSafeTemperature_36 (by decide) ?_
        have ef : (f_X6_leastSafeTemperature pt fp on) = (-1) := hO
        exact gRetI F hr hlocks hK hP hD hS (by rw [ef]) rfl (Nat.le_of_ble_eq_true rfl) (Nat.le_of_ble_eq_true rfl) dX6_leastSafeTemperature_37
      · exact absurd (by decide : (1000 : Int32) < nI 1001) c_1
    | succ fu ih =>
      intro k hk hO H locs hP hD hS ls hl
      have hlt_k : k < 1001 := by omega
      refine lv_iload_n hx hb dX6_leastSafeTemperature_13 rfl (lv_at hl 0 rfl) ?_
      refine lv_sipush (v := 1000) hx hb dX6_leastSafeTemperature_14 (by decide) ?_
      refine lv_icmp_gt (tgt := 36) hx hb dX6_leastSafeTemperature_17 (by decide) (fun c_2 => ?_) (fun c_2 => ?_)
      · exact absurd c_2 (nI_nlt (a := 1000) (b := k) (by omega) (by decide))
      · skip
        refine lv_iload_n hx hb dX6_leastSafeTemperature_20 rfl (lv_at hl 0 rfl) ?_
        refine lv_iload_n hx hb dX6_leastSafeTemperature_21 rfl (lv_at hl 1 rfl) ?_
        refine gS (As := [.int (nI k), .int (f_X1_clockPeriod pt fp on)]) (rest := []) (wr := [(z0, .inr (9, [.ref c0, .ref c0q, .ref c0u, .ref c0v, .int sv, .int sw, .ref a0, .ref b0])), (c0, .inr (6, [.ref s0, .ref k0, .ref i0, .ref o0, .ref x0, .int et, .int wt, .int tm, .int sta, .int he, .int ac, .int ov])), (k0, .inr (5, [.ref k1, .int pt, .int ot, .int fp, .int on]))]) (ws' := [(z0, .inr (9, [.ref c0, .ref c0q, .ref c0u, .ref c0v, .int sv, .int sw, .ref a0, .ref b0])), (c0, .inr (6, [.ref s0, .ref k0, .ref i0, .ref o0, .ref x0, .int et, .int wt, .int tm, .int sta, .int he, .int ac, .int ov])), (k0, .inr (5, [.ref k1, .int pt, .int ot, .int fp, .int on]))]) F (c_X6_isSafe l G (nI k) (f_X1_clockPeriod pt fp on)) okS_X6_isSafe k_ml_X6_172 rfl rfl ⟨Nat.le_of_ble_eq_true rfl, Nat.le_of_ble_eq_true rfl⟩ hN hK hP hD hS hA [] [0, 1, 2] [0, 1, 2] (by decide) rfl rfl (by decide) (by decide) (by decide) rfl rfl rfl hl.1 (Nat.le_of_ble_eq_true rfl) dX6_leastSafeTemperature_22 ⟨Nat.le_refl _, Nat.le_refl _⟩ (fun H locs hP hD hS => ?_)
        refine lv_if_eq (tgt := 30) hx hb dX6_leastSafeTemperature_25 (by decide) (fun c_3 => ?_) (fun c_3 => ?_)
        · skip
          refine lv_iinc (v := (nI (k + 1))) (lv' := [(2, .int (nI (k + 1))), (1, .int (f_X1_clockPeriod pt fp on)), (0, .ref z0)]) hx hb dX6_leastSafeTemperature_30 hl (k := 0) rfl (nI_1 k) (by decide) rfl (fun ls hl => ?_)
          refine lv_goto (tgt := 13) hx hb dX6_leastSafeTemperature_33 (by decide) ?_
          exact ih (k + 1) (by omega) (hO.trans (if_pos c_3)) _ _ hP hD hS ls (lv_sub hl [0, 1, 2] rfl)
        · skip
          refine lv_iload_n hx hb dX6_leastSafeTemperature_28 rfl (lv_at hl 0 rfl) ?_
          have ef : (f_X6_leastSafeTemperature pt fp on) = (nI k) := (hO.trans (if_neg c_3))
          exact gRetI F hr hlocks hK hP hD hS (by rw [ef]) rfl (Nat.le_of_ble_eq_true rfl) (Nat.le_of_ble_eq_true rfl) dX6_leastSafeTemperature_29
  exact loop_13 1001 0 (by omega) (rfl) _ _ hP hD hS ls (lv_sub hl [0, 1, 2] rfl)
theorem okV_X6_leastSafeTemperature : gOkV yX6_leastSafeTemperature cX6_leastSafeTemperature 3 (some .int) 0 := ⟨⟨k_im_X6_leastSafeTemperature, k_se_X6_leastSafeTemperature, k_in_X6, k_cd_X6_leastSafeTemperature⟩, by decide, by decide, by decide +kernel⟩
def wl_X6_greatestSafeTemperature (pt : Int32) (fp : Int32) (on : Int32) : Nat → Nat → Int32
  | 0, _ =>
    (-1)
  | n + 1, k =>
    if (f_X6_isSafe (1000 - (nI k)) (f_X1_clockPeriod pt fp on)) = 0 then
      wl_X6_greatestSafeTemperature pt fp on n (k + 1)
    else
      (1000 - (nI k))
def f_X6_greatestSafeTemperature (pt : Int32) (fp : Int32) (on : Int32) : Int32 :=
  (wl_X6_greatestSafeTemperature pt fp on 1001 0)
set_option maxRecDepth 100000 in
set_option maxHeartbeats 4000000 in
theorem c_X6_greatestSafeTemperature (l : Launch) (G : gG) (z0 : Nat) (c0 : Nat) (c0q : Nat) (c0u : Nat) (c0v : Nat) (a0 : Nat) (b0 : Nat) (sv : Int32) (sw : Int32) (s0 : Nat) (k0 : Nat) (i0 : Nat) (o0 : Nat) (x0 : Nat) (et : Int32) (wt : Int32) (tm : Int32) (sta : Int32) (he : Int32) (ac : Int32) (ov : Int32) (k1 : Nat) (pt : Int32) (ot : Int32) (fp : Int32) (on : Int32) : gM l G yX6_greatestSafeTemperature cX6_greatestSafeTemperature 3 (some .int) { frames := 3, cells := 0, slots := 0, locals := 62 } [.ref z0] [(z0, .inr (9, [.ref c0, .ref c0q, .ref c0u, .ref c0v, .int sv, .int sw, .ref a0, .ref b0])), (c0, .inr (6, [.ref s0, .ref k0, .ref i0, .ref o0, .ref x0, .int et, .int wt, .int tm, .int sta, .int he, .int ac, .int ov])), (k0, .inr (5, [.ref k1, .int pt, .int ot, .int fp, .int on]))] (some (.int (f_X6_greatestSafeTemperature pt fp on))) [(z0, .inr (9, [.ref c0, .ref c0q, .ref c0u, .ref c0v, .int sv, .int sw, .ref a0, .ref b0])), (c0, .inr (6, [.ref s0, .ref k0, .ref i0, .ref o0, .ref x0, .int et, .int wt, .int tm, .int sta, .int he, .int ac, .int ov])), (k0, .inr (5, [.ref k1, .int pt, .int ot, .int fp, .int on]))] 0 0 := by
  refine gBegin (by decide +kernel) (Nat.le_of_ble_eq_true rfl) (fun p e s m args below meth c A F hr hlocks hname hN hK hP hD hA hS ls hl => ?_)
  obtain ⟨hx, hb, hml, hown, hts⟩ := id F
  replace hP : va_P G.1 vwCl [(z0, .inr (9, [.ref c0, .ref c0q, .ref c0u, .ref c0v, .int sv, .int sw, .ref a0, .ref b0])), (c0, .inr (6, [.ref s0, .ref k0, .ref i0, .ref o0, .ref x0, .int et, .int wt, .int tm, .int sta, .int he, .int ac, .int ov])), (k0, .inr (5, [.ref k1, .int pt, .int ot, .int fp, .int on]))] s.heap := hP
  replace hl : lv_has ls 3 [(0, .ref z0)] := hl
  refine lv_aload_n hx hb dX6_greatestSafeTemperature_0 rfl (lv_at hl 0 rfl) ?_
  refine va_get (D := G.1) (ci := 9) (v := .ref c0) (C := RX6) (T := TX6) (N := 8) hx hb hts in_X6 hown hK hP 0 rfl rfl 0 (by decide) (hts _ k_fl_X6_12) (fun _ h9 => h9) rfl dX6_greatestSafeTemperature_1 ?_
  refine va_get (D := G.1) (ci := 6) (v := .ref k0) (C := RX2) (T := TX2) (N := 12) hx hb hts in_X2 hown hK hP 1 rfl rfl 1 (by decide) (hts _ k_fl_X6_126) (fun _ h9 => h9) rfl dX6_greatestSafeTemperature_4 ?_
  refine gV (As := []) (rest := []) (wr := [(z0, .inr (9, [.ref c0, .ref c0q, .ref c0u, .ref c0v, .int sv, .int sw, .ref a0, .ref b0])), (c0, .inr (6, [.ref s0, .ref k0, .ref i0, .ref o0, .ref x0, .int et, .int wt, .int tm, .int sta, .int he, .int ac, .int ov]))]) (ws' := [(z0, .inr (9, [.ref c0, .ref c0q, .ref c0u, .ref c0v, .int sv, .int sw, .ref a0, .ref b0])), (c0, .inr (6, [.ref s0, .ref k0, .ref i0, .ref o0, .ref x0, .int et, .int wt, .int tm, .int sta, .int he, .int ac, .int ov])), (k0, .inr (5, [.ref k1, .int pt, .int ot, .int fp, .int on]))]) F (c_X1_clockPeriod l G k0 k1 pt ot fp on) okV_X1_clockPeriod k_ml_X6_165 rfl rfl ⟨Nat.le_of_ble_eq_true rfl, Nat.le_of_ble_eq_true rfl⟩ hN hK hP hD hS hA [2] [0, 1] [0, 1, 2] (by decide) rfl rfl (by decide) (by decide) (by decide) rfl (q0 := 2) rfl rfl rfl rfl hl.1 (Nat.le_of_ble_eq_true rfl) dX6_greatestSafeTemperature_7 ⟨Nat.le_refl _, Nat.le_refl _⟩ (fun H locs hP hD hS => ?_)
  refine lv_istore_n (lv' := [(1, .int (f_X1_clockPeriod pt fp on)), (0, .ref z0)]) hx hb dX6_greatestSafeTemperature_10 rfl hl (by decide) rfl (fun ls hl => ?_)
  refine lv_sipush (v := 1000) hx hb dX6_greatestSafeTemperature_11 (by decide) ?_
  refine lv_istore_n (lv' := [(2, .int 1000), (1, .int (f_X1_clockPeriod pt fp on)), (0, .ref z0)]) hx hb dX6_greatestSafeTemperature_14 rfl hl (by decide) rfl (fun ls hl => ?_)
  have loop_15 : ∀ (fu k : Nat), k + fu = 1001 → (f_X6_greatestSafeTemperature pt fp on) = wl_X6_greatestSafeTemperature pt fp on fu k → ∀ (H : Heap) (locs : List Loc), va_P G.1 vwCl [(z0, .inr (9, [.ref c0, .ref c0q, .ref c0u, .ref c0v, .int sv, .int sw, .ref a0, .ref b0])), (c0, .inr (6, [.ref s0, .ref k0, .ref i0, .ref o0, .ref x0, .int et, .int wt, .int tm, .int sta, .int he, .int ac, .int ov])), (k0, .inr (5, [.ref k1, .int pt, .int ot, .int fp, .int on]))] H → va_D A [(z0, .inr (9, [.ref c0, .ref c0q, .ref c0u, .ref c0v, .int sv, .int sw, .ref a0, .ref b0])), (c0, .inr (6, [.ref s0, .ref k0, .ref i0, .ref o0, .ref x0, .int et, .int wt, .int tm, .int sta, .int he, .int ac, .int ov])), (k0, .inr (5, [.ref k1, .int pt, .int ot, .int fp, .int on]))] → va_S A s.heap H locs → ∀ ls : Array Slot, lv_has ls 3 [(2, .int (1000 - (nI k))), (1, .int (f_X1_clockPeriod pt fp on)), (0, .ref z0)] → W p l e { frames := 3, cells := 0, slots := 0, locals := 62 } s m args below meth c H locs 0 0 (MQ below (gQ G (some (.int (f_X6_greatestSafeTemperature pt fp on))) [(z0, .inr (9, [.ref c0, .ref c0q, .ref c0u, .ref c0v, .int sv, .int sw, .ref a0, .ref b0])), (c0, .inr (6, [.ref s0, .ref k0, .ref i0, .ref o0, .ref x0, .int et, .int wt, .int tm, .int sta, .int he, .int ac, .int ov])), (k0, .inr (5, [.ref k1, .int pt, .int ot, .int fp, .int on]))] A) args s 0 0 A) (F0 m 15 ls []) := by
    intro fu
    induction fu with
    | zero =>
      intro k hk hO H locs hP hD hS ls hl
      have ek : 1001 = k := by omega
      subst ek
      refine lv_iload_n hx hb dX6_greatestSafeTemperature_15 rfl (lv_at hl 0 rfl) ?_
      refine lv_if_lt (tgt := 35) hx hb dX6_greatestSafeTemperature_16 (by decide) (fun c_1 => ?_) (fun c_1 => ?_)
      · skip
        refine lv_iconst (v := (-1)) hx hb dX6_greatestSafeTemperature_35 (by decide) ?_
        have ef : (f_X6_greatestSafeTemperature pt fp on) = (-1) := hO
        exact gRetI F hr hlocks hK hP hD hS (by rw [ef]) rfl (Nat.le_of_ble_eq_true rfl) (Nat.le_of_ble_eq_true rfl) dX6_greatestSafeTemperature_36
      · exact absurd (by decide : (1000 : Int32) - nI 1001 < 0) c_1
    | succ fu ih =>
      intro k hk hO H locs hP hD hS ls hl
      have hlt_k : k < 1001 := by omega
      refine lv_iload_n hx hb dX6_greatestSafeTemperature_15 rfl (lv_at hl 0 rfl) ?_
      refine lv_if_lt (tgt := 35) hx hb dX6_greatestSafeTemperature_16 (by decide) (fun c_2 => ?_) (fun c_2 => ?_)
      · exact absurd c_2 (g1000 hlt_k)
      · skip
        refine lv_iload_n hx hb dX6_greatestSafeTemperature_19 rfl (lv_at hl 0 rfl) ?_
        refine lv_iload_n hx hb dX6_greatestSafeTemperature_20 rfl (lv_at hl 1 rfl) ?_
        refine gS (As := [.int (1000 - (nI k)), .int (f_X1_clockPeriod pt fp on)]) (rest := []) (wr := [(z0, .inr (9, [.ref c0, .ref c0q, .ref c0u, .ref c0v, .int sv, .int sw, .ref a0, .ref b0])), (c0, .inr (6, [.ref s0, .ref k0, .ref i0, .ref o0, .ref x0, .int et, .int wt, .int tm, .int sta, .int he, .int ac, .int ov])), (k0, .inr (5, [.ref k1, .int pt, .int ot, .int fp, .int on]))]) (ws' := [(z0, .inr (9, [.ref c0, .ref c0q, .ref c0u, .ref c0v, .int sv, .int sw, .ref a0, .ref b0])), (c0, .inr (6, [.ref s0, .ref k0, .ref i0, .ref o0, .ref x0, .int et, .int wt, .int tm, .int sta, .int he, .int ac, .int ov])), (k0, .inr (5, [.ref k1, .int pt, .int ot, .int fp, .int on]))]) F (c_X6_isSafe l G (1000 - (nI k)) (f_X1_clockPeriod pt fp on)) okS_X6_isSafe k_ml_X6_172 rfl rfl ⟨Nat.le_of_ble_eq_true rfl, Nat.le_of_ble_eq_true rfl⟩ hN hK hP hD hS hA [] [0, 1, 2] [0, 1, 2] (by decide) rfl rfl (by decide) (by decide) (by decide) rfl rfl rfl hl.1 (Nat.le_of_ble_eq_true rfl) dX6_greatestSafeTemperature_21 ⟨Nat.le_refl _, Nat.le_refl _⟩ (fun H locs hP hD hS => ?_)
        refine lv_if_eq (tgt := 29) hx hb dX6_greatestSafeTemperature_24 (by decide) (fun c_3 => ?_) (fun c_3 => ?_)
        · skip
          refine lv_iinc (v := (1000 - (nI (k + 1)))) (lv' := [(2, .int (1000 - (nI (k + 1)))), (1, .int (f_X1_clockPeriod pt fp on)), (0, .ref z0)]) hx hb dX6_greatestSafeTemperature_29 hl (k := 0) rfl (g1000s k) (by decide) rfl (fun ls hl => ?_)
          refine lv_goto (tgt := 15) hx hb dX6_greatestSafeTemperature_32 (by decide) ?_
          exact ih (k + 1) (by omega) (hO.trans (if_pos c_3)) _ _ hP hD hS ls (lv_sub hl [0, 1, 2] rfl)
        · skip
          refine lv_iload_n hx hb dX6_greatestSafeTemperature_27 rfl (lv_at hl 0 rfl) ?_
          have ef : (f_X6_greatestSafeTemperature pt fp on) = (1000 - (nI k)) := (hO.trans (if_neg c_3))
          exact gRetI F hr hlocks hK hP hD hS (by rw [ef]) rfl (Nat.le_of_ble_eq_true rfl) (Nat.le_of_ble_eq_true rfl) dX6_greatestSafeTemperature_28
  exact loop_15 1001 0 (by omega) (rfl) _ _ hP hD hS ls (lv_sub hl [0, 1, 2] rfl)
theorem okV_X6_greatestSafeTemperature : gOkV yX6_greatestSafeTemperature cX6_greatestSafeTemperature 3 (some .int) 0 := ⟨⟨k_im_X6_greatestSafeTemperature, k_se_X6_greatestSafeTemperature, k_in_X6, k_cd_X6_greatestSafeTemperature⟩, by decide, by decide, by decide +kernel⟩
def f_X6_start (sta : Int32) (he : Int32) (p0 : Int32) (p1 : Int32) : Int32 × Int32 :=
  if (th_X6_requireLocation p0 p1) = none then
    ((f_X2_makeReadyAt (f_X6_locationOf p0 p1)).1, (f_X2_makeReadyAt (f_X6_locationOf p0 p1)).2)
  else
    (sta, he)
def th_X6_start (p0 : Int32) (p1 : Int32) : Option String :=
  if (th_X6_requireLocation p0 p1) = none then
    none
  else
    (th_X6_requireLocation p0 p1)
set_option maxRecDepth 100000 in
set_option maxHeartbeats 4000000 in
theorem c_X6_start (l : Launch) (hfl : l.stackTraces = false) (G : gG) (z0 : Nat) (c0 : Nat) (c0q : Nat) (c0u : Nat) (c0v : Nat) (a0 : Nat) (b0 : Nat) (sv : Int32) (sw : Int32) (s0 : Nat) (k0 : Nat) (i0 : Nat) (o0 : Nat) (x0 : Nat) (et : Int32) (wt : Int32) (tm : Int32) (sta : Int32) (he : Int32) (ac : Int32) (ov : Int32) (p0 : Int32) (p1 : Int32) : gX l G yX6_start cX6_start 3 none { frames := 7, cells := 1, slots := 6, locals := 111 } [.ref z0, .int p0, .int p1] [(z0, .inr (9, [.ref c0, .ref c0q, .ref c0u, .ref c0v, .int sv, .int sw, .ref a0, .ref b0])), (c0, .inr (6, [.ref s0, .ref k0, .ref i0, .ref o0, .ref x0, .int et, .int wt, .int tm, .int sta, .int he, .int ac, .int ov]))] (th_X6_start p0 p1) none [(z0, .inr (9, [.ref c0, .ref c0q, .ref c0u, .ref c0v, .int sv, .int sw, .ref a0, .ref b0])), (c0, .inr (6, [.ref s0, .ref k0, .ref i0, .ref o0, .ref x0, .int et, .int wt, .int tm, .int ((f_X6_start sta he p0 p1).1), .int ((f_X6_start sta he p0 p1).2), .int ac, .int ov]))] 1 6 := by
  refine gxBegin (by decide +kernel) (Nat.le_of_ble_eq_true rfl) (fun p e s m args below meth c A F hr hlocks htab hN hSt hK hP hD hA hS ls hl => ?_)
  obtain ⟨hx, hb, hml, hown, hts⟩ := id F
  replace hP : va_P G.1 vwCl [(z0, .inr (9, [.ref c0, .ref c0q, .ref c0u, .ref c0v, .int sv, .int sw, .ref a0, .ref b0])), (c0, .inr (6, [.ref s0, .ref k0, .ref i0, .ref o0, .ref x0, .int et, .int wt, .int tm, .int sta, .int he, .int ac, .int ov]))] s.heap := hP
  replace hl : lv_has ls 3 [(0, .ref z0), (1, .int p0), (2, .int p1)] := hl
  refine lv_iload_n hx hb dX6_start_0 rfl (lv_at hl 1 rfl) ?_
  refine lv_iload_n hx hb dX6_start_1 rfl (lv_at hl 2 rfl) ?_
  refine gxS (As := [.int p0, .int p1]) (rest := []) (wr := [(z0, .inr (9, [.ref c0, .ref c0q, .ref c0u, .ref c0v, .int sv, .int sw, .ref a0, .ref b0])), (c0, .inr (6, [.ref s0, .ref k0, .ref i0, .ref o0, .ref x0, .int et, .int wt, .int tm, .int sta, .int he, .int ac, .int ov]))]) (ws' := [(z0, .inr (9, [.ref c0, .ref c0q, .ref c0u, .ref c0v, .int sv, .int sw, .ref a0, .ref b0])), (c0, .inr (6, [.ref s0, .ref k0, .ref i0, .ref o0, .ref x0, .int et, .int wt, .int tm, .int sta, .int he, .int ac, .int ov]))]) F (c_X6_requireLocation l hfl G p0 p1) okS_X6_requireLocation k_ml_X6_101 rfl rfl ⟨Nat.le_of_ble_eq_true rfl, Nat.le_of_ble_eq_true rfl⟩ hN hSt hK hP hD hS hA [] [0, 1] [0, 1] (by decide) rfl rfl (by decide) (by decide) (by decide) rfl rfl rfl rfl hl.1 (Nat.le_of_ble_eq_true rfl) dX6_start_2 ⟨Nat.le_of_ble_eq_true rfl, Nat.le_of_ble_eq_true rfl⟩ (fun c_1 H locs hP hD hS => ?_) (fun E9 ce9 q9 H locs x9 hP hD hS h91 h92 h93 => ?_)
  · skip
    refine lv_aload_n hx hb dX6_start_5 rfl (lv_at hl 0 rfl) ?_
    refine va_get (D := G.1) (ci := 9) (v := .ref c0) (C := RX6) (T := TX6) (N := 8) hx hb hts in_X6 hown hK hP 0 rfl rfl 0 (by decide) (hts _ k_fl_X6_12) (fun _ h9 => h9) rfl dX6_start_6 ?_
    refine lv_iload_n hx hb dX6_start_9 rfl (lv_at hl 1 rfl) ?_
    refine lv_iload_n hx hb dX6_start_10 rfl (lv_at hl 2 rfl) ?_
    refine gS (As := [.int p0, .int p1]) (rest := [.ref c0]) (wr := [(z0, .inr (9, [.ref c0, .ref c0q, .ref c0u, .ref c0v, .int sv, .int sw, .ref a0, .ref b0])), (c0, .inr (6, [.ref s0, .ref k0, .ref i0, .ref o0, .ref x0, .int et, .int wt, .int tm, .int sta, .int he, .int ac, .int ov]))]) (ws' := [(z0, .inr (9, [.ref c0, .ref c0q, .ref c0u, .ref c0v, .int sv, .int sw, .ref a0, .ref b0])), (c0, .inr (6, [.ref s0, .ref k0, .ref i0, .ref o0, .ref x0, .int et, .int wt, .int tm, .int sta, .int he, .int ac, .int ov]))]) F (c_X6_locationOf l G p0 p1) okS_X6_locationOf k_ml_X6_104 rfl rfl ⟨Nat.le_of_ble_eq_true rfl, Nat.le_of_ble_eq_true rfl⟩ hN hK hP hD hS hA [] [0, 1] [0, 1] (by decide) rfl rfl (by decide) (by decide) (by decide) rfl rfl rfl hl.1 (Nat.le_of_ble_eq_true rfl) dX6_start_11 ⟨Nat.le_of_ble_eq_true rfl, Nat.le_of_ble_eq_true rfl⟩ (fun H locs hP hD hS => ?_)
    refine gV (As := [.int (f_X6_locationOf p0 p1)]) (rest := []) (wr := [(z0, .inr (9, [.ref c0, .ref c0q, .ref c0u, .ref c0v, .int sv, .int sw, .ref a0, .ref b0]))]) (ws' := [(z0, .inr (9, [.ref c0, .ref c0q, .ref c0u, .ref c0v, .int sv, .int sw, .ref a0, .ref b0])), (c0, .inr (6, [.ref s0, .ref k0, .ref i0, .ref o0, .ref x0, .int et, .int wt, .int tm, .int ((f_X2_makeReadyAt (f_X6_locationOf p0 p1)).1), .int ((f_X2_makeReadyAt (f_X6_locationOf p0 p1)).2), .int ac, .int ov]))]) F (c_X2_makeReadyAt l G c0 s0 k0 i0 o0 x0 et wt tm sta he ac ov (f_X6_locationOf p0 p1)) okV_X2_makeReadyAt k_ml_X6_89 rfl rfl ⟨Nat.le_of_ble_eq_true rfl, Nat.le_of_ble_eq_true rfl⟩ hN hK hP hD hS hA [1] [0] [0, 1] (by decide) rfl rfl (by decide) (by decide) (by decide) rfl (q0 := 1) rfl rfl rfl rfl hl.1 (Nat.le_of_ble_eq_true rfl) dX6_start_14 ⟨Nat.le_of_ble_eq_true rfl, Nat.le_of_ble_eq_true rfl⟩ (fun H locs hP hD hS => ?_)
    have ef : (f_X6_start sta he p0 p1) = ((f_X2_makeReadyAt (f_X6_locationOf p0 p1)).1, (f_X2_makeReadyAt (f_X6_locationOf p0 p1)).2) := (if_pos c_1)
    refine gxOf ((if_pos c_1)) ?_
    exact gRetV F hr hlocks hK hP hD hS rfl (by rw [ef]) (Nat.le_of_ble_eq_true rfl) (Nat.le_of_ble_eq_true rfl) dX6_start_17
  · have c_1 : ¬ (th_X6_requireLocation p0 p1) = none := (by rw [x9]; exact Option.some_ne_none _)
    exact gxOut hlocks htab hK hP hD hS h91 h92 h93 (((if_neg c_1)).trans x9) (Nat.le_of_ble_eq_true rfl) (Nat.le_of_ble_eq_true rfl)
theorem okV_X6_start : gOkV yX6_start cX6_start 3 none 2 := ⟨⟨k_im_X6_start, k_se_X6_start, k_in_X6, k_cd_X6_start⟩, by decide, by decide, by decide +kernel⟩
def f_X6_run (et : Int32) (wt : Int32) (tm : Int32) (sta : Int32) (he : Int32) (ac : Int32) (ov : Int32) (dr : Int32) (bits : Nat → Int32) (ring : Nat → Int32) (slips : Nat → Int32) (pt : Int32) (ot : Int32) (fp : Int32) (on : Int32) (temps : Nat → Int32) (fi : Int32) (li : Int32) (rin : Nat → Int32) (fo : Int32) (lo : Int32) (rout : Nat → Int32) (cnt : Nat → Int32) (p0 : Int32) : Int32 × Int32 × Int32 × Int32 × Int32 × Int32 × Int32 × Int32 × Int32 × (Nat → Int32) × (Nat → Int32) × (Nat → Int32) × Int32 × (Nat → Int32) × Int32 × Int32 × Int32 × (Nat → Int32) × (Nat → Int32) :=
  if (th_X6_requireCount p0 500) = none then
    if (th_X6_requireReady sta) = none then
      let t3 := (f_X2_executeUpTo et wt tm sta he ac ov dr bits ring slips pt ot fp on temps fi li rin fo lo rout cnt p0)
      (t3.1, t3.2.1, t3.2.2.1, t3.2.2.2.1, t3.2.2.2.2.1, t3.2.2.2.2.2.1, t3.2.2.2.2.2.2.1, t3.2.2.2.2.2.2.2.1, t3.2.2.2.2.2.2.2.2.1, t3.2.2.2.2.2.2.2.2.2.1, t3.2.2.2.2.2.2.2.2.2.2.1, t3.2.2.2.2.2.2.2.2.2.2.2.1, t3.2.2.2.2.2.2.2.2.2.2.2.2.1, t3.2.2.2.2.2.2.2.2.2.2.2.2.2.1, t3.2.2.2.2.2.2.2.2.2.2.2.2.2.2.1, t3.2.2.2.2.2.2.2.2.2.2.2.2.2.2.2.1, t3.2.2.2.2.2.2.2.2.2.2.2.2.2.2.2.2.1, t3.2.2.2.2.2.2.2.2.2.2.2.2.2.2.2.2.2.1, t3.2.2.2.2.2.2.2.2.2.2.2.2.2.2.2.2.2.2)
    else
      (0, et, wt, tm, sta, he, ac, ov, dr, bits, ring, slips, pt, temps, fi, li, lo, rout, cnt)
  else
    (0, et, wt, tm, sta, he, ac, ov, dr, bits, ring, slips, pt, temps, fi, li, lo, rout, cnt)
def th_X6_run (et : Int32) (wt : Int32) (tm : Int32) (sta : Int32) (he : Int32) (ac : Int32) (ov : Int32) (dr : Int32) (bits : Nat → Int32) (ring : Nat → Int32) (slips : Nat → Int32) (pt : Int32) (ot : Int32) (fp : Int32) (on : Int32) (temps : Nat → Int32) (fi : Int32) (li : Int32) (rin : Nat → Int32) (fo : Int32) (lo : Int32) (rout : Nat → Int32) (cnt : Nat → Int32) (p0 : Int32) : Option String :=
  if (th_X6_requireCount p0 500) = none then
    if (th_X6_requireReady sta) = none then
      let t3 := (f_X2_executeUpTo et wt tm sta he ac ov dr bits ring slips pt ot fp on temps fi li rin fo lo rout cnt p0)
      none
    else
      (th_X6_requireReady sta)
  else
    (th_X6_requireCount p0 500)
set_option maxRecDepth 100000 in
set_option maxHeartbeats 4000000 in
theorem c_X6_run (l : Launch) (hfl : l.stackTraces = false) (G : gG) (z0 : Nat) (c0 : Nat) (c0q : Nat) (c0u : Nat) (c0v : Nat) (a0 : Nat) (b0 : Nat) (sv : Int32) (sw : Int32) (s0 : Nat) (k0 : Nat) (i0 : Nat) (o0 : Nat) (x0 : Nat) (et : Int32) (wt : Int32) (tm : Int32) (sta : Int32) (he : Int32) (ac : Int32) (ov : Int32) (s1 : Nat) (s2 : Nat) (s3 : Nat) (dr : Int32) (bits : Nat → Int32) (ring : Nat → Int32) (slips : Nat → Int32) (k1 : Nat) (pt : Int32) (ot : Int32) (fp : Int32) (on : Int32) (temps : Nat → Int32) (i1 : Nat) (fi : Int32) (li : Int32) (rin : Nat → Int32) (o1 : Nat) (fo : Int32) (lo : Int32) (rout : Nat → Int32) (cnt : Nat → Int32) (p0 : Int32) (hT : 0 ≤ tm.toInt ∧ tm.toInt < 190000000) (hov : g01 ov) : gX l G yX6_run cX6_run 2 (some .int) { frames := 7, cells := 2, slots := 12, locals := 167 } [.ref z0, .int p0] [(z0, .inr (9, [.ref c0, .ref c0q, .ref c0u, .ref c0v, .int sv, .int sw, .ref a0, .ref b0])), (c0, .inr (6, [.ref s0, .ref k0, .ref i0, .ref o0, .ref x0, .int et, .int wt, .int tm, .int sta, .int he, .int ac, .int ov])), (s0, .inr (8, [.ref s1, .ref s2, .ref s3, .int dr])), (s1, .inl (G.2.1.1, 256, .inl bits)), (s2, .inl (G.2.1.1, 32, .inl ring)), (s3, .inl (G.2.1.1, 8, .inl slips)), (k0, .inr (5, [.ref k1, .int pt, .int ot, .int fp, .int on])), (k1, .inl (G.2.1.1, 8, .inl temps)), (i0, .inr (7, [.ref i1, .int fi, .int li])), (i1, .inl (G.2.1.1, 64, .inl rin)), (o0, .inr (7, [.ref o1, .int fo, .int lo])), (o1, .inl (G.2.1.1, 64, .inl rout)), (x0, .inl (G.2.1.1, 256, .inl cnt))] (th_X6_run et wt tm sta he ac ov dr bits ring slips pt ot fp on temps fi li rin fo lo rout cnt p0) (some (.int ((f_X6_run et wt tm sta he ac ov dr bits ring slips pt ot fp on temps fi li rin fo lo rout cnt p0).1))) [(z0, .inr (9, [.ref c0, .ref c0q, .ref c0u, .ref c0v, .int sv, .int sw, .ref a0, .ref b0])), (c0, .inr (6, [.ref s0, .ref k0, .ref i0, .ref o0, .ref x0, .int ((f_X6_run et wt tm sta he ac ov dr bits ring slips pt ot fp on temps fi li rin fo lo rout cnt p0).2.1), .int ((f_X6_run et wt tm sta he ac ov dr bits ring slips pt ot fp on temps fi li rin fo lo rout cnt p0).2.2.1), .int ((f_X6_run et wt tm sta he ac ov dr bits ring slips pt ot fp on temps fi li rin fo lo rout cnt p0).2.2.2.1), .int ((f_X6_run et wt tm sta he ac ov dr bits ring slips pt ot fp on temps fi li rin fo lo rout cnt p0).2.2.2.2.1), .int ((f_X6_run et wt tm sta he ac ov dr bits ring slips pt ot fp on temps fi li rin fo lo rout cnt p0).2.2.2.2.2.1), .int ((f_X6_run et wt tm sta he ac ov dr bits ring slips pt ot fp on temps fi li rin fo lo rout cnt p0).2.2.2.2.2.2.1), .int ((f_X6_run et wt tm sta he ac ov dr bits ring slips pt ot fp on temps fi li rin fo lo rout cnt p0).2.2.2.2.2.2.2.1)])), (s0, .inr (8, [.ref s1, .ref s2, .ref s3, .int ((f_X6_run et wt tm sta he ac ov dr bits ring slips pt ot fp on temps fi li rin fo lo rout cnt p0).2.2.2.2.2.2.2.2.1)])), (s1, .inl (G.2.1.1, 256, .inl ((f_X6_run et wt tm sta he ac ov dr bits ring slips pt ot fp on temps fi li rin fo lo rout cnt p0).2.2.2.2.2.2.2.2.2.1))), (s2, .inl (G.2.1.1, 32, .inl ((f_X6_run et wt tm sta he ac ov dr bits ring slips pt ot fp on temps fi li rin fo lo rout cnt p0).2.2.2.2.2.2.2.2.2.2.1))), (s3, .inl (G.2.1.1, 8, .inl ((f_X6_run et wt tm sta he ac ov dr bits ring slips pt ot fp on temps fi li rin fo lo rout cnt p0).2.2.2.2.2.2.2.2.2.2.2.1))), (k0, .inr (5, [.ref k1, .int ((f_X6_run et wt tm sta he ac ov dr bits ring slips pt ot fp on temps fi li rin fo lo rout cnt p0).2.2.2.2.2.2.2.2.2.2.2.2.1), .int ot, .int fp, .int on])), (k1, .inl (G.2.1.1, 8, .inl ((f_X6_run et wt tm sta he ac ov dr bits ring slips pt ot fp on temps fi li rin fo lo rout cnt p0).2.2.2.2.2.2.2.2.2.2.2.2.2.1))), (i0, .inr (7, [.ref i1, .int ((f_X6_run et wt tm sta he ac ov dr bits ring slips pt ot fp on temps fi li rin fo lo rout cnt p0).2.2.2.2.2.2.2.2.2.2.2.2.2.2.1), .int ((f_X6_run et wt tm sta he ac ov dr bits ring slips pt ot fp on temps fi li rin fo lo rout cnt p0).2.2.2.2.2.2.2.2.2.2.2.2.2.2.2.1)])), (i1, .inl (G.2.1.1, 64, .inl rin)), (o0, .inr (7, [.ref o1, .int fo, .int ((f_X6_run et wt tm sta he ac ov dr bits ring slips pt ot fp on temps fi li rin fo lo rout cnt p0).2.2.2.2.2.2.2.2.2.2.2.2.2.2.2.2.1)])), (o1, .inl (G.2.1.1, 64, .inl ((f_X6_run et wt tm sta he ac ov dr bits ring slips pt ot fp on temps fi li rin fo lo rout cnt p0).2.2.2.2.2.2.2.2.2.2.2.2.2.2.2.2.2.1))), (x0, .inl (G.2.1.1, 256, .inl ((f_X6_run et wt tm sta he ac ov dr bits ring slips pt ot fp on temps fi li rin fo lo rout cnt p0).2.2.2.2.2.2.2.2.2.2.2.2.2.2.2.2.2.2)))] 2 12 := by
  refine gxBegin (by decide +kernel) (Nat.le_of_ble_eq_true rfl) (fun p e s m args below meth c A F hr hlocks htab hN hSt hK hP hD hA hS ls hl => ?_)
  obtain ⟨hx, hb, hml, hown, hts⟩ := id F
  replace hP : va_P G.1 vwCl [(z0, .inr (9, [.ref c0, .ref c0q, .ref c0u, .ref c0v, .int sv, .int sw, .ref a0, .ref b0])), (c0, .inr (6, [.ref s0, .ref k0, .ref i0, .ref o0, .ref x0, .int et, .int wt, .int tm, .int sta, .int he, .int ac, .int ov])), (s0, .inr (8, [.ref s1, .ref s2, .ref s3, .int dr])), (s1, .inl (G.2.1.1, 256, .inl bits)), (s2, .inl (G.2.1.1, 32, .inl ring)), (s3, .inl (G.2.1.1, 8, .inl slips)), (k0, .inr (5, [.ref k1, .int pt, .int ot, .int fp, .int on])), (k1, .inl (G.2.1.1, 8, .inl temps)), (i0, .inr (7, [.ref i1, .int fi, .int li])), (i1, .inl (G.2.1.1, 64, .inl rin)), (o0, .inr (7, [.ref o1, .int fo, .int lo])), (o1, .inl (G.2.1.1, 64, .inl rout)), (x0, .inl (G.2.1.1, 256, .inl cnt))] s.heap := hP
  replace hl : lv_has ls 2 [(0, .ref z0), (1, .int p0)] := hl
  refine lv_iload_n hx hb dX6_run_0 rfl (lv_at hl 1 rfl) ?_
  refine lv_sipush (v := 500) hx hb dX6_run_1 (by decide) ?_
  refine gxS (As := [.int p0, .int 500]) (rest := []) (wr := [(z0, .inr (9, [.ref c0, .ref c0q, .ref c0u, .ref c0v, .int sv, .int sw, .ref a0, .ref b0])), (c0, .inr (6, [.ref s0, .ref k0, .ref i0, .ref o0, .ref x0, .int et, .int wt, .int tm, .int sta, .int he, .int ac, .int ov])), (s0, .inr (8, [.ref s1, .ref s2, .ref s3, .int dr])), (s1, .inl (G.2.1.1, 256, .inl bits)), (s2, .inl (G.2.1.1, 32, .inl ring)), (s3, .inl (G.2.1.1, 8, .inl slips)), (k0, .inr (5, [.ref k1, .int pt, .int ot, .int fp, .int on])), (k1, .inl (G.2.1.1, 8, .inl temps)), (i0, .inr (7, [.ref i1, .int fi, .int li])), (i1, .inl (G.2.1.1, 64, .inl rin)), (o0, .inr (7, [.ref o1, .int fo, .int lo])), (o1, .inl (G.2.1.1, 64, .inl rout)), (x0, .inl (G.2.1.1, 256, .inl cnt))]) (ws' := [(z0, .inr (9, [.ref c0, .ref c0q, .ref c0u, .ref c0v, .int sv, .int sw, .ref a0, .ref b0])), (c0, .inr (6, [.ref s0, .ref k0, .ref i0, .ref o0, .ref x0, .int et, .int wt, .int tm, .int sta, .int he, .int ac, .int ov])), (s0, .inr (8, [.ref s1, .ref s2, .ref s3, .int dr])), (s1, .inl (G.2.1.1, 256, .inl bits)), (s2, .inl (G.2.1.1, 32, .inl ring)), (s3, .inl (G.2.1.1, 8, .inl slips)), (k0, .inr (5, [.ref k1, .int pt, .int ot, .int fp, .int on])), (k1, .inl (G.2.1.1, 8, .inl temps)), (i0, .inr (7, [.ref i1, .int fi, .int li])), (i1, .inl (G.2.1.1, 64, .inl rin)), (o0, .inr (7, [.ref o1, .int fo, .int lo])), (o1, .inl (G.2.1.1, 64, .inl rout)), (x0, .inl (G.2.1.1, 256, .inl cnt))]) F (c_X6_requireCount l hfl G p0 500) okS_X6_requireCount k_ml_X6_186 rfl rfl ⟨Nat.le_of_ble_eq_true rfl, Nat.le_of_ble_eq_true rfl⟩ hN hSt hK hP hD hS hA [] [0, 1, 2, 3, 4, 5, 6, 7, 8, 9, 10, 11, 12] [0, 1, 2, 3, 4, 5, 6, 7, 8, 9, 10, 11, 12] (by decide) rfl rfl (by decide) (by decide) (by decide) rfl rfl rfl rfl hl.1 (Nat.le_of_ble_eq_true rfl) dX6_run_4 ⟨Nat.le_of_ble_eq_true rfl, Nat.le_of_ble_eq_true rfl⟩ (fun c_1 H locs hP hD hS => ?_) (fun E9 ce9 q9 H locs x9 hP hD hS h91 h92 h93 => ?_)
  · skip
    refine lv_aload_n hx hb dX6_run_7 rfl (lv_at hl 0 rfl) ?_
    refine gxV (As := []) (rest := []) (wr := [(s0, .inr (8, [.ref s1, .ref s2, .ref s3, .int dr])), (s1, .inl (G.2.1.1, 256, .inl bits)), (s2, .inl (G.2.1.1, 32, .inl ring)), (s3, .inl (G.2.1.1, 8, .inl slips)), (k0, .inr (5, [.ref k1, .int pt, .int ot, .int fp, .int on])), (k1, .inl (G.2.1.1, 8, .inl temps)), (i0, .inr (7, [.ref i1, .int fi, .int li])), (i1, .inl (G.2.1.1, 64, .inl rin)), (o0, .inr (7, [.ref o1, .int fo, .int lo])), (o1, .inl (G.2.1.1, 64, .inl rout)), (x0, .inl (G.2.1.1, 256, .inl cnt))]) (ws' := [(z0, .inr (9, [.ref c0, .ref c0q, .ref c0u, .ref c0v, .int sv, .int sw, .ref a0, .ref b0])), (c0, .inr (6, [.ref s0, .ref k0, .ref i0, .ref o0, .ref x0, .int et, .int wt, .int tm, .int sta, .int he, .int ac, .int ov])), (s0, .inr (8, [.ref s1, .ref s2, .ref s3, .int dr])), (s1, .inl (G.2.1.1, 256, .inl bits)), (s2, .inl (G.2.1.1, 32, .inl ring)), (s3, .inl (G.2.1.1, 8, .inl slips)), (k0, .inr (5, [.ref k1, .int pt, .int ot, .int fp, .int on])), (k1, .inl (G.2.1.1, 8, .inl temps)), (i0, .inr (7, [.ref i1, .int fi, .int li])), (i1, .inl (G.2.1.1, 64, .inl rin)), (o0, .inr (7, [.ref o1, .int fo, .int lo])), (o1, .inl (G.2.1.1, 64, .inl rout)), (x0, .inl (G.2.1.1, 256, .inl cnt))]) F (c_X6_requireReady l hfl G z0 c0 c0q c0u c0v a0 b0 sv sw s0 k0 i0 o0 x0 et wt tm sta he ac ov) okV_X6_requireReady k_ml_X6_189 rfl rfl ⟨Nat.le_of_ble_eq_true rfl, Nat.le_of_ble_eq_true rfl⟩ hN hSt hK hP hD hS hA [0, 1] [2, 3, 4, 5, 6, 7, 8, 9, 10, 11, 12] [11, 12, 0, 1, 2, 3, 4, 5, 6, 7, 8, 9, 10] (by decide) rfl rfl (by decide) (by decide) (by decide) rfl rfl (q0 := 0) rfl rfl rfl rfl hl.1 (Nat.le_of_ble_eq_true rfl) dX6_run_8 ⟨Nat.le_of_ble_eq_true rfl, Nat.le_of_ble_eq_true rfl⟩ (fun c_2 H locs hP hD hS => ?_) (fun E9 ce9 q9 H locs x9 hP hD hS h91 h92 h93 => ?_)
    · skip
      refine lv_aload_n hx hb dX6_run_11 rfl (lv_at hl 0 rfl) ?_
      refine va_get (D := G.1) (ci := 9) (v := .ref c0) (C := RX6) (T := TX6) (N := 8) hx hb hts in_X6 hown hK hP 0 rfl rfl 0 (by decide) (hts _ k_fl_X6_12) (fun _ h9 => h9) rfl dX6_run_12 ?_
      refine lv_iload_n hx hb dX6_run_15 rfl (lv_at hl 1 rfl) ?_
      refine gV (As := [.int p0]) (rest := []) (wr := [(z0, .inr (9, [.ref c0, .ref c0q, .ref c0u, .ref c0v, .int sv, .int sw, .ref a0, .ref b0]))]) (ws' := [(z0, .inr (9, [.ref c0, .ref c0q, .ref c0u, .ref c0v, .int sv, .int sw, .ref a0, .ref b0])), (c0, .inr (6, [.ref s0, .ref k0, .ref i0, .ref o0, .ref x0, .int ((f_X2_executeUpTo et wt tm sta he ac ov dr bits ring slips pt ot fp on temps fi li rin fo lo rout cnt p0).2.1), .int ((f_X2_executeUpTo et wt tm sta he ac ov dr bits ring slips pt ot fp on temps fi li rin fo lo rout cnt p0).2.2.1), .int ((f_X2_executeUpTo et wt tm sta he ac ov dr bits ring slips pt ot fp on temps fi li rin fo lo rout cnt p0).2.2.2.1), .int ((f_X2_executeUpTo et wt tm sta he ac ov dr bits ring slips pt ot fp on temps fi li rin fo lo rout cnt p0).2.2.2.2.1), .int ((f_X2_executeUpTo et wt tm sta he ac ov dr bits ring slips pt ot fp on temps fi li rin fo lo rout cnt p0).2.2.2.2.2.1), .int ((f_X2_executeUpTo et wt tm sta he ac ov dr bits ring slips pt ot fp on temps fi li rin fo lo rout cnt p0).2.2.2.2.2.2.1), .int ((f_X2_executeUpTo et wt tm sta he ac ov dr bits ring slips pt ot fp on temps fi li rin fo lo rout cnt p0).2.2.2.2.2.2.2.1)])), (s0, .inr (8, [.ref s1, .ref s2, .ref s3, .int ((f_X2_executeUpTo et wt tm sta he ac ov dr bits ring slips pt ot fp on temps fi li rin fo lo rout cnt p0).2.2.2.2.2.2.2.2.1)])), (s1, .inl (G.2.1.1, 256, .inl ((f_X2_executeUpTo et wt tm sta he ac ov dr bits ring slips pt ot fp on temps fi li rin fo lo rout cnt p0).2.2.2.2.2.2.2.2.2.1))), (s2, .inl (G.2.1.1, 32, .inl ((f_X2_executeUpTo et wt tm sta he ac ov dr bits ring slips pt ot fp on temps fi li rin fo lo rout cnt p0).2.2.2.2.2.2.2.2.2.2.1))), (s3, .inl (G.2.1.1, 8, .inl ((f_X2_executeUpTo et wt tm sta he ac ov dr bits ring slips pt ot fp on temps fi li rin fo lo rout cnt p0).2.2.2.2.2.2.2.2.2.2.2.1))), (k0, .inr (5, [.ref k1, .int ((f_X2_executeUpTo et wt tm sta he ac ov dr bits ring slips pt ot fp on temps fi li rin fo lo rout cnt p0).2.2.2.2.2.2.2.2.2.2.2.2.1), .int ot, .int fp, .int on])), (k1, .inl (G.2.1.1, 8, .inl ((f_X2_executeUpTo et wt tm sta he ac ov dr bits ring slips pt ot fp on temps fi li rin fo lo rout cnt p0).2.2.2.2.2.2.2.2.2.2.2.2.2.1))), (i0, .inr (7, [.ref i1, .int ((f_X2_executeUpTo et wt tm sta he ac ov dr bits ring slips pt ot fp on temps fi li rin fo lo rout cnt p0).2.2.2.2.2.2.2.2.2.2.2.2.2.2.1), .int ((f_X2_executeUpTo et wt tm sta he ac ov dr bits ring slips pt ot fp on temps fi li rin fo lo rout cnt p0).2.2.2.2.2.2.2.2.2.2.2.2.2.2.2.1)])), (i1, .inl (G.2.1.1, 64, .inl rin)), (o0, .inr (7, [.ref o1, .int fo, .int ((f_X2_executeUpTo et wt tm sta he ac ov dr bits ring slips pt ot fp on temps fi li rin fo lo rout cnt p0).2.2.2.2.2.2.2.2.2.2.2.2.2.2.2.2.1)])), (o1, .inl (G.2.1.1, 64, .inl ((f_X2_executeUpTo et wt tm sta he ac ov dr bits ring slips pt ot fp on temps fi li rin fo lo rout cnt p0).2.2.2.2.2.2.2.2.2.2.2.2.2.2.2.2.2.1))), (x0, .inl (G.2.1.1, 256, .inl ((f_X2_executeUpTo et wt tm sta he ac ov dr bits ring slips pt ot fp on temps fi li rin fo lo rout cnt p0).2.2.2.2.2.2.2.2.2.2.2.2.2.2.2.2.2.2)))]) F (c_X2_executeUpTo l G c0 s0 k0 i0 o0 x0 et wt tm sta he ac ov s1 s2 s3 dr bits ring slips k1 pt ot fp on temps i1 fi li rin o1 fo lo rout cnt p0 (by have q := rc_500 c_1; omega) (by have q := rc_500 c_1; omega) hov) okV_X2_executeUpTo k_ml_X6_192 rfl rfl ⟨Nat.le_of_ble_eq_true rfl, Nat.le_of_ble_eq_true rfl⟩ hN hK hP hD hS hA [1, 2, 3, 4, 5, 6, 7, 8, 9, 10, 11, 12] [0] [0, 1, 2, 3, 4, 5, 6, 7, 8, 9, 10, 11, 12] (by decide) rfl rfl (by decide) (by decide) (by decide) rfl (q0 := 1) rfl rfl rfl rfl hl.1 (Nat.le_of_ble_eq_true rfl) dX6_run_16 ⟨Nat.le_of_ble_eq_true rfl, Nat.le_of_ble_eq_true rfl⟩ (fun H locs hP hD hS => ?_)
      generalize et3 : (f_X2_executeUpTo et wt tm sta he ac ov dr bits ring slips pt ot fp on temps fi li rin fo lo rout cnt p0) = t3 at hP hD ⊢
      have ef : (f_X6_run et wt tm sta he ac ov dr bits ring slips pt ot fp on temps fi li rin fo lo rout cnt p0) = (t3.1, t3.2.1, t3.2.2.1, t3.2.2.2.1, t3.2.2.2.2.1, t3.2.2.2.2.2.1, t3.2.2.2.2.2.2.1, t3.2.2.2.2.2.2.2.1, t3.2.2.2.2.2.2.2.2.1, t3.2.2.2.2.2.2.2.2.2.1, t3.2.2.2.2.2.2.2.2.2.2.1, t3.2.2.2.2.2.2.2.2.2.2.2.1, t3.2.2.2.2.2.2.2.2.2.2.2.2.1, t3.2.2.2.2.2.2.2.2.2.2.2.2.2.1, t3.2.2.2.2.2.2.2.2.2.2.2.2.2.2.1, t3.2.2.2.2.2.2.2.2.2.2.2.2.2.2.2.1, t3.2.2.2.2.2.2.2.2.2.2.2.2.2.2.2.2.1, t3.2.2.2.2.2.2.2.2.2.2.2.2.2.2.2.2.2.1, t3.2.2.2.2.2.2.2.2.2.2.2.2.2.2.2.2.2.2) := (by subst et3; exact ((if_pos c_1).trans (if_pos c_2)))
      refine gxOf ((by subst et3; exact ((if_pos c_1).trans (if_pos c_2)))) ?_
      exact gRetI F hr hlocks hK hP hD hS (by rw [ef]) (by rw [ef]) (Nat.le_of_ble_eq_true rfl) (Nat.le_of_ble_eq_true rfl) dX6_run_19
    · have c_2 : ¬ (th_X6_requireReady sta) = none := (by rw [x9]; exact Option.some_ne_none _)
      exact gxOut hlocks htab hK hP hD hS h91 h92 h93 ((((if_pos c_1).trans (if_neg c_2))).trans x9) (Nat.le_of_ble_eq_true rfl) (Nat.le_of_ble_eq_true rfl)
  · have c_1 : ¬ (th_X6_requireCount p0 500) = none := (by rw [x9]; exact Option.some_ne_none _)
    exact gxOut hlocks htab hK hP hD hS h91 h92 h93 (((if_neg c_1)).trans x9) (Nat.le_of_ble_eq_true rfl) (Nat.le_of_ble_eq_true rfl)
theorem okV_X6_run : gOkV yX6_run cX6_run 2 (some .int) 1 := ⟨⟨k_im_X6_run, k_se_X6_run, k_in_X6, k_cd_X6_run⟩, by decide, by decide, by decide +kernel⟩
def f_X6_idle (tm : Int32) (dr : Int32) (bits : Nat → Int32) (ring : Nat → Int32) (slips : Nat → Int32) (pt : Int32) (ot : Int32) (fp : Int32) (on : Int32) (temps : Nat → Int32) (p0 : Int32) : Int32 × Int32 × Int32 × (Nat → Int32) × (Nat → Int32) × (Nat → Int32) × Int32 × (Nat → Int32) :=
  if (th_X6_requireCount p0 3200) = none then
    let t2 := (f_X2_pass (Int32.toNatClampNeg tm) dr bits ring slips pt ot fp on temps (Int32.toNatClampNeg p0))
    ((nI ((Int32.toNatClampNeg tm) + (Int32.toNatClampNeg p0))), (nI ((Int32.toNatClampNeg tm) + (Int32.toNatClampNeg p0))), t2.1, t2.2.1, t2.2.2.1, t2.2.2.2.1, t2.2.2.2.2.1, t2.2.2.2.2.2)
  else
    (0, tm, dr, bits, ring, slips, pt, temps)
def th_X6_idle (tm : Int32) (dr : Int32) (bits : Nat → Int32) (ring : Nat → Int32) (slips : Nat → Int32) (pt : Int32) (ot : Int32) (fp : Int32) (on : Int32) (temps : Nat → Int32) (p0 : Int32) : Option String :=
  if (th_X6_requireCount p0 3200) = none then
    let t2 := (f_X2_pass (Int32.toNatClampNeg tm) dr bits ring slips pt ot fp on temps (Int32.toNatClampNeg p0))
    none
  else
    (th_X6_requireCount p0 3200)
set_option maxRecDepth 100000 in
set_option maxHeartbeats 4000000 in
theorem c_X6_idle (l : Launch) (hfl : l.stackTraces = false) (G : gG) (z0 : Nat) (c0 : Nat) (c0q : Nat) (c0u : Nat) (c0v : Nat) (a0 : Nat) (b0 : Nat) (sv : Int32) (sw : Int32) (s0 : Nat) (k0 : Nat) (i0 : Nat) (o0 : Nat) (x0 : Nat) (et : Int32) (wt : Int32) (tm : Int32) (sta : Int32) (he : Int32) (ac : Int32) (ov : Int32) (s1 : Nat) (s2 : Nat) (s3 : Nat) (dr : Int32) (bits : Nat → Int32) (ring : Nat → Int32) (slips : Nat → Int32) (k1 : Nat) (pt : Int32) (ot : Int32) (fp : Int32) (on : Int32) (temps : Nat → Int32) (p0 : Int32) (hT : 0 ≤ tm.toInt ∧ tm.toInt < 190000000) : gX l G yX6_idle cX6_idle 2 (some .int) { frames := 7, cells := 1, slots := 6, locals := 111 } [.ref z0, .int p0] [(z0, .inr (9, [.ref c0, .ref c0q, .ref c0u, .ref c0v, .int sv, .int sw, .ref a0, .ref b0])), (c0, .inr (6, [.ref s0, .ref k0, .ref i0, .ref o0, .ref x0, .int et, .int wt, .int tm, .int sta, .int he, .int ac, .int ov])), (s0, .inr (8, [.ref s1, .ref s2, .ref s3, .int dr])), (s1, .inl (G.2.1.1, 256, .inl bits)), (s2, .inl (G.2.1.1, 32, .inl ring)), (s3, .inl (G.2.1.1, 8, .inl slips)), (k0, .inr (5, [.ref k1, .int pt, .int ot, .int fp, .int on])), (k1, .inl (G.2.1.1, 8, .inl temps))] (th_X6_idle tm dr bits ring slips pt ot fp on temps p0) (some (.int ((f_X6_idle tm dr bits ring slips pt ot fp on temps p0).1))) [(z0, .inr (9, [.ref c0, .ref c0q, .ref c0u, .ref c0v, .int sv, .int sw, .ref a0, .ref b0])), (c0, .inr (6, [.ref s0, .ref k0, .ref i0, .ref o0, .ref x0, .int et, .int wt, .int ((f_X6_idle tm dr bits ring slips pt ot fp on temps p0).2.1), .int sta, .int he, .int ac, .int ov])), (s0, .inr (8, [.ref s1, .ref s2, .ref s3, .int ((f_X6_idle tm dr bits ring slips pt ot fp on temps p0).2.2.1)])), (s1, .inl (G.2.1.1, 256, .inl ((f_X6_idle tm dr bits ring slips pt ot fp on temps p0).2.2.2.1))), (s2, .inl (G.2.1.1, 32, .inl ((f_X6_idle tm dr bits ring slips pt ot fp on temps p0).2.2.2.2.1))), (s3, .inl (G.2.1.1, 8, .inl ((f_X6_idle tm dr bits ring slips pt ot fp on temps p0).2.2.2.2.2.1))), (k0, .inr (5, [.ref k1, .int ((f_X6_idle tm dr bits ring slips pt ot fp on temps p0).2.2.2.2.2.2.1), .int ot, .int fp, .int on])), (k1, .inl (G.2.1.1, 8, .inl ((f_X6_idle tm dr bits ring slips pt ot fp on temps p0).2.2.2.2.2.2.2)))] 1 6 := by
  refine gxBegin (by decide +kernel) (Nat.le_of_ble_eq_true rfl) (fun p e s m args below meth c A F hr hlocks htab hN hSt hK hP hD hA hS ls hl => ?_)
  obtain ⟨hx, hb, hml, hown, hts⟩ := id F
  replace hP : va_P G.1 vwCl [(z0, .inr (9, [.ref c0, .ref c0q, .ref c0u, .ref c0v, .int sv, .int sw, .ref a0, .ref b0])), (c0, .inr (6, [.ref s0, .ref k0, .ref i0, .ref o0, .ref x0, .int et, .int wt, .int tm, .int sta, .int he, .int ac, .int ov])), (s0, .inr (8, [.ref s1, .ref s2, .ref s3, .int dr])), (s1, .inl (G.2.1.1, 256, .inl bits)), (s2, .inl (G.2.1.1, 32, .inl ring)), (s3, .inl (G.2.1.1, 8, .inl slips)), (k0, .inr (5, [.ref k1, .int pt, .int ot, .int fp, .int on])), (k1, .inl (G.2.1.1, 8, .inl temps))] s.heap := hP
  replace hl : lv_has ls 2 [(0, .ref z0), (1, .int p0)] := hl
  refine lv_iload_n hx hb dX6_idle_0 rfl (lv_at hl 1 rfl) ?_
  refine lv_sipush (v := 3200) hx hb dX6_idle_1 (by decide) ?_
  refine gxS (As := [.int p0, .int 3200]) (rest := []) (wr := [(z0, .inr (9, [.ref c0, .ref c0q, .ref c0u, .ref c0v, .int sv, .int sw, .ref a0, .ref b0])), (c0, .inr (6, [.ref s0, .ref k0, .ref i0, .ref o0, .ref x0, .int et, .int wt, .int tm, .int sta, .int he, .int ac, .int ov])), (s0, .inr (8, [.ref s1, .ref s2, .ref s3, .int dr])), (s1, .inl (G.2.1.1, 256, .inl bits)), (s2, .inl (G.2.1.1, 32, .inl ring)), (s3, .inl (G.2.1.1, 8, .inl slips)), (k0, .inr (5, [.ref k1, .int pt, .int ot, .int fp, .int on])), (k1, .inl (G.2.1.1, 8, .inl temps))]) (ws' := [(z0, .inr (9, [.ref c0, .ref c0q, .ref c0u, .ref c0v, .int sv, .int sw, .ref a0, .ref b0])), (c0, .inr (6, [.ref s0, .ref k0, .ref i0, .ref o0, .ref x0, .int et, .int wt, .int tm, .int sta, .int he, .int ac, .int ov])), (s0, .inr (8, [.ref s1, .ref s2, .ref s3, .int dr])), (s1, .inl (G.2.1.1, 256, .inl bits)), (s2, .inl (G.2.1.1, 32, .inl ring)), (s3, .inl (G.2.1.1, 8, .inl slips)), (k0, .inr (5, [.ref k1, .int pt, .int ot, .int fp, .int on])), (k1, .inl (G.2.1.1, 8, .inl temps))]) F (c_X6_requireCount l hfl G p0 3200) okS_X6_requireCount k_ml_X6_186 rfl rfl ⟨Nat.le_of_ble_eq_true rfl, Nat.le_of_ble_eq_true rfl⟩ hN hSt hK hP hD hS hA [] [0, 1, 2, 3, 4, 5, 6, 7] [0, 1, 2, 3, 4, 5, 6, 7] (by decide) rfl rfl (by decide) (by decide) (by decide) rfl rfl rfl rfl hl.1 (Nat.le_of_ble_eq_true rfl) dX6_idle_4 ⟨Nat.le_of_ble_eq_true rfl, Nat.le_of_ble_eq_true rfl⟩ (fun c_1 H locs hP hD hS => ?_) (fun E9 ce9 q9 H locs x9 hP hD hS h91 h92 h93 => ?_)
  · skip
    refine lv_aload_n hx hb dX6_idle_7 rfl (lv_at hl 0 rfl) ?_
    refine va_get (D := G.1) (ci := 9) (v := .ref c0) (C := RX6) (T := TX6) (N := 8) hx hb hts in_X6 hown hK hP 0 rfl rfl 0 (by decide) (hts _ k_fl_X6_12) (fun _ h9 => h9) rfl dX6_idle_8 ?_
    refine lv_iload_n hx hb dX6_idle_11 rfl (lv_at hl 1 rfl) ?_
    refine W.eq (congrArg (fun z => F0 m _ ls [.int z, .ref c0]) (gI_nI (x := p0) (by have qc_1 := rc_3200 c_1; omega) : p0 = nI (Int32.toNatClampNeg p0))) ?_
    have eF7 : tm = nI (Int32.toNatClampNeg tm) := gI_nI (by have qc_1 := rc_3200 c_1; omega)
    rw [eF7] at hP hD
    refine gV (As := [.int (nI (Int32.toNatClampNeg p0))]) (rest := []) (wr := [(z0, .inr (9, [.ref c0, .ref c0q, .ref c0u, .ref c0v, .int sv, .int sw, .ref a0, .ref b0]))]) (ws' := [(z0, .inr (9, [.ref c0, .ref c0q, .ref c0u, .ref c0v, .int sv, .int sw, .ref a0, .ref b0])), (c0, .inr (6, [.ref s0, .ref k0, .ref i0, .ref o0, .ref x0, .int et, .int wt, .int (nI ((Int32.toNatClampNeg tm) + (Int32.toNatClampNeg p0))), .int sta, .int he, .int ac, .int ov])), (s0, .inr (8, [.ref s1, .ref s2, .ref s3, .int ((f_X2_pass (Int32.toNatClampNeg tm) dr bits ring slips pt ot fp on temps (Int32.toNatClampNeg p0)).1)])), (s1, .inl (G.2.1.1, 256, .inl ((f_X2_pass (Int32.toNatClampNeg tm) dr bits ring slips pt ot fp on temps (Int32.toNatClampNeg p0)).2.1))), (s2, .inl (G.2.1.1, 32, .inl ((f_X2_pass (Int32.toNatClampNeg tm) dr bits ring slips pt ot fp on temps (Int32.toNatClampNeg p0)).2.2.1))), (s3, .inl (G.2.1.1, 8, .inl ((f_X2_pass (Int32.toNatClampNeg tm) dr bits ring slips pt ot fp on temps (Int32.toNatClampNeg p0)).2.2.2.1))), (k0, .inr (5, [.ref k1, .int ((f_X2_pass (Int32.toNatClampNeg tm) dr bits ring slips pt ot fp on temps (Int32.toNatClampNeg p0)).2.2.2.2.1), .int ot, .int fp, .int on])), (k1, .inl (G.2.1.1, 8, .inl ((f_X2_pass (Int32.toNatClampNeg tm) dr bits ring slips pt ot fp on temps (Int32.toNatClampNeg p0)).2.2.2.2.2)))]) F (c_X2_pass l G c0 s0 k0 i0 o0 x0 et wt sta he ac ov (Int32.toNatClampNeg tm) s1 s2 s3 dr bits ring slips k1 pt ot fp on temps (Int32.toNatClampNeg p0) (by have q := rc_3200 c_1; have e1 := gI_clamp hT.1; have e2 := gI_clamp (x := p0) (by omega); omega)) okV_X2_pass k_ml_X6_195 rfl rfl ⟨Nat.le_of_ble_eq_true rfl, Nat.le_of_ble_eq_true rfl⟩ hN hK hP hD hS hA [1, 2, 3, 4, 5, 6, 7] [0] [0, 1, 2, 3, 4, 5, 6, 7] (by decide) rfl rfl (by decide) (by decide) (by decide) rfl (q0 := 1) rfl rfl rfl rfl hl.1 (Nat.le_of_ble_eq_true rfl) dX6_idle_12 ⟨Nat.le_of_ble_eq_true rfl, Nat.le_of_ble_eq_true rfl⟩ (fun H locs hP hD hS => ?_)
    generalize et2 : (f_X2_pass (Int32.toNatClampNeg tm) dr bits ring slips pt ot fp on temps (Int32.toNatClampNeg p0)) = t2 at hP hD ⊢
    refine lv_aload_n hx hb dX6_idle_15 rfl (lv_at hl 0 rfl) ?_
    refine va_get (D := G.1) (ci := 9) (v := .ref c0) (C := RX6) (T := TX6) (N := 8) hx hb hts in_X6 hown hK hP 0 rfl rfl 0 (by decide) (hts _ k_fl_X6_12) (fun _ h9 => h9) rfl dX6_idle_16 ?_
    refine va_get (D := G.1) (ci := 6) (v := .int (nI ((Int32.toNatClampNeg tm) + (Int32.toNatClampNeg p0)))) (C := RX2) (T := TX2) (N := 12) hx hb hts in_X2 hown hK hP 1 rfl rfl 7 (by decide) (hts _ k_fl_X6_198) (fun _ h9 => h9) rfl dX6_idle_19 ?_
    have ef : (f_X6_idle tm dr bits ring slips pt ot fp on temps p0) = ((nI ((Int32.toNatClampNeg tm) + (Int32.toNatClampNeg p0))), (nI ((Int32.toNatClampNeg tm) + (Int32.toNatClampNeg p0))), t2.1, t2.2.1, t2.2.2.1, t2.2.2.2.1, t2.2.2.2.2.1, t2.2.2.2.2.2) := (by subst et2; exact (if_pos c_1))
    refine gxOf ((by subst et2; exact (if_pos c_1))) ?_
    exact gRetI F hr hlocks hK hP hD hS (by rw [ef]) (by rw [ef]) (Nat.le_of_ble_eq_true rfl) (Nat.le_of_ble_eq_true rfl) dX6_idle_22
  · have c_1 : ¬ (th_X6_requireCount p0 3200) = none := (by rw [x9]; exact Option.some_ne_none _)
    exact gxOut hlocks htab hK hP hD hS h91 h92 h93 (((if_neg c_1)).trans x9) (Nat.le_of_ble_eq_true rfl) (Nat.le_of_ble_eq_true rfl)
theorem okV_X6_idle : gOkV yX6_idle cX6_idle 2 (some .int) 1 := ⟨⟨k_im_X6_idle, k_se_X6_idle, k_in_X6, k_cd_X6_idle⟩, by decide, by decide, by decide +kernel⟩
def f_X6_time (tm : Int32) : Int32 :=
  tm
set_option maxRecDepth 100000 in
set_option maxHeartbeats 4000000 in
theorem c_X6_time (l : Launch) (G : gG) (z0 : Nat) (c0 : Nat) (c0q : Nat) (c0u : Nat) (c0v : Nat) (a0 : Nat) (b0 : Nat) (sv : Int32) (sw : Int32) (s0 : Nat) (k0 : Nat) (i0 : Nat) (o0 : Nat) (x0 : Nat) (et : Int32) (wt : Int32) (tm : Int32) (sta : Int32) (he : Int32) (ac : Int32) (ov : Int32) : gM l G yX6_time cX6_time 1 (some .int) { frames := 0, cells := 0, slots := 0, locals := 0 } [.ref z0] [(z0, .inr (9, [.ref c0, .ref c0q, .ref c0u, .ref c0v, .int sv, .int sw, .ref a0, .ref b0])), (c0, .inr (6, [.ref s0, .ref k0, .ref i0, .ref o0, .ref x0, .int et, .int wt, .int tm, .int sta, .int he, .int ac, .int ov]))] (some (.int (f_X6_time tm))) [(z0, .inr (9, [.ref c0, .ref c0q, .ref c0u, .ref c0v, .int sv, .int sw, .ref a0, .ref b0])), (c0, .inr (6, [.ref s0, .ref k0, .ref i0, .ref o0, .ref x0, .int et, .int wt, .int tm, .int sta, .int he, .int ac, .int ov]))] 0 0 := by
  refine gBegin (by decide +kernel) (Nat.le_of_ble_eq_true rfl) (fun p e s m args below meth c A F hr hlocks hname hN hK hP hD hA hS ls hl => ?_)
  obtain ⟨hx, hb, hml, hown, hts⟩ := id F
  replace hP : va_P G.1 vwCl [(z0, .inr (9, [.ref c0, .ref c0q, .ref c0u, .ref c0v, .int sv, .int sw, .ref a0, .ref b0])), (c0, .inr (6, [.ref s0, .ref k0, .ref i0, .ref o0, .ref x0, .int et, .int wt, .int tm, .int sta, .int he, .int ac, .int ov]))] s.heap := hP
  replace hl : lv_has ls 1 [(0, .ref z0)] := hl
  refine lv_aload_n hx hb dX6_time_0 rfl (lv_at hl 0 rfl) ?_
  refine va_get (D := G.1) (ci := 9) (v := .ref c0) (C := RX6) (T := TX6) (N := 8) hx hb hts in_X6 hown hK hP 0 rfl rfl 0 (by decide) (hts _ k_fl_X6_12) (fun _ h9 => h9) rfl dX6_time_1 ?_
  refine va_get (D := G.1) (ci := 6) (v := .int tm) (C := RX2) (T := TX2) (N := 12) hx hb hts in_X2 hown hK hP 1 rfl rfl 7 (by decide) (hts _ k_fl_X6_198) (fun _ h9 => h9) rfl dX6_time_4 ?_
  exact gRetI F hr hlocks hK hP hD hS rfl rfl (Nat.le_of_ble_eq_true rfl) (Nat.le_of_ble_eq_true rfl) dX6_time_7
theorem okV_X6_time : gOkV yX6_time cX6_time 1 (some .int) 0 := ⟨⟨k_im_X6_time, k_se_X6_time, k_in_X6, k_cd_X6_time⟩, by decide, by decide, by decide +kernel⟩
def f_X6_state (sta : Int32) : Int32 :=
  sta
set_option maxRecDepth 100000 in
set_option maxHeartbeats 4000000 in
theorem c_X6_state (l : Launch) (G : gG) (z0 : Nat) (c0 : Nat) (c0q : Nat) (c0u : Nat) (c0v : Nat) (a0 : Nat) (b0 : Nat) (sv : Int32) (sw : Int32) (s0 : Nat) (k0 : Nat) (i0 : Nat) (o0 : Nat) (x0 : Nat) (et : Int32) (wt : Int32) (tm : Int32) (sta : Int32) (he : Int32) (ac : Int32) (ov : Int32) : gM l G yX6_state cX6_state 1 (some .int) { frames := 0, cells := 0, slots := 0, locals := 0 } [.ref z0] [(z0, .inr (9, [.ref c0, .ref c0q, .ref c0u, .ref c0v, .int sv, .int sw, .ref a0, .ref b0])), (c0, .inr (6, [.ref s0, .ref k0, .ref i0, .ref o0, .ref x0, .int et, .int wt, .int tm, .int sta, .int he, .int ac, .int ov]))] (some (.int (f_X6_state sta))) [(z0, .inr (9, [.ref c0, .ref c0q, .ref c0u, .ref c0v, .int sv, .int sw, .ref a0, .ref b0])), (c0, .inr (6, [.ref s0, .ref k0, .ref i0, .ref o0, .ref x0, .int et, .int wt, .int tm, .int sta, .int he, .int ac, .int ov]))] 0 0 := by
  refine gBegin (by decide +kernel) (Nat.le_of_ble_eq_true rfl) (fun p e s m args below meth c A F hr hlocks hname hN hK hP hD hA hS ls hl => ?_)
  obtain ⟨hx, hb, hml, hown, hts⟩ := id F
  replace hP : va_P G.1 vwCl [(z0, .inr (9, [.ref c0, .ref c0q, .ref c0u, .ref c0v, .int sv, .int sw, .ref a0, .ref b0])), (c0, .inr (6, [.ref s0, .ref k0, .ref i0, .ref o0, .ref x0, .int et, .int wt, .int tm, .int sta, .int he, .int ac, .int ov]))] s.heap := hP
  replace hl : lv_has ls 1 [(0, .ref z0)] := hl
  refine lv_aload_n hx hb dX6_state_0 rfl (lv_at hl 0 rfl) ?_
  refine va_get (D := G.1) (ci := 9) (v := .ref c0) (C := RX6) (T := TX6) (N := 8) hx hb hts in_X6 hown hK hP 0 rfl rfl 0 (by decide) (hts _ k_fl_X6_12) (fun _ h9 => h9) rfl dX6_state_1 ?_
  refine va_get (D := G.1) (ci := 6) (v := .int sta) (C := RX2) (T := TX2) (N := 12) hx hb hts in_X2 hown hK hP 1 rfl rfl 8 (by decide) (hts _ k_fl_X6_201) (fun _ h9 => h9) rfl dX6_state_4 ?_
  exact gRetI F hr hlocks hK hP hD hS rfl rfl (Nat.le_of_ble_eq_true rfl) (Nat.le_of_ble_eq_true rfl) dX6_state_7
theorem okV_X6_state : gOkV yX6_state cX6_state 1 (some .int) 0 := ⟨⟨k_im_X6_state, k_se_X6_state, k_in_X6, k_cd_X6_state⟩, by decide, by decide, by decide +kernel⟩
def f_X6_accumulator (ac : Int32) : Int32 :=
  ac
set_option maxRecDepth 100000 in
set_option maxHeartbeats 4000000 in
theorem c_X6_accumulator (l : Launch) (G : gG) (z0 : Nat) (c0 : Nat) (c0q : Nat) (c0u : Nat) (c0v : Nat) (a0 : Nat) (b0 : Nat) (sv : Int32) (sw : Int32) (s0 : Nat) (k0 : Nat) (i0 : Nat) (o0 : Nat) (x0 : Nat) (et : Int32) (wt : Int32) (tm : Int32) (sta : Int32) (he : Int32) (ac : Int32) (ov : Int32) : gM l G yX6_accumulator cX6_accumulator 1 (some .int) { frames := 0, cells := 0, slots := 0, locals := 0 } [.ref z0] [(z0, .inr (9, [.ref c0, .ref c0q, .ref c0u, .ref c0v, .int sv, .int sw, .ref a0, .ref b0])), (c0, .inr (6, [.ref s0, .ref k0, .ref i0, .ref o0, .ref x0, .int et, .int wt, .int tm, .int sta, .int he, .int ac, .int ov]))] (some (.int (f_X6_accumulator ac))) [(z0, .inr (9, [.ref c0, .ref c0q, .ref c0u, .ref c0v, .int sv, .int sw, .ref a0, .ref b0])), (c0, .inr (6, [.ref s0, .ref k0, .ref i0, .ref o0, .ref x0, .int et, .int wt, .int tm, .int sta, .int he, .int ac, .int ov]))] 0 0 := by
  refine gBegin (by decide +kernel) (Nat.le_of_ble_eq_true rfl) (fun p e s m args below meth c A F hr hlocks hname hN hK hP hD hA hS ls hl => ?_)
  obtain ⟨hx, hb, hml, hown, hts⟩ := id F
  replace hP : va_P G.1 vwCl [(z0, .inr (9, [.ref c0, .ref c0q, .ref c0u, .ref c0v, .int sv, .int sw, .ref a0, .ref b0])), (c0, .inr (6, [.ref s0, .ref k0, .ref i0, .ref o0, .ref x0, .int et, .int wt, .int tm, .int sta, .int he, .int ac, .int ov]))] s.heap := hP
  replace hl : lv_has ls 1 [(0, .ref z0)] := hl
  refine lv_aload_n hx hb dX6_accumulator_0 rfl (lv_at hl 0 rfl) ?_
  refine va_get (D := G.1) (ci := 9) (v := .ref c0) (C := RX6) (T := TX6) (N := 8) hx hb hts in_X6 hown hK hP 0 rfl rfl 0 (by decide) (hts _ k_fl_X6_12) (fun _ h9 => h9) rfl dX6_accumulator_1 ?_
  refine va_get (D := G.1) (ci := 6) (v := .int ac) (C := RX2) (T := TX2) (N := 12) hx hb hts in_X2 hown hK hP 1 rfl rfl 10 (by decide) (hts _ k_fl_X6_204) (fun _ h9 => h9) rfl dX6_accumulator_4 ?_
  exact gRetI F hr hlocks hK hP hD hS rfl rfl (Nat.le_of_ble_eq_true rfl) (Nat.le_of_ble_eq_true rfl) dX6_accumulator_7
theorem okV_X6_accumulator : gOkV yX6_accumulator cX6_accumulator 1 (some .int) 0 := ⟨⟨k_im_X6_accumulator, k_se_X6_accumulator, k_in_X6, k_cd_X6_accumulator⟩, by decide, by decide, by decide +kernel⟩
def f_X6_location (he : Int32) : Int32 :=
  he
set_option maxRecDepth 100000 in
set_option maxHeartbeats 4000000 in
theorem c_X6_location (l : Launch) (G : gG) (z0 : Nat) (c0 : Nat) (c0q : Nat) (c0u : Nat) (c0v : Nat) (a0 : Nat) (b0 : Nat) (sv : Int32) (sw : Int32) (s0 : Nat) (k0 : Nat) (i0 : Nat) (o0 : Nat) (x0 : Nat) (et : Int32) (wt : Int32) (tm : Int32) (sta : Int32) (he : Int32) (ac : Int32) (ov : Int32) : gM l G yX6_location cX6_location 1 (some .int) { frames := 0, cells := 0, slots := 0, locals := 0 } [.ref z0] [(z0, .inr (9, [.ref c0, .ref c0q, .ref c0u, .ref c0v, .int sv, .int sw, .ref a0, .ref b0])), (c0, .inr (6, [.ref s0, .ref k0, .ref i0, .ref o0, .ref x0, .int et, .int wt, .int tm, .int sta, .int he, .int ac, .int ov]))] (some (.int (f_X6_location he))) [(z0, .inr (9, [.ref c0, .ref c0q, .ref c0u, .ref c0v, .int sv, .int sw, .ref a0, .ref b0])), (c0, .inr (6, [.ref s0, .ref k0, .ref i0, .ref o0, .ref x0, .int et, .int wt, .int tm, .int sta, .int he, .int ac, .int ov]))] 0 0 := by
  refine gBegin (by decide +kernel) (Nat.le_of_ble_eq_true rfl) (fun p e s m args below meth c A F hr hlocks hname hN hK hP hD hA hS ls hl => ?_)
  obtain ⟨hx, hb, hml, hown, hts⟩ := id F
  replace hP : va_P G.1 vwCl [(z0, .inr (9, [.ref c0, .ref c0q, .ref c0u, .ref c0v, .int sv, .int sw, .ref a0, .ref b0])), (c0, .inr (6, [.ref s0, .ref k0, .ref i0, .ref o0, .ref x0, .int et, .int wt, .int tm, .int sta, .int he, .int ac, .int ov]))] s.heap := hP
  replace hl : lv_has ls 1 [(0, .ref z0)] := hl
  refine lv_aload_n hx hb dX6_location_0 rfl (lv_at hl 0 rfl) ?_
  refine va_get (D := G.1) (ci := 9) (v := .ref c0) (C := RX6) (T := TX6) (N := 8) hx hb hts in_X6 hown hK hP 0 rfl rfl 0 (by decide) (hts _ k_fl_X6_12) (fun _ h9 => h9) rfl dX6_location_1 ?_
  refine va_get (D := G.1) (ci := 6) (v := .int he) (C := RX2) (T := TX2) (N := 12) hx hb hts in_X2 hown hK hP 1 rfl rfl 9 (by decide) (hts _ k_fl_X6_210) (fun _ h9 => h9) rfl dX6_location_4 ?_
  exact gRetI F hr hlocks hK hP hD hS rfl rfl (Nat.le_of_ble_eq_true rfl) (Nat.le_of_ble_eq_true rfl) dX6_location_7
theorem okV_X6_location : gOkV yX6_location cX6_location 1 (some .int) 0 := ⟨⟨k_im_X6_location, k_se_X6_location, k_in_X6, k_cd_X6_location⟩, by decide, by decide, by decide +kernel⟩
def f_X6_executed (et : Int32) : Int32 :=
  et
set_option maxRecDepth 100000 in
set_option maxHeartbeats 4000000 in
theorem c_X6_executed (l : Launch) (G : gG) (z0 : Nat) (c0 : Nat) (c0q : Nat) (c0u : Nat) (c0v : Nat) (a0 : Nat) (b0 : Nat) (sv : Int32) (sw : Int32) (s0 : Nat) (k0 : Nat) (i0 : Nat) (o0 : Nat) (x0 : Nat) (et : Int32) (wt : Int32) (tm : Int32) (sta : Int32) (he : Int32) (ac : Int32) (ov : Int32) : gM l G yX6_executed cX6_executed 1 (some .int) { frames := 0, cells := 0, slots := 0, locals := 0 } [.ref z0] [(z0, .inr (9, [.ref c0, .ref c0q, .ref c0u, .ref c0v, .int sv, .int sw, .ref a0, .ref b0])), (c0, .inr (6, [.ref s0, .ref k0, .ref i0, .ref o0, .ref x0, .int et, .int wt, .int tm, .int sta, .int he, .int ac, .int ov]))] (some (.int (f_X6_executed et))) [(z0, .inr (9, [.ref c0, .ref c0q, .ref c0u, .ref c0v, .int sv, .int sw, .ref a0, .ref b0])), (c0, .inr (6, [.ref s0, .ref k0, .ref i0, .ref o0, .ref x0, .int et, .int wt, .int tm, .int sta, .int he, .int ac, .int ov]))] 0 0 := by
  refine gBegin (by decide +kernel) (Nat.le_of_ble_eq_true rfl) (fun p e s m args below meth c A F hr hlocks hname hN hK hP hD hA hS ls hl => ?_)
  obtain ⟨hx, hb, hml, hown, hts⟩ := id F
  replace hP : va_P G.1 vwCl [(z0, .inr (9, [.ref c0, .ref c0q, .ref c0u, .ref c0v, .int sv, .int sw, .ref a0, .ref b0])), (c0, .inr (6, [.ref s0, .ref k0, .ref i0, .ref o0, .ref x0, .int et, .int wt, .int tm, .int sta, .int he, .int ac, .int ov]))] s.heap := hP
  replace hl : lv_has ls 1 [(0, .ref z0)] := hl
  refine lv_aload_n hx hb dX6_executed_0 rfl (lv_at hl 0 rfl) ?_
  refine va_get (D := G.1) (ci := 9) (v := .ref c0) (C := RX6) (T := TX6) (N := 8) hx hb hts in_X6 hown hK hP 0 rfl rfl 0 (by decide) (hts _ k_fl_X6_12) (fun _ h9 => h9) rfl dX6_executed_1 ?_
  refine va_get (D := G.1) (ci := 6) (v := .int et) (C := RX2) (T := TX2) (N := 12) hx hb hts in_X2 hown hK hP 1 rfl rfl 5 (by decide) (hts _ k_fl_X6_239) (fun _ h9 => h9) rfl dX6_executed_4 ?_
  exact gRetI F hr hlocks hK hP hD hS rfl rfl (Nat.le_of_ble_eq_true rfl) (Nat.le_of_ble_eq_true rfl) dX6_executed_7
theorem okV_X6_executed : gOkV yX6_executed cX6_executed 1 (some .int) 0 := ⟨⟨k_im_X6_executed, k_se_X6_executed, k_in_X6, k_cd_X6_executed⟩, by decide, by decide, by decide +kernel⟩
def f_X6_waited (wt : Int32) : Int32 :=
  wt
set_option maxRecDepth 100000 in
set_option maxHeartbeats 4000000 in
theorem c_X6_waited (l : Launch) (G : gG) (z0 : Nat) (c0 : Nat) (c0q : Nat) (c0u : Nat) (c0v : Nat) (a0 : Nat) (b0 : Nat) (sv : Int32) (sw : Int32) (s0 : Nat) (k0 : Nat) (i0 : Nat) (o0 : Nat) (x0 : Nat) (et : Int32) (wt : Int32) (tm : Int32) (sta : Int32) (he : Int32) (ac : Int32) (ov : Int32) : gM l G yX6_waited cX6_waited 1 (some .int) { frames := 0, cells := 0, slots := 0, locals := 0 } [.ref z0] [(z0, .inr (9, [.ref c0, .ref c0q, .ref c0u, .ref c0v, .int sv, .int sw, .ref a0, .ref b0])), (c0, .inr (6, [.ref s0, .ref k0, .ref i0, .ref o0, .ref x0, .int et, .int wt, .int tm, .int sta, .int he, .int ac, .int ov]))] (some (.int (f_X6_waited wt))) [(z0, .inr (9, [.ref c0, .ref c0q, .ref c0u, .ref c0v, .int sv, .int sw, .ref a0, .ref b0])), (c0, .inr (6, [.ref s0, .ref k0, .ref i0, .ref o0, .ref x0, .int et, .int wt, .int tm, .int sta, .int he, .int ac, .int ov]))] 0 0 := by
  refine gBegin (by decide +kernel) (Nat.le_of_ble_eq_true rfl) (fun p e s m args below meth c A F hr hlocks hname hN hK hP hD hA hS ls hl => ?_)
  obtain ⟨hx, hb, hml, hown, hts⟩ := id F
  replace hP : va_P G.1 vwCl [(z0, .inr (9, [.ref c0, .ref c0q, .ref c0u, .ref c0v, .int sv, .int sw, .ref a0, .ref b0])), (c0, .inr (6, [.ref s0, .ref k0, .ref i0, .ref o0, .ref x0, .int et, .int wt, .int tm, .int sta, .int he, .int ac, .int ov]))] s.heap := hP
  replace hl : lv_has ls 1 [(0, .ref z0)] := hl
  refine lv_aload_n hx hb dX6_waited_0 rfl (lv_at hl 0 rfl) ?_
  refine va_get (D := G.1) (ci := 9) (v := .ref c0) (C := RX6) (T := TX6) (N := 8) hx hb hts in_X6 hown hK hP 0 rfl rfl 0 (by decide) (hts _ k_fl_X6_12) (fun _ h9 => h9) rfl dX6_waited_1 ?_
  refine va_get (D := G.1) (ci := 6) (v := .int wt) (C := RX2) (T := TX2) (N := 12) hx hb hts in_X2 hown hK hP 1 rfl rfl 6 (by decide) (hts _ k_fl_X6_245) (fun _ h9 => h9) rfl dX6_waited_4 ?_
  exact gRetI F hr hlocks hK hP hD hS rfl rfl (Nat.le_of_ble_eq_true rfl) (Nat.le_of_ble_eq_true rfl) dX6_waited_7
theorem okV_X6_waited : gOkV yX6_waited cX6_waited 1 (some .int) 0 := ⟨⟨k_im_X6_waited, k_se_X6_waited, k_in_X6, k_cd_X6_waited⟩, by decide, by decide, by decide +kernel⟩
def f_X6_outputLength (lo : Int32) : Int32 :=
  lo
set_option maxRecDepth 100000 in
set_option maxHeartbeats 4000000 in
theorem c_X6_outputLength (l : Launch) (G : gG) (z0 : Nat) (c0 : Nat) (c0q : Nat) (c0u : Nat) (c0v : Nat) (a0 : Nat) (b0 : Nat) (sv : Int32) (sw : Int32) (s0 : Nat) (k0 : Nat) (i0 : Nat) (o0 : Nat) (x0 : Nat) (et : Int32) (wt : Int32) (tm : Int32) (sta : Int32) (he : Int32) (ac : Int32) (ov : Int32) (o1 : Nat) (fo : Int32) (lo : Int32) : gM l G yX6_outputLength cX6_outputLength 1 (some .int) { frames := 0, cells := 0, slots := 0, locals := 0 } [.ref z0] [(z0, .inr (9, [.ref c0, .ref c0q, .ref c0u, .ref c0v, .int sv, .int sw, .ref a0, .ref b0])), (c0, .inr (6, [.ref s0, .ref k0, .ref i0, .ref o0, .ref x0, .int et, .int wt, .int tm, .int sta, .int he, .int ac, .int ov])), (o0, .inr (7, [.ref o1, .int fo, .int lo]))] (some (.int (f_X6_outputLength lo))) [(z0, .inr (9, [.ref c0, .ref c0q, .ref c0u, .ref c0v, .int sv, .int sw, .ref a0, .ref b0])), (c0, .inr (6, [.ref s0, .ref k0, .ref i0, .ref o0, .ref x0, .int et, .int wt, .int tm, .int sta, .int he, .int ac, .int ov])), (o0, .inr (7, [.ref o1, .int fo, .int lo]))] 0 0 := by
  refine gBegin (by decide +kernel) (Nat.le_of_ble_eq_true rfl) (fun p e s m args below meth c A F hr hlocks hname hN hK hP hD hA hS ls hl => ?_)
  obtain ⟨hx, hb, hml, hown, hts⟩ := id F
  replace hP : va_P G.1 vwCl [(z0, .inr (9, [.ref c0, .ref c0q, .ref c0u, .ref c0v, .int sv, .int sw, .ref a0, .ref b0])), (c0, .inr (6, [.ref s0, .ref k0, .ref i0, .ref o0, .ref x0, .int et, .int wt, .int tm, .int sta, .int he, .int ac, .int ov])), (o0, .inr (7, [.ref o1, .int fo, .int lo]))] s.heap := hP
  replace hl : lv_has ls 1 [(0, .ref z0)] := hl
  refine lv_aload_n hx hb dX6_outputLength_0 rfl (lv_at hl 0 rfl) ?_
  refine va_get (D := G.1) (ci := 9) (v := .ref c0) (C := RX6) (T := TX6) (N := 8) hx hb hts in_X6 hown hK hP 0 rfl rfl 0 (by decide) (hts _ k_fl_X6_12) (fun _ h9 => h9) rfl dX6_outputLength_1 ?_
  refine va_get (D := G.1) (ci := 6) (v := .ref o0) (C := RX2) (T := TX2) (N := 12) hx hb hts in_X2 hown hK hP 1 rfl rfl 3 (by decide) (hts _ k_fl_X6_228) (fun _ h9 => h9) rfl dX6_outputLength_4 ?_
  refine va_get (D := G.1) (ci := 7) (v := .int lo) (C := RX4) (T := TX4) (N := 3) hx hb hts in_X4 hown hK hP 2 rfl rfl 2 (by decide) (hts _ k_fl_X6_227) (fun _ h9 => h9) rfl dX6_outputLength_7 ?_
  exact gRetI F hr hlocks hK hP hD hS rfl rfl (Nat.le_of_ble_eq_true rfl) (Nat.le_of_ble_eq_true rfl) dX6_outputLength_10
theorem okV_X6_outputLength : gOkV yX6_outputLength cX6_outputLength 1 (some .int) 0 := ⟨⟨k_im_X6_outputLength, k_se_X6_outputLength, k_in_X6, k_cd_X6_outputLength⟩, by decide, by decide, by decide +kernel⟩
def f_X6_hasOverflow (ov : Int32) : Int32 :=
  ov
set_option maxRecDepth 100000 in
set_option maxHeartbeats 4000000 in
theorem c_X6_hasOverflow (l : Launch) (G : gG) (z0 : Nat) (c0 : Nat) (c0q : Nat) (c0u : Nat) (c0v : Nat) (a0 : Nat) (b0 : Nat) (sv : Int32) (sw : Int32) (s0 : Nat) (k0 : Nat) (i0 : Nat) (o0 : Nat) (x0 : Nat) (et : Int32) (wt : Int32) (tm : Int32) (sta : Int32) (he : Int32) (ac : Int32) (ov : Int32) (hov : g01 ov) : gM l G yX6_hasOverflow cX6_hasOverflow 1 (some .boolean) { frames := 0, cells := 0, slots := 0, locals := 0 } [.ref z0] [(z0, .inr (9, [.ref c0, .ref c0q, .ref c0u, .ref c0v, .int sv, .int sw, .ref a0, .ref b0])), (c0, .inr (6, [.ref s0, .ref k0, .ref i0, .ref o0, .ref x0, .int et, .int wt, .int tm, .int sta, .int he, .int ac, .int ov]))] (some (.int (f_X6_hasOverflow ov))) [(z0, .inr (9, [.ref c0, .ref c0q, .ref c0u, .ref c0v, .int sv, .int sw, .ref a0, .ref b0])), (c0, .inr (6, [.ref s0, .ref k0, .ref i0, .ref o0, .ref x0, .int et, .int wt, .int tm, .int sta, .int he, .int ac, .int ov]))] 0 0 := by
  refine gBegin (by decide +kernel) (Nat.le_of_ble_eq_true rfl) (fun p e s m args below meth c A F hr hlocks hname hN hK hP hD hA hS ls hl => ?_)
  obtain ⟨hx, hb, hml, hown, hts⟩ := id F
  replace hP : va_P G.1 vwCl [(z0, .inr (9, [.ref c0, .ref c0q, .ref c0u, .ref c0v, .int sv, .int sw, .ref a0, .ref b0])), (c0, .inr (6, [.ref s0, .ref k0, .ref i0, .ref o0, .ref x0, .int et, .int wt, .int tm, .int sta, .int he, .int ac, .int ov]))] s.heap := hP
  replace hl : lv_has ls 1 [(0, .ref z0)] := hl
  refine lv_aload_n hx hb dX6_hasOverflow_0 rfl (lv_at hl 0 rfl) ?_
  refine va_get (D := G.1) (ci := 9) (v := .ref c0) (C := RX6) (T := TX6) (N := 8) hx hb hts in_X6 hown hK hP 0 rfl rfl 0 (by decide) (hts _ k_fl_X6_12) (fun _ h9 => h9) rfl dX6_hasOverflow_1 ?_
  refine va_get (D := G.1) (ci := 6) (v := .int ov) (C := RX2) (T := TX2) (N := 12) hx hb hts in_X2 hown hK hP 1 rfl rfl 11 (by decide) (hts _ k_fl_X6_207) (fun _ h9 => h9) rfl dX6_hasOverflow_4 ?_
  exact gRetZ F hr hlocks hK hP hD hS (gNz hov) rfl rfl (Nat.le_of_ble_eq_true rfl) (Nat.le_of_ble_eq_true rfl) dX6_hasOverflow_7
theorem okV_X6_hasOverflow : gOkV yX6_hasOverflow cX6_hasOverflow 1 (some .boolean) 0 := ⟨⟨k_im_X6_hasOverflow, k_se_X6_hasOverflow, k_in_X6, k_cd_X6_hasOverflow⟩, by decide, by decide, by decide +kernel⟩
def f_X6_offerInput (sta : Int32) (fi : Int32) (li : Int32) (rin : Nat → Int32) (p0 : Int32) : Int32 × Int32 × Int32 × (Nat → Int32) :=
  if (th_X6_requireWord p0) = none then
    if (f_X4_isFull li) = 0 then
      if sta = 2 then
        ((f_X4_addLast fi li rin p0).1, 0, (f_X4_addLast fi li rin p0).1, (f_X4_addLast fi li rin p0).2)
      else
        ((f_X4_addLast fi li rin p0).1, sta, (f_X4_addLast fi li rin p0).1, (f_X4_addLast fi li rin p0).2)
    else
      (0, sta, li, rin)
  else
    (0, sta, li, rin)
def th_X6_offerInput (sta : Int32) (li : Int32) (p0 : Int32) : Option String :=
  if (th_X6_requireWord p0) = none then
    if (f_X4_isFull li) = 0 then
      if sta = 2 then
        none
      else
        none
    else
      (some "java/lang/IllegalStateException")
  else
    (th_X6_requireWord p0)
set_option maxRecDepth 100000 in
set_option maxHeartbeats 4000000 in
theorem c_X6_offerInput (l : Launch) (hfl : l.stackTraces = false) (G : gG) (z0 : Nat) (c0 : Nat) (c0q : Nat) (c0u : Nat) (c0v : Nat) (a0 : Nat) (b0 : Nat) (sv : Int32) (sw : Int32) (s0 : Nat) (k0 : Nat) (i0 : Nat) (o0 : Nat) (x0 : Nat) (et : Int32) (wt : Int32) (tm : Int32) (sta : Int32) (he : Int32) (ac : Int32) (ov : Int32) (i1 : Nat) (fi : Int32) (li : Int32) (rin : Nat → Int32) (p0 : Int32) : gX l G yX6_offerInput cX6_offerInput 2 (some .int) { frames := 7, cells := 2, slots := 12, locals := 110 } [.ref z0, .int p0] [(z0, .inr (9, [.ref c0, .ref c0q, .ref c0u, .ref c0v, .int sv, .int sw, .ref a0, .ref b0])), (c0, .inr (6, [.ref s0, .ref k0, .ref i0, .ref o0, .ref x0, .int et, .int wt, .int tm, .int sta, .int he, .int ac, .int ov])), (i0, .inr (7, [.ref i1, .int fi, .int li])), (i1, .inl (G.2.1.1, 64, .inl rin))] (th_X6_offerInput sta li p0) (some (.int ((f_X6_offerInput sta fi li rin p0).1))) [(z0, .inr (9, [.ref c0, .ref c0q, .ref c0u, .ref c0v, .int sv, .int sw, .ref a0, .ref b0])), (c0, .inr (6, [.ref s0, .ref k0, .ref i0, .ref o0, .ref x0, .int et, .int wt, .int tm, .int ((f_X6_offerInput sta fi li rin p0).2.1), .int he, .int ac, .int ov])), (i0, .inr (7, [.ref i1, .int fi, .int ((f_X6_offerInput sta fi li rin p0).2.2.1)])), (i1, .inl (G.2.1.1, 64, .inl ((f_X6_offerInput sta fi li rin p0).2.2.2)))] 2 12 := by
  refine gxBegin (by decide +kernel) (Nat.le_of_ble_eq_true rfl) (fun p e s m args below meth c A F hr hlocks htab hN hSt hK hP hD hA hS ls hl => ?_)
  obtain ⟨hx, hb, hml, hown, hts⟩ := id F
  replace hP : va_P G.1 vwCl [(z0, .inr (9, [.ref c0, .ref c0q, .ref c0u, .ref c0v, .int sv, .int sw, .ref a0, .ref b0])), (c0, .inr (6, [.ref s0, .ref k0, .ref i0, .ref o0, .ref x0, .int et, .int wt, .int tm, .int sta, .int he, .int ac, .int ov])), (i0, .inr (7, [.ref i1, .int fi, .int li])), (i1, .inl (G.2.1.1, 64, .inl rin))] s.heap := hP
  replace hl : lv_has ls 2 [(0, .ref z0), (1, .int p0)] := hl
  refine lv_iload_n hx hb dX6_offerInput_0 rfl (lv_at hl 1 rfl) ?_
  refine gxS (As := [.int p0]) (rest := []) (wr := [(z0, .inr (9, [.ref c0, .ref c0q, .ref c0u, .ref c0v, .int sv, .int sw, .ref a0, .ref b0])), (c0, .inr (6, [.ref s0, .ref k0, .ref i0, .ref o0, .ref x0, .int et, .int wt, .int tm, .int sta, .int he, .int ac, .int ov])), (i0, .inr (7, [.ref i1, .int fi, .int li])), (i1, .inl (G.2.1.1, 64, .inl rin))]) (ws' := [(z0, .inr (9, [.ref c0, .ref c0q, .ref c0u, .ref c0v, .int sv, .int sw, .ref a0, .ref b0])), (c0, .inr (6, [.ref s0, .ref k0, .ref i0, .ref o0, .ref x0, .int et, .int wt, .int tm, .int sta, .int he, .int ac, .int ov])), (i0, .inr (7, [.ref i1, .int fi, .int li])), (i1, .inl (G.2.1.1, 64, .inl rin))]) F (c_X6_requireWord l hfl G p0) okS_X6_requireWord k_ml_X6_111 rfl rfl ⟨Nat.le_of_ble_eq_true rfl, Nat.le_of_ble_eq_true rfl⟩ hN hSt hK hP hD hS hA [] [0, 1, 2, 3] [0, 1, 2, 3] (by decide) rfl rfl (by decide) (by decide) (by decide) rfl rfl rfl rfl hl.1 (Nat.le_of_ble_eq_true rfl) dX6_offerInput_1 ⟨Nat.le_of_ble_eq_true rfl, Nat.le_of_ble_eq_true rfl⟩ (fun c_1 H locs hP hD hS => ?_) (fun E9 ce9 q9 H locs x9 hP hD hS h91 h92 h93 => ?_)
  · skip
    refine lv_aload_n hx hb dX6_offerInput_4 rfl (lv_at hl 0 rfl) ?_
    refine va_get (D := G.1) (ci := 9) (v := .ref c0) (C := RX6) (T := TX6) (N := 8) hx hb hts in_X6 hown hK hP 0 rfl rfl 0 (by decide) (hts _ k_fl_X6_12) (fun _ h9 => h9) rfl dX6_offerInput_5 ?_
    refine va_get (D := G.1) (ci := 6) (v := .ref i0) (C := RX2) (T := TX2) (N := 12) hx hb hts in_X2 hown hK hP 1 rfl rfl 2 (by decide) (hts _ k_fl_X6_213) (fun _ h9 => h9) rfl dX6_offerInput_8 ?_
    refine gV (As := []) (rest := []) (wr := [(z0, .inr (9, [.ref c0, .ref c0q, .ref c0u, .ref c0v, .int sv, .int sw, .ref a0, .ref b0])), (c0, .inr (6, [.ref s0, .ref k0, .ref i0, .ref o0, .ref x0, .int et, .int wt, .int tm, .int sta, .int he, .int ac, .int ov])), (i1, .inl (G.2.1.1, 64, .inl rin))]) (ws' := [(z0, .inr (9, [.ref c0, .ref c0q, .ref c0u, .ref c0v, .int sv, .int sw, .ref a0, .ref b0])), (c0, .inr (6, [.ref s0, .ref k0, .ref i0, .ref o0, .ref x0, .int et, .int wt, .int tm, .int sta, .int he, .int ac, .int ov])), (i0, .inr (7, [.ref i1, .int fi, .int li])), (i1, .inl (G.2.1.1, 64, .inl rin))]) F (c_X4_isFull l G i0 i1 fi li) okV_X4_isFull k_ml_X6_217 rfl rfl ⟨Nat.le_of_ble_eq_true rfl, Nat.le_of_ble_eq_true rfl⟩ hN hK hP hD hS hA [2] [0, 1, 3] [0, 1, 3, 2] (by decide) rfl rfl (by decide) (by decide) (by decide) rfl (q0 := 2) rfl rfl rfl rfl hl.1 (Nat.le_of_ble_eq_true rfl) dX6_offerInput_11 ⟨Nat.le_of_ble_eq_true rfl, Nat.le_of_ble_eq_true rfl⟩ (fun H locs hP hD hS => ?_)
    refine lv_if_eq (tgt := 27) hx hb dX6_offerInput_14 (by decide) (fun c_2 => ?_) (fun c_2 => ?_)
    · skip
      refine lv_aload_n hx hb dX6_offerInput_27 rfl (lv_at hl 0 rfl) ?_
      refine va_get (D := G.1) (ci := 9) (v := .ref c0) (C := RX6) (T := TX6) (N := 8) hx hb hts in_X6 hown hK hP 0 rfl rfl 0 (by decide) (hts _ k_fl_X6_12) (fun _ h9 => h9) rfl dX6_offerInput_28 ?_
      refine va_get (D := G.1) (ci := 6) (v := .ref i0) (C := RX2) (T := TX2) (N := 12) hx hb hts in_X2 hown hK hP 1 rfl rfl 2 (by decide) (hts _ k_fl_X6_213) (fun _ h9 => h9) rfl dX6_offerInput_31 ?_
      refine lv_iload_n hx hb dX6_offerInput_34 rfl (lv_at hl 1 rfl) ?_
      refine gV (As := [.int p0]) (rest := []) (wr := [(z0, .inr (9, [.ref c0, .ref c0q, .ref c0u, .ref c0v, .int sv, .int sw, .ref a0, .ref b0])), (c0, .inr (6, [.ref s0, .ref k0, .ref i0, .ref o0, .ref x0, .int et, .int wt, .int tm, .int sta, .int he, .int ac, .int ov]))]) (ws' := [(z0, .inr (9, [.ref c0, .ref c0q, .ref c0u, .ref c0v, .int sv, .int sw, .ref a0, .ref b0])), (c0, .inr (6, [.ref s0, .ref k0, .ref i0, .ref o0, .ref x0, .int et, .int wt, .int tm, .int sta, .int he, .int ac, .int ov])), (i0, .inr (7, [.ref i1, .int fi, .int ((f_X4_addLast fi li rin p0).1)])), (i1, .inl (G.2.1.1, 64, .inl ((f_X4_addLast fi li rin p0).2)))]) F (c_X4_addLast l G i0 i1 fi li rin p0) okV_X4_addLast k_ml_X6_224 rfl rfl ⟨Nat.le_of_ble_eq_true rfl, Nat.le_of_ble_eq_true rfl⟩ hN hK hP hD hS hA [2, 3] [0, 1] [0, 1, 2, 3] (by decide) rfl rfl (by decide) (by decide) (by decide) rfl (q0 := 2) rfl rfl rfl rfl hl.1 (Nat.le_of_ble_eq_true rfl) dX6_offerInput_35 ⟨Nat.le_of_ble_eq_true rfl, Nat.le_of_ble_eq_true rfl⟩ (fun H locs hP hD hS => ?_)
      refine lv_aload_n hx hb dX6_offerInput_38 rfl (lv_at hl 0 rfl) ?_
      refine va_get (D := G.1) (ci := 9) (v := .ref c0) (C := RX6) (T := TX6) (N := 8) hx hb hts in_X6 hown hK hP 0 rfl rfl 0 (by decide) (hts _ k_fl_X6_12) (fun _ h9 => h9) rfl dX6_offerInput_39 ?_
      refine va_get (D := G.1) (ci := 6) (v := .int sta) (C := RX2) (T := TX2) (N := 12) hx hb hts in_X2 hown hK hP 1 rfl rfl 8 (by decide) (hts _ k_fl_X6_201) (fun _ h9 => h9) rfl dX6_offerInput_42 ?_
      refine lv_iconst (v := 2) hx hb dX6_offerInput_45 (by decide) ?_
      refine lv_icmp_ne (tgt := 57) hx hb dX6_offerInput_46 (by decide) (fun c_3 => ?_) (fun c_3 => ?_)
      · skip
        refine lv_aload_n hx hb dX6_offerInput_57 rfl (lv_at hl 0 rfl) ?_
        refine va_get (D := G.1) (ci := 9) (v := .ref c0) (C := RX6) (T := TX6) (N := 8) hx hb hts in_X6 hown hK hP 0 rfl rfl 0 (by decide) (hts _ k_fl_X6_12) (fun _ h9 => h9) rfl dX6_offerInput_58 ?_
        refine va_get (D := G.1) (ci := 6) (v := .ref i0) (C := RX2) (T := TX2) (N := 12) hx hb hts in_X2 hown hK hP 1 rfl rfl 2 (by decide) (hts _ k_fl_X6_213) (fun _ h9 => h9) rfl dX6_offerInput_61 ?_
        refine va_get (D := G.1) (ci := 7) (v := .int ((f_X4_addLast fi li rin p0).1)) (C := RX4) (T := TX4) (N := 3) hx hb hts in_X4 hown hK hP 2 rfl rfl 2 (by decide) (hts _ k_fl_X6_227) (fun _ h9 => h9) rfl dX6_offerInput_64 ?_
        have ef : (f_X6_offerInput sta fi li rin p0) = ((f_X4_addLast fi li rin p0).1, sta, (f_X4_addLast fi li rin p0).1, (f_X4_addLast fi li rin p0).2) := ((if_pos c_1).trans ((if_pos c_2).trans (if_neg c_3)))
        refine gxOf (((if_pos c_1).trans ((if_pos c_2).trans (if_neg c_3)))) ?_
        exact gRetI F hr hlocks hK hP hD hS (by rw [ef]) (by rw [ef]) (Nat.le_of_ble_eq_true rfl) (Nat.le_of_ble_eq_true rfl) dX6_offerInput_67
      · skip
        refine lv_aload_n hx hb dX6_offerInput_49 rfl (lv_at hl 0 rfl) ?_
        refine va_get (D := G.1) (ci := 9) (v := .ref c0) (C := RX6) (T := TX6) (N := 8) hx hb hts in_X6 hown hK hP 0 rfl rfl 0 (by decide) (hts _ k_fl_X6_12) (fun _ h9 => h9) rfl dX6_offerInput_50 ?_
        refine lv_iconst (v := 0) hx hb dX6_offerInput_53 (by decide) ?_
        refine va_put (D := G.1) (ci := 6) (v := .int 0) (ty := .int) (C := RX2) (T := TX2) (N := 12) hx hb hts in_X2 tyX2 tyX2_ok nmX2 hown hK hP hD hS 1 rfl rfl 8 (by decide) (hts _ k_fl_X6_201) (fun _ h9 => h9) rfl (by decide +kernel) rfl rfl (Nat.le_of_ble_eq_true rfl) dX6_offerInput_54 (fun H locs hP hD hS => ?_)
        replace hP : va_P G.1 vwCl [(z0, .inr (9, [.ref c0, .ref c0q, .ref c0u, .ref c0v, .int sv, .int sw, .ref a0, .ref b0])), (c0, .inr (6, [.ref s0, .ref k0, .ref i0, .ref o0, .ref x0, .int et, .int wt, .int tm, .int 0, .int he, .int ac, .int ov])), (i0, .inr (7, [.ref i1, .int fi, .int ((f_X4_addLast fi li rin p0).1)])), (i1, .inl (G.2.1.1, 64, .inl ((f_X4_addLast fi li rin p0).2)))] H := hP
        replace hD : va_D A [(z0, .inr (9, [.ref c0, .ref c0q, .ref c0u, .ref c0v, .int sv, .int sw, .ref a0, .ref b0])), (c0, .inr (6, [.ref s0, .ref k0, .ref i0, .ref o0, .ref x0, .int et, .int wt, .int tm, .int 0, .int he, .int ac, .int ov])), (i0, .inr (7, [.ref i1, .int fi, .int ((f_X4_addLast fi li rin p0).1)])), (i1, .inl (G.2.1.1, 64, .inl ((f_X4_addLast fi li rin p0).2)))] := hD
        refine lv_aload_n hx hb dX6_offerInput_57 rfl (lv_at hl 0 rfl) ?_
        refine va_get (D := G.1) (ci := 9) (v := .ref c0) (C := RX6) (T := TX6) (N := 8) hx hb hts in_X6 hown hK hP 0 rfl rfl 0 (by decide) (hts _ k_fl_X6_12) (fun _ h9 => h9) rfl dX6_offerInput_58 ?_
        refine va_get (D := G.1) (ci := 6) (v := .ref i0) (C := RX2) (T := TX2) (N := 12) hx hb hts in_X2 hown hK hP 1 rfl rfl 2 (by decide) (hts _ k_fl_X6_213) (fun _ h9 => h9) rfl dX6_offerInput_61 ?_
        refine va_get (D := G.1) (ci := 7) (v := .int ((f_X4_addLast fi li rin p0).1)) (C := RX4) (T := TX4) (N := 3) hx hb hts in_X4 hown hK hP 2 rfl rfl 2 (by decide) (hts _ k_fl_X6_227) (fun _ h9 => h9) rfl dX6_offerInput_64 ?_
        have ef : (f_X6_offerInput sta fi li rin p0) = ((f_X4_addLast fi li rin p0).1, 0, (f_X4_addLast fi li rin p0).1, (f_X4_addLast fi li rin p0).2) := ((if_pos c_1).trans ((if_pos c_2).trans (if_pos c_3)))
        refine gxOf (((if_pos c_1).trans ((if_pos c_2).trans (if_pos c_3)))) ?_
        exact gRetI F hr hlocks hK hP hD hS (by rw [ef]) (by rw [ef]) (Nat.le_of_ble_eq_true rfl) (Nat.le_of_ble_eq_true rfl) dX6_offerInput_67
    · skip
      exact gxThrowS (text := "the input queue is full") (names := ["java/lang/RuntimeException", "java/lang/Exception"]) F hfl hN hSt hK hP hD hS hlocks htab hl.1 (by decide +kernel) (by decide +kernel) k_cl_X6_43 k_in_java_lang_IllegalStateException (by decide +kernel) xa_X6_47 xb_X6_47 xc_X6_47 dX6_offerInput_17 dX6_offerInput_20 dX6_offerInput_21 dX6_offerInput_23 dX6_offerInput_26 ((if_pos c_1).trans (if_neg c_2)) (by decide) (Nat.le_of_ble_eq_true rfl) (Nat.le_of_ble_eq_true rfl) (Nat.le_of_ble_eq_true rfl) (Nat.le_of_ble_eq_true rfl) (Nat.le_of_ble_eq_true rfl)
  · have c_1 : ¬ (th_X6_requireWord p0) = none := (by rw [x9]; exact Option.some_ne_none _)
    exact gxOut hlocks htab hK hP hD hS h91 h92 h93 (((if_neg c_1)).trans x9) (Nat.le_of_ble_eq_true rfl) (Nat.le_of_ble_eq_true rfl)
theorem okV_X6_offerInput : gOkV yX6_offerInput cX6_offerInput 2 (some .int) 1 := ⟨⟨k_im_X6_offerInput, k_se_X6_offerInput, k_in_X6, k_cd_X6_offerInput⟩, by decide, by decide, by decide +kernel⟩
def f_X6_takeOutput (sta : Int32) (fo : Int32) (lo : Int32) (rout : Nat → Int32) : Int32 × Int32 × Int32 × Int32 :=
  if lo = 0 then
    (0, sta, fo, lo)
  else
    if sta = 3 then
      ((f_X4_removeFirst fo lo rout).1, 0, (f_X4_removeFirst fo lo rout).2.1, (f_X4_removeFirst fo lo rout).2.2)
    else
      ((f_X4_removeFirst fo lo rout).1, sta, (f_X4_removeFirst fo lo rout).2.1, (f_X4_removeFirst fo lo rout).2.2)
def th_X6_takeOutput (sta : Int32) (lo : Int32) : Option String :=
  if lo = 0 then
    (some "java/util/NoSuchElementException")
  else
    if sta = 3 then
      none
    else
      none
set_option maxRecDepth 100000 in
set_option maxHeartbeats 4000000 in
theorem c_X6_takeOutput (l : Launch) (hfl : l.stackTraces = false) (G : gG) (z0 : Nat) (c0 : Nat) (c0q : Nat) (c0u : Nat) (c0v : Nat) (a0 : Nat) (b0 : Nat) (sv : Int32) (sw : Int32) (s0 : Nat) (k0 : Nat) (i0 : Nat) (o0 : Nat) (x0 : Nat) (et : Int32) (wt : Int32) (tm : Int32) (sta : Int32) (he : Int32) (ac : Int32) (ov : Int32) (o1 : Nat) (fo : Int32) (lo : Int32) (rout : Nat → Int32) : gX l G yX6_takeOutput cX6_takeOutput 1 (some .int) { frames := 6, cells := 1, slots := 6, locals := 90 } [.ref z0] [(z0, .inr (9, [.ref c0, .ref c0q, .ref c0u, .ref c0v, .int sv, .int sw, .ref a0, .ref b0])), (c0, .inr (6, [.ref s0, .ref k0, .ref i0, .ref o0, .ref x0, .int et, .int wt, .int tm, .int sta, .int he, .int ac, .int ov])), (o0, .inr (7, [.ref o1, .int fo, .int lo])), (o1, .inl (G.2.1.1, 64, .inl rout))] (th_X6_takeOutput sta lo) (some (.int ((f_X6_takeOutput sta fo lo rout).1))) [(z0, .inr (9, [.ref c0, .ref c0q, .ref c0u, .ref c0v, .int sv, .int sw, .ref a0, .ref b0])), (c0, .inr (6, [.ref s0, .ref k0, .ref i0, .ref o0, .ref x0, .int et, .int wt, .int tm, .int ((f_X6_takeOutput sta fo lo rout).2.1), .int he, .int ac, .int ov])), (o0, .inr (7, [.ref o1, .int ((f_X6_takeOutput sta fo lo rout).2.2.1), .int ((f_X6_takeOutput sta fo lo rout).2.2.2)])), (o1, .inl (G.2.1.1, 64, .inl rout))] 1 6 := by
  refine gxBegin (by decide +kernel) (Nat.le_of_ble_eq_true rfl) (fun p e s m args below meth c A F hr hlocks htab hN hSt hK hP hD hA hS ls hl => ?_)
  obtain ⟨hx, hb, hml, hown, hts⟩ := id F
  replace hP : va_P G.1 vwCl [(z0, .inr (9, [.ref c0, .ref c0q, .ref c0u, .ref c0v, .int sv, .int sw, .ref a0, .ref b0])), (c0, .inr (6, [.ref s0, .ref k0, .ref i0, .ref o0, .ref x0, .int et, .int wt, .int tm, .int sta, .int he, .int ac, .int ov])), (o0, .inr (7, [.ref o1, .int fo, .int lo])), (o1, .inl (G.2.1.1, 64, .inl rout))] s.heap := hP
  replace hl : lv_has ls 1 [(0, .ref z0)] := hl
  refine lv_aload_n hx hb dX6_takeOutput_0 rfl (lv_at hl 0 rfl) ?_
  refine va_get (D := G.1) (ci := 9) (v := .ref c0) (C := RX6) (T := TX6) (N := 8) hx hb hts in_X6 hown hK hP 0 rfl rfl 0 (by decide) (hts _ k_fl_X6_12) (fun _ h9 => h9) rfl dX6_takeOutput_1 ?_
  refine va_get (D := G.1) (ci := 6) (v := .ref o0) (C := RX2) (T := TX2) (N := 12) hx hb hts in_X2 hown hK hP 1 rfl rfl 3 (by decide) (hts _ k_fl_X6_228) (fun _ h9 => h9) rfl dX6_takeOutput_4 ?_
  refine va_get (D := G.1) (ci := 7) (v := .int lo) (C := RX4) (T := TX4) (N := 3) hx hb hts in_X4 hown hK hP 2 rfl rfl 2 (by decide) (hts _ k_fl_X6_227) (fun _ h9 => h9) rfl dX6_takeOutput_7 ?_
  refine lv_if_ne (tgt := 23) hx hb dX6_takeOutput_10 (by decide) (fun c_1 => ?_) (fun c_1 => ?_)
  · skip
    refine lv_aload_n hx hb dX6_takeOutput_23 rfl (lv_at hl 0 rfl) ?_
    refine va_get (D := G.1) (ci := 9) (v := .ref c0) (C := RX6) (T := TX6) (N := 8) hx hb hts in_X6 hown hK hP 0 rfl rfl 0 (by decide) (hts _ k_fl_X6_12) (fun _ h9 => h9) rfl dX6_takeOutput_24 ?_
    refine va_get (D := G.1) (ci := 6) (v := .int sta) (C := RX2) (T := TX2) (N := 12) hx hb hts in_X2 hown hK hP 1 rfl rfl 8 (by decide) (hts _ k_fl_X6_201) (fun _ h9 => h9) rfl dX6_takeOutput_27 ?_
    refine lv_iconst (v := 3) hx hb dX6_takeOutput_30 (by decide) ?_
    refine lv_icmp_ne (tgt := 42) hx hb dX6_takeOutput_31 (by decide) (fun c_2 => ?_) (fun c_2 => ?_)
    · skip
      refine lv_aload_n hx hb dX6_takeOutput_42 rfl (lv_at hl 0 rfl) ?_
      refine va_get (D := G.1) (ci := 9) (v := .ref c0) (C := RX6) (T := TX6) (N := 8) hx hb hts in_X6 hown hK hP 0 rfl rfl 0 (by decide) (hts _ k_fl_X6_12) (fun _ h9 => h9) rfl dX6_takeOutput_43 ?_
      refine va_get (D := G.1) (ci := 6) (v := .ref o0) (C := RX2) (T := TX2) (N := 12) hx hb hts in_X2 hown hK hP 1 rfl rfl 3 (by decide) (hts _ k_fl_X6_228) (fun _ h9 => h9) rfl dX6_takeOutput_46 ?_
      refine gV (As := []) (rest := []) (wr := [(z0, .inr (9, [.ref c0, .ref c0q, .ref c0u, .ref c0v, .int sv, .int sw, .ref a0, .ref b0])), (c0, .inr (6, [.ref s0, .ref k0, .ref i0, .ref o0, .ref x0, .int et, .int wt, .int tm, .int sta, .int he, .int ac, .int ov]))]) (ws' := [(z0, .inr (9, [.ref c0, .ref c0q, .ref c0u, .ref c0v, .int sv, .int sw, .ref a0, .ref b0])), (c0, .inr (6, [.ref s0, .ref k0, .ref i0, .ref o0, .ref x0, .int et, .int wt, .int tm, .int sta, .int he, .int ac, .int ov])), (o0, .inr (7, [.ref o1, .int ((f_X4_removeFirst fo lo rout).2.1), .int ((f_X4_removeFirst fo lo rout).2.2)])), (o1, .inl (G.2.1.1, 64, .inl rout))]) F (c_X4_removeFirst l G o0 o1 fo lo rout) okV_X4_removeFirst k_ml_X6_236 rfl rfl ⟨Nat.le_of_ble_eq_true rfl, Nat.le_of_ble_eq_true rfl⟩ hN hK hP hD hS hA [2, 3] [0, 1] [0, 1, 2, 3] (by decide) rfl rfl (by decide) (by decide) (by decide) rfl (q0 := 2) rfl rfl rfl rfl hl.1 (Nat.le_of_ble_eq_true rfl) dX6_takeOutput_49 ⟨Nat.le_of_ble_eq_true rfl, Nat.le_of_ble_eq_true rfl⟩ (fun H locs hP hD hS => ?_)
      have ef : (f_X6_takeOutput sta fo lo rout) = ((f_X4_removeFirst fo lo rout).1, sta, (f_X4_removeFirst fo lo rout).2.1, (f_X4_removeFirst fo lo rout).2.2) := ((if_neg c_1).trans (if_neg c_2))
      refine gxOf (((if_neg c_1).trans (if_neg c_2))) ?_
      exact gRetI F hr hlocks hK hP hD hS (by rw [ef]) (by rw [ef]) (Nat.le_of_ble_eq_true rfl) (Nat.le_of_ble_eq_true rfl) dX6_takeOutput_52
    · skip
      refine lv_aload_n hx hb dX6_takeOutput_34 rfl (lv_at hl 0 rfl) ?_
      refine va_get (D := G.1) (ci := 9) (v := .ref c0) (C := RX6) (T := TX6) (N := 8) hx hb hts in_X6 hown hK hP 0 rfl rfl 0 (by decide) (hts _ k_fl_X6_12) (fun _ h9 => h9) rfl dX6_takeOutput_35 ?_
      refine lv_iconst (v := 0) hx hb dX6_takeOutput_38 (by decide) ?_
      refine va_put (D := G.1) (ci := 6) (v := .int 0) (ty := .int) (C := RX2) (T := TX2) (N := 12) hx hb hts in_X2 tyX2 tyX2_ok nmX2 hown hK hP hD hS 1 rfl rfl 8 (by decide) (hts _ k_fl_X6_201) (fun _ h9 => h9) rfl (by decide +kernel) rfl rfl (Nat.le_of_ble_eq_true rfl) dX6_takeOutput_39 (fun H locs hP hD hS => ?_)
      replace hP : va_P G.1 vwCl [(z0, .inr (9, [.ref c0, .ref c0q, .ref c0u, .ref c0v, .int sv, .int sw, .ref a0, .ref b0])), (c0, .inr (6, [.ref s0, .ref k0, .ref i0, .ref o0, .ref x0, .int et, .int wt, .int tm, .int 0, .int he, .int ac, .int ov])), (o0, .inr (7, [.ref o1, .int fo, .int lo])), (o1, .inl (G.2.1.1, 64, .inl rout))] H := hP
      replace hD : va_D A [(z0, .inr (9, [.ref c0, .ref c0q, .ref c0u, .ref c0v, .int sv, .int sw, .ref a0, .ref b0])), (c0, .inr (6, [.ref s0, .ref k0, .ref i0, .ref o0, .ref x0, .int et, .int wt, .int tm, .int 0, .int he, .int ac, .int ov])), (o0, .inr (7, [.ref o1, .int fo, .int lo])), (o1, .inl (G.2.1.1, 64, .inl rout))] := hD
      refine lv_aload_n hx hb dX6_takeOutput_42 rfl (lv_at hl 0 rfl) ?_
      refine va_get (D := G.1) (ci := 9) (v := .ref c0) (C := RX6) (T := TX6) (N := 8) hx hb hts in_X6 hown hK hP 0 rfl rfl 0 (by decide) (hts _ k_fl_X6_12) (fun _ h9 => h9) rfl dX6_takeOutput_43 ?_
      refine va_get (D := G.1) (ci := 6) (v := .ref o0) (C := RX2) (T := TX2) (N := 12) hx hb hts in_X2 hown hK hP 1 rfl rfl 3 (by decide) (hts _ k_fl_X6_228) (fun _ h9 => h9) rfl dX6_takeOutput_46 ?_
      refine gV (As := []) (rest := []) (wr := [(z0, .inr (9, [.ref c0, .ref c0q, .ref c0u, .ref c0v, .int sv, .int sw, .ref a0, .ref b0])), (c0, .inr (6, [.ref s0, .ref k0, .ref i0, .ref o0, .ref x0, .int et, .int wt, .int tm, .int 0, .int he, .int ac, .int ov]))]) (ws' := [(z0, .inr (9, [.ref c0, .ref c0q, .ref c0u, .ref c0v, .int sv, .int sw, .ref a0, .ref b0])), (c0, .inr (6, [.ref s0, .ref k0, .ref i0, .ref o0, .ref x0, .int et, .int wt, .int tm, .int 0, .int he, .int ac, .int ov])), (o0, .inr (7, [.ref o1, .int ((f_X4_removeFirst fo lo rout).2.1), .int ((f_X4_removeFirst fo lo rout).2.2)])), (o1, .inl (G.2.1.1, 64, .inl rout))]) F (c_X4_removeFirst l G o0 o1 fo lo rout) okV_X4_removeFirst k_ml_X6_236 rfl rfl ⟨Nat.le_of_ble_eq_true rfl, Nat.le_of_ble_eq_true rfl⟩ hN hK hP hD hS hA [2, 3] [0, 1] [0, 1, 2, 3] (by decide) rfl rfl (by decide) (by decide) (by decide) rfl (q0 := 2) rfl rfl rfl rfl hl.1 (Nat.le_of_ble_eq_true rfl) dX6_takeOutput_49 ⟨Nat.le_of_ble_eq_true rfl, Nat.le_of_ble_eq_true rfl⟩ (fun H locs hP hD hS => ?_)
      have ef : (f_X6_takeOutput sta fo lo rout) = ((f_X4_removeFirst fo lo rout).1, 0, (f_X4_removeFirst fo lo rout).2.1, (f_X4_removeFirst fo lo rout).2.2) := ((if_neg c_1).trans (if_pos c_2))
      refine gxOf (((if_neg c_1).trans (if_pos c_2))) ?_
      exact gRetI F hr hlocks hK hP hD hS (by rw [ef]) (by rw [ef]) (Nat.le_of_ble_eq_true rfl) (Nat.le_of_ble_eq_true rfl) dX6_takeOutput_52
  · skip
    exact gxThrowX (text := "the output queue is empty") (names := ["java/lang/RuntimeException", "java/lang/Exception"]) F hfl hN hSt hK hP hD hS hlocks htab hl.1 (rx := cNSE) (by rfl) (by rfl) (by rfl) (by rfl) (by decide +kernel) (by decide +kernel) k_cl_X6_231 k_in_java_util_NoSuchElementException (by decide +kernel) xa_X6_235 xb_X6_235 xc_X6_235 dX6_takeOutput_13 dX6_takeOutput_16 dX6_takeOutput_17 dX6_takeOutput_19 dX6_takeOutput_22 (if_pos c_1) (by decide) (Nat.le_of_ble_eq_true rfl) (Nat.le_of_ble_eq_true rfl) (Nat.le_of_ble_eq_true rfl) (Nat.le_of_ble_eq_true rfl) (Nat.le_of_ble_eq_true rfl)
theorem okV_X6_takeOutput : gOkV yX6_takeOutput cX6_takeOutput 1 (some .int) 0 := ⟨⟨k_im_X6_takeOutput, k_se_X6_takeOutput, k_in_X6, k_cd_X6_takeOutput⟩, by decide, by decide, by decide +kernel⟩
def f_X6_executedAt (cnt : Nat → Int32) (p0 : Int32) (p1 : Int32) : Int32 :=
  if (th_X6_requireLocation p0 p1) = none then
    (f_X2_executedCountAt cnt (f_X6_locationOf p0 p1))
  else
    0
def th_X6_executedAt (p0 : Int32) (p1 : Int32) : Option String :=
  if (th_X6_requireLocation p0 p1) = none then
    none
  else
    (th_X6_requireLocation p0 p1)
set_option maxRecDepth 100000 in
set_option maxHeartbeats 4000000 in
theorem c_X6_executedAt (l : Launch) (hfl : l.stackTraces = false) (G : gG) (z0 : Nat) (c0 : Nat) (c0q : Nat) (c0u : Nat) (c0v : Nat) (a0 : Nat) (b0 : Nat) (sv : Int32) (sw : Int32) (s0 : Nat) (k0 : Nat) (i0 : Nat) (o0 : Nat) (x0 : Nat) (et : Int32) (wt : Int32) (tm : Int32) (sta : Int32) (he : Int32) (ac : Int32) (ov : Int32) (cnt : Nat → Int32) (p0 : Int32) (p1 : Int32) : gX l G yX6_executedAt cX6_executedAt 3 (some .int) { frames := 7, cells := 1, slots := 6, locals := 111 } [.ref z0, .int p0, .int p1] [(z0, .inr (9, [.ref c0, .ref c0q, .ref c0u, .ref c0v, .int sv, .int sw, .ref a0, .ref b0])), (c0, .inr (6, [.ref s0, .ref k0, .ref i0, .ref o0, .ref x0, .int et, .int wt, .int tm, .int sta, .int he, .int ac, .int ov])), (x0, .inl (G.2.1.1, 256, .inl cnt))] (th_X6_executedAt p0 p1) (some (.int (f_X6_executedAt cnt p0 p1))) [(z0, .inr (9, [.ref c0, .ref c0q, .ref c0u, .ref c0v, .int sv, .int sw, .ref a0, .ref b0])), (c0, .inr (6, [.ref s0, .ref k0, .ref i0, .ref o0, .ref x0, .int et, .int wt, .int tm, .int sta, .int he, .int ac, .int ov])), (x0, .inl (G.2.1.1, 256, .inl cnt))] 1 6 := by
  refine gxBegin (by decide +kernel) (Nat.le_of_ble_eq_true rfl) (fun p e s m args below meth c A F hr hlocks htab hN hSt hK hP hD hA hS ls hl => ?_)
  obtain ⟨hx, hb, hml, hown, hts⟩ := id F
  replace hP : va_P G.1 vwCl [(z0, .inr (9, [.ref c0, .ref c0q, .ref c0u, .ref c0v, .int sv, .int sw, .ref a0, .ref b0])), (c0, .inr (6, [.ref s0, .ref k0, .ref i0, .ref o0, .ref x0, .int et, .int wt, .int tm, .int sta, .int he, .int ac, .int ov])), (x0, .inl (G.2.1.1, 256, .inl cnt))] s.heap := hP
  replace hl : lv_has ls 3 [(0, .ref z0), (1, .int p0), (2, .int p1)] := hl
  refine lv_iload_n hx hb dX6_executedAt_0 rfl (lv_at hl 1 rfl) ?_
  refine lv_iload_n hx hb dX6_executedAt_1 rfl (lv_at hl 2 rfl) ?_
  refine gxS (As := [.int p0, .int p1]) (rest := []) (wr := [(z0, .inr (9, [.ref c0, .ref c0q, .ref c0u, .ref c0v, .int sv, .int sw, .ref a0, .ref b0])), (c0, .inr (6, [.ref s0, .ref k0, .ref i0, .ref o0, .ref x0, .int et, .int wt, .int tm, .int sta, .int he, .int ac, .int ov])), (x0, .inl (G.2.1.1, 256, .inl cnt))]) (ws' := [(z0, .inr (9, [.ref c0, .ref c0q, .ref c0u, .ref c0v, .int sv, .int sw, .ref a0, .ref b0])), (c0, .inr (6, [.ref s0, .ref k0, .ref i0, .ref o0, .ref x0, .int et, .int wt, .int tm, .int sta, .int he, .int ac, .int ov])), (x0, .inl (G.2.1.1, 256, .inl cnt))]) F (c_X6_requireLocation l hfl G p0 p1) okS_X6_requireLocation k_ml_X6_101 rfl rfl ⟨Nat.le_of_ble_eq_true rfl, Nat.le_of_ble_eq_true rfl⟩ hN hSt hK hP hD hS hA [] [0, 1, 2] [0, 1, 2] (by decide) rfl rfl (by decide) (by decide) (by decide) rfl rfl rfl rfl hl.1 (Nat.le_of_ble_eq_true rfl) dX6_executedAt_2 ⟨Nat.le_of_ble_eq_true rfl, Nat.le_of_ble_eq_true rfl⟩ (fun c_1 H locs hP hD hS => ?_) (fun E9 ce9 q9 H locs x9 hP hD hS h91 h92 h93 => ?_)
  · skip
    refine lv_aload_n hx hb dX6_executedAt_5 rfl (lv_at hl 0 rfl) ?_
    refine va_get (D := G.1) (ci := 9) (v := .ref c0) (C := RX6) (T := TX6) (N := 8) hx hb hts in_X6 hown hK hP 0 rfl rfl 0 (by decide) (hts _ k_fl_X6_12) (fun _ h9 => h9) rfl dX6_executedAt_6 ?_
    refine lv_iload_n hx hb dX6_executedAt_9 rfl (lv_at hl 1 rfl) ?_
    refine lv_iload_n hx hb dX6_executedAt_10 rfl (lv_at hl 2 rfl) ?_
    refine gS (As := [.int p0, .int p1]) (rest := [.ref c0]) (wr := [(z0, .inr (9, [.ref c0, .ref c0q, .ref c0u, .ref c0v, .int sv, .int sw, .ref a0, .ref b0])), (c0, .inr (6, [.ref s0, .ref k0, .ref i0, .ref o0, .ref x0, .int et, .int wt, .int tm, .int sta, .int he, .int ac, .int ov])), (x0, .inl (G.2.1.1, 256, .inl cnt))]) (ws' := [(z0, .inr (9, [.ref c0, .ref c0q, .ref c0u, .ref c0v, .int sv, .int sw, .ref a0, .ref b0])), (c0, .inr (6, [.ref s0, .ref k0, .ref i0, .ref o0, .ref x0, .int et, .int wt, .int tm, .int sta, .int he, .int ac, .int ov])), (x0, .inl (G.2.1.1, 256, .inl cnt))]) F (c_X6_locationOf l G p0 p1) okS_X6_locationOf k_ml_X6_104 rfl rfl ⟨Nat.le_of_ble_eq_true rfl, Nat.le_of_ble_eq_true rfl⟩ hN hK hP hD hS hA [] [0, 1, 2] [0, 1, 2] (by decide) rfl rfl (by decide) (by decide) (by decide) rfl rfl rfl hl.1 (Nat.le_of_ble_eq_true rfl) dX6_executedAt_11 ⟨Nat.le_of_ble_eq_true rfl, Nat.le_of_ble_eq_true rfl⟩ (fun H locs hP hD hS => ?_)
    refine gV (As := [.int (f_X6_locationOf p0 p1)]) (rest := []) (wr := [(z0, .inr (9, [.ref c0, .ref c0q, .ref c0u, .ref c0v, .int sv, .int sw, .ref a0, .ref b0]))]) (ws' := [(z0, .inr (9, [.ref c0, .ref c0q, .ref c0u, .ref c0v, .int sv, .int sw, .ref a0, .ref b0])), (c0, .inr (6, [.ref s0, .ref k0, .ref i0, .ref o0, .ref x0, .int et, .int wt, .int tm, .int sta, .int he, .int ac, .int ov])), (x0, .inl (G.2.1.1, 256, .inl cnt))]) F (c_X2_executedCountAt l G c0 s0 k0 i0 o0 x0 et wt tm sta he ac ov cnt (f_X6_locationOf p0 p1)) okV_X2_executedCountAt k_ml_X6_242 rfl rfl ⟨Nat.le_of_ble_eq_true rfl, Nat.le_of_ble_eq_true rfl⟩ hN hK hP hD hS hA [1, 2] [0] [0, 1, 2] (by decide) rfl rfl (by decide) (by decide) (by decide) rfl (q0 := 1) rfl rfl rfl rfl hl.1 (Nat.le_of_ble_eq_true rfl) dX6_executedAt_14 ⟨Nat.le_of_ble_eq_true rfl, Nat.le_of_ble_eq_true rfl⟩ (fun H locs hP hD hS => ?_)
    have ef : (f_X6_executedAt cnt p0 p1) = (f_X2_executedCountAt cnt (f_X6_locationOf p0 p1)) := (if_pos c_1)
    refine gxOf ((if_pos c_1)) ?_
    exact gRetI F hr hlocks hK hP hD hS (by rw [ef]) rfl (Nat.le_of_ble_eq_true rfl) (Nat.le_of_ble_eq_true rfl) dX6_executedAt_17
  · have c_1 : ¬ (th_X6_requireLocation p0 p1) = none := (by rw [x9]; exact Option.some_ne_none _)
    exact gxOut hlocks htab hK hP hD hS h91 h92 h93 (((if_neg c_1)).trans x9) (Nat.le_of_ble_eq_true rfl) (Nat.le_of_ble_eq_true rfl)
theorem okV_X6_executedAt : gOkV yX6_executedAt cX6_executedAt 3 (some .int) 2 := ⟨⟨k_im_X6_executedAt, k_se_X6_executedAt, k_in_X6, k_cd_X6_executedAt⟩, by decide, by decide, by decide +kernel⟩
def f_X6_idealNextCycle (bits : Nat → Int32) (p0 : Int32) (p1 : Int32) : Int32 :=
  if (th_X6_requireLocation p0 p1) = none then
    (f_X6_cycleAfter bits (f_X6_locationOf p0 p1))
  else
    0
def th_X6_idealNextCycle (p0 : Int32) (p1 : Int32) : Option String :=
  if (th_X6_requireLocation p0 p1) = none then
    none
  else
    (th_X6_requireLocation p0 p1)
set_option maxRecDepth 100000 in
set_option maxHeartbeats 4000000 in
theorem c_X6_idealNextCycle (l : Launch) (hfl : l.stackTraces = false) (G : gG) (z0 : Nat) (c0 : Nat) (c0q : Nat) (c0u : Nat) (c0v : Nat) (a0 : Nat) (b0 : Nat) (sv : Int32) (sw : Int32) (s0 : Nat) (k0 : Nat) (i0 : Nat) (o0 : Nat) (x0 : Nat) (et : Int32) (wt : Int32) (tm : Int32) (sta : Int32) (he : Int32) (ac : Int32) (ov : Int32) (s1 : Nat) (s2 : Nat) (s3 : Nat) (dr : Int32) (bits : Nat → Int32) (p0 : Int32) (p1 : Int32) : gX l G yX6_idealNextCycle cX6_idealNextCycle 3 (some .int) { frames := 7, cells := 1, slots := 6, locals := 111 } [.ref z0, .int p0, .int p1] [(z0, .inr (9, [.ref c0, .ref c0q, .ref c0u, .ref c0v, .int sv, .int sw, .ref a0, .ref b0])), (c0, .inr (6, [.ref s0, .ref k0, .ref i0, .ref o0, .ref x0, .int et, .int wt, .int tm, .int sta, .int he, .int ac, .int ov])), (s0, .inr (8, [.ref s1, .ref s2, .ref s3, .int dr])), (s1, .inl (G.2.1.1, 256, .inl bits))] (th_X6_idealNextCycle p0 p1) (some (.int (f_X6_idealNextCycle bits p0 p1))) [(z0, .inr (9, [.ref c0, .ref c0q, .ref c0u, .ref c0v, .int sv, .int sw, .ref a0, .ref b0])), (c0, .inr (6, [.ref s0, .ref k0, .ref i0, .ref o0, .ref x0, .int et, .int wt, .int tm, .int sta, .int he, .int ac, .int ov])), (s0, .inr (8, [.ref s1, .ref s2, .ref s3, .int dr])), (s1, .inl (G.2.1.1, 256, .inl bits))] 1 6 := by
  refine gxBegin (by decide +kernel) (Nat.le_of_ble_eq_true rfl) (fun p e s m args below meth c A F hr hlocks htab hN hSt hK hP hD hA hS ls hl => ?_)
  obtain ⟨hx, hb, hml, hown, hts⟩ := id F
  replace hP : va_P G.1 vwCl [(z0, .inr (9, [.ref c0, .ref c0q, .ref c0u, .ref c0v, .int sv, .int sw, .ref a0, .ref b0])), (c0, .inr (6, [.ref s0, .ref k0, .ref i0, .ref o0, .ref x0, .int et, .int wt, .int tm, .int sta, .int he, .int ac, .int ov])), (s0, .inr (8, [.ref s1, .ref s2, .ref s3, .int dr])), (s1, .inl (G.2.1.1, 256, .inl bits))] s.heap := hP
  replace hl : lv_has ls 3 [(0, .ref z0), (1, .int p0), (2, .int p1)] := hl
  refine lv_iload_n hx hb dX6_idealNextCycle_0 rfl (lv_at hl 1 rfl) ?_
  refine lv_iload_n hx hb dX6_idealNextCycle_1 rfl (lv_at hl 2 rfl) ?_
  refine gxS (As := [.int p0, .int p1]) (rest := []) (wr := [(z0, .inr (9, [.ref c0, .ref c0q, .ref c0u, .ref c0v, .int sv, .int sw, .ref a0, .ref b0])), (c0, .inr (6, [.ref s0, .ref k0, .ref i0, .ref o0, .ref x0, .int et, .int wt, .int tm, .int sta, .int he, .int ac, .int ov])), (s0, .inr (8, [.ref s1, .ref s2, .ref s3, .int dr])), (s1, .inl (G.2.1.1, 256, .inl bits))]) (ws' := [(z0, .inr (9, [.ref c0, .ref c0q, .ref c0u, .ref c0v, .int sv, .int sw, .ref a0, .ref b0])), (c0, .inr (6, [.ref s0, .ref k0, .ref i0, .ref o0, .ref x0, .int et, .int wt, .int tm, .int sta, .int he, .int ac, .int ov])), (s0, .inr (8, [.ref s1, .ref s2, .ref s3, .int dr])), (s1, .inl (G.2.1.1, 256, .inl bits))]) F (c_X6_requireLocation l hfl G p0 p1) okS_X6_requireLocation k_ml_X6_101 rfl rfl ⟨Nat.le_of_ble_eq_true rfl, Nat.le_of_ble_eq_true rfl⟩ hN hSt hK hP hD hS hA [] [0, 1, 2, 3] [0, 1, 2, 3] (by decide) rfl rfl (by decide) (by decide) (by decide) rfl rfl rfl rfl hl.1 (Nat.le_of_ble_eq_true rfl) dX6_idealNextCycle_2 ⟨Nat.le_of_ble_eq_true rfl, Nat.le_of_ble_eq_true rfl⟩ (fun c_1 H locs hP hD hS => ?_) (fun E9 ce9 q9 H locs x9 hP hD hS h91 h92 h93 => ?_)
  · skip
    refine lv_aload_n hx hb dX6_idealNextCycle_5 rfl (lv_at hl 0 rfl) ?_
    refine lv_iload_n hx hb dX6_idealNextCycle_6 rfl (lv_at hl 1 rfl) ?_
    refine lv_iload_n hx hb dX6_idealNextCycle_7 rfl (lv_at hl 2 rfl) ?_
    refine gS (As := [.int p0, .int p1]) (rest := [.ref z0]) (wr := [(z0, .inr (9, [.ref c0, .ref c0q, .ref c0u, .ref c0v, .int sv, .int sw, .ref a0, .ref b0])), (c0, .inr (6, [.ref s0, .ref k0, .ref i0, .ref o0, .ref x0, .int et, .int wt, .int tm, .int sta, .int he, .int ac, .int ov])), (s0, .inr (8, [.ref s1, .ref s2, .ref s3, .int dr])), (s1, .inl (G.2.1.1, 256, .inl bits))]) (ws' := [(z0, .inr (9, [.ref c0, .ref c0q, .ref c0u, .ref c0v, .int sv, .int sw, .ref a0, .ref b0])), (c0, .inr (6, [.ref s0, .ref k0, .ref i0, .ref o0, .ref x0, .int et, .int wt, .int tm, .int sta, .int he, .int ac, .int ov])), (s0, .inr (8, [.ref s1, .ref s2, .ref s3, .int dr])), (s1, .inl (G.2.1.1, 256, .inl bits))]) F (c_X6_locationOf l G p0 p1) okS_X6_locationOf k_ml_X6_104 rfl rfl ⟨Nat.le_of_ble_eq_true rfl, Nat.le_of_ble_eq_true rfl⟩ hN hK hP hD hS hA [] [0, 1, 2, 3] [0, 1, 2, 3] (by decide) rfl rfl (by decide) (by decide) (by decide) rfl rfl rfl hl.1 (Nat.le_of_ble_eq_true rfl) dX6_idealNextCycle_8 ⟨Nat.le_of_ble_eq_true rfl, Nat.le_of_ble_eq_true rfl⟩ (fun H locs hP hD hS => ?_)
    refine gV (As := [.int (f_X6_locationOf p0 p1)]) (rest := []) (wr := []) (ws' := [(z0, .inr (9, [.ref c0, .ref c0q, .ref c0u, .ref c0v, .int sv, .int sw, .ref a0, .ref b0])), (c0, .inr (6, [.ref s0, .ref k0, .ref i0, .ref o0, .ref x0, .int et, .int wt, .int tm, .int sta, .int he, .int ac, .int ov])), (s0, .inr (8, [.ref s1, .ref s2, .ref s3, .int dr])), (s1, .inl (G.2.1.1, 256, .inl bits))]) F (c_X6_cycleAfter l G z0 c0 c0q c0u c0v a0 b0 sv sw s0 k0 i0 o0 x0 et wt tm sta he ac ov s1 s2 s3 dr bits (f_X6_locationOf p0 p1)) okV_X6_cycleAfter k_ml_X6_251 rfl rfl ⟨Nat.le_of_ble_eq_true rfl, Nat.le_of_ble_eq_true rfl⟩ hN hK hP hD hS hA [0, 1, 2, 3] [] [0, 1, 2, 3] (by decide) rfl rfl (by decide) (by decide) (by decide) rfl (q0 := 0) rfl rfl rfl rfl hl.1 (Nat.le_of_ble_eq_true rfl) dX6_idealNextCycle_11 ⟨Nat.le_of_ble_eq_true rfl, Nat.le_of_ble_eq_true rfl⟩ (fun H locs hP hD hS => ?_)
    have ef : (f_X6_idealNextCycle bits p0 p1) = (f_X6_cycleAfter bits (f_X6_locationOf p0 p1)) := (if_pos c_1)
    refine gxOf ((if_pos c_1)) ?_
    exact gRetI F hr hlocks hK hP hD hS (by rw [ef]) rfl (Nat.le_of_ble_eq_true rfl) (Nat.le_of_ble_eq_true rfl) dX6_idealNextCycle_14
  · have c_1 : ¬ (th_X6_requireLocation p0 p1) = none := (by rw [x9]; exact Option.some_ne_none _)
    exact gxOut hlocks htab hK hP hD hS h91 h92 h93 (((if_neg c_1)).trans x9) (Nat.le_of_ble_eq_true rfl) (Nat.le_of_ble_eq_true rfl)
theorem okV_X6_idealNextCycle : gOkV yX6_idealNextCycle cX6_idealNextCycle 3 (some .int) 2 := ⟨⟨k_im_X6_idealNextCycle, k_se_X6_idealNextCycle, k_in_X6, k_cd_X6_idealNextCycle⟩, by decide, by decide, by decide +kernel⟩
def f_X6_bestFreeCycle (bits : Nat → Int32) (p0 : Int32) (p1 : Int32) (p2 : Int32) : Int32 :=
  if (th_X6_requireLocation p0 p1) = none then
    if (th_X6_requireTank p2) = none then
      (f_X6_freeCycleAfter bits (f_X6_locationOf p0 p1) p2)
    else
      0
  else
    0
def th_X6_bestFreeCycle (p0 : Int32) (p1 : Int32) (p2 : Int32) : Option String :=
  if (th_X6_requireLocation p0 p1) = none then
    if (th_X6_requireTank p2) = none then
      none
    else
      (th_X6_requireTank p2)
  else
    (th_X6_requireLocation p0 p1)
set_option maxRecDepth 100000 in
set_option maxHeartbeats 4000000 in
theorem c_X6_bestFreeCycle (l : Launch) (hfl : l.stackTraces = false) (G : gG) (z0 : Nat) (c0 : Nat) (c0q : Nat) (c0u : Nat) (c0v : Nat) (a0 : Nat) (b0 : Nat) (sv : Int32) (sw : Int32) (s0 : Nat) (k0 : Nat) (i0 : Nat) (o0 : Nat) (x0 : Nat) (et : Int32) (wt : Int32) (tm : Int32) (sta : Int32) (he : Int32) (ac : Int32) (ov : Int32) (s1 : Nat) (s2 : Nat) (s3 : Nat) (dr : Int32) (bits : Nat → Int32) (p0 : Int32) (p1 : Int32) (p2 : Int32) : gX l G yX6_bestFreeCycle cX6_bestFreeCycle 4 (some .int) { frames := 7, cells := 2, slots := 12, locals := 130 } [.ref z0, .int p0, .int p1, .int p2] [(z0, .inr (9, [.ref c0, .ref c0q, .ref c0u, .ref c0v, .int sv, .int sw, .ref a0, .ref b0])), (c0, .inr (6, [.ref s0, .ref k0, .ref i0, .ref o0, .ref x0, .int et, .int wt, .int tm, .int sta, .int he, .int ac, .int ov])), (s0, .inr (8, [.ref s1, .ref s2, .ref s3, .int dr])), (s1, .inl (G.2.1.1, 256, .inl bits))] (th_X6_bestFreeCycle p0 p1 p2) (some (.int (f_X6_bestFreeCycle bits p0 p1 p2))) [(z0, .inr (9, [.ref c0, .ref c0q, .ref c0u, .ref c0v, .int sv, .int sw, .ref a0, .ref b0])), (c0, .inr (6, [.ref s0, .ref k0, .ref i0, .ref o0, .ref x0, .int et, .int wt, .int tm, .int sta, .int he, .int ac, .int ov])), (s0, .inr (8, [.ref s1, .ref s2, .ref s3, .int dr])), (s1, .inl (G.2.1.1, 256, .inl bits))] 2 12 := by
  refine gxBegin (by decide +kernel) (Nat.le_of_ble_eq_true rfl) (fun p e s m args below meth c A F hr hlocks htab hN hSt hK hP hD hA hS ls hl => ?_)
  obtain ⟨hx, hb, hml, hown, hts⟩ := id F
  replace hP : va_P G.1 vwCl [(z0, .inr (9, [.ref c0, .ref c0q, .ref c0u, .ref c0v, .int sv, .int sw, .ref a0, .ref b0])), (c0, .inr (6, [.ref s0, .ref k0, .ref i0, .ref o0, .ref x0, .int et, .int wt, .int tm, .int sta, .int he, .int ac, .int ov])), (s0, .inr (8, [.ref s1, .ref s2, .ref s3, .int dr])), (s1, .inl (G.2.1.1, 256, .inl bits))] s.heap := hP
  replace hl : lv_has ls 4 [(0, .ref z0), (1, .int p0), (2, .int p1), (3, .int p2)] := hl
  refine lv_iload_n hx hb dX6_bestFreeCycle_0 rfl (lv_at hl 1 rfl) ?_
  refine lv_iload_n hx hb dX6_bestFreeCycle_1 rfl (lv_at hl 2 rfl) ?_
  refine gxS (As := [.int p0, .int p1]) (rest := []) (wr := [(z0, .inr (9, [.ref c0, .ref c0q, .ref c0u, .ref c0v, .int sv, .int sw, .ref a0, .ref b0])), (c0, .inr (6, [.ref s0, .ref k0, .ref i0, .ref o0, .ref x0, .int et, .int wt, .int tm, .int sta, .int he, .int ac, .int ov])), (s0, .inr (8, [.ref s1, .ref s2, .ref s3, .int dr])), (s1, .inl (G.2.1.1, 256, .inl bits))]) (ws' := [(z0, .inr (9, [.ref c0, .ref c0q, .ref c0u, .ref c0v, .int sv, .int sw, .ref a0, .ref b0])), (c0, .inr (6, [.ref s0, .ref k0, .ref i0, .ref o0, .ref x0, .int et, .int wt, .int tm, .int sta, .int he, .int ac, .int ov])), (s0, .inr (8, [.ref s1, .ref s2, .ref s3, .int dr])), (s1, .inl (G.2.1.1, 256, .inl bits))]) F (c_X6_requireLocation l hfl G p0 p1) okS_X6_requireLocation k_ml_X6_101 rfl rfl ⟨Nat.le_of_ble_eq_true rfl, Nat.le_of_ble_eq_true rfl⟩ hN hSt hK hP hD hS hA [] [0, 1, 2, 3] [0, 1, 2, 3] (by decide) rfl rfl (by decide) (by decide) (by decide) rfl rfl rfl rfl hl.1 (Nat.le_of_ble_eq_true rfl) dX6_bestFreeCycle_2 ⟨Nat.le_of_ble_eq_true rfl, Nat.le_of_ble_eq_true rfl⟩ (fun c_1 H locs hP hD hS => ?_) (fun E9 ce9 q9 H locs x9 hP hD hS h91 h92 h93 => ?_)
  · skip
    refine lv_iload_n hx hb dX6_bestFreeCycle_5 rfl (lv_at hl 3 rfl) ?_
    refine gxS (As := [.int p2]) (rest := []) (wr := [(z0, .inr (9, [.ref c0, .ref c0q, .ref c0u, .ref c0v, .int sv, .int sw, .ref a0, .ref b0])), (c0, .inr (6, [.ref s0, .ref k0, .ref i0, .ref o0, .ref x0, .int et, .int wt, .int tm, .int sta, .int he, .int ac, .int ov])), (s0, .inr (8, [.ref s1, .ref s2, .ref s3, .int dr])), (s1, .inl (G.2.1.1, 256, .inl bits))]) (ws' := [(z0, .inr (9, [.ref c0, .ref c0q, .ref c0u, .ref c0v, .int sv, .int sw, .ref a0, .ref b0])), (c0, .inr (6, [.ref s0, .ref k0, .ref i0, .ref o0, .ref x0, .int et, .int wt, .int tm, .int sta, .int he, .int ac, .int ov])), (s0, .inr (8, [.ref s1, .ref s2, .ref s3, .int dr])), (s1, .inl (G.2.1.1, 256, .inl bits))]) F (c_X6_requireTank l hfl G p2) okS_X6_requireTank k_ml_X6_114 rfl rfl ⟨Nat.le_of_ble_eq_true rfl, Nat.le_of_ble_eq_true rfl⟩ hN hSt hK hP hD hS hA [] [0, 1, 2, 3] [0, 1, 2, 3] (by decide) rfl rfl (by decide) (by decide) (by decide) rfl rfl rfl rfl hl.1 (Nat.le_of_ble_eq_true rfl) dX6_bestFreeCycle_6 ⟨Nat.le_of_ble_eq_true rfl, Nat.le_of_ble_eq_true rfl⟩ (fun c_2 H locs hP hD hS => ?_) (fun E9 ce9 q9 H locs x9 hP hD hS h91 h92 h93 => ?_)
    · skip
      refine lv_aload_n hx hb dX6_bestFreeCycle_9 rfl (lv_at hl 0 rfl) ?_
      refine lv_iload_n hx hb dX6_bestFreeCycle_10 rfl (lv_at hl 1 rfl) ?_
      refine lv_iload_n hx hb dX6_bestFreeCycle_11 rfl (lv_at hl 2 rfl) ?_
      refine gS (As := [.int p0, .int p1]) (rest := [.ref z0]) (wr := [(z0, .inr (9, [.ref c0, .ref c0q, .ref c0u, .ref c0v, .int sv, .int sw, .ref a0, .ref b0])), (c0, .inr (6, [.ref s0, .ref k0, .ref i0, .ref o0, .ref x0, .int et, .int wt, .int tm, .int sta, .int he, .int ac, .int ov])), (s0, .inr (8, [.ref s1, .ref s2, .ref s3, .int dr])), (s1, .inl (G.2.1.1, 256, .inl bits))]) (ws' := [(z0, .inr (9, [.ref c0, .ref c0q, .ref c0u, .ref c0v, .int sv, .int sw, .ref a0, .ref b0])), (c0, .inr (6, [.ref s0, .ref k0, .ref i0, .ref o0, .ref x0, .int et, .int wt, .int tm, .int sta, .int he, .int ac, .int ov])), (s0, .inr (8, [.ref s1, .ref s2, .ref s3, .int dr])), (s1, .inl (G.2.1.1, 256, .inl bits))]) F (c_X6_locationOf l G p0 p1) okS_X6_locationOf k_ml_X6_104 rfl rfl ⟨Nat.le_of_ble_eq_true rfl, Nat.le_of_ble_eq_true rfl⟩ hN hK hP hD hS hA [] [0, 1, 2, 3] [0, 1, 2, 3] (by decide) rfl rfl (by decide) (by decide) (by decide) rfl rfl rfl hl.1 (Nat.le_of_ble_eq_true rfl) dX6_bestFreeCycle_12 ⟨Nat.le_of_ble_eq_true rfl, Nat.le_of_ble_eq_true rfl⟩ (fun H locs hP hD hS => ?_)
      refine lv_iload_n hx hb dX6_bestFreeCycle_15 rfl (lv_at hl 3 rfl) ?_
      refine gV (As := [.int (f_X6_locationOf p0 p1), .int p2]) (rest := []) (wr := []) (ws' := [(z0, .inr (9, [.ref c0, .ref c0q, .ref c0u, .ref c0v, .int sv, .int sw, .ref a0, .ref b0])), (c0, .inr (6, [.ref s0, .ref k0, .ref i0, .ref o0, .ref x0, .int et, .int wt, .int tm, .int sta, .int he, .int ac, .int ov])), (s0, .inr (8, [.ref s1, .ref s2, .ref s3, .int dr])), (s1, .inl (G.2.1.1, 256, .inl bits))]) F (c_X6_freeCycleAfter l G z0 c0 c0q c0u c0v a0 b0 sv sw s0 k0 i0 o0 x0 et wt tm sta he ac ov s1 s2 s3 dr bits (f_X6_locationOf p0 p1) p2) okV_X6_freeCycleAfter k_ml_X6_271 rfl rfl ⟨Nat.le_of_ble_eq_true rfl, Nat.le_of_ble_eq_true rfl⟩ hN hK hP hD hS hA [0, 1, 2, 3] [] [0, 1, 2, 3] (by decide) rfl rfl (by decide) (by decide) (by decide) rfl (q0 := 0) rfl rfl rfl rfl hl.1 (Nat.le_of_ble_eq_true rfl) dX6_bestFreeCycle_16 ⟨Nat.le_of_ble_eq_true rfl, Nat.le_of_ble_eq_true rfl⟩ (fun H locs hP hD hS => ?_)
      have ef : (f_X6_bestFreeCycle bits p0 p1 p2) = (f_X6_freeCycleAfter bits (f_X6_locationOf p0 p1) p2) := ((if_pos c_1).trans (if_pos c_2))
      refine gxOf (((if_pos c_1).trans (if_pos c_2))) ?_
      exact gRetI F hr hlocks hK hP hD hS (by rw [ef]) rfl (Nat.le_of_ble_eq_true rfl) (Nat.le_of_ble_eq_true rfl) dX6_bestFreeCycle_19
    · have c_2 : ¬ (th_X6_requireTank p2) = none := (by rw [x9]; exact Option.some_ne_none _)
      exact gxOut hlocks htab hK hP hD hS h91 h92 h93 ((((if_pos c_1).trans (if_neg c_2))).trans x9) (Nat.le_of_ble_eq_true rfl) (Nat.le_of_ble_eq_true rfl)
  · have c_1 : ¬ (th_X6_requireLocation p0 p1) = none := (by rw [x9]; exact Option.some_ne_none _)
    exact gxOut hlocks htab hK hP hD hS h91 h92 h93 (((if_neg c_1)).trans x9) (Nat.le_of_ble_eq_true rfl) (Nat.le_of_ble_eq_true rfl)
theorem okV_X6_bestFreeCycle : gOkV yX6_bestFreeCycle cX6_bestFreeCycle 4 (some .int) 3 := ⟨⟨k_im_X6_bestFreeCycle, k_se_X6_bestFreeCycle, k_in_X6, k_cd_X6_bestFreeCycle⟩, by decide, by decide, by decide +kernel⟩
def f_X6_moveNext (bits : Nat → Int32) (p0 : Int32) (p1 : Int32) (p2 : Int32) : Int32 × (Nat → Int32) :=
  if (th_X6_requireLocation p0 p1) = none then
    if (th_X6_requireTank p2) = none then
      if (f_X6_freeCycleAfter bits (f_X6_locationOf p0 p1) p2) = (-1) then
        (0, bits)
      else
        if (f_X3_next (f_X5_wordAt bits (f_X6_locationOf p0 p1))) = (f_X6_locationOf p0 p1) then
          (0, bits)
        else
          ((f_X6_freeCycleAfter bits (f_X6_locationOf p0 p1) p2), (f_X5_putWord (f_X5_putWord (f_X5_putWord bits (f_X6_locationOf p2 (f_X6_freeCycleAfter bits (f_X6_locationOf p0 p1) p2)) (f_X5_wordAt bits (f_X3_next (f_X5_wordAt bits (f_X6_locationOf p0 p1))))) (f_X3_next (f_X5_wordAt bits (f_X6_locationOf p0 p1))) 0) (f_X6_locationOf p0 p1) (f_X3_withNext (f_X5_wordAt bits (f_X6_locationOf p0 p1)) (f_X6_locationOf p2 (f_X6_freeCycleAfter bits (f_X6_locationOf p0 p1) p2)))))
    else
      (0, bits)
  else
    (0, bits)
def th_X6_moveNext (bits : Nat → Int32) (p0 : Int32) (p1 : Int32) (p2 : Int32) : Option String :=
  if (th_X6_requireLocation p0 p1) = none then
    if (th_X6_requireTank p2) = none then
      if (f_X6_freeCycleAfter bits (f_X6_locationOf p0 p1) p2) = (-1) then
        (some "java/lang/IllegalStateException")
      else
        if (f_X3_next (f_X5_wordAt bits (f_X6_locationOf p0 p1))) = (f_X6_locationOf p0 p1) then
          (some "java/lang/IllegalStateException")
        else
          none
    else
      (th_X6_requireTank p2)
  else
    (th_X6_requireLocation p0 p1)
set_option maxRecDepth 100000 in
set_option maxHeartbeats 4000000 in
theorem c_X6_moveNext (l : Launch) (hfl : l.stackTraces = false) (G : gG) (z0 : Nat) (c0 : Nat) (c0q : Nat) (c0u : Nat) (c0v : Nat) (a0 : Nat) (b0 : Nat) (sv : Int32) (sw : Int32) (s0 : Nat) (k0 : Nat) (i0 : Nat) (o0 : Nat) (x0 : Nat) (et : Int32) (wt : Int32) (tm : Int32) (sta : Int32) (he : Int32) (ac : Int32) (ov : Int32) (s1 : Nat) (s2 : Nat) (s3 : Nat) (dr : Int32) (bits : Nat → Int32) (p0 : Int32) (p1 : Int32) (p2 : Int32) : gX l G yX6_moveNext cX6_moveNext 10 (some .int) { frames := 7, cells := 3, slots := 18, locals := 130 } [.ref z0, .int p0, .int p1, .int p2] [(z0, .inr (9, [.ref c0, .ref c0q, .ref c0u, .ref c0v, .int sv, .int sw, .ref a0, .ref b0])), (c0, .inr (6, [.ref s0, .ref k0, .ref i0, .ref o0, .ref x0, .int et, .int wt, .int tm, .int sta, .int he, .int ac, .int ov])), (s0, .inr (8, [.ref s1, .ref s2, .ref s3, .int dr])), (s1, .inl (G.2.1.1, 256, .inl bits))] (th_X6_moveNext bits p0 p1 p2) (some (.int ((f_X6_moveNext bits p0 p1 p2).1))) [(z0, .inr (9, [.ref c0, .ref c0q, .ref c0u, .ref c0v, .int sv, .int sw, .ref a0, .ref b0])), (c0, .inr (6, [.ref s0, .ref k0, .ref i0, .ref o0, .ref x0, .int et, .int wt, .int tm, .int sta, .int he, .int ac, .int ov])), (s0, .inr (8, [.ref s1, .ref s2, .ref s3, .int dr])), (s1, .inl (G.2.1.1, 256, .inl ((f_X6_moveNext bits p0 p1 p2).2)))] 3 18 := by
  refine gxBegin (by decide +kernel) (Nat.le_of_ble_eq_true rfl) (fun p e s m args below meth c A F hr hlocks htab hN hSt hK hP hD hA hS ls hl => ?_)
  obtain ⟨hx, hb, hml, hown, hts⟩ := id F
  replace hP : va_P G.1 vwCl [(z0, .inr (9, [.ref c0, .ref c0q, .ref c0u, .ref c0v, .int sv, .int sw, .ref a0, .ref b0])), (c0, .inr (6, [.ref s0, .ref k0, .ref i0, .ref o0, .ref x0, .int et, .int wt, .int tm, .int sta, .int he, .int ac, .int ov])), (s0, .inr (8, [.ref s1, .ref s2, .ref s3, .int dr])), (s1, .inl (G.2.1.1, 256, .inl bits))] s.heap := hP
  replace hl : lv_has ls 10 [(0, .ref z0), (1, .int p0), (2, .int p1), (3, .int p2)] := hl
  refine lv_iload_n hx hb dX6_moveNext_0 rfl (lv_at hl 1 rfl) ?_
  refine lv_iload_n hx hb dX6_moveNext_1 rfl (lv_at hl 2 rfl) ?_
  refine gxS (As := [.int p0, .int p1]) (rest := []) (wr := [(z0, .inr (9, [.ref c0, .ref c0q, .ref c0u, .ref c0v, .int sv, .int sw, .ref a0, .ref b0])), (c0, .inr (6, [.ref s0, .ref k0, .ref i0, .ref o0, .ref x0, .int et, .int wt, .int tm, .int sta, .int he, .int ac, .int ov])), (s0, .inr (8, [.ref s1, .ref s2, .ref s3, .int dr])), (s1, .inl (G.2.1.1, 256, .inl bits))]) (ws' := [(z0, .inr (9, [.ref c0, .ref c0q, .ref c0u, .ref c0v, .int sv, .int sw, .ref a0, .ref b0])), (c0, .inr (6, [.ref s0, .ref k0, .ref i0, .ref o0, .ref x0, .int et, .int wt, .int tm, .int sta, .int he, .int ac, .int ov])), (s0, .inr (8, [.ref s1, .ref s2, .ref s3, .int dr])), (s1, .inl (G.2.1.1, 256, .inl bits))]) F (c_X6_requireLocation l hfl G p0 p1) okS_X6_requireLocation k_ml_X6_101 rfl rfl ⟨Nat.le_of_ble_eq_true rfl, Nat.le_of_ble_eq_true rfl⟩ hN hSt hK hP hD hS hA [] [0, 1, 2, 3] [0, 1, 2, 3] (by decide) rfl rfl (by decide) (by decide) (by decide) rfl rfl rfl rfl hl.1 (Nat.le_of_ble_eq_true rfl) dX6_moveNext_2 ⟨Nat.le_of_ble_eq_true rfl, Nat.le_of_ble_eq_true rfl⟩ (fun c_1 H locs hP hD hS => ?_) (fun E9 ce9 q9 H locs x9 hP hD hS h91 h92 h93 => ?_)
  · skip
    refine lv_iload_n hx hb dX6_moveNext_5 rfl (lv_at hl 3 rfl) ?_
    refine gxS (As := [.int p2]) (rest := []) (wr := [(z0, .inr (9, [.ref c0, .ref c0q, .ref c0u, .ref c0v, .int sv, .int sw, .ref a0, .ref b0])), (c0, .inr (6, [.ref s0, .ref k0, .ref i0, .ref o0, .ref x0, .int et, .int wt, .int tm, .int sta, .int he, .int ac, .int ov])), (s0, .inr (8, [.ref s1, .ref s2, .ref s3, .int dr])), (s1, .inl (G.2.1.1, 256, .inl bits))]) (ws' := [(z0, .inr (9, [.ref c0, .ref c0q, .ref c0u, .ref c0v, .int sv, .int sw, .ref a0, .ref b0])), (c0, .inr (6, [.ref s0, .ref k0, .ref i0, .ref o0, .ref x0, .int et, .int wt, .int tm, .int sta, .int he, .int ac, .int ov])), (s0, .inr (8, [.ref s1, .ref s2, .ref s3, .int dr])), (s1, .inl (G.2.1.1, 256, .inl bits))]) F (c_X6_requireTank l hfl G p2) okS_X6_requireTank k_ml_X6_114 rfl rfl ⟨Nat.le_of_ble_eq_true rfl, Nat.le_of_ble_eq_true rfl⟩ hN hSt hK hP hD hS hA [] [0, 1, 2, 3] [0, 1, 2, 3] (by decide) rfl rfl (by decide) (by decide) (by decide) rfl rfl rfl rfl hl.1 (Nat.le_of_ble_eq_true rfl) dX6_moveNext_6 ⟨Nat.le_of_ble_eq_true rfl, Nat.le_of_ble_eq_true rfl⟩ (fun c_2 H locs hP hD hS => ?_) (fun E9 ce9 q9 H locs x9 hP hD hS h91 h92 h93 => ?_)
    · skip
      refine lv_iload_n hx hb dX6_moveNext_9 rfl (lv_at hl 1 rfl) ?_
      refine lv_iload_n hx hb dX6_moveNext_10 rfl (lv_at hl 2 rfl) ?_
      refine gS (As := [.int p0, .int p1]) (rest := []) (wr := [(z0, .inr (9, [.ref c0, .ref c0q, .ref c0u, .ref c0v, .int sv, .int sw, .ref a0, .ref b0])), (c0, .inr (6, [.ref s0, .ref k0, .ref i0, .ref o0, .ref x0, .int et, .int wt, .int tm, .int sta, .int he, .int ac, .int ov])), (s0, .inr (8, [.ref s1, .ref s2, .ref s3, .int dr])), (s1, .inl (G.2.1.1, 256, .inl bits))]) (ws' := [(z0, .inr (9, [.ref c0, .ref c0q, .ref c0u, .ref c0v, .int sv, .int sw, .ref a0, .ref b0])), (c0, .inr (6, [.ref s0, .ref k0, .ref i0, .ref o0, .ref x0, .int et, .int wt, .int tm, .int sta, .int he, .int ac, .int ov])), (s0, .inr (8, [.ref s1, .ref s2, .ref s3, .int dr])), (s1, .inl (G.2.1.1, 256, .inl bits))]) F (c_X6_locationOf l G p0 p1) okS_X6_locationOf k_ml_X6_104 rfl rfl ⟨Nat.le_of_ble_eq_true rfl, Nat.le_of_ble_eq_true rfl⟩ hN hK hP hD hS hA [] [0, 1, 2, 3] [0, 1, 2, 3] (by decide) rfl rfl (by decide) (by decide) (by decide) rfl rfl rfl hl.1 (Nat.le_of_ble_eq_true rfl) dX6_moveNext_11 ⟨Nat.le_of_ble_eq_true rfl, Nat.le_of_ble_eq_true rfl⟩ (fun H locs hP hD hS => ?_)
      refine lv_istore (lv' := [(4, .int (f_X6_locationOf p0 p1)), (0, .ref z0), (1, .int p0), (2, .int p1), (3, .int p2)]) hx hb dX6_moveNext_14 hl (by decide) rfl (fun ls hl => ?_)
      refine lv_aload_n hx hb dX6_moveNext_16 rfl (lv_at hl 1 rfl) ?_
      refine lv_iload hx hb dX6_moveNext_17 (lv_at hl 0 rfl) ?_
      refine lv_iload_n hx hb dX6_moveNext_19 rfl (lv_at hl 4 rfl) ?_
      refine gV (As := [.int (f_X6_locationOf p0 p1), .int p2]) (rest := []) (wr := []) (ws' := [(z0, .inr (9, [.ref c0, .ref c0q, .ref c0u, .ref c0v, .int sv, .int sw, .ref a0, .ref b0])), (c0, .inr (6, [.ref s0, .ref k0, .ref i0, .ref o0, .ref x0, .int et, .int wt, .int tm, .int sta, .int he, .int ac, .int ov])), (s0, .inr (8, [.ref s1, .ref s2, .ref s3, .int dr])), (s1, .inl (G.2.1.1, 256, .inl bits))]) F (c_X6_freeCycleAfter l G z0 c0 c0q c0u c0v a0 b0 sv sw s0 k0 i0 o0 x0 et wt tm sta he ac ov s1 s2 s3 dr bits (f_X6_locationOf p0 p1) p2) okV_X6_freeCycleAfter k_ml_X6_271 rfl rfl ⟨Nat.le_of_ble_eq_true rfl, Nat.le_of_ble_eq_true rfl⟩ hN hK hP hD hS hA [0, 1, 2, 3] [] [0, 1, 2, 3] (by decide) rfl rfl (by decide) (by decide) (by decide) rfl (q0 := 0) rfl rfl rfl rfl hl.1 (Nat.le_of_ble_eq_true rfl) dX6_moveNext_20 ⟨Nat.le_of_ble_eq_true rfl, Nat.le_of_ble_eq_true rfl⟩ (fun H locs hP hD hS => ?_)
      refine lv_istore (lv' := [(5, .int (f_X6_freeCycleAfter bits (f_X6_locationOf p0 p1) p2)), (4, .int (f_X6_locationOf p0 p1)), (0, .ref z0), (1, .int p0), (2, .int p1), (3, .int p2)]) hx hb dX6_moveNext_23 hl (by decide) rfl (fun ls hl => ?_)
      refine lv_aload_n hx hb dX6_moveNext_25 rfl (lv_at hl 2 rfl) ?_
      refine va_get (D := G.1) (ci := 9) (v := .ref c0) (C := RX6) (T := TX6) (N := 8) hx hb hts in_X6 hown hK hP 0 rfl rfl 0 (by decide) (hts _ k_fl_X6_12) (fun _ h9 => h9) rfl dX6_moveNext_26 ?_
      refine va_get (D := G.1) (ci := 6) (v := .ref s0) (C := RX2) (T := TX2) (N := 12) hx hb hts in_X2 hown hK hP 1 rfl rfl 0 (by decide) (hts _ k_fl_X6_72) (fun _ h9 => h9) rfl dX6_moveNext_29 ?_
      refine lv_iload hx hb dX6_moveNext_32 (lv_at hl 1 rfl) ?_
      refine gV (As := [.int (f_X6_locationOf p0 p1)]) (rest := []) (wr := [(z0, .inr (9, [.ref c0, .ref c0q, .ref c0u, .ref c0v, .int sv, .int sw, .ref a0, .ref b0])), (c0, .inr (6, [.ref s0, .ref k0, .ref i0, .ref o0, .ref x0, .int et, .int wt, .int tm, .int sta, .int he, .int ac, .int ov]))]) (ws' := [(z0, .inr (9, [.ref c0, .ref c0q, .ref c0u, .ref c0v, .int sv, .int sw, .ref a0, .ref b0])), (c0, .inr (6, [.ref s0, .ref k0, .ref i0, .ref o0, .ref x0, .int et, .int wt, .int tm, .int sta, .int he, .int ac, .int ov])), (s0, .inr (8, [.ref s1, .ref s2, .ref s3, .int dr])), (s1, .inl (G.2.1.1, 256, .inl bits))]) F (c_X5_wordAt l G s0 s1 s2 s3 bits dr (f_X6_locationOf p0 p1)) okV_X5_wordAt k_ml_X6_108 rfl rfl ⟨Nat.le_of_ble_eq_true rfl, Nat.le_of_ble_eq_true rfl⟩ hN hK hP hD hS hA [2, 3] [0, 1] [0, 1, 2, 3] (by decide) rfl rfl (by decide) (by decide) (by decide) rfl (q0 := 2) rfl rfl rfl rfl hl.1 (Nat.le_of_ble_eq_true rfl) dX6_moveNext_34 ⟨Nat.le_of_ble_eq_true rfl, Nat.le_of_ble_eq_true rfl⟩ (fun H locs hP hD hS => ?_)
      refine lv_istore (lv' := [(6, .int (f_X5_wordAt bits (f_X6_locationOf p0 p1))), (5, .int (f_X6_freeCycleAfter bits (f_X6_locationOf p0 p1) p2)), (4, .int (f_X6_locationOf p0 p1)), (0, .ref z0), (1, .int p0), (2, .int p1), (3, .int p2)]) hx hb dX6_moveNext_37 hl (by decide) rfl (fun ls hl => ?_)
      refine lv_iload hx hb dX6_moveNext_39 (lv_at hl 0 rfl) ?_
      refine gS (As := [.int (f_X5_wordAt bits (f_X6_locationOf p0 p1))]) (rest := []) (wr := [(z0, .inr (9, [.ref c0, .ref c0q, .ref c0u, .ref c0v, .int sv, .int sw, .ref a0, .ref b0])), (c0, .inr (6, [.ref s0, .ref k0, .ref i0, .ref o0, .ref x0, .int et, .int wt, .int tm, .int sta, .int he, .int ac, .int ov])), (s0, .inr (8, [.ref s1, .ref s2, .ref s3, .int dr])), (s1, .inl (G.2.1.1, 256, .inl bits))]) (ws' := [(z0, .inr (9, [.ref c0, .ref c0q, .ref c0u, .ref c0v, .int sv, .int sw, .ref a0, .ref b0])), (c0, .inr (6, [.ref s0, .ref k0, .ref i0, .ref o0, .ref x0, .int et, .int wt, .int tm, .int sta, .int he, .int ac, .int ov])), (s0, .inr (8, [.ref s1, .ref s2, .ref s3, .int dr])), (s1, .inl (G.2.1.1, 256, .inl bits))]) F (c_X3_next l G (f_X5_wordAt bits (f_X6_locationOf p0 p1))) okS_X3_next k_ml_X6_265 rfl rfl ⟨Nat.le_of_ble_eq_true rfl, Nat.le_of_ble_eq_true rfl⟩ hN hK hP hD hS hA [] [0, 1, 2, 3] [0, 1, 2, 3] (by decide) rfl rfl (by decide) (by decide) (by decide) rfl rfl rfl hl.1 (Nat.le_of_ble_eq_true rfl) dX6_moveNext_41 ⟨Nat.le_of_ble_eq_true rfl, Nat.le_of_ble_eq_true rfl⟩ (fun H locs hP hD hS => ?_)
      refine lv_istore (lv' := [(7, .int (f_X3_next (f_X5_wordAt bits (f_X6_locationOf p0 p1)))), (6, .int (f_X5_wordAt bits (f_X6_locationOf p0 p1))), (5, .int (f_X6_freeCycleAfter bits (f_X6_locationOf p0 p1) p2)), (4, .int (f_X6_locationOf p0 p1)), (0, .ref z0), (1, .int p0), (2, .int p1), (3, .int p2)]) hx hb dX6_moveNext_44 hl (by decide) rfl (fun ls hl => ?_)
      refine lv_iload hx hb dX6_moveNext_46 (lv_at hl 2 rfl) ?_
      refine lv_iconst (v := (-1)) hx hb dX6_moveNext_48 (by decide) ?_
      refine lv_icmp_eq (tgt := 59) hx hb dX6_moveNext_49 (by decide) (fun c_3 => ?_) (fun c_3 => ?_)
      · skip
        exact gxThrowW (text := "the next instruction can't be moved") (names := ["java/lang/RuntimeException", "java/lang/Exception"]) F hfl hN hSt hK hP hD hS hlocks htab hl.1 (by decide +kernel) (by decide +kernel) k_cl_X6_43 k_in_java_lang_IllegalStateException (by decide +kernel) xa_X6_47 xb_X6_47 xc_X6_47 dX6_moveNext_59 dX6_moveNext_62 dX6_moveNext_63 dX6_moveNext_66 dX6_moveNext_69 ((if_pos c_1).trans ((if_pos c_2).trans (if_pos c_3))) (by decide) (Nat.le_of_ble_eq_true rfl) (Nat.le_of_ble_eq_true rfl) (Nat.le_of_ble_eq_true rfl) (Nat.le_of_ble_eq_true rfl) (Nat.le_of_ble_eq_true rfl)
      · skip
        refine lv_iload hx hb dX6_moveNext_52 (lv_at hl 0 rfl) ?_
        refine lv_iload hx hb dX6_moveNext_54 (lv_at hl 3 rfl) ?_
        refine lv_icmp_ne (tgt := 70) hx hb dX6_moveNext_56 (by decide) (fun c_4 => ?_) (fun c_4 => ?_)
        · skip
          refine lv_iload_n hx hb dX6_moveNext_70 rfl (lv_at hl 7 rfl) ?_
          refine lv_iload hx hb dX6_moveNext_71 (lv_at hl 2 rfl) ?_
          refine gS (As := [.int p2, .int (f_X6_freeCycleAfter bits (f_X6_locationOf p0 p1) p2)]) (rest := []) (wr := [(z0, .inr (9, [.ref c0, .ref c0q, .ref c0u, .ref c0v, .int sv, .int sw, .ref a0, .ref b0])), (c0, .inr (6, [.ref s0, .ref k0, .ref i0, .ref o0, .ref x0, .int et, .int wt, .int tm, .int sta, .int he, .int ac, .int ov])), (s0, .inr (8, [.ref s1, .ref s2, .ref s3, .int dr])), (s1, .inl (G.2.1.1, 256, .inl bits))]) (ws' := [(z0, .inr (9, [.ref c0, .ref c0q, .ref c0u, .ref c0v, .int sv, .int sw, .ref a0, .ref b0])), (c0, .inr (6, [.ref s0, .ref k0, .ref i0, .ref o0, .ref x0, .int et, .int wt, .int tm, .int sta, .int he, .int ac, .int ov])), (s0, .inr (8, [.ref s1, .ref s2, .ref s3, .int dr])), (s1, .inl (G.2.1.1, 256, .inl bits))]) F (c_X6_locationOf l G p2 (f_X6_freeCycleAfter bits (f_X6_locationOf p0 p1) p2)) okS_X6_locationOf k_ml_X6_104 rfl rfl ⟨Nat.le_of_ble_eq_true rfl, Nat.le_of_ble_eq_true rfl⟩ hN hK hP hD hS hA [] [0, 1, 2, 3] [0, 1, 2, 3] (by decide) rfl rfl (by decide) (by decide) (by decide) rfl rfl rfl hl.1 (Nat.le_of_ble_eq_true rfl) dX6_moveNext_73 ⟨Nat.le_of_ble_eq_true rfl, Nat.le_of_ble_eq_true rfl⟩ (fun H locs hP hD hS => ?_)
          refine lv_istore (lv' := [(8, .int (f_X6_locationOf p2 (f_X6_freeCycleAfter bits (f_X6_locationOf p0 p1) p2))), (7, .int (f_X3_next (f_X5_wordAt bits (f_X6_locationOf p0 p1)))), (6, .int (f_X5_wordAt bits (f_X6_locationOf p0 p1))), (5, .int (f_X6_freeCycleAfter bits (f_X6_locationOf p0 p1) p2)), (4, .int (f_X6_locationOf p0 p1)), (0, .ref z0), (1, .int p0), (2, .int p1), (3, .int p2)]) hx hb dX6_moveNext_76 hl (by decide) rfl (fun ls hl => ?_)
          refine lv_aload_n hx hb dX6_moveNext_78 rfl (lv_at hl 5 rfl) ?_
          refine va_get (D := G.1) (ci := 9) (v := .ref c0) (C := RX6) (T := TX6) (N := 8) hx hb hts in_X6 hown hK hP 0 rfl rfl 0 (by decide) (hts _ k_fl_X6_12) (fun _ h9 => h9) rfl dX6_moveNext_79 ?_
          refine va_get (D := G.1) (ci := 6) (v := .ref s0) (C := RX2) (T := TX2) (N := 12) hx hb hts in_X2 hown hK hP 1 rfl rfl 0 (by decide) (hts _ k_fl_X6_72) (fun _ h9 => h9) rfl dX6_moveNext_82 ?_
          refine lv_iload hx hb dX6_moveNext_85 (lv_at hl 1 rfl) ?_
          refine gV (As := [.int (f_X3_next (f_X5_wordAt bits (f_X6_locationOf p0 p1)))]) (rest := []) (wr := [(z0, .inr (9, [.ref c0, .ref c0q, .ref c0u, .ref c0v, .int sv, .int sw, .ref a0, .ref b0])), (c0, .inr (6, [.ref s0, .ref k0, .ref i0, .ref o0, .ref x0, .int et, .int wt, .int tm, .int sta, .int he, .int ac, .int ov]))]) (ws' := [(z0, .inr (9, [.ref c0, .ref c0q, .ref c0u, .ref c0v, .int sv, .int sw, .ref a0, .ref b0])), (c0, .inr (6, [.ref s0, .ref k0, .ref i0, .ref o0, .ref x0, .int et, .int wt, .int tm, .int sta, .int he, .int ac, .int ov])), (s0, .inr (8, [.ref s1, .ref s2, .ref s3, .int dr])), (s1, .inl (G.2.1.1, 256, .inl bits))]) F (c_X5_wordAt l G s0 s1 s2 s3 bits dr (f_X3_next (f_X5_wordAt bits (f_X6_locationOf p0 p1)))) okV_X5_wordAt k_ml_X6_108 rfl rfl ⟨Nat.le_of_ble_eq_true rfl, Nat.le_of_ble_eq_true rfl⟩ hN hK hP hD hS hA [2, 3] [0, 1] [0, 1, 2, 3] (by decide) rfl rfl (by decide) (by decide) (by decide) rfl (q0 := 2) rfl rfl rfl rfl hl.1 (Nat.le_of_ble_eq_true rfl) dX6_moveNext_87 ⟨Nat.le_of_ble_eq_true rfl, Nat.le_of_ble_eq_true rfl⟩ (fun H locs hP hD hS => ?_)
          refine lv_istore (lv' := [(9, .int (f_X5_wordAt bits (f_X3_next (f_X5_wordAt bits (f_X6_locationOf p0 p1))))), (8, .int (f_X6_locationOf p2 (f_X6_freeCycleAfter bits (f_X6_locationOf p0 p1) p2))), (7, .int (f_X3_next (f_X5_wordAt bits (f_X6_locationOf p0 p1)))), (6, .int (f_X5_wordAt bits (f_X6_locationOf p0 p1))), (5, .int (f_X6_freeCycleAfter bits (f_X6_locationOf p0 p1) p2)), (4, .int (f_X6_locationOf p0 p1)), (0, .ref z0), (1, .int p0), (2, .int p1), (3, .int p2)]) hx hb dX6_moveNext_90 hl (by decide) rfl (fun ls hl => ?_)
          refine lv_aload_n hx hb dX6_moveNext_92 rfl (lv_at hl 6 rfl) ?_
          refine va_get (D := G.1) (ci := 9) (v := .ref c0) (C := RX6) (T := TX6) (N := 8) hx hb hts in_X6 hown hK hP 0 rfl rfl 0 (by decide) (hts _ k_fl_X6_12) (fun _ h9 => h9) rfl dX6_moveNext_93 ?_
          refine va_get (D := G.1) (ci := 6) (v := .ref s0) (C := RX2) (T := TX2) (N := 12) hx hb hts in_X2 hown hK hP 1 rfl rfl 0 (by decide) (hts _ k_fl_X6_72) (fun _ h9 => h9) rfl dX6_moveNext_96 ?_
          refine lv_iload hx hb dX6_moveNext_99 (lv_at hl 1 rfl) ?_
          refine lv_iload hx hb dX6_moveNext_101 (lv_at hl 0 rfl) ?_
          refine gV (As := [.int (f_X6_locationOf p2 (f_X6_freeCycleAfter bits (f_X6_locationOf p0 p1) p2)), .int (f_X5_wordAt bits (f_X3_next (f_X5_wordAt bits (f_X6_locationOf p0 p1))))]) (rest := []) (wr := [(z0, .inr (9, [.ref c0, .ref c0q, .ref c0u, .ref c0v, .int sv, .int sw, .ref a0, .ref b0])), (c0, .inr (6, [.ref s0, .ref k0, .ref i0, .ref o0, .ref x0, .int et, .int wt, .int tm, .int sta, .int he, .int ac, .int ov]))]) (ws' := [(z0, .inr (9, [.ref c0, .ref c0q, .ref c0u, .ref c0v, .int sv, .int sw, .ref a0, .ref b0])), (c0, .inr (6, [.ref s0, .ref k0, .ref i0, .ref o0, .ref x0, .int et, .int wt, .int tm, .int sta, .int he, .int ac, .int ov])), (s0, .inr (8, [.ref s1, .ref s2, .ref s3, .int dr])), (s1, .inl (G.2.1.1, 256, .inl (f_X5_putWord bits (f_X6_locationOf p2 (f_X6_freeCycleAfter bits (f_X6_locationOf p0 p1) p2)) (f_X5_wordAt bits (f_X3_next (f_X5_wordAt bits (f_X6_locationOf p0 p1)))))))]) F (c_X5_putWord l G s0 s1 s2 s3 bits dr (f_X6_locationOf p2 (f_X6_freeCycleAfter bits (f_X6_locationOf p0 p1) p2)) (f_X5_wordAt bits (f_X3_next (f_X5_wordAt bits (f_X6_locationOf p0 p1))))) okV_X5_putWord k_ml_X6_80 rfl rfl ⟨Nat.le_of_ble_eq_true rfl, Nat.le_of_ble_eq_true rfl⟩ hN hK hP hD hS hA [2, 3] [0, 1] [0, 1, 2, 3] (by decide) rfl rfl (by decide) (by decide) (by decide) rfl (q0 := 2) rfl rfl rfl rfl hl.1 (Nat.le_of_ble_eq_true rfl) dX6_moveNext_103 ⟨Nat.le_of_ble_eq_true rfl, Nat.le_of_ble_eq_true rfl⟩ (fun H locs hP hD hS => ?_)
          refine lv_aload_n hx hb dX6_moveNext_106 rfl (lv_at hl 6 rfl) ?_
          refine va_get (D := G.1) (ci := 9) (v := .ref c0) (C := RX6) (T := TX6) (N := 8) hx hb hts in_X6 hown hK hP 0 rfl rfl 0 (by decide) (hts _ k_fl_X6_12) (fun _ h9 => h9) rfl dX6_moveNext_107 ?_
          refine va_get (D := G.1) (ci := 6) (v := .ref s0) (C := RX2) (T := TX2) (N := 12) hx hb hts in_X2 hown hK hP 1 rfl rfl 0 (by decide) (hts _ k_fl_X6_72) (fun _ h9 => h9) rfl dX6_moveNext_110 ?_
          refine lv_iload hx hb dX6_moveNext_113 (lv_at hl 2 rfl) ?_
          refine lv_iconst (v := 0) hx hb dX6_moveNext_115 (by decide) ?_
          refine gV (As := [.int (f_X3_next (f_X5_wordAt bits (f_X6_locationOf p0 p1))), .int 0]) (rest := []) (wr := [(z0, .inr (9, [.ref c0, .ref c0q, .ref c0u, .ref c0v, .int sv, .int sw, .ref a0, .ref b0])), (c0, .inr (6, [.ref s0, .ref k0, .ref i0, .ref o0, .ref x0, .int et, .int wt, .int tm, .int sta, .int he, .int ac, .int ov]))]) (ws' := [(z0, .inr (9, [.ref c0, .ref c0q, .ref c0u, .ref c0v, .int sv, .int sw, .ref a0, .ref b0])), (c0, .inr (6, [.ref s0, .ref k0, .ref i0, .ref o0, .ref x0, .int et, .int wt, .int tm, .int sta, .int he, .int ac, .int ov])), (s0, .inr (8, [.ref s1, .ref s2, .ref s3, .int dr])), (s1, .inl (G.2.1.1, 256, .inl (f_X5_putWord (f_X5_putWord bits (f_X6_locationOf p2 (f_X6_freeCycleAfter bits (f_X6_locationOf p0 p1) p2)) (f_X5_wordAt bits (f_X3_next (f_X5_wordAt bits (f_X6_locationOf p0 p1))))) (f_X3_next (f_X5_wordAt bits (f_X6_locationOf p0 p1))) 0)))]) F (c_X5_putWord l G s0 s1 s2 s3 (f_X5_putWord bits (f_X6_locationOf p2 (f_X6_freeCycleAfter bits (f_X6_locationOf p0 p1) p2)) (f_X5_wordAt bits (f_X3_next (f_X5_wordAt bits (f_X6_locationOf p0 p1))))) dr (f_X3_next (f_X5_wordAt bits (f_X6_locationOf p0 p1))) 0) okV_X5_putWord k_ml_X6_80 rfl rfl ⟨Nat.le_of_ble_eq_true rfl, Nat.le_of_ble_eq_true rfl⟩ hN hK hP hD hS hA [2, 3] [0, 1] [0, 1, 2, 3] (by decide) rfl rfl (by decide) (by decide) (by decide) rfl (q0 := 2) rfl rfl rfl rfl hl.1 (Nat.le_of_ble_eq_true rfl) dX6_moveNext_116 ⟨Nat.le_of_ble_eq_true rfl, Nat.le_of_ble_eq_true rfl⟩ (fun H locs hP hD hS => ?_)
          refine lv_aload_n hx hb dX6_moveNext_119 rfl (lv_at hl 6 rfl) ?_
          refine va_get (D := G.1) (ci := 9) (v := .ref c0) (C := RX6) (T := TX6) (N := 8) hx hb hts in_X6 hown hK hP 0 rfl rfl 0 (by decide) (hts _ k_fl_X6_12) (fun _ h9 => h9) rfl dX6_moveNext_120 ?_
          refine va_get (D := G.1) (ci := 6) (v := .ref s0) (C := RX2) (T := TX2) (N := 12) hx hb hts in_X2 hown hK hP 1 rfl rfl 0 (by decide) (hts _ k_fl_X6_72) (fun _ h9 => h9) rfl dX6_moveNext_123 ?_
          refine lv_iload hx hb dX6_moveNext_126 (lv_at hl 5 rfl) ?_
          refine lv_iload hx hb dX6_moveNext_128 (lv_at hl 3 rfl) ?_
          refine lv_iload hx hb dX6_moveNext_130 (lv_at hl 1 rfl) ?_
          refine gS (As := [.int (f_X5_wordAt bits (f_X6_locationOf p0 p1)), .int (f_X6_locationOf p2 (f_X6_freeCycleAfter bits (f_X6_locationOf p0 p1) p2))]) (rest := [.int (f_X6_locationOf p0 p1), .ref s0]) (wr := [(z0, .inr (9, [.ref c0, .ref c0q, .ref c0u, .ref c0v, .int sv, .int sw, .ref a0, .ref b0])), (c0, .inr (6, [.ref s0, .ref k0, .ref i0, .ref o0, .ref x0, .int et, .int wt, .int tm, .int sta, .int he, .int ac, .int ov])), (s0, .inr (8, [.ref s1, .ref s2, .ref s3, .int dr])), (s1, .inl (G.2.1.1, 256, .inl (f_X5_putWord (f_X5_putWord bits (f_X6_locationOf p2 (f_X6_freeCycleAfter bits (f_X6_locationOf p0 p1) p2)) (f_X5_wordAt bits (f_X3_next (f_X5_wordAt bits (f_X6_locationOf p0 p1))))) (f_X3_next (f_X5_wordAt bits (f_X6_locationOf p0 p1))) 0)))]) (ws' := [(z0, .inr (9, [.ref c0, .ref c0q, .ref c0u, .ref c0v, .int sv, .int sw, .ref a0, .ref b0])), (c0, .inr (6, [.ref s0, .ref k0, .ref i0, .ref o0, .ref x0, .int et, .int wt, .int tm, .int sta, .int he, .int ac, .int ov])), (s0, .inr (8, [.ref s1, .ref s2, .ref s3, .int dr])), (s1, .inl (G.2.1.1, 256, .inl (f_X5_putWord (f_X5_putWord bits (f_X6_locationOf p2 (f_X6_freeCycleAfter bits (f_X6_locationOf p0 p1) p2)) (f_X5_wordAt bits (f_X3_next (f_X5_wordAt bits (f_X6_locationOf p0 p1))))) (f_X3_next (f_X5_wordAt bits (f_X6_locationOf p0 p1))) 0)))]) F (c_X3_withNext l G (f_X5_wordAt bits (f_X6_locationOf p0 p1)) (f_X6_locationOf p2 (f_X6_freeCycleAfter bits (f_X6_locationOf p0 p1) p2))) okS_X3_withNext k_ml_X6_276 rfl rfl ⟨Nat.le_of_ble_eq_true rfl, Nat.le_of_ble_eq_true rfl⟩ hN hK hP hD hS hA [] [0, 1, 2, 3] [0, 1, 2, 3] (by decide) rfl rfl (by decide) (by decide) (by decide) rfl rfl rfl hl.1 (Nat.le_of_ble_eq_true rfl) dX6_moveNext_132 ⟨Nat.le_of_ble_eq_true rfl, Nat.le_of_ble_eq_true rfl⟩ (fun H locs hP hD hS => ?_)
          refine gV (As := [.int (f_X6_locationOf p0 p1), .int (f_X3_withNext (f_X5_wordAt bits (f_X6_locationOf p0 p1)) (f_X6_locationOf p2 (f_X6_freeCycleAfter bits (f_X6_locationOf p0 p1) p2)))]) (rest := []) (wr := [(z0, .inr (9, [.ref c0, .ref c0q, .ref c0u, .ref c0v, .int sv, .int sw, .ref a0, .ref b0])), (c0, .inr (6, [.ref s0, .ref k0, .ref i0, .ref o0, .ref x0, .int et, .int wt, .int tm, .int sta, .int he, .int ac, .int ov]))]) (ws' := [(z0, .inr (9, [.ref c0, .ref c0q, .ref c0u, .ref c0v, .int sv, .int sw, .ref a0, .ref b0])), (c0, .inr (6, [.ref s0, .ref k0, .ref i0, .ref o0, .ref x0, .int et, .int wt, .int tm, .int sta, .int he, .int ac, .int ov])), (s0, .inr (8, [.ref s1, .ref s2, .ref s3, .int dr])), (s1, .inl (G.2.1.1, 256, .inl (f_X5_putWord (f_X5_putWord (f_X5_putWord bits (f_X6_locationOf p2 (f_X6_freeCycleAfter bits (f_X6_locationOf p0 p1) p2)) (f_X5_wordAt bits (f_X3_next (f_X5_wordAt bits (f_X6_locationOf p0 p1))))) (f_X3_next (f_X5_wordAt bits (f_X6_locationOf p0 p1))) 0) (f_X6_locationOf p0 p1) (f_X3_withNext (f_X5_wordAt bits (f_X6_locationOf p0 p1)) (f_X6_locationOf p2 (f_X6_freeCycleAfter bits (f_X6_locationOf p0 p1) p2))))))]) F (c_X5_putWord l G s0 s1 s2 s3 (f_X5_putWord (f_X5_putWord bits (f_X6_locationOf p2 (f_X6_freeCycleAfter bits (f_X6_locationOf p0 p1) p2)) (f_X5_wordAt bits (f_X3_next (f_X5_wordAt bits (f_X6_locationOf p0 p1))))) (f_X3_next (f_X5_wordAt bits (f_X6_locationOf p0 p1))) 0) dr (f_X6_locationOf p0 p1) (f_X3_withNext (f_X5_wordAt bits (f_X6_locationOf p0 p1)) (f_X6_locationOf p2 (f_X6_freeCycleAfter bits (f_X6_locationOf p0 p1) p2)))) okV_X5_putWord k_ml_X6_80 rfl rfl ⟨Nat.le_of_ble_eq_true rfl, Nat.le_of_ble_eq_true rfl⟩ hN hK hP hD hS hA [2, 3] [0, 1] [0, 1, 2, 3] (by decide) rfl rfl (by decide) (by decide) (by decide) rfl (q0 := 2) rfl rfl rfl rfl hl.1 (Nat.le_of_ble_eq_true rfl) dX6_moveNext_135 ⟨Nat.le_of_ble_eq_true rfl, Nat.le_of_ble_eq_true rfl⟩ (fun H locs hP hD hS => ?_)
          refine lv_iload hx hb dX6_moveNext_138 (lv_at hl 4 rfl) ?_
          have ef : (f_X6_moveNext bits p0 p1 p2) = ((f_X6_freeCycleAfter bits (f_X6_locationOf p0 p1) p2), (f_X5_putWord (f_X5_putWord (f_X5_putWord bits (f_X6_locationOf p2 (f_X6_freeCycleAfter bits (f_X6_locationOf p0 p1) p2)) (f_X5_wordAt bits (f_X3_next (f_X5_wordAt bits (f_X6_locationOf p0 p1))))) (f_X3_next (f_X5_wordAt bits (f_X6_locationOf p0 p1))) 0) (f_X6_locationOf p0 p1) (f_X3_withNext (f_X5_wordAt bits (f_X6_locationOf p0 p1)) (f_X6_locationOf p2 (f_X6_freeCycleAfter bits (f_X6_locationOf p0 p1) p2))))) := ((if_pos c_1).trans ((if_pos c_2).trans ((if_neg c_3).trans (if_neg c_4))))
          refine gxOf (((if_pos c_1).trans ((if_pos c_2).trans ((if_neg c_3).trans (if_neg c_4))))) ?_
          exact gRetI F hr hlocks hK hP hD hS (by rw [ef]) (by rw [ef]) (Nat.le_of_ble_eq_true rfl) (Nat.le_of_ble_eq_true rfl) dX6_moveNext_140
        · skip
          exact gxThrowW (text := "the next instruction can't be moved") (names := ["java/lang/RuntimeException", "java/lang/Exception"]) F hfl hN hSt hK hP hD hS hlocks htab hl.1 (by decide +kernel) (by decide +kernel) k_cl_X6_43 k_in_java_lang_IllegalStateException (by decide +kernel) xa_X6_47 xb_X6_47 xc_X6_47 dX6_moveNext_59 dX6_moveNext_62 dX6_moveNext_63 dX6_moveNext_66 dX6_moveNext_69 ((if_pos c_1).trans ((if_pos c_2).trans ((if_neg c_3).trans (if_pos c_4)))) (by decide) (Nat.le_of_ble_eq_true rfl) (Nat.le_of_ble_eq_true rfl) (Nat.le_of_ble_eq_true rfl) (Nat.le_of_ble_eq_true rfl) (Nat.le_of_ble_eq_true rfl)
    · have c_2 : ¬ (th_X6_requireTank p2) = none := (by rw [x9]; exact Option.some_ne_none _)
      exact gxOut hlocks htab hK hP hD hS h91 h92 h93 ((((if_pos c_1).trans (if_neg c_2))).trans x9) (Nat.le_of_ble_eq_true rfl) (Nat.le_of_ble_eq_true rfl)
  · have c_1 : ¬ (th_X6_requireLocation p0 p1) = none := (by rw [x9]; exact Option.some_ne_none _)
    exact gxOut hlocks htab hK hP hD hS h91 h92 h93 (((if_neg c_1)).trans x9) (Nat.le_of_ble_eq_true rfl) (Nat.le_of_ble_eq_true rfl)
theorem okV_X6_moveNext : gOkV yX6_moveNext cX6_moveNext 10 (some .int) 3 := ⟨⟨k_im_X6_moveNext, k_se_X6_moveNext, k_in_X6, k_cd_X6_moveNext⟩, by decide, by decide, by decide +kernel⟩
