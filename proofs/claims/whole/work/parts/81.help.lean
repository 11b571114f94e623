theorem thc_X6_append (len : Int32) : (th_X6_append len) = none ∨ (th_X6_append len) = some "java/lang/IllegalStateException" := by
  unfold th_X6_append
  try dsimp only
  split
  · skip
    exact Or.inl rfl
  · skip
    exact Or.inr (rfl)
theorem fx_X6_append (len : Int32) (text : Nat → Int32) (p0 : Int32) (p1 : Int32) (p2 : Int32) (p3 : Int32) (p4 : Int32) {E : String} (h : (th_X6_append len) = some E) : (f_X6_append len text p0 p1 p2 p3 p4) = (0, len, text) := by
  unfold th_X6_append at h
  unfold f_X6_append
  try dsimp only at h ⊢
  split at h
  · skip
    exact absurd h.symm (Option.some_ne_none _)
  · skip
    rw [if_neg (by assumption)]
    try rfl
set_option maxRecDepth 100000 in
set_option maxHeartbeats 4000000 in
theorem c_L_append (l : Launch) (hfl : l.stackTraces = false) (G : gG) (z0 : Nat) (c0 : Nat) (c0q : Nat) (c0u : Nat) (c0v : Nat) (a0 : Nat) (b0 : Nat) (sv : Int32) (sw : Int32) (a1 : Nat) (a2 : Nat) (a3 : Nat) (len : Int32) (ec : Int32) (ep : Int32) (wc : Int32) (sl : Int32) (pl : Int32) (ki : Int32) (ts : Int32) (te : Int32) (nu : Int32) (text : Nat → Int32) (p0 : Int32) (p1 : Int32) (p2 : Int32) (p3 : Int32) (p4 : Int32) (qo : Nat) (oc : Nat → Int64) : gH l G yL_append cL_append 8 [(0, 16, 19, 13)] { frames := 7, cells := 1, slots := 6, locals := 115 } [.ref z0, .int p0, .int p1, .int p2, .int p3, .int p4, .ref qo] [(z0, .inr (9, [.ref c0, .ref c0q, .ref c0u, .ref c0v, .int sv, .int sw, .ref a0, .ref b0])), (a0, .inr (4, [.ref a1, .int len, .int ec, .int ep, .ref a2, .ref a3, .int wc, .int sl, .int pl, .int ki, .int ts, .int te, .int nu])), (a1, .inl (G.2.1.1, 600, .inl text)), (qo, .inl (G.2.1.2.2.1, 1, .inr (.inl oc)))] (kodA (th_X6_append len)) (fun vv => [(z0, .inr (9, [.ref c0, .ref c0q, .ref c0u, .ref c0v, .int sv, .int sw, .ref a0, .ref b0])), (a0, .inr (4, [.ref a1, .int ((f_X6_append len text p0 p1 p2 p3 p4).2.1), .int ec, .int ep, .ref a2, .ref a3, .int wc, .int sl, .int pl, .int ki, .int ts, .int te, .int nu])), (a1, .inl (G.2.1.1, 600, .inl ((f_X6_append len text p0 p1 p2 p3 p4).2.2))), (qo, .inl (G.2.1.2.2.1, 1, .inr (.inl (oF (th_X6_append len) (Int32.toInt64 ((f_X6_append len text p0 p1 p2 p3 p4).1)) oc))))]) 1 6 := by
  refine ghBegin (by decide +kernel) (Nat.le_of_ble_eq_true rfl) (fun p e s m args below meth c A F hr hlocks htab hN hSt hNc hK hP hD hA hS ls hl => ?_)
  obtain ⟨hx, hb, hml, hown, hts⟩ := id F
  replace hP : va_P G.1 vwCl [(z0, .inr (9, [.ref c0, .ref c0q, .ref c0u, .ref c0v, .int sv, .int sw, .ref a0, .ref b0])), (a0, .inr (4, [.ref a1, .int len, .int ec, .int ep, .ref a2, .ref a3, .int wc, .int sl, .int pl, .int ki, .int ts, .int te, .int nu])), (a1, .inl (G.2.1.1, 600, .inl text)), (qo, .inl (G.2.1.2.2.1, 1, .inr (.inl oc)))] s.heap := hP
  replace hl : lv_has ls 8 [(0, .ref z0), (1, .int p0), (2, .int p1), (3, .int p2), (4, .int p3), (5, .int p4), (6, .ref qo)] := hl
  refine lv_aload hx hb dL_append_0 (lv_at hl 6 rfl) ?_
  refine lv_iconst (v := 0) hx hb dL_append_2 (by decide) ?_
  refine lv_aload_n hx hb dL_append_3 rfl (lv_at hl 0 rfl) ?_
  refine lv_iload_n hx hb dL_append_4 rfl (lv_at hl 1 rfl) ?_
  refine lv_iload_n hx hb dL_append_5 rfl (lv_at hl 2 rfl) ?_
  refine lv_iload_n hx hb dL_append_6 rfl (lv_at hl 3 rfl) ?_
  refine lv_iload hx hb dL_append_7 (lv_at hl 4 rfl) ?_
  refine lv_iload hx hb dL_append_9 (lv_at hl 5 rfl) ?_
  refine gzV (As := [.int p0, .int p1, .int p2, .int p3, .int p4]) (rest := [.int 0, .ref qo]) (wr := [(qo, .inl (G.2.1.2.2.1, 1, .inr (.inl oc)))]) (ws' := fun v9_ => [(z0, .inr (9, [.ref c0, .ref c0q, .ref c0u, .ref c0v, .int sv, .int sw, .ref a0, .ref b0])), (a0, .inr (4, [.ref a1, .int ((f_X6_append len text p0 p1 p2 p3 p4).2.1), .int ec, .int ep, .ref a2, .ref a3, .int wc, .int sl, .int pl, .int ki, .int ts, .int te, .int nu])), (a1, .inl (G.2.1.1, 600, .inl ((f_X6_append len text p0 p1 p2 p3 p4).2.2))), (qo, .inl (G.2.1.2.2.1, 1, .inr (.inl oc)))]) (wsx := [(z0, .inr (9, [.ref c0, .ref c0q, .ref c0u, .ref c0v, .int sv, .int sw, .ref a0, .ref b0])), (a0, .inr (4, [.ref a1, .int len, .int ec, .int ep, .ref a2, .ref a3, .int wc, .int sl, .int pl, .int ki, .int ts, .int te, .int nu])), (a1, .inl (G.2.1.1, 600, .inl text)), (qo, .inl (G.2.1.2.2.1, 1, .inr (.inl oc)))]) F ((c_X6_append l hfl G z0 c0 c0q c0u c0v a0 b0 sv sw a1 a2 a3 len ec ep wc sl pl ki ts te nu text p0 p1 p2 p3 p4) _) gzX okV_X6_append k_ml_L_7 rfl rfl ⟨Nat.le_of_ble_eq_true rfl, Nat.le_of_ble_eq_true rfl⟩ hN hSt hK hP hD hS hA [0, 1, 2] [3] [1, 2, 3, 0] (by decide) rfl rfl (by decide) (by decide) (by decide) (fun _ => rfl) rfl (q0 := 0) rfl rfl rfl rfl hl.1 (Nat.le_of_ble_eq_true rfl) dL_append_11 ⟨Nat.le_of_ble_eq_true rfl, Nat.le_of_ble_eq_true rfl⟩ (fun c_1 v9_ H locs hP hD hS => ?_) (fun E9 ce9 q9 H locs x9 hP hD hS h91 h92 h93 => ?_)
  · skip
    refine lv_i2l (v := (Int32.toInt64 ((f_X6_append len text p0 p1 p2 p3 p4).1))) hx hb dL_append_14 rfl ?_
    refine va_last hx hb hK hP hD hS 3 2 rfl rfl (gInL (by decide)) dL_append_15 (fun H locs hP hD hS => ?_)
    replace hP : va_P G.1 vwCl [(z0, .inr (9, [.ref c0, .ref c0q, .ref c0u, .ref c0v, .int sv, .int sw, .ref a0, .ref b0])), (a0, .inr (4, [.ref a1, .int ((f_X6_append len text p0 p1 p2 p3 p4).2.1), .int ec, .int ep, .ref a2, .ref a3, .int wc, .int sl, .int pl, .int ki, .int ts, .int te, .int nu])), (a1, .inl (G.2.1.1, 600, .inl ((f_X6_append len text p0 p1 p2 p3 p4).2.2))), (qo, .inl (G.2.1.2.2.1, 1, .inr (.inl (vp_updL oc (Int32.toNatClampNeg 0) (Int32.toInt64 ((f_X6_append len text p0 p1 p2 p3 p4).1))))))] H := hP
    replace hD : va_D A [(z0, .inr (9, [.ref c0, .ref c0q, .ref c0u, .ref c0v, .int sv, .int sw, .ref a0, .ref b0])), (a0, .inr (4, [.ref a1, .int ((f_X6_append len text p0 p1 p2 p3 p4).2.1), .int ec, .int ep, .ref a2, .ref a3, .int wc, .int sl, .int pl, .int ki, .int ts, .int te, .int nu])), (a1, .inl (G.2.1.1, 600, .inl ((f_X6_append len text p0 p1 p2 p3 p4).2.2))), (qo, .inl (G.2.1.2.2.1, 1, .inr (.inl (vp_updL oc (Int32.toNatClampNeg 0) (Int32.toInt64 ((f_X6_append len text p0 p1 p2 p3 p4).1))))))] := hD
    refine lv_goto (tgt := 23) hx hb dL_append_16 (by decide) ?_
    refine lv_iconst (v := 0) hx hb dL_append_23 (by decide) ?_
    refine gyOf (r1 := some (.int (kodA (th_X6_append len)))) (u1 := [(z0, .inr (9, [.ref c0, .ref c0q, .ref c0u, .ref c0v, .int sv, .int sw, .ref a0, .ref b0])), (a0, .inr (4, [.ref a1, .int ((f_X6_append len text p0 p1 p2 p3 p4).2.1), .int ec, .int ep, .ref a2, .ref a3, .int wc, .int sl, .int pl, .int ki, .int ts, .int te, .int nu])), (a1, .inl (G.2.1.1, 600, .inl ((f_X6_append len text p0 p1 p2 p3 p4).2.2))), (qo, .inl (G.2.1.2.2.1, 1, .inr (.inl (oF (th_X6_append len) (Int32.toInt64 ((f_X6_append len text p0 p1 p2 p3 p4).1)) oc))))]) 0 rfl rfl ?_
    exact gRetI F hr hlocks hK hP hD hS (congrArg (fun z => some (Value.int z)) (k1_0 c_1)) (by rw [oF_n c_1]) (Nat.le_of_ble_eq_true rfl) (Nat.le_of_ble_eq_true rfl) dL_append_24
  · rcases (thc_X6_append _ : _ = none ∨ _) with z9 | z9
    · exact absurd (x9.symm.trans z9) (Option.some_ne_none _)
    · have eE : E9 = "java/lang/IllegalStateException" := Option.some.inj (x9.symm.trans z9)
      subst eE
      refine vx_catch (own := RL) (name := "java/lang/IllegalStateException") (E := "java/lang/IllegalStateException") hown [] ⟨0, 16, 19, 13⟩ [] (htab.trans rfl) (fun _ h => (List.not_mem_nil h).elim) (by decide) (by decide) (hts _ k_cl_L_13) (va_Nw.use rfl (hN.2.2.1 ("java/lang/IllegalStateException", "java/lang/IllegalStateException") (by decide +kernel))) h91 h92 h93 ?_
      refine lv_astore (lv' := [(7, .ref q9), (0, .ref z0), (1, .int p0), (2, .int p1), (3, .int p2), (4, .int p3), (5, .int p4), (6, .ref qo)]) hx hb dL_append_19 hl (by decide) rfl (fun ls hl => ?_)
      refine lv_iconst (v := 1) hx hb dL_append_21 (by decide) ?_
      refine gyOf (r1 := some (.int (kodA (th_X6_append len)))) (u1 := [(z0, .inr (9, [.ref c0, .ref c0q, .ref c0u, .ref c0v, .int sv, .int sw, .ref a0, .ref b0])), (a0, .inr (4, [.ref a1, .int ((f_X6_append len text p0 p1 p2 p3 p4).2.1), .int ec, .int ep, .ref a2, .ref a3, .int wc, .int sl, .int pl, .int ki, .int ts, .int te, .int nu])), (a1, .inl (G.2.1.1, 600, .inl ((f_X6_append len text p0 p1 p2 p3 p4).2.2))), (qo, .inl (G.2.1.2.2.1, 1, .inr (.inl (oF (th_X6_append len) (Int32.toInt64 ((f_X6_append len text p0 p1 p2 p3 p4).1)) oc))))]) 0 rfl rfl ?_
      exact gRetI F hr hlocks hK hP hD hS (congrArg (fun z => some (Value.int z)) (k1_1 x9)) (by rw [oF_x x9, fx_X6_append len text p0 p1 p2 p3 p4 x9]) (Nat.le_of_ble_eq_true rfl) (Nat.le_of_ble_eq_true rfl) dL_append_22
theorem okH_L_append : gOkH yL_append cL_append 8 [(0, 16, 19, 13)] 7 := ⟨⟨k_st_L_append, k_in_L, k_cd_L_append⟩, by decide, by decide, by decide +kernel⟩
theorem thc_X6_truncate (len : Int32) (p0 : Int32) : (th_X6_truncate len p0) = none ∨ (th_X6_truncate len p0) = some "java/lang/IndexOutOfBoundsException" := by
  unfold th_X6_truncate
  try dsimp only
  split
  · skip
    exact Or.inr (rfl)
  · skip
    split
    · skip
      exact Or.inl rfl
    · skip
      exact Or.inr (rfl)
theorem fx_X6_truncate (len : Int32) (p0 : Int32) {E : String} (h : (th_X6_truncate len p0) = some E) : (f_X6_truncate len p0) = (0, len) := by
  unfold th_X6_truncate at h
  unfold f_X6_truncate
  try dsimp only at h ⊢
  split at h
  · skip
    rw [if_pos (by assumption)]
    try rfl
  · skip
    rw [if_neg (by assumption)]
    split at h
    · skip
      exact absurd h.symm (Option.some_ne_none _)
    · skip
      rw [if_neg (by assumption)]
      try rfl
set_option maxRecDepth 100000 in
set_option maxHeartbeats 4000000 in
theorem c_L_truncate (l : Launch) (hfl : l.stackTraces = false) (G : gG) (z0 : Nat) (c0 : Nat) (c0q : Nat) (c0u : Nat) (c0v : Nat) (a0 : Nat) (b0 : Nat) (sv : Int32) (sw : Int32) (a1 : Nat) (a2 : Nat) (a3 : Nat) (len : Int32) (ec : Int32) (ep : Int32) (wc : Int32) (sl : Int32) (pl : Int32) (ki : Int32) (ts : Int32) (te : Int32) (nu : Int32) (p0 : Int32) (qo : Nat) (oc : Nat → Int64) : gH l G yL_truncate cL_truncate 4 [(0, 9, 12, 19)] { frames := 7, cells := 1, slots := 6, locals := 111 } [.ref z0, .int p0, .ref qo] [(z0, .inr (9, [.ref c0, .ref c0q, .ref c0u, .ref c0v, .int sv, .int sw, .ref a0, .ref b0])), (a0, .inr (4, [.ref a1, .int len, .int ec, .int ep, .ref a2, .ref a3, .int wc, .int sl, .int pl, .int ki, .int ts, .int te, .int nu])), (qo, .inl (G.2.1.2.2.1, 1, .inr (.inl oc)))] (kodA (th_X6_truncate len p0)) (fun vv => [(z0, .inr (9, [.ref c0, .ref c0q, .ref c0u, .ref c0v, .int sv, .int sw, .ref a0, .ref b0])), (a0, .inr (4, [.ref a1, .int ((f_X6_truncate len p0).2), .int ec, .int ep, .ref a2, .ref a3, .int wc, .int sl, .int pl, .int ki, .int ts, .int te, .int nu])), (qo, .inl (G.2.1.2.2.1, 1, .inr (.inl (oF (th_X6_truncate len p0) (Int32.toInt64 ((f_X6_truncate len p0).1)) oc))))]) 1 6 := by
  refine ghBegin (by decide +kernel) (Nat.le_of_ble_eq_true rfl) (fun p e s m args below meth c A F hr hlocks htab hN hSt hNc hK hP hD hA hS ls hl => ?_)
  obtain ⟨hx, hb, hml, hown, hts⟩ := id F
  replace hP : va_P G.1 vwCl [(z0, .inr (9, [.ref c0, .ref c0q, .ref c0u, .ref c0v, .int sv, .int sw, .ref a0, .ref b0])), (a0, .inr (4, [.ref a1, .int len, .int ec, .int ep, .ref a2, .ref a3, .int wc, .int sl, .int pl, .int ki, .int ts, .int te, .int nu])), (qo, .inl (G.2.1.2.2.1, 1, .inr (.inl oc)))] s.heap := hP
  replace hl : lv_has ls 4 [(0, .ref z0), (1, .int p0), (2, .ref qo)] := hl
  refine lv_aload_n hx hb dL_truncate_0 rfl (lv_at hl 2 rfl) ?_
  refine lv_iconst (v := 0) hx hb dL_truncate_1 (by decide) ?_
  refine lv_aload_n hx hb dL_truncate_2 rfl (lv_at hl 0 rfl) ?_
  refine lv_iload_n hx hb dL_truncate_3 rfl (lv_at hl 1 rfl) ?_
  refine gzV (As := [.int p0]) (rest := [.int 0, .ref qo]) (wr := [(qo, .inl (G.2.1.2.2.1, 1, .inr (.inl oc)))]) (ws' := fun v9_ => [(z0, .inr (9, [.ref c0, .ref c0q, .ref c0u, .ref c0v, .int sv, .int sw, .ref a0, .ref b0])), (a0, .inr (4, [.ref a1, .int ((f_X6_truncate len p0).2), .int ec, .int ep, .ref a2, .ref a3, .int wc, .int sl, .int pl, .int ki, .int ts, .int te, .int nu])), (qo, .inl (G.2.1.2.2.1, 1, .inr (.inl oc)))]) (wsx := [(z0, .inr (9, [.ref c0, .ref c0q, .ref c0u, .ref c0v, .int sv, .int sw, .ref a0, .ref b0])), (a0, .inr (4, [.ref a1, .int len, .int ec, .int ep, .ref a2, .ref a3, .int wc, .int sl, .int pl, .int ki, .int ts, .int te, .int nu])), (qo, .inl (G.2.1.2.2.1, 1, .inr (.inl oc)))]) F ((c_X6_truncate l hfl G z0 c0 c0q c0u c0v a0 b0 sv sw a1 a2 a3 len ec ep wc sl pl ki ts te nu p0) _) gzX okV_X6_truncate k_ml_L_15 rfl rfl ⟨Nat.le_of_ble_eq_true rfl, Nat.le_of_ble_eq_true rfl⟩ hN hSt hK hP hD hS hA [0, 1] [2] [1, 2, 0] (by decide) rfl rfl (by decide) (by decide) (by decide) (fun _ => rfl) rfl (q0 := 0) rfl rfl rfl rfl hl.1 (Nat.le_of_ble_eq_true rfl) dL_truncate_4 ⟨Nat.le_of_ble_eq_true rfl, Nat.le_of_ble_eq_true rfl⟩ (fun c_1 v9_ H locs hP hD hS => ?_) (fun E9 ce9 q9 H locs x9 hP hD hS h91 h92 h93 => ?_)
  · skip
    refine lv_i2l (v := (Int32.toInt64 ((f_X6_truncate len p0).1))) hx hb dL_truncate_7 rfl ?_
    refine va_last hx hb hK hP hD hS 2 2 rfl rfl (gInL (by decide)) dL_truncate_8 (fun H locs hP hD hS => ?_)
    replace hP : va_P G.1 vwCl [(z0, .inr (9, [.ref c0, .ref c0q, .ref c0u, .ref c0v, .int sv, .int sw, .ref a0, .ref b0])), (a0, .inr (4, [.ref a1, .int ((f_X6_truncate len p0).2), .int ec, .int ep, .ref a2, .ref a3, .int wc, .int sl, .int pl, .int ki, .int ts, .int te, .int nu])), (qo, .inl (G.2.1.2.2.1, 1, .inr (.inl (vp_updL oc (Int32.toNatClampNeg 0) (Int32.toInt64 ((f_X6_truncate len p0).1))))))] H := hP
    replace hD : va_D A [(z0, .inr (9, [.ref c0, .ref c0q, .ref c0u, .ref c0v, .int sv, .int sw, .ref a0, .ref b0])), (a0, .inr (4, [.ref a1, .int ((f_X6_truncate len p0).2), .int ec, .int ep, .ref a2, .ref a3, .int wc, .int sl, .int pl, .int ki, .int ts, .int te, .int nu])), (qo, .inl (G.2.1.2.2.1, 1, .inr (.inl (vp_updL oc (Int32.toNatClampNeg 0) (Int32.toInt64 ((f_X6_truncate len p0).1))))))] := hD
    refine lv_goto (tgt := 15) hx hb dL_truncate_9 (by decide) ?_
    refine lv_iconst (v := 0) hx hb dL_truncate_15 (by decide) ?_
    refine gyOf (r1 := some (.int (kodA (th_X6_truncate len p0)))) (u1 := [(z0, .inr (9, [.ref c0, .ref c0q, .ref c0u, .ref c0v, .int sv, .int sw, .ref a0, .ref b0])), (a0, .inr (4, [.ref a1, .int ((f_X6_truncate len p0).2), .int ec, .int ep, .ref a2, .ref a3, .int wc, .int sl, .int pl, .int ki, .int ts, .int te, .int nu])), (qo, .inl (G.2.1.2.2.1, 1, .inr (.inl (oF (th_X6_truncate len p0) (Int32.toInt64 ((f_X6_truncate len p0).1)) oc))))]) 0 rfl rfl ?_
    exact gRetI F hr hlocks hK hP hD hS (congrArg (fun z => some (Value.int z)) (k1_0 c_1)) (by rw [oF_n c_1]) (Nat.le_of_ble_eq_true rfl) (Nat.le_of_ble_eq_true rfl) dL_truncate_16
  · rcases (thc_X6_truncate _ _ : _ = none ∨ _) with z9 | z9
    · exact absurd (x9.symm.trans z9) (Option.some_ne_none _)
    · have eE : E9 = "java/lang/IndexOutOfBoundsException" := Option.some.inj (x9.symm.trans z9)
      subst eE
      refine vx_catch (own := RL) (name := "java/lang/IndexOutOfBoundsException") (E := "java/lang/IndexOutOfBoundsException") hown [] ⟨0, 9, 12, 19⟩ [] (htab.trans rfl) (fun _ h => (List.not_mem_nil h).elim) (by decide) (by decide) (hts _ k_cl_L_19) (va_Nw.use rfl (hN.2.2.1 ("java/lang/IndexOutOfBoundsException", "java/lang/IndexOutOfBoundsException") (by decide +kernel))) h91 h92 h93 ?_
      refine lv_astore_n (lv' := [(3, .ref q9), (0, .ref z0), (1, .int p0), (2, .ref qo)]) hx hb dL_truncate_12 rfl hl (by decide) rfl (fun ls hl => ?_)
      refine lv_iconst (v := 1) hx hb dL_truncate_13 (by decide) ?_
      refine gyOf (r1 := some (.int (kodA (th_X6_truncate len p0)))) (u1 := [(z0, .inr (9, [.ref c0, .ref c0q, .ref c0u, .ref c0v, .int sv, .int sw, .ref a0, .ref b0])), (a0, .inr (4, [.ref a1, .int ((f_X6_truncate len p0).2), .int ec, .int ep, .ref a2, .ref a3, .int wc, .int sl, .int pl, .int ki, .int ts, .int te, .int nu])), (qo, .inl (G.2.1.2.2.1, 1, .inr (.inl (oF (th_X6_truncate len p0) (Int32.toInt64 ((f_X6_truncate len p0).1)) oc))))]) 0 rfl rfl ?_
      exact gRetI F hr hlocks hK hP hD hS (congrArg (fun z => some (Value.int z)) (k1_1 x9)) (by rw [oF_x x9, fx_X6_truncate len p0 x9]) (Nat.le_of_ble_eq_true rfl) (Nat.le_of_ble_eq_true rfl) dL_truncate_14
theorem okH_L_truncate : gOkH yL_truncate cL_truncate 4 [(0, 9, 12, 19)] 3 := ⟨⟨k_st_L_truncate, k_in_L, k_cd_L_truncate⟩, by decide, by decide, by decide +kernel⟩
theorem thc_X6_requireLocation (p0 : Int32) (p1 : Int32) : (th_X6_requireLocation p0 p1) = none ∨ (th_X6_requireLocation p0 p1) = some "java/lang/IndexOutOfBoundsException" := by
  unfold th_X6_requireLocation
  try dsimp only
  split
  · skip
    exact Or.inr (rfl)
  · skip
    split
    · skip
      exact Or.inr (rfl)
    · skip
      split
      · skip
        exact Or.inr (rfl)
      · skip
        split
        · skip
          exact Or.inl rfl
        · skip
          exact Or.inr (rfl)
theorem thc_X6_readWord (p0 : Int32) (p1 : Int32) : (th_X6_readWord p0 p1) = none ∨ (th_X6_readWord p0 p1) = some "java/lang/IndexOutOfBoundsException" := by
  unfold th_X6_readWord
  try dsimp only
  split
  · skip
    exact Or.inl rfl
  · skip
    rcases (thc_X6_requireLocation _ _ : _ = none ∨ _) with h | h
    · exact Or.inl h
    · exact Or.inr (h)
set_option maxRecDepth 100000 in
set_option maxHeartbeats 4000000 in
theorem c_L_readWord (l : Launch) (hfl : l.stackTraces = false) (G : gG) (z0 : Nat) (c0 : Nat) (c0q : Nat) (c0u : Nat) (c0v : Nat) (a0 : Nat) (b0 : Nat) (sv : Int32) (sw : Int32) (s0 : Nat) (k0 : Nat) (i0 : Nat) (o0 : Nat) (x0 : Nat) (et : Int32) (wt : Int32) (tm : Int32) (sta : Int32) (he : Int32) (ac : Int32) (ov : Int32) (s1 : Nat) (s2 : Nat) (s3 : Nat) (dr : Int32) (bits : Nat → Int32) (p0 : Int32) (p1 : Int32) (qo : Nat) (oc : Nat → Int64) : gH l G yL_readWord cL_readWord 5 [(0, 10, 13, 19)] { frames := 8, cells := 1, slots := 6, locals := 133 } [.ref z0, .int p0, .int p1, .ref qo] [(z0, .inr (9, [.ref c0, .ref c0q, .ref c0u, .ref c0v, .int sv, .int sw, .ref a0, .ref b0])), (c0, .inr (6, [.ref s0, .ref k0, .ref i0, .ref o0, .ref x0, .int et, .int wt, .int tm, .int sta, .int he, .int ac, .int ov])), (s0, .inr (8, [.ref s1, .ref s2, .ref s3, .int dr])), (s1, .inl (G.2.1.1, 256, .inl bits)), (qo, .inl (G.2.1.2.2.1, 1, .inr (.inl oc)))] (kodA (th_X6_readWord p0 p1)) (fun vv => [(z0, .inr (9, [.ref c0, .ref c0q, .ref c0u, .ref c0v, .int sv, .int sw, .ref a0, .ref b0])), (c0, .inr (6, [.ref s0, .ref k0, .ref i0, .ref o0, .ref x0, .int et, .int wt, .int tm, .int sta, .int he, .int ac, .int ov])), (s0, .inr (8, [.ref s1, .ref s2, .ref s3, .int dr])), (s1, .inl (G.2.1.1, 256, .inl bits)), (qo, .inl (G.2.1.2.2.1, 1, .inr (.inl (oF (th_X6_readWord p0 p1) (Int32.toInt64 (f_X6_readWord bits p0 p1)) oc))))]) 1 6 := by
  refine ghBegin (by decide +kernel) (Nat.le_of_ble_eq_true rfl) (fun p e s m args below meth c A F hr hlocks htab hN hSt hNc hK hP hD hA hS ls hl => ?_)
  obtain ⟨hx, hb, hml, hown, hts⟩ := id F
  replace hP : va_P G.1 vwCl [(z0, .inr (9, [.ref c0, .ref c0q, .ref c0u, .ref c0v, .int sv, .int sw, .ref a0, .ref b0])), (c0, .inr (6, [.ref s0, .ref k0, .ref i0, .ref o0, .ref x0, .int et, .int wt, .int tm, .int sta, .int he, .int ac, .int ov])), (s0, .inr (8, [.ref s1, .ref s2, .ref s3, .int dr])), (s1, .inl (G.2.1.1, 256, .inl bits)), (qo, .inl (G.2.1.2.2.1, 1, .inr (.inl oc)))] s.heap := hP
  replace hl : lv_has ls 5 [(0, .ref z0), (1, .int p0), (2, .int p1), (3, .ref qo)] := hl
  refine lv_aload_n hx hb dL_readWord_0 rfl (lv_at hl 3 rfl) ?_
  refine lv_iconst (v := 0) hx hb dL_readWord_1 (by decide) ?_
  refine lv_aload_n hx hb dL_readWord_2 rfl (lv_at hl 0 rfl) ?_
  refine lv_iload_n hx hb dL_readWord_3 rfl (lv_at hl 1 rfl) ?_
  refine lv_iload_n hx hb dL_readWord_4 rfl (lv_at hl 2 rfl) ?_
  refine gzV (As := [.int p0, .int p1]) (rest := [.int 0, .ref qo]) (wr := [(qo, .inl (G.2.1.2.2.1, 1, .inr (.inl oc)))]) (ws' := fun v9_ => [(z0, .inr (9, [.ref c0, .ref c0q, .ref c0u, .ref c0v, .int sv, .int sw, .ref a0, .ref b0])), (c0, .inr (6, [.ref s0, .ref k0, .ref i0, .ref o0, .ref x0, .int et, .int wt, .int tm, .int sta, .int he, .int ac, .int ov])), (s0, .inr (8, [.ref s1, .ref s2, .ref s3, .int dr])), (s1, .inl (G.2.1.1, 256, .inl bits)), (qo, .inl (G.2.1.2.2.1, 1, .inr (.inl oc)))]) (wsx := [(z0, .inr (9, [.ref c0, .ref c0q, .ref c0u, .ref c0v, .int sv, .int sw, .ref a0, .ref b0])), (c0, .inr (6, [.ref s0, .ref k0, .ref i0, .ref o0, .ref x0, .int et, .int wt, .int tm, .int sta, .int he, .int ac, .int ov])), (s0, .inr (8, [.ref s1, .ref s2, .ref s3, .int dr])), (s1, .inl (G.2.1.1, 256, .inl bits)), (qo, .inl (G.2.1.2.2.1, 1, .inr (.inl oc)))]) F ((c_X6_readWord l hfl G z0 c0 c0q c0u c0v a0 b0 sv sw s0 k0 i0 o0 x0 et wt tm sta he ac ov s1 s2 s3 dr bits p0 p1) _) gzX okV_X6_readWord k_ml_L_27 rfl rfl ⟨Nat.le_of_ble_eq_true rfl, Nat.le_of_ble_eq_true rfl⟩ hN hSt hK hP hD hS hA [0, 1, 2, 3] [4] [1, 2, 3, 4, 0] (by decide) rfl rfl (by decide) (by decide) (by decide) (fun _ => rfl) rfl (q0 := 0) rfl rfl rfl rfl hl.1 (Nat.le_of_ble_eq_true rfl) dL_readWord_5 ⟨Nat.le_of_ble_eq_true rfl, Nat.le_of_ble_eq_true rfl⟩ (fun c_1 v9_ H locs hP hD hS => ?_) (fun E9 ce9 q9 H locs x9 hP hD hS h91 h92 h93 => ?_)
  · skip
    refine lv_i2l (v := (Int32.toInt64 (f_X6_readWord bits p0 p1))) hx hb dL_readWord_8 rfl ?_
    refine va_last hx hb hK hP hD hS 4 2 rfl rfl (gInL (by decide)) dL_readWord_9 (fun H locs hP hD hS => ?_)
    replace hP : va_P G.1 vwCl [(z0, .inr (9, [.ref c0, .ref c0q, .ref c0u, .ref c0v, .int sv, .int sw, .ref a0, .ref b0])), (c0, .inr (6, [.ref s0, .ref k0, .ref i0, .ref o0, .ref x0, .int et, .int wt, .int tm, .int sta, .int he, .int ac, .int ov])), (s0, .inr (8, [.ref s1, .ref s2, .ref s3, .int dr])), (s1, .inl (G.2.1.1, 256, .inl bits)), (qo, .inl (G.2.1.2.2.1, 1, .inr (.inl (vp_updL oc (Int32.toNatClampNeg 0) (Int32.toInt64 (f_X6_readWord bits p0 p1))))))] H := hP
    replace hD : va_D A [(z0, .inr (9, [.ref c0, .ref c0q, .ref c0u, .ref c0v, .int sv, .int sw, .ref a0, .ref b0])), (c0, .inr (6, [.ref s0, .ref k0, .ref i0, .ref o0, .ref x0, .int et, .int wt, .int tm, .int sta, .int he, .int ac, .int ov])), (s0, .inr (8, [.ref s1, .ref s2, .ref s3, .int dr])), (s1, .inl (G.2.1.1, 256, .inl bits)), (qo, .inl (G.2.1.2.2.1, 1, .inr (.inl (vp_updL oc (Int32.toNatClampNeg 0) (Int32.toInt64 (f_X6_readWord bits p0 p1))))))] := hD
    refine lv_goto (tgt := 17) hx hb dL_readWord_10 (by decide) ?_
    refine lv_iconst (v := 0) hx hb dL_readWord_17 (by decide) ?_
    refine gyOf (r1 := some (.int (kodA (th_X6_readWord p0 p1)))) (u1 := [(z0, .inr (9, [.ref c0, .ref c0q, .ref c0u, .ref c0v, .int sv, .int sw, .ref a0, .ref b0])), (c0, .inr (6, [.ref s0, .ref k0, .ref i0, .ref o0, .ref x0, .int et, .int wt, .int tm, .int sta, .int he, .int ac, .int ov])), (s0, .inr (8, [.ref s1, .ref s2, .ref s3, .int dr])), (s1, .inl (G.2.1.1, 256, .inl bits)), (qo, .inl (G.2.1.2.2.1, 1, .inr (.inl (oF (th_X6_readWord p0 p1) (Int32.toInt64 (f_X6_readWord bits p0 p1)) oc))))]) 0 rfl rfl ?_
    exact gRetI F hr hlocks hK hP hD hS (congrArg (fun z => some (Value.int z)) (k1_0 c_1)) (by rw [oF_n c_1]) (Nat.le_of_ble_eq_true rfl) (Nat.le_of_ble_eq_true rfl) dL_readWord_18
  · rcases (thc_X6_readWord _ _ : _ = none ∨ _) with z9 | z9
    · exact absurd (x9.symm.trans z9) (Option.some_ne_none _)
    · have eE : E9 = "java/lang/IndexOutOfBoundsException" := Option.some.inj (x9.symm.trans z9)
      subst eE
      refine vx_catch (own := RL) (name := "java/lang/IndexOutOfBoundsException") (E := "java/lang/IndexOutOfBoundsException") hown [] ⟨0, 10, 13, 19⟩ [] (htab.trans rfl) (fun _ h => (List.not_mem_nil h).elim) (by decide) (by decide) (hts _ k_cl_L_19) (va_Nw.use rfl (hN.2.2.1 ("java/lang/IndexOutOfBoundsException", "java/lang/IndexOutOfBoundsException") (by decide +kernel))) h91 h92 h93 ?_
      refine lv_astore (lv' := [(4, .ref q9), (0, .ref z0), (1, .int p0), (2, .int p1), (3, .ref qo)]) hx hb dL_readWord_13 hl (by decide) rfl (fun ls hl => ?_)
      refine lv_iconst (v := 1) hx hb dL_readWord_15 (by decide) ?_
      refine gyOf (r1 := some (.int (kodA (th_X6_readWord p0 p1)))) (u1 := [(z0, .inr (9, [.ref c0, .ref c0q, .ref c0u, .ref c0v, .int sv, .int sw, .ref a0, .ref b0])), (c0, .inr (6, [.ref s0, .ref k0, .ref i0, .ref o0, .ref x0, .int et, .int wt, .int tm, .int sta, .int he, .int ac, .int ov])), (s0, .inr (8, [.ref s1, .ref s2, .ref s3, .int dr])), (s1, .inl (G.2.1.1, 256, .inl bits)), (qo, .inl (G.2.1.2.2.1, 1, .inr (.inl (oF (th_X6_readWord p0 p1) (Int32.toInt64 (f_X6_readWord bits p0 p1)) oc))))]) 0 rfl rfl ?_
      exact gRetI F hr hlocks hK hP hD hS (congrArg (fun z => some (Value.int z)) (k1_1 x9)) (by rw [oF_x x9]) (Nat.le_of_ble_eq_true rfl) (Nat.le_of_ble_eq_true rfl) dL_readWord_16
theorem okH_L_readWord : gOkH yL_readWord cL_readWord 5 [(0, 10, 13, 19)] 4 := ⟨⟨k_st_L_readWord, k_in_L, k_cd_L_readWord⟩, by decide, by decide, by decide +kernel⟩
theorem thc_X6_requireWord (p0 : Int32) : (th_X6_requireWord p0) = none ∨ (th_X6_requireWord p0) = some "java/lang/IllegalArgumentException" := by
  unfold th_X6_requireWord
  try dsimp only
  split
  · skip
    exact Or.inr (rfl)
  · skip
    split
    · skip
      exact Or.inl rfl
    · skip
      exact Or.inr (rfl)
theorem thc_X6_writeWord (p0 : Int32) (p1 : Int32) (p2 : Int32) : (th_X6_writeWord p0 p1 p2) = none ∨ (th_X6_writeWord p0 p1 p2) = some "java/lang/IllegalArgumentException" ∨ (th_X6_writeWord p0 p1 p2) = some "java/lang/IndexOutOfBoundsException" := by
  unfold th_X6_writeWord
  try dsimp only
  split
  · skip
    split
    · skip
      exact Or.inl rfl
    · skip
      rcases (thc_X6_requireWord _ : _ = none ∨ _) with h | h
      · exact Or.inl h
      · exact Or.inr (Or.inl h)
  · skip
    rcases (thc_X6_requireLocation _ _ : _ = none ∨ _) with h | h
    · exact Or.inl h
    · exact Or.inr (Or.inr (h))
theorem fx_X6_writeWord (bits : Nat → Int32) (p0 : Int32) (p1 : Int32) (p2 : Int32) {E : String} (h : (th_X6_writeWord p0 p1 p2) = some E) : (f_X6_writeWord bits p0 p1 p2) = (0, bits) := by
  unfold th_X6_writeWord at h
  unfold f_X6_writeWord
  try dsimp only at h ⊢
  split at h
  · skip
    rw [if_pos (by assumption)]
    split at h
    · skip
      exact absurd h.symm (Option.some_ne_none _)
    · skip
      rw [if_neg (by assumption)]
      try rfl
  · skip
    rw [if_neg (by assumption)]
    try rfl
set_option maxRecDepth 100000 in
set_option maxHeartbeats 4000000 in
theorem c_L_writeWord (l : Launch) (hfl : l.stackTraces = false) (G : gG) (z0 : Nat) (c0 : Nat) (c0q : Nat) (c0u : Nat) (c0v : Nat) (a0 : Nat) (b0 : Nat) (sv : Int32) (sw : Int32) (s0 : Nat) (k0 : Nat) (i0 : Nat) (o0 : Nat) (x0 : Nat) (et : Int32) (wt : Int32) (tm : Int32) (sta : Int32) (he : Int32) (ac : Int32) (ov : Int32) (s1 : Nat) (s2 : Nat) (s3 : Nat) (dr : Int32) (bits : Nat → Int32) (p0 : Int32) (p1 : Int32) (p2 : Int32) (qo : Nat) (oc : Nat → Int64) : gH l G yL_writeWord cL_writeWord 6 [(0, 12, 15, 19), (0, 12, 19, 25)] { frames := 8, cells := 2, slots := 12, locals := 136 } [.ref z0, .int p0, .int p1, .int p2, .ref qo] [(z0, .inr (9, [.ref c0, .ref c0q, .ref c0u, .ref c0v, .int sv, .int sw, .ref a0, .ref b0])), (c0, .inr (6, [.ref s0, .ref k0, .ref i0, .ref o0, .ref x0, .int et, .int wt, .int tm, .int sta, .int he, .int ac, .int ov])), (s0, .inr (8, [.ref s1, .ref s2, .ref s3, .int dr])), (s1, .inl (G.2.1.1, 256, .inl bits)), (qo, .inl (G.2.1.2.2.1, 1, .inr (.inl oc)))] (kodB sIO (th_X6_writeWord p0 p1 p2)) (fun vv => [(z0, .inr (9, [.ref c0, .ref c0q, .ref c0u, .ref c0v, .int sv, .int sw, .ref a0, .ref b0])), (c0, .inr (6, [.ref s0, .ref k0, .ref i0, .ref o0, .ref x0, .int et, .int wt, .int tm, .int sta, .int he, .int ac, .int ov])), (s0, .inr (8, [.ref s1, .ref s2, .ref s3, .int dr])), (s1, .inl (G.2.1.1, 256, .inl ((f_X6_writeWord bits p0 p1 p2).2))), (qo, .inl (G.2.1.2.2.1, 1, .inr (.inl (oF (th_X6_writeWord p0 p1 p2) (Int32.toInt64 ((f_X6_writeWord bits p0 p1 p2).1)) oc))))]) 2 12 := by
  refine ghBegin (by decide +kernel) (Nat.le_of_ble_eq_true rfl) (fun p e s m args below meth c A F hr hlocks htab hN hSt hNc hK hP hD hA hS ls hl => ?_)
  obtain ⟨hx, hb, hml, hown, hts⟩ := id F
  replace hP : va_P G.1 vwCl [(z0, .inr (9, [.ref c0, .ref c0q, .ref c0u, .ref c0v, .int sv, .int sw, .ref a0, .ref b0])), (c0, .inr (6, [.ref s0, .ref k0, .ref i0, .ref o0, .ref x0, .int et, .int wt, .int tm, .int sta, .int he, .int ac, .int ov])), (s0, .inr (8, [.ref s1, .ref s2, .ref s3, .int dr])), (s1, .inl (G.2.1.1, 256, .inl bits)), (qo, .inl (G.2.1.2.2.1, 1, .inr (.inl oc)))] s.heap := hP
  replace hl : lv_has ls 6 [(0, .ref z0), (1, .int p0), (2, .int p1), (3, .int p2), (4, .ref qo)] := hl
  refine lv_aload hx hb dL_writeWord_0 (lv_at hl 4 rfl) ?_
  refine lv_iconst (v := 0) hx hb dL_writeWord_2 (by decide) ?_
  refine lv_aload_n hx hb dL_writeWord_3 rfl (lv_at hl 0 rfl) ?_
  refine lv_iload_n hx hb dL_writeWord_4 rfl (lv_at hl 1 rfl) ?_
  refine lv_iload_n hx hb dL_writeWord_5 rfl (lv_at hl 2 rfl) ?_
  refine lv_iload_n hx hb dL_writeWord_6 rfl (lv_at hl 3 rfl) ?_
  refine gzV (As := [.int p0, .int p1, .int p2]) (rest := [.int 0, .ref qo]) (wr := [(qo, .inl (G.2.1.2.2.1, 1, .inr (.inl oc)))]) (ws' := fun v9_ => [(z0, .inr (9, [.ref c0, .ref c0q, .ref c0u, .ref c0v, .int sv, .int sw, .ref a0, .ref b0])), (c0, .inr (6, [.ref s0, .ref k0, .ref i0, .ref o0, .ref x0, .int et, .int wt, .int tm, .int sta, .int he, .int ac, .int ov])), (s0, .inr (8, [.ref s1, .ref s2, .ref s3, .int dr])), (s1, .inl (G.2.1.1, 256, .inl ((f_X6_writeWord bits p0 p1 p2).2))), (qo, .inl (G.2.1.2.2.1, 1, .inr (.inl oc)))]) (wsx := [(z0, .inr (9, [.ref c0, .ref c0q, .ref c0u, .ref c0v, .int sv, .int sw, .ref a0, .ref b0])), (c0, .inr (6, [.ref s0, .ref k0, .ref i0, .ref o0, .ref x0, .int et, .int wt, .int tm, .int sta, .int he, .int ac, .int ov])), (s0, .inr (8, [.ref s1, .ref s2, .ref s3, .int dr])), (s1, .inl (G.2.1.1, 256, .inl bits)), (qo, .inl (G.2.1.2.2.1, 1, .inr (.inl oc)))]) F ((c_X6_writeWord l hfl G z0 c0 c0q c0u c0v a0 b0 sv sw s0 k0 i0 o0 x0 et wt tm sta he ac ov s1 s2 s3 dr bits p0 p1 p2) _) gzX okV_X6_writeWord k_ml_L_31 rfl rfl ⟨Nat.le_of_ble_eq_true rfl, Nat.le_of_ble_eq_true rfl⟩ hN hSt hK hP hD hS hA [0, 1, 2, 3] [4] [1, 2, 3, 4, 0] (by decide) rfl rfl (by decide) (by decide) (by decide) (fun _ => rfl) rfl (q0 := 0) rfl rfl rfl rfl hl.1 (Nat.le_of_ble_eq_true rfl) dL_writeWord_7 ⟨Nat.le_of_ble_eq_true rfl, Nat.le_of_ble_eq_true rfl⟩ (fun c_1 v9_ H locs hP hD hS => ?_) (fun E9 ce9 q9 H locs x9 hP hD hS h91 h92 h93 => ?_)
  · skip
    refine lv_i2l (v := (Int32.toInt64 ((f_X6_writeWord bits p0 p1 p2).1))) hx hb dL_writeWord_10 rfl ?_
    refine va_last hx hb hK hP hD hS 4 2 rfl rfl (gInL (by decide)) dL_writeWord_11 (fun H locs hP hD hS => ?_)
    replace hP : va_P G.1 vwCl [(z0, .inr (9, [.ref c0, .ref c0q, .ref c0u, .ref c0v, .int sv, .int sw, .ref a0, .ref b0])), (c0, .inr (6, [.ref s0, .ref k0, .ref i0, .ref o0, .ref x0, .int et, .int wt, .int tm, .int sta, .int he, .int ac, .int ov])), (s0, .inr (8, [.ref s1, .ref s2, .ref s3, .int dr])), (s1, .inl (G.2.1.1, 256, .inl ((f_X6_writeWord bits p0 p1 p2).2))), (qo, .inl (G.2.1.2.2.1, 1, .inr (.inl (vp_updL oc (Int32.toNatClampNeg 0) (Int32.toInt64 ((f_X6_writeWord bits p0 p1 p2).1))))))] H := hP
    replace hD : va_D A [(z0, .inr (9, [.ref c0, .ref c0q, .ref c0u, .ref c0v, .int sv, .int sw, .ref a0, .ref b0])), (c0, .inr (6, [.ref s0, .ref k0, .ref i0, .ref o0, .ref x0, .int et, .int wt, .int tm, .int sta, .int he, .int ac, .int ov])), (s0, .inr (8, [.ref s1, .ref s2, .ref s3, .int dr])), (s1, .inl (G.2.1.1, 256, .inl ((f_X6_writeWord bits p0 p1 p2).2))), (qo, .inl (G.2.1.2.2.1, 1, .inr (.inl (vp_updL oc (Int32.toNatClampNeg 0) (Int32.toInt64 ((f_X6_writeWord bits p0 p1 p2).1))))))] := hD
    refine lv_goto (tgt := 23) hx hb dL_writeWord_12 (by decide) ?_
    refine lv_iconst (v := 0) hx hb dL_writeWord_23 (by decide) ?_
    refine gyOf (r1 := some (.int (kodB sIO (th_X6_writeWord p0 p1 p2)))) (u1 := [(z0, .inr (9, [.ref c0, .ref c0q, .ref c0u, .ref c0v, .int sv, .int sw, .ref a0, .ref b0])), (c0, .inr (6, [.ref s0, .ref k0, .ref i0, .ref o0, .ref x0, .int et, .int wt, .int tm, .int sta, .int he, .int ac, .int ov])), (s0, .inr (8, [.ref s1, .ref s2, .ref s3, .int dr])), (s1, .inl (G.2.1.1, 256, .inl ((f_X6_writeWord bits p0 p1 p2).2))), (qo, .inl (G.2.1.2.2.1, 1, .inr (.inl (oF (th_X6_writeWord p0 p1 p2) (Int32.toInt64 ((f_X6_writeWord bits p0 p1 p2).1)) oc))))]) 0 rfl rfl ?_
    exact gRetI F hr hlocks hK hP hD hS (congrArg (fun z => some (Value.int z)) (k2_0 c_1)) (by rw [oF_n c_1]) (Nat.le_of_ble_eq_true rfl) (Nat.le_of_ble_eq_true rfl) dL_writeWord_24
  · rcases (thc_X6_writeWord _ _ _ : _ = none ∨ _) with z9 | z9 | z9
    · exact absurd (x9.symm.trans z9) (Option.some_ne_none _)
    · have eE : E9 = "java/lang/IllegalArgumentException" := Option.some.inj (x9.symm.trans z9)
      subst eE
      refine vx_catch (own := RL) (name := "java/lang/IllegalArgumentException") (E := "java/lang/IllegalArgumentException") hown [⟨0, 12, 15, 19⟩] ⟨0, 12, 19, 25⟩ [] (htab.trans rfl) (fun z hz => by rw [List.mem_singleton.mp hz]; exact Or.inr ⟨by decide, "java/lang/IndexOutOfBoundsException", hts _ k_cl_L_19, hNc ("java/lang/IllegalArgumentException", "java/lang/IndexOutOfBoundsException") (by decide +kernel)⟩) (by decide) (by decide) (hts _ k_cl_L_25) (va_Nw.use rfl (hN.2.2.1 ("java/lang/IllegalArgumentException", "java/lang/IllegalArgumentException") (by decide +kernel))) h91 h92 h93 ?_
      refine lv_astore (lv' := [(5, .ref q9), (0, .ref z0), (1, .int p0), (2, .int p1), (3, .int p2), (4, .ref qo)]) hx hb dL_writeWord_19 hl (by decide) rfl (fun ls hl => ?_)
      refine lv_iconst (v := 2) hx hb dL_writeWord_21 (by decide) ?_
      refine gyOf (r1 := some (.int (kodB sIO (th_X6_writeWord p0 p1 p2)))) (u1 := [(z0, .inr (9, [.ref c0, .ref c0q, .ref c0u, .ref c0v, .int sv, .int sw, .ref a0, .ref b0])), (c0, .inr (6, [.ref s0, .ref k0, .ref i0, .ref o0, .ref x0, .int et, .int wt, .int tm, .int sta, .int he, .int ac, .int ov])), (s0, .inr (8, [.ref s1, .ref s2, .ref s3, .int dr])), (s1, .inl (G.2.1.1, 256, .inl ((f_X6_writeWord bits p0 p1 p2).2))), (qo, .inl (G.2.1.2.2.1, 1, .inr (.inl (oF (th_X6_writeWord p0 p1 p2) (Int32.toInt64 ((f_X6_writeWord bits p0 p1 p2).1)) oc))))]) 0 rfl rfl ?_
      exact gRetI F hr hlocks hK hP hD hS (congrArg (fun z => some (Value.int z)) (k2_e2 x9 (by decide))) (by rw [oF_x x9, fx_X6_writeWord bits p0 p1 p2 x9]) (Nat.le_of_ble_eq_true rfl) (Nat.le_of_ble_eq_true rfl) dL_writeWord_22
    · have eE : E9 = "java/lang/IndexOutOfBoundsException" := Option.some.inj (x9.symm.trans z9)
      subst eE
      refine vx_catch (own := RL) (name := "java/lang/IndexOutOfBoundsException") (E := "java/lang/IndexOutOfBoundsException") hown [] ⟨0, 12, 15, 19⟩ [⟨0, 12, 19, 25⟩] (htab.trans rfl) (fun _ h => (List.not_mem_nil h).elim) (by decide) (by decide) (hts _ k_cl_L_19) (va_Nw.use rfl (hN.2.2.1 ("java/lang/IndexOutOfBoundsException", "java/lang/IndexOutOfBoundsException") (by decide +kernel))) h91 h92 h93 ?_
      refine lv_astore (lv' := [(5, .ref q9), (0, .ref z0), (1, .int p0), (2, .int p1), (3, .int p2), (4, .ref qo)]) hx hb dL_writeWord_15 hl (by decide) rfl (fun ls hl => ?_)
      refine lv_iconst (v := 1) hx hb dL_writeWord_17 (by decide) ?_
      refine gyOf (r1 := some (.int (kodB sIO (th_X6_writeWord p0 p1 p2)))) (u1 := [(z0, .inr (9, [.ref c0, .ref c0q, .ref c0u, .ref c0v, .int sv, .int sw, .ref a0, .ref b0])), (c0, .inr (6, [.ref s0, .ref k0, .ref i0, .ref o0, .ref x0, .int et, .int wt, .int tm, .int sta, .int he, .int ac, .int ov])), (s0, .inr (8, [.ref s1, .ref s2, .ref s3, .int dr])), (s1, .inl (G.2.1.1, 256, .inl ((f_X6_writeWord bits p0 p1 p2).2))), (qo, .inl (G.2.1.2.2.1, 1, .inr (.inl (oF (th_X6_writeWord p0 p1 p2) (Int32.toInt64 ((f_X6_writeWord bits p0 p1 p2).1)) oc))))]) 0 rfl rfl ?_
      exact gRetI F hr hlocks hK hP hD hS (congrArg (fun z => some (Value.int z)) (k2_e1 x9)) (by rw [oF_x x9, fx_X6_writeWord bits p0 p1 p2 x9]) (Nat.le_of_ble_eq_true rfl) (Nat.le_of_ble_eq_true rfl) dL_writeWord_18
theorem okH_L_writeWord : gOkH yL_writeWord cL_writeWord 6 [(0, 12, 15, 19), (0, 12, 19, 25)] 5 := ⟨⟨k_st_L_writeWord, k_in_L, k_cd_L_writeWord⟩, by decide, by decide, by decide +kernel⟩
theorem thc_X6_requireTank (p0 : Int32) : (th_X6_requireTank p0) = none ∨ (th_X6_requireTank p0) = some "java/lang/IndexOutOfBoundsException" := by
  unfold th_X6_requireTank
  try dsimp only
  split
  · skip
    exact Or.inr (rfl)
  · skip
    split
    · skip
      exact Or.inl rfl
    · skip
      exact Or.inr (rfl)
theorem thc_X6_clearTank (p0 : Int32) : (th_X6_clearTank p0) = none ∨ (th_X6_clearTank p0) = some "java/lang/IndexOutOfBoundsException" := by
  unfold th_X6_clearTank
  try dsimp only
  split
  · skip
    exact Or.inl rfl
  · skip
    rcases (thc_X6_requireTank _ : _ = none ∨ _) with h | h
    · exact Or.inl h
    · exact Or.inr (h)
theorem fx_X6_clearTank (bits : Nat → Int32) (p0 : Int32) {E : String} (h : (th_X6_clearTank p0) = some E) : (f_X6_clearTank bits p0) = (0, bits) := by
  unfold th_X6_clearTank at h
  unfold f_X6_clearTank
  try dsimp only at h ⊢
  split at h
  · skip
    exact absurd h.symm (Option.some_ne_none _)
  · skip
    rw [if_neg (by assumption)]
    try rfl
set_option maxRecDepth 100000 in
set_option maxHeartbeats 4000000 in
theorem c_L_clearTank (l : Launch) (hfl : l.stackTraces = false) (G : gG) (z0 : Nat) (c0 : Nat) (c0q : Nat) (c0u : Nat) (c0v : Nat) (a0 : Nat) (b0 : Nat) (sv : Int32) (sw : Int32) (s0 : Nat) (k0 : Nat) (i0 : Nat) (o0 : Nat) (x0 : Nat) (et : Int32) (wt : Int32) (tm : Int32) (sta : Int32) (he : Int32) (ac : Int32) (ov : Int32) (s1 : Nat) (s2 : Nat) (s3 : Nat) (dr : Int32) (bits : Nat → Int32) (p0 : Int32) (qo : Nat) (oc : Nat → Int64) : gH l G yL_clearTank cL_clearTank 4 [(0, 9, 12, 19)] { frames := 8, cells := 1, slots := 6, locals := 132 } [.ref z0, .int p0, .ref qo] [(z0, .inr (9, [.ref c0, .ref c0q, .ref c0u, .ref c0v, .int sv, .int sw, .ref a0, .ref b0])), (c0, .inr (6, [.ref s0, .ref k0, .ref i0, .ref o0, .ref x0, .int et, .int wt, .int tm, .int sta, .int he, .int ac, .int ov])), (s0, .inr (8, [.ref s1, .ref s2, .ref s3, .int dr])), (s1, .inl (G.2.1.1, 256, .inl bits)), (qo, .inl (G.2.1.2.2.1, 1, .inr (.inl oc)))] (kodA (th_X6_clearTank p0)) (fun vv => [(z0, .inr (9, [.ref c0, .ref c0q, .ref c0u, .ref c0v, .int sv, .int sw, .ref a0, .ref b0])), (c0, .inr (6, [.ref s0, .ref k0, .ref i0, .ref o0, .ref x0, .int et, .int wt, .int tm, .int sta, .int he, .int ac, .int ov])), (s0, .inr (8, [.ref s1, .ref s2, .ref s3, .int dr])), (s1, .inl (G.2.1.1, 256, .inl ((f_X6_clearTank bits p0).2))), (qo, .inl (G.2.1.2.2.1, 1, .inr (.inl (oF (th_X6_clearTank p0) (Int32.toInt64 ((f_X6_clearTank bits p0).1)) oc))))]) 1 6 := by
  refine ghBegin (by decide +kernel) (Nat.le_of_ble_eq_true rfl) (fun p e s m args below meth c A F hr hlocks htab hN hSt hNc hK hP hD hA hS ls hl => ?_)
  obtain ⟨hx, hb, hml, hown, hts⟩ := id F
  replace hP : va_P G.1 vwCl [(z0, .inr (9, [.ref c0, .ref c0q, .ref c0u, .ref c0v, .int sv, .int sw, .ref a0, .ref b0])), (c0, .inr (6, [.ref s0, .ref k0, .ref i0, .ref o0, .ref x0, .int et, .int wt, .int tm, .int sta, .int he, .int ac, .int ov])), (s0, .inr (8, [.ref s1, .ref s2, .ref s3, .int dr])), (s1, .inl (G.2.1.1, 256, .inl bits)), (qo, .inl (G.2.1.2.2.1, 1, .inr (.inl oc)))] s.heap := hP
  replace hl : lv_has ls 4 [(0, .ref z0), (1, .int p0), (2, .ref qo)] := hl
  refine lv_aload_n hx hb dL_clearTank_0 rfl (lv_at hl 2 rfl) ?_
  refine lv_iconst (v := 0) hx hb dL_clearTank_1 (by decide) ?_
  refine lv_aload_n hx hb dL_clearTank_2 rfl (lv_at hl 0 rfl) ?_
  refine lv_iload_n hx hb dL_clearTank_3 rfl (lv_at hl 1 rfl) ?_
  refine gzV (As := [.int p0]) (rest := [.int 0, .ref qo]) (wr := [(qo, .inl (G.2.1.2.2.1, 1, .inr (.inl oc)))]) (ws' := fun v9_ => [(z0, .inr (9, [.ref c0, .ref c0q, .ref c0u, .ref c0v, .int sv, .int sw, .ref a0, .ref b0])), (c0, .inr (6, [.ref s0, .ref k0, .ref i0, .ref o0, .ref x0, .int et, .int wt, .int tm, .int sta, .int he, .int ac, .int ov])), (s0, .inr (8, [.ref s1, .ref s2, .ref s3, .int dr])), (s1, .inl (G.2.1.1, 256, .inl ((f_X6_clearTank bits p0).2))), (qo, .inl (G.2.1.2.2.1, 1, .inr (.inl oc)))]) (wsx := [(z0, .inr (9, [.ref c0, .ref c0q, .ref c0u, .ref c0v, .int sv, .int sw, .ref a0, .ref b0])), (c0, .inr (6, [.ref s0, .ref k0, .ref i0, .ref o0, .ref x0, .int et, .int wt, .int tm, .int sta, .int he, .int ac, .int ov])), (s0, .inr (8, [.ref s1, .ref s2, .ref s3, .int dr])), (s1, .inl (G.2.1.1, 256, .inl bits)), (qo, .inl (G.2.1.2.2.1, 1, .inr (.inl oc)))]) F ((c_X6_clearTank l hfl G z0 c0 c0q c0u c0v a0 b0 sv sw s0 k0 i0 o0 x0 et wt tm sta he ac ov s1 s2 s3 dr bits p0) _) gzX okV_X6_clearTank k_ml_L_35 rfl rfl ⟨Nat.le_of_ble_eq_true rfl, Nat.le_of_ble_eq_true rfl⟩ hN hSt hK hP hD hS hA [0, 1, 2, 3] [4] [1, 2, 3, 4, 0] (by decide) rfl rfl (by decide) (by decide) (by decide) (fun _ => rfl) rfl (q0 := 0) rfl rfl rfl rfl hl.1 (Nat.le_of_ble_eq_true rfl) dL_clearTank_4 ⟨Nat.le_of_ble_eq_true rfl, Nat.le_of_ble_eq_true rfl⟩ (fun c_1 v9_ H locs hP hD hS => ?_) (fun E9 ce9 q9 H locs x9 hP hD hS h91 h92 h93 => ?_)
  · skip
    refine lv_i2l (v := (Int32.toInt64 ((f_X6_clearTank bits p0).1))) hx hb dL_clearTank_7 rfl ?_
    refine va_last hx hb hK hP hD hS 4 2 rfl rfl (gInL (by decide)) dL_clearTank_8 (fun H locs hP hD hS => ?_)
    replace hP : va_P G.1 vwCl [(z0, .inr (9, [.ref c0, .ref c0q, .ref c0u, .ref c0v, .int sv, .int sw, .ref a0, .ref b0])), (c0, .inr (6, [.ref s0, .ref k0, .ref i0, .ref o0, .ref x0, .int et, .int wt, .int tm, .int sta, .int he, .int ac, .int ov])), (s0, .inr (8, [.ref s1, .ref s2, .ref s3, .int dr])), (s1, .inl (G.2.1.1, 256, .inl ((f_X6_clearTank bits p0).2))), (qo, .inl (G.2.1.2.2.1, 1, .inr (.inl (vp_updL oc (Int32.toNatClampNeg 0) (Int32.toInt64 ((f_X6_clearTank bits p0).1))))))] H := hP
    replace hD : va_D A [(z0, .inr (9, [.ref c0, .ref c0q, .ref c0u, .ref c0v, .int sv, .int sw, .ref a0, .ref b0])), (c0, .inr (6, [.ref s0, .ref k0, .ref i0, .ref o0, .ref x0, .int et, .int wt, .int tm, .int sta, .int he, .int ac, .int ov])), (s0, .inr (8, [.ref s1, .ref s2, .ref s3, .int dr])), (s1, .inl (G.2.1.1, 256, .inl ((f_X6_clearTank bits p0).2))), (qo, .inl (G.2.1.2.2.1, 1, .inr (.inl (vp_updL oc (Int32.toNatClampNeg 0) (Int32.toInt64 ((f_X6_clearTank bits p0).1))))))] := hD
    refine lv_goto (tgt := 15) hx hb dL_clearTank_9 (by decide) ?_
    refine lv_iconst (v := 0) hx hb dL_clearTank_15 (by decide) ?_
    refine gyOf (r1 := some (.int (kodA (th_X6_clearTank p0)))) (u1 := [(z0, .inr (9, [.ref c0, .ref c0q, .ref c0u, .ref c0v, .int sv, .int sw, .ref a0, .ref b0])), (c0, .inr (6, [.ref s0, .ref k0, .ref i0, .ref o0, .ref x0, .int et, .int wt, .int tm, .int sta, .int he, .int ac, .int ov])), (s0, .inr (8, [.ref s1, .ref s2, .ref s3, .int dr])), (s1, .inl (G.2.1.1, 256, .inl ((f_X6_clearTank bits p0).2))), (qo, .inl (G.2.1.2.2.1, 1, .inr (.inl (oF (th_X6_clearTank p0) (Int32.toInt64 ((f_X6_clearTank bits p0).1)) oc))))]) 0 rfl rfl ?_
    exact gRetI F hr hlocks hK hP hD hS (congrArg (fun z => some (Value.int z)) (k1_0 c_1)) (by rw [oF_n c_1]) (Nat.le_of_ble_eq_true rfl) (Nat.le_of_ble_eq_true rfl) dL_clearTank_16
  · rcases (thc_X6_clearTank _ : _ = none ∨ _) with z9 | z9
    · exact absurd (x9.symm.trans z9) (Option.some_ne_none _)
    · have eE : E9 = "java/lang/IndexOutOfBoundsException" := Option.some.inj (x9.symm.trans z9)
      subst eE
      refine vx_catch (own := RL) (name := "java/lang/IndexOutOfBoundsException") (E := "java/lang/IndexOutOfBoundsException") hown [] ⟨0, 9, 12, 19⟩ [] (htab.trans rfl) (fun _ h => (List.not_mem_nil h).elim) (by decide) (by decide) (hts _ k_cl_L_19) (va_Nw.use rfl (hN.2.2.1 ("java/lang/IndexOutOfBoundsException", "java/lang/IndexOutOfBoundsException") (by decide +kernel))) h91 h92 h93 ?_
      refine lv_astore_n (lv' := [(3, .ref q9), (0, .ref z0), (1, .int p0), (2, .ref qo)]) hx hb dL_clearTank_12 rfl hl (by decide) rfl (fun ls hl => ?_)
      refine lv_iconst (v := 1) hx hb dL_clearTank_13 (by decide) ?_
      refine gyOf (r1 := some (.int (kodA (th_X6_clearTank p0)))) (u1 := [(z0, .inr (9, [.ref c0, .ref c0q, .ref c0u, .ref c0v, .int sv, .int sw, .ref a0, .ref b0])), (c0, .inr (6, [.ref s0, .ref k0, .ref i0, .ref o0, .ref x0, .int et, .int wt, .int tm, .int sta, .int he, .int ac, .int ov])), (s0, .inr (8, [.ref s1, .ref s2, .ref s3, .int dr])), (s1, .inl (G.2.1.1, 256, .inl ((f_X6_clearTank bits p0).2))), (qo, .inl (G.2.1.2.2.1, 1, .inr (.inl (oF (th_X6_clearTank p0) (Int32.toInt64 ((f_X6_clearTank bits p0).1)) oc))))]) 0 rfl rfl ?_
      exact gRetI F hr hlocks hK hP hD hS (congrArg (fun z => some (Value.int z)) (k1_1 x9)) (by rw [oF_x x9, fx_X6_clearTank bits p0 x9]) (Nat.le_of_ble_eq_true rfl) (Nat.le_of_ble_eq_true rfl) dL_clearTank_14
theorem okH_L_clearTank : gOkH yL_clearTank cL_clearTank 4 [(0, 9, 12, 19)] 3 := ⟨⟨k_st_L_clearTank, k_in_L, k_cd_L_clearTank⟩, by decide, by decide, by decide +kernel⟩
theorem thc_X6_swapTanks (p0 : Int32) (p1 : Int32) : (th_X6_swapTanks p0 p1) = none ∨ (th_X6_swapTanks p0 p1) = some "java/lang/IndexOutOfBoundsException" := by
  unfold th_X6_swapTanks
  try dsimp only
  split
  · skip
    split
    · skip
      exact Or.inl rfl
    · skip
      rcases (thc_X6_requireTank _ : _ = none ∨ _) with h | h
      · exact Or.inl h
      · exact Or.inr (h)
  · skip
    rcases (thc_X6_requireTank _ : _ = none ∨ _) with h | h
    · exact Or.inl h
    · exact Or.inr (h)
theorem fx_X6_swapTanks (bits : Nat → Int32) (slips : Nat → Int32) (temps : Nat → Int32) (p0 : Int32) (p1 : Int32) {E : String} (h : (th_X6_swapTanks p0 p1) = some E) : (f_X6_swapTanks bits slips temps p0 p1) = (bits, slips, temps) := by
  unfold th_X6_swapTanks at h
  unfold f_X6_swapTanks
  try dsimp only at h ⊢
  split at h
  · skip
    rw [if_pos (by assumption)]
    split at h
    · skip
      exact absurd h.symm (Option.some_ne_none _)
    · skip
      rw [if_neg (by assumption)]
      try rfl
  · skip
    rw [if_neg (by assumption)]
    try rfl
set_option maxRecDepth 100000 in
set_option maxHeartbeats 4000000 in
theorem c_L_swapTanks (l : Launch) (hfl : l.stackTraces = false) (G : gG) (z0 : Nat) (c0 : Nat) (c0q : Nat) (c0u : Nat) (c0v : Nat) (a0 : Nat) (b0 : Nat) (sv : Int32) (sw : Int32) (s0 : Nat) (k0 : Nat) (i0 : Nat) (o0 : Nat) (x0 : Nat) (et : Int32) (wt : Int32) (tm : Int32) (sta : Int32) (he : Int32) (ac : Int32) (ov : Int32) (s1 : Nat) (s2 : Nat) (s3 : Nat) (dr : Int32) (bits : Nat → Int32) (slips : Nat → Int32) (k1 : Nat) (pt : Int32) (ot : Int32) (fp : Int32) (on : Int32) (temps : Nat → Int32) (p0 : Int32) (p1 : Int32) : gH l G yL_swapTanks cL_swapTanks 4 [(0, 6, 9, 19)] { frames := 8, cells := 2, slots := 12, locals := 132 } [.ref z0, .int p0, .int p1] [(z0, .inr (9, [.ref c0, .ref c0q, .ref c0u, .ref c0v, .int sv, .int sw, .ref a0, .ref b0])), (c0, .inr (6, [.ref s0, .ref k0, .ref i0, .ref o0, .ref x0, .int et, .int wt, .int tm, .int sta, .int he, .int ac, .int ov])), (s0, .inr (8, [.ref s1, .ref s2, .ref s3, .int dr])), (s1, .inl (G.2.1.1, 256, .inl bits)), (s3, .inl (G.2.1.1, 8, .inl slips)), (k0, .inr (5, [.ref k1, .int pt, .int ot, .int fp, .int on])), (k1, .inl (G.2.1.1, 8, .inl temps))] (kodA (th_X6_swapTanks p0 p1)) (fun vv => [(z0, .inr (9, [.ref c0, .ref c0q, .ref c0u, .ref c0v, .int sv, .int sw, .ref a0, .ref b0])), (c0, .inr (6, [.ref s0, .ref k0, .ref i0, .ref o0, .ref x0, .int et, .int wt, .int tm, .int sta, .int he, .int ac, .int ov])), (s0, .inr (8, [.ref s1, .ref s2, .ref s3, .int dr])), (s1, .inl (G.2.1.1, 256, .inl ((f_X6_swapTanks bits slips temps p0 p1).1))), (s3, .inl (G.2.1.1, 8, .inl ((f_X6_swapTanks bits slips temps p0 p1).2.1))), (k0, .inr (5, [.ref k1, .int pt, .int ot, .int fp, .int on])), (k1, .inl (G.2.1.1, 8, .inl ((f_X6_swapTanks bits slips temps p0 p1).2.2)))]) 2 12 := by
  refine ghBegin (by decide +kernel) (Nat.le_of_ble_eq_true rfl) (fun p e s m args below meth c A F hr hlocks htab hN hSt hNc hK hP hD hA hS ls hl => ?_)
  obtain ⟨hx, hb, hml, hown, hts⟩ := id F
  replace hP : va_P G.1 vwCl [(z0, .inr (9, [.ref c0, .ref c0q, .ref c0u, .ref c0v, .int sv, .int sw, .ref a0, .ref b0])), (c0, .inr (6, [.ref s0, .ref k0, .ref i0, .ref o0, .ref x0, .int et, .int wt, .int tm, .int sta, .int he, .int ac, .int ov])), (s0, .inr (8, [.ref s1, .ref s2, .ref s3, .int dr])), (s1, .inl (G.2.1.1, 256, .inl bits)), (s3, .inl (G.2.1.1, 8, .inl slips)), (k0, .inr (5, [.ref k1, .int pt, .int ot, .int fp, .int on])), (k1, .inl (G.2.1.1, 8, .inl temps))] s.heap := hP
  replace hl : lv_has ls 4 [(0, .ref z0), (1, .int p0), (2, .int p1)] := hl
  refine lv_aload_n hx hb dL_swapTanks_0 rfl (lv_at hl 0 rfl) ?_
  refine lv_iload_n hx hb dL_swapTanks_1 rfl (lv_at hl 1 rfl) ?_
  refine lv_iload_n hx hb dL_swapTanks_2 rfl (lv_at hl 2 rfl) ?_
  refine gzV (As := [.int p0, .int p1]) (rest := []) (wr := []) (ws' := fun v9_ => [(z0, .inr (9, [.ref c0, .ref c0q, .ref c0u, .ref c0v, .int sv, .int sw, .ref a0, .ref b0])), (c0, .inr (6, [.ref s0, .ref k0, .ref i0, .ref o0, .ref x0, .int et, .int wt, .int tm, .int sta, .int he, .int ac, .int ov])), (s0, .inr (8, [.ref s1, .ref s2, .ref s3, .int dr])), (s1, .inl (G.2.1.1, 256, .inl ((f_X6_swapTanks bits slips temps p0 p1).1))), (s3, .inl (G.2.1.1, 8, .inl ((f_X6_swapTanks bits slips temps p0 p1).2.1))), (k0, .inr (5, [.ref k1, .int pt, .int ot, .int fp, .int on])), (k1, .inl (G.2.1.1, 8, .inl ((f_X6_swapTanks bits slips temps p0 p1).2.2)))]) (wsx := [(z0, .inr (9, [.ref c0, .ref c0q, .ref c0u, .ref c0v, .int sv, .int sw, .ref a0, .ref b0])), (c0, .inr (6, [.ref s0, .ref k0, .ref i0, .ref o0, .ref x0, .int et, .int wt, .int tm, .int sta, .int he, .int ac, .int ov])), (s0, .inr (8, [.ref s1, .ref s2, .ref s3, .int dr])), (s1, .inl (G.2.1.1, 256, .inl bits)), (s3, .inl (G.2.1.1, 8, .inl slips)), (k0, .inr (5, [.ref k1, .int pt, .int ot, .int fp, .int on])), (k1, .inl (G.2.1.1, 8, .inl temps))]) F ((c_X6_swapTanks l hfl G z0 c0 c0q c0u c0v a0 b0 sv sw s0 k0 i0 o0 x0 et wt tm sta he ac ov s1 s2 s3 dr bits slips k1 pt ot fp on temps p0 p1) _) gzX okV_X6_swapTanks k_ml_L_38 rfl rfl ⟨Nat.le_of_ble_eq_true rfl, Nat.le_of_ble_eq_true rfl⟩ hN hSt hK hP hD hS hA [0, 1, 2, 3, 4, 5, 6] [] [0, 1, 2, 3, 4, 5, 6] (by decide) rfl rfl (by decide) (by decide) (by decide) (fun _ => rfl) rfl (q0 := 0) rfl rfl rfl rfl hl.1 (Nat.le_of_ble_eq_true rfl) dL_swapTanks_3 ⟨Nat.le_of_ble_eq_true rfl, Nat.le_of_ble_eq_true rfl⟩ (fun c_1 v9_ H locs hP hD hS => ?_) (fun E9 ce9 q9 H locs x9 hP hD hS h91 h92 h93 => ?_)
  · skip
    refine lv_goto (tgt := 12) hx hb dL_swapTanks_6 (by decide) ?_
    refine lv_iconst (v := 0) hx hb dL_swapTanks_12 (by decide) ?_
    refine gyOf (r1 := some (.int (kodA (th_X6_swapTanks p0 p1)))) (u1 := [(z0, .inr (9, [.ref c0, .ref c0q, .ref c0u, .ref c0v, .int sv, .int sw, .ref a0, .ref b0])), (c0, .inr (6, [.ref s0, .ref k0, .ref i0, .ref o0, .ref x0, .int et, .int wt, .int tm, .int sta, .int he, .int ac, .int ov])), (s0, .inr (8, [.ref s1, .ref s2, .ref s3, .int dr])), (s1, .inl (G.2.1.1, 256, .inl ((f_X6_swapTanks bits slips temps p0 p1).1))), (s3, .inl (G.2.1.1, 8, .inl ((f_X6_swapTanks bits slips temps p0 p1).2.1))), (k0, .inr (5, [.ref k1, .int pt, .int ot, .int fp, .int on])), (k1, .inl (G.2.1.1, 8, .inl ((f_X6_swapTanks bits slips temps p0 p1).2.2)))]) 0 rfl rfl ?_
    exact gRetI F hr hlocks hK hP hD hS (congrArg (fun z => some (Value.int z)) (k1_0 c_1)) rfl (Nat.le_of_ble_eq_true rfl) (Nat.le_of_ble_eq_true rfl) dL_swapTanks_13
  · rcases (thc_X6_swapTanks _ _ : _ = none ∨ _) with z9 | z9
    · exact absurd (x9.symm.trans z9) (Option.some_ne_none _)
    · have eE : E9 = "java/lang/IndexOutOfBoundsException" := Option.some.inj (x9.symm.trans z9)
      subst eE
      refine vx_catch (own := RL) (name := "java/lang/IndexOutOfBoundsException") (E := "java/lang/IndexOutOfBoundsException") hown [] ⟨0, 6, 9, 19⟩ [] (htab.trans rfl) (fun _ h => (List.not_mem_nil h).elim) (by decide) (by decide) (hts _ k_cl_L_19) (va_Nw.use rfl (hN.2.2.1 ("java/lang/IndexOutOfBoundsException", "java/lang/IndexOutOfBoundsException") (by decide +kernel))) h91 h92 h93 ?_
      refine lv_astore_n (lv' := [(3, .ref q9), (0, .ref z0), (1, .int p0), (2, .int p1)]) hx hb dL_swapTanks_9 rfl hl (by decide) rfl (fun ls hl => ?_)
      refine lv_iconst (v := 1) hx hb dL_swapTanks_10 (by decide) ?_
      refine gyOf (r1 := some (.int (kodA (th_X6_swapTanks p0 p1)))) (u1 := [(z0, .inr (9, [.ref c0, .ref c0q, .ref c0u, .ref c0v, .int sv, .int sw, .ref a0, .ref b0])), (c0, .inr (6, [.ref s0, .ref k0, .ref i0, .ref o0, .ref x0, .int et, .int wt, .int tm, .int sta, .int he, .int ac, .int ov])), (s0, .inr (8, [.ref s1, .ref s2, .ref s3, .int dr])), (s1, .inl (G.2.1.1, 256, .inl ((f_X6_swapTanks bits slips temps p0 p1).1))), (s3, .inl (G.2.1.1, 8, .inl ((f_X6_swapTanks bits slips temps p0 p1).2.1))), (k0, .inr (5, [.ref k1, .int pt, .int ot, .int fp, .int on])), (k1, .inl (G.2.1.1, 8, .inl ((f_X6_swapTanks bits slips temps p0 p1).2.2)))]) 0 rfl rfl ?_
      exact gRetI F hr hlocks hK hP hD hS (congrArg (fun z => some (Value.int z)) (k1_1 x9)) (by rw [fx_X6_swapTanks bits slips temps p0 p1 x9]) (Nat.le_of_ble_eq_true rfl) (Nat.le_of_ble_eq_true rfl) dL_swapTanks_11
theorem okH_L_swapTanks : gOkH yL_swapTanks cL_swapTanks 4 [(0, 6, 9, 19)] 3 := ⟨⟨k_st_L_swapTanks, k_in_L, k_cd_L_swapTanks⟩, by decide, by decide, by decide +kernel⟩
theorem thc_X6_bitCount (p0 : Int32) : (th_X6_bitCount p0) = none ∨ (th_X6_bitCount p0) = some "java/lang/IndexOutOfBoundsException" := by
  unfold th_X6_bitCount
  try dsimp only
  split
  · skip
    exact Or.inl rfl
  · skip
    rcases (thc_X6_requireTank _ : _ = none ∨ _) with h | h
    · exact Or.inl h
    · exact Or.inr (h)
set_option maxRecDepth 100000 in
set_option maxHeartbeats 4000000 in
theorem c_L_bitCount (l : Launch) (hfl : l.stackTraces = false) (G : gG) (z0 : Nat) (c0 : Nat) (c0q : Nat) (c0u : Nat) (c0v : Nat) (a0 : Nat) (b0 : Nat) (sv : Int32) (sw : Int32) (s0 : Nat) (k0 : Nat) (i0 : Nat) (o0 : Nat) (x0 : Nat) (et : Int32) (wt : Int32) (tm : Int32) (sta : Int32) (he : Int32) (ac : Int32) (ov : Int32) (s1 : Nat) (s2 : Nat) (s3 : Nat) (dr : Int32) (bits : Nat → Int32) (p0 : Int32) (qo : Nat) (oc : Nat → Int64) : gH l G yL_bitCount cL_bitCount 4 [(0, 9, 12, 19)] { frames := 8, cells := 1, slots := 6, locals := 131 } [.ref z0, .int p0, .ref qo] [(z0, .inr (9, [.ref c0, .ref c0q, .ref c0u, .ref c0v, .int sv, .int sw, .ref a0, .ref b0])), (c0, .inr (6, [.ref s0, .ref k0, .ref i0, .ref o0, .ref x0, .int et, .int wt, .int tm, .int sta, .int he, .int ac, .int ov])), (s0, .inr (8, [.ref s1, .ref s2, .ref s3, .int dr])), (s1, .inl (G.2.1.1, 256, .inl bits)), (qo, .inl (G.2.1.2.2.1, 1, .inr (.inl oc)))] (kodA (th_X6_bitCount p0)) (fun vv => [(z0, .inr (9, [.ref c0, .ref c0q, .ref c0u, .ref c0v, .int sv, .int sw, .ref a0, .ref b0])), (c0, .inr (6, [.ref s0, .ref k0, .ref i0, .ref o0, .ref x0, .int et, .int wt, .int tm, .int sta, .int he, .int ac, .int ov])), (s0, .inr (8, [.ref s1, .ref s2, .ref s3, .int dr])), (s1, .inl (G.2.1.1, 256, .inl bits)), (qo, .inl (G.2.1.2.2.1, 1, .inr (.inl (oF (th_X6_bitCount p0) (Int32.toInt64 (f_X6_bitCount bits p0)) oc))))]) 1 6 := by
  refine ghBegin (by decide +kernel) (Nat.le_of_ble_eq_true rfl) (fun p e s m args below meth c A F hr hlocks htab hN hSt hNc hK hP hD hA hS ls hl => ?_)
  obtain ⟨hx, hb, hml, hown, hts⟩ := id F
  replace hP : va_P G.1 vwCl [(z0, .inr (9, [.ref c0, .ref c0q, .ref c0u, .ref c0v, .int sv, .int sw, .ref a0, .ref b0])), (c0, .inr (6, [.ref s0, .ref k0, .ref i0, .ref o0, .ref x0, .int et, .int wt, .int tm, .int sta, .int he, .int ac, .int ov])), (s0, .inr (8, [.ref s1, .ref s2, .ref s3, .int dr])), (s1, .inl (G.2.1.1, 256, .inl bits)), (qo, .inl (G.2.1.2.2.1, 1, .inr (.inl oc)))] s.heap := hP
  replace hl : lv_has ls 4 [(0, .ref z0), (1, .int p0), (2, .ref qo)] := hl
  refine lv_aload_n hx hb dL_bitCount_0 rfl (lv_at hl 2 rfl) ?_
  refine lv_iconst (v := 0) hx hb dL_bitCount_1 (by decide) ?_
  refine lv_aload_n hx hb dL_bitCount_2 rfl (lv_at hl 0 rfl) ?_
  refine lv_iload_n hx hb dL_bitCount_3 rfl (lv_at hl 1 rfl) ?_
  refine gzV (As := [.int p0]) (rest := [.int 0, .ref qo]) (wr := [(qo, .inl (G.2.1.2.2.1, 1, .inr (.inl oc)))]) (ws' := fun v9_ => [(z0, .inr (9, [.ref c0, .ref c0q, .ref c0u, .ref c0v, .int sv, .int sw, .ref a0, .ref b0])), (c0, .inr (6, [.ref s0, .ref k0, .ref i0, .ref o0, .ref x0, .int et, .int wt, .int tm, .int sta, .int he, .int ac, .int ov])), (s0, .inr (8, [.ref s1, .ref s2, .ref s3, .int dr])), (s1, .inl (G.2.1.1, 256, .inl bits)), (qo, .inl (G.2.1.2.2.1, 1, .inr (.inl oc)))]) (wsx := [(z0, .inr (9, [.ref c0, .ref c0q, .ref c0u, .ref c0v, .int sv, .int sw, .ref a0, .ref b0])), (c0, .inr (6, [.ref s0, .ref k0, .ref i0, .ref o0, .ref x0, .int et, .int wt, .int tm, .int sta, .int he, .int ac, .int ov])), (s0, .inr (8, [.ref s1, .ref s2, .ref s3, .int dr])), (s1, .inl (G.2.1.1, 256, .inl bits)), (qo, .inl (G.2.1.2.2.1, 1, .inr (.inl oc)))]) F ((c_X6_bitCount l hfl G z0 c0 c0q c0u c0v a0 b0 sv sw s0 k0 i0 o0 x0 et wt tm sta he ac ov s1 s2 s3 dr bits p0) _) gzX okV_X6_bitCount k_ml_L_42 rfl rfl ⟨Nat.le_of_ble_eq_true rfl, Nat.le_of_ble_eq_true rfl⟩ hN hSt hK hP hD hS hA [0, 1, 2, 3] [4] [1, 2, 3, 4, 0] (by decide) rfl rfl (by decide) (by decide) (by decide) (fun _ => rfl) rfl (q0 := 0) rfl rfl rfl rfl hl.1 (Nat.le_of_ble_eq_true rfl) dL_bitCount_4 ⟨Nat.le_of_ble_eq_true rfl, Nat.le_of_ble_eq_true rfl⟩ (fun c_1 v9_ H locs hP hD hS => ?_) (fun E9 ce9 q9 H locs x9 hP hD hS h91 h92 h93 => ?_)
  · skip
    refine lv_i2l (v := (Int32.toInt64 (f_X6_bitCount bits p0))) hx hb dL_bitCount_7 rfl ?_
    refine va_last hx hb hK hP hD hS 4 2 rfl rfl (gInL (by decide)) dL_bitCount_8 (fun H locs hP hD hS => ?_)
    replace hP : va_P G.1 vwCl [(z0, .inr (9, [.ref c0, .ref c0q, .ref c0u, .ref c0v, .int sv, .int sw, .ref a0, .ref b0])), (c0, .inr (6, [.ref s0, .ref k0, .ref i0, .ref o0, .ref x0, .int et, .int wt, .int tm, .int sta, .int he, .int ac, .int ov])), (s0, .inr (8, [.ref s1, .ref s2, .ref s3, .int dr])), (s1, .inl (G.2.1.1, 256, .inl bits)), (qo, .inl (G.2.1.2.2.1, 1, .inr (.inl (vp_updL oc (Int32.toNatClampNeg 0) (Int32.toInt64 (f_X6_bitCount bits p0))))))] H := hP
    replace hD : va_D A [(z0, .inr (9, [.ref c0, .ref c0q, .ref c0u, .ref c0v, .int sv, .int sw, .ref a0, .ref b0])), (c0, .inr (6, [.ref s0, .ref k0, .ref i0, .ref o0, .ref x0, .int et, .int wt, .int tm, .int sta, .int he, .int ac, .int ov])), (s0, .inr (8, [.ref s1, .ref s2, .ref s3, .int dr])), (s1, .inl (G.2.1.1, 256, .inl bits)), (qo, .inl (G.2.1.2.2.1, 1, .inr (.inl (vp_updL oc (Int32.toNatClampNeg 0) (Int32.toInt64 (f_X6_bitCount bits p0))))))] := hD
    refine lv_goto (tgt := 15) hx hb dL_bitCount_9 (by decide) ?_
    refine lv_iconst (v := 0) hx hb dL_bitCount_15 (by decide) ?_
    refine gyOf (r1 := some (.int (kodA (th_X6_bitCount p0)))) (u1 := [(z0, .inr (9, [.ref c0, .ref c0q, .ref c0u, .ref c0v, .int sv, .int sw, .ref a0, .ref b0])), (c0, .inr (6, [.ref s0, .ref k0, .ref i0, .ref o0, .ref x0, .int et, .int wt, .int tm, .int sta, .int he, .int ac, .int ov])), (s0, .inr (8, [.ref s1, .ref s2, .ref s3, .int dr])), (s1, .inl (G.2.1.1, 256, .inl bits)), (qo, .inl (G.2.1.2.2.1, 1, .inr (.inl (oF (th_X6_bitCount p0) (Int32.toInt64 (f_X6_bitCount bits p0)) oc))))]) 0 rfl rfl ?_
    exact gRetI F hr hlocks hK hP hD hS (congrArg (fun z => some (Value.int z)) (k1_0 c_1)) (by rw [oF_n c_1]) (Nat.le_of_ble_eq_true rfl) (Nat.le_of_ble_eq_true rfl) dL_bitCount_16
  · rcases (thc_X6_bitCount _ : _ = none ∨ _) with z9 | z9
    · exact absurd (x9.symm.trans z9) (Option.some_ne_none _)
    · have eE : E9 = "java/lang/IndexOutOfBoundsException" := Option.some.inj (x9.symm.trans z9)
      subst eE
      refine vx_catch (own := RL) (name := "java/lang/IndexOutOfBoundsException") (E := "java/lang/IndexOutOfBoundsException") hown [] ⟨0, 9, 12, 19⟩ [] (htab.trans rfl) (fun _ h => (List.not_mem_nil h).elim) (by decide) (by decide) (hts _ k_cl_L_19) (va_Nw.use rfl (hN.2.2.1 ("java/lang/IndexOutOfBoundsException", "java/lang/IndexOutOfBoundsException") (by decide +kernel))) h91 h92 h93 ?_
      refine lv_astore_n (lv' := [(3, .ref q9), (0, .ref z0), (1, .int p0), (2, .ref qo)]) hx hb dL_bitCount_12 rfl hl (by decide) rfl (fun ls hl => ?_)
      refine lv_iconst (v := 1) hx hb dL_bitCount_13 (by decide) ?_
      refine gyOf (r1 := some (.int (kodA (th_X6_bitCount p0)))) (u1 := [(z0, .inr (9, [.ref c0, .ref c0q, .ref c0u, .ref c0v, .int sv, .int sw, .ref a0, .ref b0])), (c0, .inr (6, [.ref s0, .ref k0, .ref i0, .ref o0, .ref x0, .int et, .int wt, .int tm, .int sta, .int he, .int ac, .int ov])), (s0, .inr (8, [.ref s1, .ref s2, .ref s3, .int dr])), (s1, .inl (G.2.1.1, 256, .inl bits)), (qo, .inl (G.2.1.2.2.1, 1, .inr (.inl (oF (th_X6_bitCount p0) (Int32.toInt64 (f_X6_bitCount bits p0)) oc))))]) 0 rfl rfl ?_
      exact gRetI F hr hlocks hK hP hD hS (congrArg (fun z => some (Value.int z)) (k1_1 x9)) (by rw [oF_x x9]) (Nat.le_of_ble_eq_true rfl) (Nat.le_of_ble_eq_true rfl) dL_bitCount_14
theorem okH_L_bitCount : gOkH yL_bitCount cL_bitCount 4 [(0, 9, 12, 19)] 3 := ⟨⟨k_st_L_bitCount, k_in_L, k_cd_L_bitCount⟩, by decide, by decide, by decide +kernel⟩
theorem thc_X6_slips (p0 : Int32) : (th_X6_slips p0) = none ∨ (th_X6_slips p0) = some "java/lang/IndexOutOfBoundsException" := by
  unfold th_X6_slips
  try dsimp only
  split
  · skip
    exact Or.inl rfl
  · skip
    rcases (thc_X6_requireTank _ : _ = none ∨ _) with h | h
    · exact Or.inl h
    · exact Or.inr (h)
set_option maxRecDepth 100000 in
set_option maxHeartbeats 4000000 in
theorem c_L_slips (l : Launch) (hfl : l.stackTraces = false) (G : gG) (z0 : Nat) (c0 : Nat) (c0q : Nat) (c0u : Nat) (c0v : Nat) (a0 : Nat) (b0 : Nat) (sv : Int32) (sw : Int32) (s0 : Nat) (k0 : Nat) (i0 : Nat) (o0 : Nat) (x0 : Nat) (et : Int32) (wt : Int32) (tm : Int32) (sta : Int32) (he : Int32) (ac : Int32) (ov : Int32) (s1 : Nat) (s2 : Nat) (s3 : Nat) (dr : Int32) (slips : Nat → Int32) (p0 : Int32) (qo : Nat) (oc : Nat → Int64) : gH l G yL_slips cL_slips 4 [(0, 9, 12, 19)] { frames := 8, cells := 1, slots := 6, locals := 131 } [.ref z0, .int p0, .ref qo] [(z0, .inr (9, [.ref c0, .ref c0q, .ref c0u, .ref c0v, .int sv, .int sw, .ref a0, .ref b0])), (c0, .inr (6, [.ref s0, .ref k0, .ref i0, .ref o0, .ref x0, .int et, .int wt, .int tm, .int sta, .int he, .int ac, .int ov])), (s0, .inr (8, [.ref s1, .ref s2, .ref s3, .int dr])), (s3, .inl (G.2.1.1, 8, .inl slips)), (qo, .inl (G.2.1.2.2.1, 1, .inr (.inl oc)))] (kodA (th_X6_slips p0)) (fun vv => [(z0, .inr (9, [.ref c0, .ref c0q, .ref c0u, .ref c0v, .int sv, .int sw, .ref a0, .ref b0])), (c0, .inr (6, [.ref s0, .ref k0, .ref i0, .ref o0, .ref x0, .int et, .int wt, .int tm, .int sta, .int he, .int ac, .int ov])), (s0, .inr (8, [.ref s1, .ref s2, .ref s3, .int dr])), (s3, .inl (G.2.1.1, 8, .inl slips)), (qo, .inl (G.2.1.2.2.1, 1, .inr (.inl (oF (th_X6_slips p0) (Int32.toInt64 (f_X6_slips slips p0)) oc))))]) 1 6 := by
  refine ghBegin (by decide +kernel) (Nat.le_of_ble_eq_true rfl) (fun p e s m args below meth c A F hr hlocks htab hN hSt hNc hK hP hD hA hS ls hl => ?_)
  obtain ⟨hx, hb, hml, hown, hts⟩ := id F
  replace hP : va_P G.1 vwCl [(z0, .inr (9, [.ref c0, .ref c0q, .ref c0u, .ref c0v, .int sv, .int sw, .ref a0, .ref b0])), (c0, .inr (6, [.ref s0, .ref k0, .ref i0, .ref o0, .ref x0, .int et, .int wt, .int tm, .int sta, .int he, .int ac, .int ov])), (s0, .inr (8, [.ref s1, .ref s2, .ref s3, .int dr])), (s3, .inl (G.2.1.1, 8, .inl slips)), (qo, .inl (G.2.1.2.2.1, 1, .inr (.inl oc)))] s.heap := hP
  replace hl : lv_has ls 4 [(0, .ref z0), (1, .int p0), (2, .ref qo)] := hl
  refine lv_aload_n hx hb dL_slips_0 rfl (lv_at hl 2 rfl) ?_
  refine lv_iconst (v := 0) hx hb dL_slips_1 (by decide) ?_
  refine lv_aload_n hx hb dL_slips_2 rfl (lv_at hl 0 rfl) ?_
  refine lv_iload_n hx hb dL_slips_3 rfl (lv_at hl 1 rfl) ?_
  refine gzV (As := [.int p0]) (rest := [.int 0, .ref qo]) (wr := [(qo, .inl (G.2.1.2.2.1, 1, .inr (.inl oc)))]) (ws' := fun v9_ => [(z0, .inr (9, [.ref c0, .ref c0q, .ref c0u, .ref c0v, .int sv, .int sw, .ref a0, .ref b0])), (c0, .inr (6, [.ref s0, .ref k0, .ref i0, .ref o0, .ref x0, .int et, .int wt, .int tm, .int sta, .int he, .int ac, .int ov])), (s0, .inr (8, [.ref s1, .ref s2, .ref s3, .int dr])), (s3, .inl (G.2.1.1, 8, .inl slips)), (qo, .inl (G.2.1.2.2.1, 1, .inr (.inl oc)))]) (wsx := [(z0, .inr (9, [.ref c0, .ref c0q, .ref c0u, .ref c0v, .int sv, .int sw, .ref a0, .ref b0])), (c0, .inr (6, [.ref s0, .ref k0, .ref i0, .ref o0, .ref x0, .int et, .int wt, .int tm, .int sta, .int he, .int ac, .int ov])), (s0, .inr (8, [.ref s1, .ref s2, .ref s3, .int dr])), (s3, .inl (G.2.1.1, 8, .inl slips)), (qo, .inl (G.2.1.2.2.1, 1, .inr (.inl oc)))]) F ((c_X6_slips l hfl G z0 c0 c0q c0u c0v a0 b0 sv sw s0 k0 i0 o0 x0 et wt tm sta he ac ov s1 s2 s3 dr slips p0) _) gzX okV_X6_slips k_ml_L_45 rfl rfl ⟨Nat.le_of_ble_eq_true rfl, Nat.le_of_ble_eq_true rfl⟩ hN hSt hK hP hD hS hA [0, 1, 2, 3] [4] [1, 2, 3, 4, 0] (by decide) rfl rfl (by decide) (by decide) (by decide) (fun _ => rfl) rfl (q0 := 0) rfl rfl rfl rfl hl.1 (Nat.le_of_ble_eq_true rfl) dL_slips_4 ⟨Nat.le_of_ble_eq_true rfl, Nat.le_of_ble_eq_true rfl⟩ (fun c_1 v9_ H locs hP hD hS => ?_) (fun E9 ce9 q9 H locs x9 hP hD hS h91 h92 h93 => ?_)
  · skip
    refine lv_i2l (v := (Int32.toInt64 (f_X6_slips slips p0))) hx hb dL_slips_7 rfl ?_
    refine va_last hx hb hK hP hD hS 4 2 rfl rfl (gInL (by decide)) dL_slips_8 (fun H locs hP hD hS => ?_)
    replace hP : va_P G.1 vwCl [(z0, .inr (9, [.ref c0, .ref c0q, .ref c0u, .ref c0v, .int sv, .int sw, .ref a0, .ref b0])), (c0, .inr (6, [.ref s0, .ref k0, .ref i0, .ref o0, .ref x0, .int et, .int wt, .int tm, .int sta, .int he, .int ac, .int ov])), (s0, .inr (8, [.ref s1, .ref s2, .ref s3, .int dr])), (s3, .inl (G.2.1.1, 8, .inl slips)), (qo, .inl (G.2.1.2.2.1, 1, .inr (.inl (vp_updL oc (Int32.toNatClampNeg 0) (Int32.toInt64 (f_X6_slips slips p0))))))] H := hP
    replace hD : va_D A [(z0, .inr (9, [.ref c0, .ref c0q, .ref c0u, .ref c0v, .int sv, .int sw, .ref a0, .ref b0])), (c0, .inr (6, [.ref s0, .ref k0, .ref i0, .ref o0, .ref x0, .int et, .int wt, .int tm, .int sta, .int he, .int ac, .int ov])), (s0, .inr (8, [.ref s1, .ref s2, .ref s3, .int dr])), (s3, .inl (G.2.1.1, 8, .inl slips)), (qo, .inl (G.2.1.2.2.1, 1, .inr (.inl (vp_updL oc (Int32.toNatClampNeg 0) (Int32.toInt64 (f_X6_slips slips p0))))))] := hD
    refine lv_goto (tgt := 15) hx hb dL_slips_9 (by decide) ?_
    refine lv_iconst (v := 0) hx hb dL_slips_15 (by decide) ?_
    refine gyOf (r1 := some (.int (kodA (th_X6_slips p0)))) (u1 := [(z0, .inr (9, [.ref c0, .ref c0q, .ref c0u, .ref c0v, .int sv, .int sw, .ref a0, .ref b0])), (c0, .inr (6, [.ref s0, .ref k0, .ref i0, .ref o0, .ref x0, .int et, .int wt, .int tm, .int sta, .int he, .int ac, .int ov])), (s0, .inr (8, [.ref s1, .ref s2, .ref s3, .int dr])), (s3, .inl (G.2.1.1, 8, .inl slips)), (qo, .inl (G.2.1.2.2.1, 1, .inr (.inl (oF (th_X6_slips p0) (Int32.toInt64 (f_X6_slips slips p0)) oc))))]) 0 rfl rfl ?_
    exact gRetI F hr hlocks hK hP hD hS (congrArg (fun z => some (Value.int z)) (k1_0 c_1)) (by rw [oF_n c_1]) (Nat.le_of_ble_eq_true rfl) (Nat.le_of_ble_eq_true rfl) dL_slips_16
  · rcases (thc_X6_slips _ : _ = none ∨ _) with z9 | z9
    · exact absurd (x9.symm.trans z9) (Option.some_ne_none _)
    · have eE : E9 = "java/lang/IndexOutOfBoundsException" := Option.some.inj (x9.symm.trans z9)
      subst eE
      refine vx_catch (own := RL) (name := "java/lang/IndexOutOfBoundsException") (E := "java/lang/IndexOutOfBoundsException") hown [] ⟨0, 9, 12, 19⟩ [] (htab.trans rfl) (fun _ h => (List.not_mem_nil h).elim) (by decide) (by decide) (hts _ k_cl_L_19) (va_Nw.use rfl (hN.2.2.1 ("java/lang/IndexOutOfBoundsException", "java/lang/IndexOutOfBoundsException") (by decide +kernel))) h91 h92 h93 ?_
      refine lv_astore_n (lv' := [(3, .ref q9), (0, .ref z0), (1, .int p0), (2, .ref qo)]) hx hb dL_slips_12 rfl hl (by decide) rfl (fun ls hl => ?_)
      refine lv_iconst (v := 1) hx hb dL_slips_13 (by decide) ?_
      refine gyOf (r1 := some (.int (kodA (th_X6_slips p0)))) (u1 := [(z0, .inr (9, [.ref c0, .ref c0q, .ref c0u, .ref c0v, .int sv, .int sw, .ref a0, .ref b0])), (c0, .inr (6, [.ref s0, .ref k0, .ref i0, .ref o0, .ref x0, .int et, .int wt, .int tm, .int sta, .int he, .int ac, .int ov])), (s0, .inr (8, [.ref s1, .ref s2, .ref s3, .int dr])), (s3, .inl (G.2.1.1, 8, .inl slips)), (qo, .inl (G.2.1.2.2.1, 1, .inr (.inl (oF (th_X6_slips p0) (Int32.toInt64 (f_X6_slips slips p0)) oc))))]) 0 rfl rfl ?_
      exact gRetI F hr hlocks hK hP hD hS (congrArg (fun z => some (Value.int z)) (k1_1 x9)) (by rw [oF_x x9]) (Nat.le_of_ble_eq_true rfl) (Nat.le_of_ble_eq_true rfl) dL_slips_14
theorem okH_L_slips : gOkH yL_slips cL_slips 4 [(0, 9, 12, 19)] 3 := ⟨⟨k_st_L_slips, k_in_L, k_cd_L_slips⟩, by decide, by decide, by decide +kernel⟩
theorem thc_X6_requireTemperature (p0 : Int32) : (th_X6_requireTemperature p0) = none ∨ (th_X6_requireTemperature p0) = some "java/lang/IllegalArgumentException" := by
  unfold th_X6_requireTemperature
  try dsimp only
  split
  · skip
    exact Or.inr (rfl)
  · skip
    split
    · skip
      exact Or.inl rfl
    · skip
      exact Or.inr (rfl)
theorem thc_X6_setTemperature (p0 : Int32) (p1 : Int32) : (th_X6_setTemperature p0 p1) = none ∨ (th_X6_setTemperature p0 p1) = some "java/lang/IllegalArgumentException" ∨ (th_X6_setTemperature p0 p1) = some "java/lang/IndexOutOfBoundsException" := by
  unfold th_X6_setTemperature
  try dsimp only
  split
  · skip
    split
    · skip
      exact Or.inl rfl
    · skip
      rcases (thc_X6_requireTemperature _ : _ = none ∨ _) with h | h
      · exact Or.inl h
      · exact Or.inr (Or.inl h)
  · skip
    rcases (thc_X6_requireTank _ : _ = none ∨ _) with h | h
    · exact Or.inl h
    · exact Or.inr (Or.inr (h))
theorem fx_X6_setTemperature (temps : Nat → Int32) (p0 : Int32) (p1 : Int32) {E : String} (h : (th_X6_setTemperature p0 p1) = some E) : (f_X6_setTemperature temps p0 p1) = (0, temps) := by
  unfold th_X6_setTemperature at h
  unfold f_X6_setTemperature
  try dsimp only at h ⊢
  split at h
  · skip
    rw [if_pos (by assumption)]
    split at h
    · skip
      exact absurd h.symm (Option.some_ne_none _)
    · skip
      rw [if_neg (by assumption)]
      try rfl
  · skip
    rw [if_neg (by assumption)]
    try rfl
set_option maxRecDepth 100000 in
set_option maxHeartbeats 4000000 in
theorem c_L_setTemperature (l : Launch) (hfl : l.stackTraces = false) (G : gG) (z0 : Nat) (c0 : Nat) (c0q : Nat) (c0u : Nat) (c0v : Nat) (a0 : Nat) (b0 : Nat) (sv : Int32) (sw : Int32) (s0 : Nat) (k0 : Nat) (i0 : Nat) (o0 : Nat) (x0 : Nat) (et : Int32) (wt : Int32) (tm : Int32) (sta : Int32) (he : Int32) (ac : Int32) (ov : Int32) (k1 : Nat) (pt : Int32) (ot : Int32) (fp : Int32) (on : Int32) (temps : Nat → Int32) (p0 : Int32) (p1 : Int32) (qo : Nat) (oc : Nat → Int64) : gH l G yL_setTemperature cL_setTemperature 5 [(0, 10, 13, 19), (0, 10, 17, 25)] { frames := 8, cells := 2, slots := 12, locals := 133 } [.ref z0, .int p0, .int p1, .ref qo] [(z0, .inr (9, [.ref c0, .ref c0q, .ref c0u, .ref c0v, .int sv, .int sw, .ref a0, .ref b0])), (c0, .inr (6, [.ref s0, .ref k0, .ref i0, .ref o0, .ref x0, .int et, .int wt, .int tm, .int sta, .int he, .int ac, .int ov])), (k0, .inr (5, [.ref k1, .int pt, .int ot, .int fp, .int on])), (k1, .inl (G.2.1.1, 8, .inl temps)), (qo, .inl (G.2.1.2.2.1, 1, .inr (.inl oc)))] (kodB sIO (th_X6_setTemperature p0 p1)) (fun vv => [(z0, .inr (9, [.ref c0, .ref c0q, .ref c0u, .ref c0v, .int sv, .int sw, .ref a0, .ref b0])), (c0, .inr (6, [.ref s0, .ref k0, .ref i0, .ref o0, .ref x0, .int et, .int wt, .int tm, .int sta, .int he, .int ac, .int ov])), (k0, .inr (5, [.ref k1, .int pt, .int ot, .int fp, .int on])), (k1, .inl (G.2.1.1, 8, .inl ((f_X6_setTemperature temps p0 p1).2))), (qo, .inl (G.2.1.2.2.1, 1, .inr (.inl (oF (th_X6_setTemperature p0 p1) (Int32.toInt64 ((f_X6_setTemperature temps p0 p1).1)) oc))))]) 2 12 := by
  refine ghBegin (by decide +kernel) (Nat.le_of_ble_eq_true rfl) (fun p e s m args below meth c A F hr hlocks htab hN hSt hNc hK hP hD hA hS ls hl => ?_)
  obtain ⟨hx, hb, hml, hown, hts⟩ := id F
  replace hP : va_P G.1 vwCl [(z0, .inr (9, [.ref c0, .ref c0q, .ref c0u, .ref c0v, .int sv, .int sw, .ref a0, .ref b0])), (c0, .inr (6, [.ref s0, .ref k0, .ref i0, .ref o0, .ref x0, .int et, .int wt, .int tm, .int sta, .int he, .int ac, .int ov])), (k0, .inr (5, [.ref k1, .int pt, .int ot, .int fp, .int on])), (k1, .inl (G.2.1.1, 8, .inl temps)), (qo, .inl (G.2.1.2.2.1, 1, .inr (.inl oc)))] s.heap := hP
  replace hl : lv_has ls 5 [(0, .ref z0), (1, .int p0), (2, .int p1), (3, .ref qo)] := hl
  refine lv_aload_n hx hb dL_setTemperature_0 rfl (lv_at hl 3 rfl) ?_
  refine lv_iconst (v := 0) hx hb dL_setTemperature_1 (by decide) ?_
  refine lv_aload_n hx hb dL_setTemperature_2 rfl (lv_at hl 0 rfl) ?_
  refine lv_iload_n hx hb dL_setTemperature_3 rfl (lv_at hl 1 rfl) ?_
  refine lv_iload_n hx hb dL_setTemperature_4 rfl (lv_at hl 2 rfl) ?_
  refine gzV (As := [.int p0, .int p1]) (rest := [.int 0, .ref qo]) (wr := [(qo, .inl (G.2.1.2.2.1, 1, .inr (.inl oc)))]) (ws' := fun v9_ => [(z0, .inr (9, [.ref c0, .ref c0q, .ref c0u, .ref c0v, .int sv, .int sw, .ref a0, .ref b0])), (c0, .inr (6, [.ref s0, .ref k0, .ref i0, .ref o0, .ref x0, .int et, .int wt, .int tm, .int sta, .int he, .int ac, .int ov])), (k0, .inr (5, [.ref k1, .int pt, .int ot, .int fp, .int on])), (k1, .inl (G.2.1.1, 8, .inl ((f_X6_setTemperature temps p0 p1).2))), (qo, .inl (G.2.1.2.2.1, 1, .inr (.inl oc)))]) (wsx := [(z0, .inr (9, [.ref c0, .ref c0q, .ref c0u, .ref c0v, .int sv, .int sw, .ref a0, .ref b0])), (c0, .inr (6, [.ref s0, .ref k0, .ref i0, .ref o0, .ref x0, .int et, .int wt, .int tm, .int sta, .int he, .int ac, .int ov])), (k0, .inr (5, [.ref k1, .int pt, .int ot, .int fp, .int on])), (k1, .inl (G.2.1.1, 8, .inl temps)), (qo, .inl (G.2.1.2.2.1, 1, .inr (.inl oc)))]) F ((c_X6_setTemperature l hfl G z0 c0 c0q c0u c0v a0 b0 sv sw s0 k0 i0 o0 x0 et wt tm sta he ac ov k1 pt ot fp on temps p0 p1) _) gzX okV_X6_setTemperature k_ml_L_48 rfl rfl ⟨Nat.le_of_ble_eq_true rfl, Nat.le_of_ble_eq_true rfl⟩ hN hSt hK hP hD hS hA [0, 1, 2, 3] [4] [1, 2, 3, 4, 0] (by decide) rfl rfl (by decide) (by decide) (by decide) (fun _ => rfl) rfl (q0 := 0) rfl rfl rfl rfl hl.1 (Nat.le_of_ble_eq_true rfl) dL_setTemperature_5 ⟨Nat.le_of_ble_eq_true rfl, Nat.le_of_ble_eq_true rfl⟩ (fun c_1 v9_ H locs hP hD hS => ?_) (fun E9 ce9 q9 H locs x9 hP hD hS h91 h92 h93 => ?_)
  · skip
    refine lv_i2l (v := (Int32.toInt64 ((f_X6_setTemperature temps p0 p1).1))) hx hb dL_setTemperature_8 rfl ?_
    refine va_last hx hb hK hP hD hS 4 2 rfl rfl (gInL (by decide)) dL_setTemperature_9 (fun H locs hP hD hS => ?_)
    replace hP : va_P G.1 vwCl [(z0, .inr (9, [.ref c0, .ref c0q, .ref c0u, .ref c0v, .int sv, .int sw, .ref a0, .ref b0])), (c0, .inr (6, [.ref s0, .ref k0, .ref i0, .ref o0, .ref x0, .int et, .int wt, .int tm, .int sta, .int he, .int ac, .int ov])), (k0, .inr (5, [.ref k1, .int pt, .int ot, .int fp, .int on])), (k1, .inl (G.2.1.1, 8, .inl ((f_X6_setTemperature temps p0 p1).2))), (qo, .inl (G.2.1.2.2.1, 1, .inr (.inl (vp_updL oc (Int32.toNatClampNeg 0) (Int32.toInt64 ((f_X6_setTemperature temps p0 p1).1))))))] H := hP
    replace hD : va_D A [(z0, .inr (9, [.ref c0, .ref c0q, .ref c0u, .ref c0v, .int sv, .int sw, .ref a0, .ref b0])), (c0, .inr (6, [.ref s0, .ref k0, .ref i0, .ref o0, .ref x0, .int et, .int wt, .int tm, .int sta, .int he, .int ac, .int ov])), (k0, .inr (5, [.ref k1, .int pt, .int ot, .int fp, .int on])), (k1, .inl (G.2.1.1, 8, .inl ((f_X6_setTemperature temps p0 p1).2))), (qo, .inl (G.2.1.2.2.1, 1, .inr (.inl (vp_updL oc (Int32.toNatClampNeg 0) (Int32.toInt64 ((f_X6_setTemperature temps p0 p1).1))))))] := hD
    refine lv_goto (tgt := 21) hx hb dL_setTemperature_10 (by decide) ?_
    refine lv_iconst (v := 0) hx hb dL_setTemperature_21 (by decide) ?_
    refine gyOf (r1 := some (.int (kodB sIO (th_X6_setTemperature p0 p1)))) (u1 := [(z0, .inr (9, [.ref c0, .ref c0q, .ref c0u, .ref c0v, .int sv, .int sw, .ref a0, .ref b0])), (c0, .inr (6, [.ref s0, .ref k0, .ref i0, .ref o0, .ref x0, .int et, .int wt, .int tm, .int sta, .int he, .int ac, .int ov])), (k0, .inr (5, [.ref k1, .int pt, .int ot, .int fp, .int on])), (k1, .inl (G.2.1.1, 8, .inl ((f_X6_setTemperature temps p0 p1).2))), (qo, .inl (G.2.1.2.2.1, 1, .inr (.inl (oF (th_X6_setTemperature p0 p1) (Int32.toInt64 ((f_X6_setTemperature temps p0 p1).1)) oc))))]) 0 rfl rfl ?_
    exact gRetI F hr hlocks hK hP hD hS (congrArg (fun z => some (Value.int z)) (k2_0 c_1)) (by rw [oF_n c_1]) (Nat.le_of_ble_eq_true rfl) (Nat.le_of_ble_eq_true rfl) dL_setTemperature_22
  · rcases (thc_X6_setTemperature _ _ : _ = none ∨ _) with z9 | z9 | z9
    · exact absurd (x9.symm.trans z9) (Option.some_ne_none _)
    · have eE : E9 = "java/lang/IllegalArgumentException" := Option.some.inj (x9.symm.trans z9)
      subst eE
      refine vx_catch (own := RL) (name := "java/lang/IllegalArgumentException") (E := "java/lang/IllegalArgumentException") hown [⟨0, 10, 13, 19⟩] ⟨0, 10, 17, 25⟩ [] (htab.trans rfl) (fun z hz => by rw [List.mem_singleton.mp hz]; exact Or.inr ⟨by decide, "java/lang/IndexOutOfBoundsException", hts _ k_cl_L_19, hNc ("java/lang/IllegalArgumentException", "java/lang/IndexOutOfBoundsException") (by decide +kernel)⟩) (by decide) (by decide) (hts _ k_cl_L_25) (va_Nw.use rfl (hN.2.2.1 ("java/lang/IllegalArgumentException", "java/lang/IllegalArgumentException") (by decide +kernel))) h91 h92 h93 ?_
      refine lv_astore (lv' := [(4, .ref q9), (0, .ref z0), (1, .int p0), (2, .int p1), (3, .ref qo)]) hx hb dL_setTemperature_17 hl (by decide) rfl (fun ls hl => ?_)
      refine lv_iconst (v := 2) hx hb dL_setTemperature_19 (by decide) ?_
      refine gyOf (r1 := some (.int (kodB sIO (th_X6_setTemperature p0 p1)))) (u1 := [(z0, .inr (9, [.ref c0, .ref c0q, .ref c0u, .ref c0v, .int sv, .int sw, .ref a0, .ref b0])), (c0, .inr (6, [.ref s0, .ref k0, .ref i0, .ref o0, .ref x0, .int et, .int wt, .int tm, .int sta, .int he, .int ac, .int ov])), (k0, .inr (5, [.ref k1, .int pt, .int ot, .int fp, .int on])), (k1, .inl (G.2.1.1, 8, .inl ((f_X6_setTemperature temps p0 p1).2))), (qo, .inl (G.2.1.2.2.1, 1, .inr (.inl (oF (th_X6_setTemperature p0 p1) (Int32.toInt64 ((f_X6_setTemperature temps p0 p1).1)) oc))))]) 0 rfl rfl ?_
      exact gRetI F hr hlocks hK hP hD hS (congrArg (fun z => some (Value.int z)) (k2_e2 x9 (by decide))) (by rw [oF_x x9, fx_X6_setTemperature temps p0 p1 x9]) (Nat.le_of_ble_eq_true rfl) (Nat.le_of_ble_eq_true rfl) dL_setTemperature_20
    · have eE : E9 = "java/lang/IndexOutOfBoundsException" := Option.some.inj (x9.symm.trans z9)
      subst eE
      refine vx_catch (own := RL) (name := "java/lang/IndexOutOfBoundsException") (E := "java/lang/IndexOutOfBoundsException") hown [] ⟨0, 10, 13, 19⟩ [⟨0, 10, 17, 25⟩] (htab.trans rfl) (fun _ h => (List.not_mem_nil h).elim) (by decide) (by decide) (hts _ k_cl_L_19) (va_Nw.use rfl (hN.2.2.1 ("java/lang/IndexOutOfBoundsException", "java/lang/IndexOutOfBoundsException") (by decide +kernel))) h91 h92 h93 ?_
      refine lv_astore (lv' := [(4, .ref q9), (0, .ref z0), (1, .int p0), (2, .int p1), (3, .ref qo)]) hx hb dL_setTemperature_13 hl (by decide) rfl (fun ls hl => ?_)
      refine lv_iconst (v := 1) hx hb dL_setTemperature_15 (by decide) ?_
      refine gyOf (r1 := some (.int (kodB sIO (th_X6_setTemperature p0 p1)))) (u1 := [(z0, .inr (9, [.ref c0, .ref c0q, .ref c0u, .ref c0v, .int sv, .int sw, .ref a0, .ref b0])), (c0, .inr (6, [.ref s0, .ref k0, .ref i0, .ref o0, .ref x0, .int et, .int wt, .int tm, .int sta, .int he, .int ac, .int ov])), (k0, .inr (5, [.ref k1, .int pt, .int ot, .int fp, .int on])), (k1, .inl (G.2.1.1, 8, .inl ((f_X6_setTemperature temps p0 p1).2))), (qo, .inl (G.2.1.2.2.1, 1, .inr (.inl (oF (th_X6_setTemperature p0 p1) (Int32.toInt64 ((f_X6_setTemperature temps p0 p1).1)) oc))))]) 0 rfl rfl ?_
      exact gRetI F hr hlocks hK hP hD hS (congrArg (fun z => some (Value.int z)) (k2_e1 x9)) (by rw [oF_x x9, fx_X6_setTemperature temps p0 p1 x9]) (Nat.le_of_ble_eq_true rfl) (Nat.le_of_ble_eq_true rfl) dL_setTemperature_16
theorem okH_L_setTemperature : gOkH yL_setTemperature cL_setTemperature 5 [(0, 10, 13, 19), (0, 10, 17, 25)] 4 := ⟨⟨k_st_L_setTemperature, k_in_L, k_cd_L_setTemperature⟩, by decide, by decide, by decide +kernel⟩
theorem thc_X6_temperature (p0 : Int32) : (th_X6_temperature p0) = none ∨ (th_X6_temperature p0) = some "java/lang/IndexOutOfBoundsException" := by
  unfold th_X6_temperature
  try dsimp only
  split
  · skip
    exact Or.inl rfl
  · skip
    rcases (thc_X6_requireTank _ : _ = none ∨ _) with h | h
    · exact Or.inl h
    · exact Or.inr (h)
set_option maxRecDepth 100000 in
set_option maxHeartbeats 4000000 in
theorem c_L_temperature (l : Launch) (hfl : l.stackTraces = false) (G : gG) (z0 : Nat) (c0 : Nat) (c0q : Nat) (c0u : Nat) (c0v : Nat) (a0 : Nat) (b0 : Nat) (sv : Int32) (sw : Int32) (s0 : Nat) (k0 : Nat) (i0 : Nat) (o0 : Nat) (x0 : Nat) (et : Int32) (wt : Int32) (tm : Int32) (sta : Int32) (he : Int32) (ac : Int32) (ov : Int32) (k1 : Nat) (pt : Int32) (ot : Int32) (fp : Int32) (on : Int32) (temps : Nat → Int32) (p0 : Int32) (qo : Nat) (oc : Nat → Int64) : gH l G yL_temperature cL_temperature 4 [(0, 9, 12, 19)] { frames := 8, cells := 1, slots := 6, locals := 131 } [.ref z0, .int p0, .ref qo] [(z0, .inr (9, [.ref c0, .ref c0q, .ref c0u, .ref c0v, .int sv, .int sw, .ref a0, .ref b0])), (c0, .inr (6, [.ref s0, .ref k0, .ref i0, .ref o0, .ref x0, .int et, .int wt, .int tm, .int sta, .int he, .int ac, .int ov])), (k0, .inr (5, [.ref k1, .int pt, .int ot, .int fp, .int on])), (k1, .inl (G.2.1.1, 8, .inl temps)), (qo, .inl (G.2.1.2.2.1, 1, .inr (.inl oc)))] (kodA (th_X6_temperature p0)) (fun vv => [(z0, .inr (9, [.ref c0, .ref c0q, .ref c0u, .ref c0v, .int sv, .int sw, .ref a0, .ref b0])), (c0, .inr (6, [.ref s0, .ref k0, .ref i0, .ref o0, .ref x0, .int et, .int wt, .int tm, .int sta, .int he, .int ac, .int ov])), (k0, .inr (5, [.ref k1, .int pt, .int ot, .int fp, .int on])), (k1, .inl (G.2.1.1, 8, .inl temps)), (qo, .inl (G.2.1.2.2.1, 1, .inr (.inl (oF (th_X6_temperature p0) (Int32.toInt64 (f_X6_temperature temps p0)) oc))))]) 1 6 := by
  refine ghBegin (by decide +kernel) (Nat.le_of_ble_eq_true rfl) (fun p e s m args below meth c A F hr hlocks htab hN hSt hNc hK hP hD hA hS ls hl => ?_)
  obtain ⟨hx, hb, hml, hown, hts⟩ := id F
  replace hP : va_P G.1 vwCl [(z0, .inr (9, [.ref c0, .ref c0q, .ref c0u, .ref c0v, .int sv, .int sw, .ref a0, .ref b0])), (c0, .inr (6, [.ref s0, .ref k0, .ref i0, .ref o0, .ref x0, .int et, .int wt, .int tm, .int sta, .int he, .int ac, .int ov])), (k0, .inr (5, [.ref k1, .int pt, .int ot, .int fp, .int on])), (k1, .inl (G.2.1.1, 8, .inl temps)), (qo, .inl (G.2.1.2.2.1, 1, .inr (.inl oc)))] s.heap := hP
  replace hl : lv_has ls 4 [(0, .ref z0), (1, .int p0), (2, .ref qo)] := hl
  refine lv_aload_n hx hb dL_temperature_0 rfl (lv_at hl 2 rfl) ?_
  refine lv_iconst (v := 0) hx hb dL_temperature_1 (by decide) ?_
  refine lv_aload_n hx hb dL_temperature_2 rfl (lv_at hl 0 rfl) ?_
  refine lv_iload_n hx hb dL_temperature_3 rfl (lv_at hl 1 rfl) ?_
  refine gzV (As := [.int p0]) (rest := [.int 0, .ref qo]) (wr := [(qo, .inl (G.2.1.2.2.1, 1, .inr (.inl oc)))]) (ws' := fun v9_ => [(z0, .inr (9, [.ref c0, .ref c0q, .ref c0u, .ref c0v, .int sv, .int sw, .ref a0, .ref b0])), (c0, .inr (6, [.ref s0, .ref k0, .ref i0, .ref o0, .ref x0, .int et, .int wt, .int tm, .int sta, .int he, .int ac, .int ov])), (k0, .inr (5, [.ref k1, .int pt, .int ot, .int fp, .int on])), (k1, .inl (G.2.1.1, 8, .inl temps)), (qo, .inl (G.2.1.2.2.1, 1, .inr (.inl oc)))]) (wsx := [(z0, .inr (9, [.ref c0, .ref c0q, .ref c0u, .ref c0v, .int sv, .int sw, .ref a0, .ref b0])), (c0, .inr (6, [.ref s0, .ref k0, .ref i0, .ref o0, .ref x0, .int et, .int wt, .int tm, .int sta, .int he, .int ac, .int ov])), (k0, .inr (5, [.ref k1, .int pt, .int ot, .int fp, .int on])), (k1, .inl (G.2.1.1, 8, .inl temps)), (qo, .inl (G.2.1.2.2.1, 1, .inr (.inl oc)))]) F ((c_X6_temperature l hfl G z0 c0 c0q c0u c0v a0 b0 sv sw s0 k0 i0 o0 x0 et wt tm sta he ac ov k1 pt ot fp on temps p0) _) gzX okV_X6_temperature k_ml_L_51 rfl rfl ⟨Nat.le_of_ble_eq_true rfl, Nat.le_of_ble_eq_true rfl⟩ hN hSt hK hP hD hS hA [0, 1, 2, 3] [4] [1, 2, 3, 4, 0] (by decide) rfl rfl (by decide) (by decide) (by decide) (fun _ => rfl) rfl (q0 := 0) rfl rfl rfl rfl hl.1 (Nat.le_of_ble_eq_true rfl) dL_temperature_4 ⟨Nat.le_of_ble_eq_true rfl, Nat.le_of_ble_eq_true rfl⟩ (fun c_1 v9_ H locs hP hD hS => ?_) (fun E9 ce9 q9 H locs x9 hP hD hS h91 h92 h93 => ?_)
  · skip
    refine lv_i2l (v := (Int32.toInt64 (f_X6_temperature temps p0))) hx hb dL_temperature_7 rfl ?_
    refine va_last hx hb hK hP hD hS 4 2 rfl rfl (gInL (by decide)) dL_temperature_8 (fun H locs hP hD hS => ?_)
    replace hP : va_P G.1 vwCl [(z0, .inr (9, [.ref c0, .ref c0q, .ref c0u, .ref c0v, .int sv, .int sw, .ref a0, .ref b0])), (c0, .inr (6, [.ref s0, .ref k0, .ref i0, .ref o0, .ref x0, .int et, .int wt, .int tm, .int sta, .int he, .int ac, .int ov])), (k0, .inr (5, [.ref k1, .int pt, .int ot, .int fp, .int on])), (k1, .inl (G.2.1.1, 8, .inl temps)), (qo, .inl (G.2.1.2.2.1, 1, .inr (.inl (vp_updL oc (Int32.toNatClampNeg 0) (Int32.toInt64 (f_X6_temperature temps p0))))))] H := hP
    replace hD : va_D A [(z0, .inr (9, [.ref c0, .ref c0q, .ref c0u, .ref c0v, .int sv, .int sw, .ref a0, .ref b0])), (c0, .inr (6, [.ref s0, .ref k0, .ref i0, .ref o0, .ref x0, .int et, .int wt, .int tm, .int sta, .int he, .int ac, .int ov])), (k0, .inr (5, [.ref k1, .int pt, .int ot, .int fp, .int on])), (k1, .inl (G.2.1.1, 8, .inl temps)), (qo, .inl (G.2.1.2.2.1, 1, .inr (.inl (vp_updL oc (Int32.toNatClampNeg 0) (Int32.toInt64 (f_X6_temperature temps p0))))))] := hD
    refine lv_goto (tgt := 15) hx hb dL_temperature_9 (by decide) ?_
    refine lv_iconst (v := 0) hx hb dL_temperature_15 (by decide) ?_
    refine gyOf (r1 := some (.int (kodA (th_X6_temperature p0)))) (u1 := [(z0, .inr (9, [.ref c0, .ref c0q, .ref c0u, .ref c0v, .int sv, .int sw, .ref a0, .ref b0])), (c0, .inr (6, [.ref s0, .ref k0, .ref i0, .ref o0, .ref x0, .int et, .int wt, .int tm, .int sta, .int he, .int ac, .int ov])), (k0, .inr (5, [.ref k1, .int pt, .int ot, .int fp, .int on])), (k1, .inl (G.2.1.1, 8, .inl temps)), (qo, .inl (G.2.1.2.2.1, 1, .inr (.inl (oF (th_X6_temperature p0) (Int32.toInt64 (f_X6_temperature temps p0)) oc))))]) 0 rfl rfl ?_
    exact gRetI F hr hlocks hK hP hD hS (congrArg (fun z => some (Value.int z)) (k1_0 c_1)) (by rw [oF_n c_1]) (Nat.le_of_ble_eq_true rfl) (Nat.le_of_ble_eq_true rfl) dL_temperature_16
  · rcases (thc_X6_temperature _ : _ = none ∨ _) with z9 | z9
    · exact absurd (x9.symm.trans z9) (Option.some_ne_none _)
    · have eE : E9 = "java/lang/IndexOutOfBoundsException" := Option.some.inj (x9.symm.trans z9)
      subst eE
      refine vx_catch (own := RL) (name := "java/lang/IndexOutOfBoundsException") (E := "java/lang/IndexOutOfBoundsException") hown [] ⟨0, 9, 12, 19⟩ [] (htab.trans rfl) (fun _ h => (List.not_mem_nil h).elim) (by decide) (by decide) (hts _ k_cl_L_19) (va_Nw.use rfl (hN.2.2.1 ("java/lang/IndexOutOfBoundsException", "java/lang/IndexOutOfBoundsException") (by decide +kernel))) h91 h92 h93 ?_
      refine lv_astore_n (lv' := [(3, .ref q9), (0, .ref z0), (1, .int p0), (2, .ref qo)]) hx hb dL_temperature_12 rfl hl (by decide) rfl (fun ls hl => ?_)
      refine lv_iconst (v := 1) hx hb dL_temperature_13 (by decide) ?_
      refine gyOf (r1 := some (.int (kodA (th_X6_temperature p0)))) (u1 := [(z0, .inr (9, [.ref c0, .ref c0q, .ref c0u, .ref c0v, .int sv, .int sw, .ref a0, .ref b0])), (c0, .inr (6, [.ref s0, .ref k0, .ref i0, .ref o0, .ref x0, .int et, .int wt, .int tm, .int sta, .int he, .int ac, .int ov])), (k0, .inr (5, [.ref k1, .int pt, .int ot, .int fp, .int on])), (k1, .inl (G.2.1.1, 8, .inl temps)), (qo, .inl (G.2.1.2.2.1, 1, .inr (.inl (oF (th_X6_temperature p0) (Int32.toInt64 (f_X6_temperature temps p0)) oc))))]) 0 rfl rfl ?_
      exact gRetI F hr hlocks hK hP hD hS (congrArg (fun z => some (Value.int z)) (k1_1 x9)) (by rw [oF_x x9]) (Nat.le_of_ble_eq_true rfl) (Nat.le_of_ble_eq_true rfl) dL_temperature_14
theorem okH_L_temperature : gOkH yL_temperature cL_temperature 4 [(0, 9, 12, 19)] 3 := ⟨⟨k_st_L_temperature, k_in_L, k_cd_L_temperature⟩, by decide, by decide, by decide +kernel⟩
theorem thc_X6_setOven (p0 : Int32) : (th_X6_setOven p0) = none ∨ (th_X6_setOven p0) = some "java/lang/IllegalArgumentException" := by
  unfold th_X6_setOven
  try dsimp only
  split
  · skip
    exact Or.inl rfl
  · skip
    rcases (thc_X6_requireTemperature _ : _ = none ∨ _) with h | h
    · exact Or.inl h
    · exact Or.inr (h)
theorem fx_X6_setOven (ot : Int32) (p0 : Int32) {E : String} (h : (th_X6_setOven p0) = some E) : (f_X6_setOven ot p0) = (0, ot) := by
  unfold th_X6_setOven at h
  unfold f_X6_setOven
  try dsimp only at h ⊢
  split at h
  · skip
    exact absurd h.symm (Option.some_ne_none _)
  · skip
    rw [if_neg (by assumption)]
    try rfl
set_option maxRecDepth 100000 in
set_option maxHeartbeats 4000000 in
theorem c_L_setOven (l : Launch) (hfl : l.stackTraces = false) (G : gG) (z0 : Nat) (c0 : Nat) (c0q : Nat) (c0u : Nat) (c0v : Nat) (a0 : Nat) (b0 : Nat) (sv : Int32) (sw : Int32) (s0 : Nat) (k0 : Nat) (i0 : Nat) (o0 : Nat) (x0 : Nat) (et : Int32) (wt : Int32) (tm : Int32) (sta : Int32) (he : Int32) (ac : Int32) (ov : Int32) (k1 : Nat) (pt : Int32) (ot : Int32) (fp : Int32) (on : Int32) (p0 : Int32) (qo : Nat) (oc : Nat → Int64) : gH l G yL_setOven cL_setOven 4 [(0, 9, 12, 25)] { frames := 8, cells := 1, slots := 6, locals := 132 } [.ref z0, .int p0, .ref qo] [(z0, .inr (9, [.ref c0, .ref c0q, .ref c0u, .ref c0v, .int sv, .int sw, .ref a0, .ref b0])), (c0, .inr (6, [.ref s0, .ref k0, .ref i0, .ref o0, .ref x0, .int et, .int wt, .int tm, .int sta, .int he, .int ac, .int ov])), (k0, .inr (5, [.ref k1, .int pt, .int ot, .int fp, .int on])), (qo, .inl (G.2.1.2.2.1, 1, .inr (.inl oc)))] (kodA (th_X6_setOven p0)) (fun vv => [(z0, .inr (9, [.ref c0, .ref c0q, .ref c0u, .ref c0v, .int sv, .int sw, .ref a0, .ref b0])), (c0, .inr (6, [.ref s0, .ref k0, .ref i0, .ref o0, .ref x0, .int et, .int wt, .int tm, .int sta, .int he, .int ac, .int ov])), (k0, .inr (5, [.ref k1, .int pt, .int ((f_X6_setOven ot p0).2), .int fp, .int on])), (qo, .inl (G.2.1.2.2.1, 1, .inr (.inl (oF (th_X6_setOven p0) (Int32.toInt64 ((f_X6_setOven ot p0).1)) oc))))]) 1 6 := by
  refine ghBegin (by decide +kernel) (Nat.le_of_ble_eq_true rfl) (fun p e s m args below meth c A F hr hlocks htab hN hSt hNc hK hP hD hA hS ls hl => ?_)
  obtain ⟨hx, hb, hml, hown, hts⟩ := id F
  replace hP : va_P G.1 vwCl [(z0, .inr (9, [.ref c0, .ref c0q, .ref c0u, .ref c0v, .int sv, .int sw, .ref a0, .ref b0])), (c0, .inr (6, [.ref s0, .ref k0, .ref i0, .ref o0, .ref x0, .int et, .int wt, .int tm, .int sta, .int he, .int ac, .int ov])), (k0, .inr (5, [.ref k1, .int pt, .int ot, .int fp, .int on])), (qo, .inl (G.2.1.2.2.1, 1, .inr (.inl oc)))] s.heap := hP
  replace hl : lv_has ls 4 [(0, .ref z0), (1, .int p0), (2, .ref qo)] := hl
  refine lv_aload_n hx hb dL_setOven_0 rfl (lv_at hl 2 rfl) ?_
  refine lv_iconst (v := 0) hx hb dL_setOven_1 (by decide) ?_
  refine lv_aload_n hx hb dL_setOven_2 rfl (lv_at hl 0 rfl) ?_
  refine lv_iload_n hx hb dL_setOven_3 rfl (lv_at hl 1 rfl) ?_
  refine gzV (As := [.int p0]) (rest := [.int 0, .ref qo]) (wr := [(qo, .inl (G.2.1.2.2.1, 1, .inr (.inl oc)))]) (ws' := fun v9_ => [(z0, .inr (9, [.ref c0, .ref c0q, .ref c0u, .ref c0v, .int sv, .int sw, .ref a0, .ref b0])), (c0, .inr (6, [.ref s0, .ref k0, .ref i0, .ref o0, .ref x0, .int et, .int wt, .int tm, .int sta, .int he, .int ac, .int ov])), (k0, .inr (5, [.ref k1, .int pt, .int ((f_X6_setOven ot p0).2), .int fp, .int on])), (qo, .inl (G.2.1.2.2.1, 1, .inr (.inl oc)))]) (wsx := [(z0, .inr (9, [.ref c0, .ref c0q, .ref c0u, .ref c0v, .int sv, .int sw, .ref a0, .ref b0])), (c0, .inr (6, [.ref s0, .ref k0, .ref i0, .ref o0, .ref x0, .int et, .int wt, .int tm, .int sta, .int he, .int ac, .int ov])), (k0, .inr (5, [.ref k1, .int pt, .int ot, .int fp, .int on])), (qo, .inl (G.2.1.2.2.1, 1, .inr (.inl oc)))]) F ((c_X6_setOven l hfl G z0 c0 c0q c0u c0v a0 b0 sv sw s0 k0 i0 o0 x0 et wt tm sta he ac ov k1 pt ot fp on p0) _) gzX okV_X6_setOven k_ml_L_54 rfl rfl ⟨Nat.le_of_ble_eq_true rfl, Nat.le_of_ble_eq_true rfl⟩ hN hSt hK hP hD hS hA [0, 1, 2] [3] [1, 2, 3, 0] (by decide) rfl rfl (by decide) (by decide) (by decide) (fun _ => rfl) rfl (q0 := 0) rfl rfl rfl rfl hl.1 (Nat.le_of_ble_eq_true rfl) dL_setOven_4 ⟨Nat.le_of_ble_eq_true rfl, Nat.le_of_ble_eq_true rfl⟩ (fun c_1 v9_ H locs hP hD hS => ?_) (fun E9 ce9 q9 H locs x9 hP hD hS h91 h92 h93 => ?_)
  · skip
    refine lv_i2l (v := (Int32.toInt64 ((f_X6_setOven ot p0).1))) hx hb dL_setOven_7 rfl ?_
    refine va_last hx hb hK hP hD hS 3 2 rfl rfl (gInL (by decide)) dL_setOven_8 (fun H locs hP hD hS => ?_)
    replace hP : va_P G.1 vwCl [(z0, .inr (9, [.ref c0, .ref c0q, .ref c0u, .ref c0v, .int sv, .int sw, .ref a0, .ref b0])), (c0, .inr (6, [.ref s0, .ref k0, .ref i0, .ref o0, .ref x0, .int et, .int wt, .int tm, .int sta, .int he, .int ac, .int ov])), (k0, .inr (5, [.ref k1, .int pt, .int ((f_X6_setOven ot p0).2), .int fp, .int on])), (qo, .inl (G.2.1.2.2.1, 1, .inr (.inl (vp_updL oc (Int32.toNatClampNeg 0) (Int32.toInt64 ((f_X6_setOven ot p0).1))))))] H := hP
    replace hD : va_D A [(z0, .inr (9, [.ref c0, .ref c0q, .ref c0u, .ref c0v, .int sv, .int sw, .ref a0, .ref b0])), (c0, .inr (6, [.ref s0, .ref k0, .ref i0, .ref o0, .ref x0, .int et, .int wt, .int tm, .int sta, .int he, .int ac, .int ov])), (k0, .inr (5, [.ref k1, .int pt, .int ((f_X6_setOven ot p0).2), .int fp, .int on])), (qo, .inl (G.2.1.2.2.1, 1, .inr (.inl (vp_updL oc (Int32.toNatClampNeg 0) (Int32.toInt64 ((f_X6_setOven ot p0).1))))))] := hD
    refine lv_goto (tgt := 15) hx hb dL_setOven_9 (by decide) ?_
    refine lv_iconst (v := 0) hx hb dL_setOven_15 (by decide) ?_
    refine gyOf (r1 := some (.int (kodA (th_X6_setOven p0)))) (u1 := [(z0, .inr (9, [.ref c0, .ref c0q, .ref c0u, .ref c0v, .int sv, .int sw, .ref a0, .ref b0])), (c0, .inr (6, [.ref s0, .ref k0, .ref i0, .ref o0, .ref x0, .int et, .int wt, .int tm, .int sta, .int he, .int ac, .int ov])), (k0, .inr (5, [.ref k1, .int pt, .int ((f_X6_setOven ot p0).2), .int fp, .int on])), (qo, .inl (G.2.1.2.2.1, 1, .inr (.inl (oF (th_X6_setOven p0) (Int32.toInt64 ((f_X6_setOven ot p0).1)) oc))))]) 0 rfl rfl ?_
    exact gRetI F hr hlocks hK hP hD hS (congrArg (fun z => some (Value.int z)) (k1_0 c_1)) (by rw [oF_n c_1]) (Nat.le_of_ble_eq_true rfl) (Nat.le_of_ble_eq_true rfl) dL_setOven_16
  · rcases (thc_X6_setOven _ : _ = none ∨ _) with z9 | z9
    · exact absurd (x9.symm.trans z9) (Option.some_ne_none _)
    · have eE : E9 = "java/lang/IllegalArgumentException" := Option.some.inj (x9.symm.trans z9)
      subst eE
      refine vx_catch (own := RL) (name := "java/lang/IllegalArgumentException") (E := "java/lang/IllegalArgumentException") hown [] ⟨0, 9, 12, 25⟩ [] (htab.trans rfl) (fun _ h => (List.not_mem_nil h).elim) (by decide) (by decide) (hts _ k_cl_L_25) (va_Nw.use rfl (hN.2.2.1 ("java/lang/IllegalArgumentException", "java/lang/IllegalArgumentException") (by decide +kernel))) h91 h92 h93 ?_
      refine lv_astore_n (lv' := [(3, .ref q9), (0, .ref z0), (1, .int p0), (2, .ref qo)]) hx hb dL_setOven_12 rfl hl (by decide) rfl (fun ls hl => ?_)
      refine lv_iconst (v := 1) hx hb dL_setOven_13 (by decide) ?_
      refine gyOf (r1 := some (.int (kodA (th_X6_setOven p0)))) (u1 := [(z0, .inr (9, [.ref c0, .ref c0q, .ref c0u, .ref c0v, .int sv, .int sw, .ref a0, .ref b0])), (c0, .inr (6, [.ref s0, .ref k0, .ref i0, .ref o0, .ref x0, .int et, .int wt, .int tm, .int sta, .int he, .int ac, .int ov])), (k0, .inr (5, [.ref k1, .int pt, .int ((f_X6_setOven ot p0).2), .int fp, .int on])), (qo, .inl (G.2.1.2.2.1, 1, .inr (.inl (oF (th_X6_setOven p0) (Int32.toInt64 ((f_X6_setOven ot p0).1)) oc))))]) 0 rfl rfl ?_
      exact gRetI F hr hlocks hK hP hD hS (congrArg (fun z => some (Value.int z)) (k1_1 x9)) (by rw [oF_x x9, fx_X6_setOven ot p0 x9]) (Nat.le_of_ble_eq_true rfl) (Nat.le_of_ble_eq_true rfl) dL_setOven_14
theorem okH_L_setOven : gOkH yL_setOven cL_setOven 4 [(0, 9, 12, 25)] 3 := ⟨⟨k_st_L_setOven, k_in_L, k_cd_L_setOven⟩, by decide, by decide, by decide +kernel⟩
theorem thc_X6_setPilotTemperature (p0 : Int32) : (th_X6_setPilotTemperature p0) = none ∨ (th_X6_setPilotTemperature p0) = some "java/lang/IllegalArgumentException" := by
  unfold th_X6_setPilotTemperature
  try dsimp only
  split
  · skip
    exact Or.inl rfl
  · skip
    rcases (thc_X6_requireTemperature _ : _ = none ∨ _) with h | h
    · exact Or.inl h
    · exact Or.inr (h)
theorem fx_X6_setPilotTemperature (pt : Int32) (p0 : Int32) {E : String} (h : (th_X6_setPilotTemperature p0) = some E) : (f_X6_setPilotTemperature pt p0) = (0, pt) := by
  unfold th_X6_setPilotTemperature at h
  unfold f_X6_setPilotTemperature
  try dsimp only at h ⊢
  split at h
  · skip
    exact absurd h.symm (Option.some_ne_none _)
  · skip
    rw [if_neg (by assumption)]
    try rfl
set_option maxRecDepth 100000 in
set_option maxHeartbeats 4000000 in
theorem c_L_setPilotTemperature (l : Launch) (hfl : l.stackTraces = false) (G : gG) (z0 : Nat) (c0 : Nat) (c0q : Nat) (c0u : Nat) (c0v : Nat) (a0 : Nat) (b0 : Nat) (sv : Int32) (sw : Int32) (s0 : Nat) (k0 : Nat) (i0 : Nat) (o0 : Nat) (x0 : Nat) (et : Int32) (wt : Int32) (tm : Int32) (sta : Int32) (he : Int32) (ac : Int32) (ov : Int32) (k1 : Nat) (pt : Int32) (ot : Int32) (fp : Int32) (on : Int32) (p0 : Int32) (qo : Nat) (oc : Nat → Int64) : gH l G yL_setPilotTemperature cL_setPilotTemperature 4 [(0, 9, 12, 25)] { frames := 8, cells := 1, slots := 6, locals := 132 } [.ref z0, .int p0, .ref qo] [(z0, .inr (9, [.ref c0, .ref c0q, .ref c0u, .ref c0v, .int sv, .int sw, .ref a0, .ref b0])), (c0, .inr (6, [.ref s0, .ref k0, .ref i0, .ref o0, .ref x0, .int et, .int wt, .int tm, .int sta, .int he, .int ac, .int ov])), (k0, .inr (5, [.ref k1, .int pt, .int ot, .int fp, .int on])), (qo, .inl (G.2.1.2.2.1, 1, .inr (.inl oc)))] (kodA (th_X6_setPilotTemperature p0)) (fun vv => [(z0, .inr (9, [.ref c0, .ref c0q, .ref c0u, .ref c0v, .int sv, .int sw, .ref a0, .ref b0])), (c0, .inr (6, [.ref s0, .ref k0, .ref i0, .ref o0, .ref x0, .int et, .int wt, .int tm, .int sta, .int he, .int ac, .int ov])), (k0, .inr (5, [.ref k1, .int ((f_X6_setPilotTemperature pt p0).2), .int ot, .int fp, .int on])), (qo, .inl (G.2.1.2.2.1, 1, .inr (.inl (oF (th_X6_setPilotTemperature p0) (Int32.toInt64 ((f_X6_setPilotTemperature pt p0).1)) oc))))]) 1 6 := by
  refine ghBegin (by decide +kernel) (Nat.le_of_ble_eq_true rfl) (fun p e s m args below meth c A F hr hlocks htab hN hSt hNc hK hP hD hA hS ls hl => ?_)
  obtain ⟨hx, hb, hml, hown, hts⟩ := id F
  replace hP : va_P G.1 vwCl [(z0, .inr (9, [.ref c0, .ref c0q, .ref c0u, .ref c0v, .int sv, .int sw, .ref a0, .ref b0])), (c0, .inr (6, [.ref s0, .ref k0, .ref i0, .ref o0, .ref x0, .int et, .int wt, .int tm, .int sta, .int he, .int ac, .int ov])), (k0, .inr (5, [.ref k1, .int pt, .int ot, .int fp, .int on])), (qo, .inl (G.2.1.2.2.1, 1, .inr (.inl oc)))] s.heap := hP
  replace hl : lv_has ls 4 [(0, .ref z0), (1, .int p0), (2, .ref qo)] := hl
  refine lv_aload_n hx hb dL_setPilotTemperature_0 rfl (lv_at hl 2 rfl) ?_
  refine lv_iconst (v := 0) hx hb dL_setPilotTemperature_1 (by decide) ?_
  refine lv_aload_n hx hb dL_setPilotTemperature_2 rfl (lv_at hl 0 rfl) ?_
  refine lv_iload_n hx hb dL_setPilotTemperature_3 rfl (lv_at hl 1 rfl) ?_
  refine gzV (As := [.int p0]) (rest := [.int 0, .ref qo]) (wr := [(qo, .inl (G.2.1.2.2.1, 1, .inr (.inl oc)))]) (ws' := fun v9_ => [(z0, .inr (9, [.ref c0, .ref c0q, .ref c0u, .ref c0v, .int sv, .int sw, .ref a0, .ref b0])), (c0, .inr (6, [.ref s0, .ref k0, .ref i0, .ref o0, .ref x0, .int et, .int wt, .int tm, .int sta, .int he, .int ac, .int ov])), (k0, .inr (5, [.ref k1, .int ((f_X6_setPilotTemperature pt p0).2), .int ot, .int fp, .int on])), (qo, .inl (G.2.1.2.2.1, 1, .inr (.inl oc)))]) (wsx := [(z0, .inr (9, [.ref c0, .ref c0q, .ref c0u, .ref c0v, .int sv, .int sw, .ref a0, .ref b0])), (c0, .inr (6, [.ref s0, .ref k0, .ref i0, .ref o0, .ref x0, .int et, .int wt, .int tm, .int sta, .int he, .int ac, .int ov])), (k0, .inr (5, [.ref k1, .int pt, .int ot, .int fp, .int on])), (qo, .inl (G.2.1.2.2.1, 1, .inr (.inl oc)))]) F ((c_X6_setPilotTemperature l hfl G z0 c0 c0q c0u c0v a0 b0 sv sw s0 k0 i0 o0 x0 et wt tm sta he ac ov k1 pt ot fp on p0) _) gzX okV_X6_setPilotTemperature k_ml_L_57 rfl rfl ⟨Nat.le_of_ble_eq_true rfl, Nat.le_of_ble_eq_true rfl⟩ hN hSt hK hP hD hS hA [0, 1, 2] [3] [1, 2, 3, 0] (by decide) rfl rfl (by decide) (by decide) (by decide) (fun _ => rfl) rfl (q0 := 0) rfl rfl rfl rfl hl.1 (Nat.le_of_ble_eq_true rfl) dL_setPilotTemperature_4 ⟨Nat.le_of_ble_eq_true rfl, Nat.le_of_ble_eq_true rfl⟩ (fun c_1 v9_ H locs hP hD hS => ?_) (fun E9 ce9 q9 H locs x9 hP hD hS h91 h92 h93 => ?_)
  · skip
    refine lv_i2l (v := (Int32.toInt64 ((f_X6_setPilotTemperature pt p0).1))) hx hb dL_setPilotTemperature_7 rfl ?_
    refine va_last hx hb hK hP hD hS 3 2 rfl rfl (gInL (by decide)) dL_setPilotTemperature_8 (fun H locs hP hD hS => ?_)
    replace hP : va_P G.1 vwCl [(z0, .inr (9, [.ref c0, .ref c0q, .ref c0u, .ref c0v, .int sv, .int sw, .ref a0, .ref b0])), (c0, .inr (6, [.ref s0, .ref k0, .ref i0, .ref o0, .ref x0, .int et, .int wt, .int tm, .int sta, .int he, .int ac, .int ov])), (k0, .inr (5, [.ref k1, .int ((f_X6_setPilotTemperature pt p0).2), .int ot, .int fp, .int on])), (qo, .inl (G.2.1.2.2.1, 1, .inr (.inl (vp_updL oc (Int32.toNatClampNeg 0) (Int32.toInt64 ((f_X6_setPilotTemperature pt p0).1))))))] H := hP
    replace hD : va_D A [(z0, .inr (9, [.ref c0, .ref c0q, .ref c0u, .ref c0v, .int sv, .int sw, .ref a0, .ref b0])), (c0, .inr (6, [.ref s0, .ref k0, .ref i0, .ref o0, .ref x0, .int et, .int wt, .int tm, .int sta, .int he, .int ac, .int ov])), (k0, .inr (5, [.ref k1, .int ((f_X6_setPilotTemperature pt p0).2), .int ot, .int fp, .int on])), (qo, .inl (G.2.1.2.2.1, 1, .inr (.inl (vp_updL oc (Int32.toNatClampNeg 0) (Int32.toInt64 ((f_X6_setPilotTemperature pt p0).1))))))] := hD
    refine lv_goto (tgt := 15) hx hb dL_setPilotTemperature_9 (by decide) ?_
    refine lv_iconst (v := 0) hx hb dL_setPilotTemperature_15 (by decide) ?_
    refine gyOf (r1 := some (.int (kodA (th_X6_setPilotTemperature p0)))) (u1 := [(z0, .inr (9, [.ref c0, .ref c0q, .ref c0u, .ref c0v, .int sv, .int sw, .ref a0, .ref b0])), (c0, .inr (6, [.ref s0, .ref k0, .ref i0, .ref o0, .ref x0, .int et, .int wt, .int tm, .int sta, .int he, .int ac, .int ov])), (k0, .inr (5, [.ref k1, .int ((f_X6_setPilotTemperature pt p0).2), .int ot, .int fp, .int on])), (qo, .inl (G.2.1.2.2.1, 1, .inr (.inl (oF (th_X6_setPilotTemperature p0) (Int32.toInt64 ((f_X6_setPilotTemperature pt p0).1)) oc))))]) 0 rfl rfl ?_
    exact gRetI F hr hlocks hK hP hD hS (congrArg (fun z => some (Value.int z)) (k1_0 c_1)) (by rw [oF_n c_1]) (Nat.le_of_ble_eq_true rfl) (Nat.le_of_ble_eq_true rfl) dL_setPilotTemperature_16
  · rcases (thc_X6_setPilotTemperature _ : _ = none ∨ _) with z9 | z9
    · exact absurd (x9.symm.trans z9) (Option.some_ne_none _)
    · have eE : E9 = "java/lang/IllegalArgumentException" := Option.some.inj (x9.symm.trans z9)
      subst eE
      refine vx_catch (own := RL) (name := "java/lang/IllegalArgumentException") (E := "java/lang/IllegalArgumentException") hown [] ⟨0, 9, 12, 25⟩ [] (htab.trans rfl) (fun _ h => (List.not_mem_nil h).elim) (by decide) (by decide) (hts _ k_cl_L_25) (va_Nw.use rfl (hN.2.2.1 ("java/lang/IllegalArgumentException", "java/lang/IllegalArgumentException") (by decide +kernel))) h91 h92 h93 ?_
      refine lv_astore_n (lv' := [(3, .ref q9), (0, .ref z0), (1, .int p0), (2, .ref qo)]) hx hb dL_setPilotTemperature_12 rfl hl (by decide) rfl (fun ls hl => ?_)
      refine lv_iconst (v := 1) hx hb dL_setPilotTemperature_13 (by decide) ?_
      refine gyOf (r1 := some (.int (kodA (th_X6_setPilotTemperature p0)))) (u1 := [(z0, .inr (9, [.ref c0, .ref c0q, .ref c0u, .ref c0v, .int sv, .int sw, .ref a0, .ref b0])), (c0, .inr (6, [.ref s0, .ref k0, .ref i0, .ref o0, .ref x0, .int et, .int wt, .int tm, .int sta, .int he, .int ac, .int ov])), (k0, .inr (5, [.ref k1, .int ((f_X6_setPilotTemperature pt p0).2), .int ot, .int fp, .int on])), (qo, .inl (G.2.1.2.2.1, 1, .inr (.inl (oF (th_X6_setPilotTemperature p0) (Int32.toInt64 ((f_X6_setPilotTemperature pt p0).1)) oc))))]) 0 rfl rfl ?_
      exact gRetI F hr hlocks hK hP hD hS (congrArg (fun z => some (Value.int z)) (k1_1 x9)) (by rw [oF_x x9, fx_X6_setPilotTemperature pt p0 x9]) (Nat.le_of_ble_eq_true rfl) (Nat.le_of_ble_eq_true rfl) dL_setPilotTemperature_14
theorem okH_L_setPilotTemperature : gOkH yL_setPilotTemperature cL_setPilotTemperature 4 [(0, 9, 12, 25)] 3 := ⟨⟨k_st_L_setPilotTemperature, k_in_L, k_cd_L_setPilotTemperature⟩, by decide, by decide, by decide +kernel⟩
theorem thc_X6_setFixedPeriod (p0 : Int32) : (th_X6_setFixedPeriod p0) = none ∨ (th_X6_setFixedPeriod p0) = some "java/lang/IllegalArgumentException" := by
  unfold th_X6_setFixedPeriod
  try dsimp only
  split
  · skip
    exact Or.inr (rfl)
  · skip
    split
    · skip
      exact Or.inl rfl
    · skip
      exact Or.inr (rfl)
theorem fx_X6_setFixedPeriod (fp : Int32) (p0 : Int32) {E : String} (h : (th_X6_setFixedPeriod p0) = some E) : (f_X6_setFixedPeriod fp p0) = (0, fp) := by
  unfold th_X6_setFixedPeriod at h
  unfold f_X6_setFixedPeriod
  try dsimp only at h ⊢
  split at h
  · skip
    rw [if_pos (by assumption)]
    try rfl
  · skip
    rw [if_neg (by assumption)]
    split at h
    · skip
      exact absurd h.symm (Option.some_ne_none _)
    · skip
      rw [if_neg (by assumption)]
      try rfl
set_option maxRecDepth 100000 in
set_option maxHeartbeats 4000000 in
theorem c_L_setFixedPeriod (l : Launch) (hfl : l.stackTraces = false) (G : gG) (z0 : Nat) (c0 : Nat) (c0q : Nat) (c0u : Nat) (c0v : Nat) (a0 : Nat) (b0 : Nat) (sv : Int32) (sw : Int32) (s0 : Nat) (k0 : Nat) (i0 : Nat) (o0 : Nat) (x0 : Nat) (et : Int32) (wt : Int32) (tm : Int32) (sta : Int32) (he : Int32) (ac : Int32) (ov : Int32) (k1 : Nat) (pt : Int32) (ot : Int32) (fp : Int32) (on : Int32) (p0 : Int32) (qo : Nat) (oc : Nat → Int64) : gH l G yL_setFixedPeriod cL_setFixedPeriod 4 [(0, 9, 12, 25)] { frames := 7, cells := 1, slots := 6, locals := 112 } [.ref z0, .int p0, .ref qo] [(z0, .inr (9, [.ref c0, .ref c0q, .ref c0u, .ref c0v, .int sv, .int sw, .ref a0, .ref b0])), (c0, .inr (6, [.ref s0, .ref k0, .ref i0, .ref o0, .ref x0, .int et, .int wt, .int tm, .int sta, .int he, .int ac, .int ov])), (k0, .inr (5, [.ref k1, .int pt, .int ot, .int fp, .int on])), (qo, .inl (G.2.1.2.2.1, 1, .inr (.inl oc)))] (kodA (th_X6_setFixedPeriod p0)) (fun vv => [(z0, .inr (9, [.ref c0, .ref c0q, .ref c0u, .ref c0v, .int sv, .int sw, .ref a0, .ref b0])), (c0, .inr (6, [.ref s0, .ref k0, .ref i0, .ref o0, .ref x0, .int et, .int wt, .int tm, .int sta, .int he, .int ac, .int ov])), (k0, .inr (5, [.ref k1, .int pt, .int ot, .int ((f_X6_setFixedPeriod fp p0).2), .int on])), (qo, .inl (G.2.1.2.2.1, 1, .inr (.inl (oF (th_X6_setFixedPeriod p0) (Int32.toInt64 ((f_X6_setFixedPeriod fp p0).1)) oc))))]) 1 6 := by
  refine ghBegin (by decide +kernel) (Nat.le_of_ble_eq_true rfl) (fun p e s m args below meth c A F hr hlocks htab hN hSt hNc hK hP hD hA hS ls hl => ?_)
  obtain ⟨hx, hb, hml, hown, hts⟩ := id F
  replace hP : va_P G.1 vwCl [(z0, .inr (9, [.ref c0, .ref c0q, .ref c0u, .ref c0v, .int sv, .int sw, .ref a0, .ref b0])), (c0, .inr (6, [.ref s0, .ref k0, .ref i0, .ref o0, .ref x0, .int et, .int wt, .int tm, .int sta, .int he, .int ac, .int ov])), (k0, .inr (5, [.ref k1, .int pt, .int ot, .int fp, .int on])), (qo, .inl (G.2.1.2.2.1, 1, .inr (.inl oc)))] s.heap := hP
  replace hl : lv_has ls 4 [(0, .ref z0), (1, .int p0), (2, .ref qo)] := hl
  refine lv_aload_n hx hb dL_setFixedPeriod_0 rfl (lv_at hl 2 rfl) ?_
  refine lv_iconst (v := 0) hx hb dL_setFixedPeriod_1 (by decide) ?_
  refine lv_aload_n hx hb dL_setFixedPeriod_2 rfl (lv_at hl 0 rfl) ?_
  refine lv_iload_n hx hb dL_setFixedPeriod_3 rfl (lv_at hl 1 rfl) ?_
  refine gzV (As := [.int p0]) (rest := [.int 0, .ref qo]) (wr := [(qo, .inl (G.2.1.2.2.1, 1, .inr (.inl oc)))]) (ws' := fun v9_ => [(z0, .inr (9, [.ref c0, .ref c0q, .ref c0u, .ref c0v, .int sv, .int sw, .ref a0, .ref b0])), (c0, .inr (6, [.ref s0, .ref k0, .ref i0, .ref o0, .ref x0, .int et, .int wt, .int tm, .int sta, .int he, .int ac, .int ov])), (k0, .inr (5, [.ref k1, .int pt, .int ot, .int ((f_X6_setFixedPeriod fp p0).2), .int on])), (qo, .inl (G.2.1.2.2.1, 1, .inr (.inl oc)))]) (wsx := [(z0, .inr (9, [.ref c0, .ref c0q, .ref c0u, .ref c0v, .int sv, .int sw, .ref a0, .ref b0])), (c0, .inr (6, [.ref s0, .ref k0, .ref i0, .ref o0, .ref x0, .int et, .int wt, .int tm, .int sta, .int he, .int ac, .int ov])), (k0, .inr (5, [.ref k1, .int pt, .int ot, .int fp, .int on])), (qo, .inl (G.2.1.2.2.1, 1, .inr (.inl oc)))]) F ((c_X6_setFixedPeriod l hfl G z0 c0 c0q c0u c0v a0 b0 sv sw s0 k0 i0 o0 x0 et wt tm sta he ac ov k1 pt ot fp on p0) _) gzX okV_X6_setFixedPeriod k_ml_L_60 rfl rfl ⟨Nat.le_of_ble_eq_true rfl, Nat.le_of_ble_eq_true rfl⟩ hN hSt hK hP hD hS hA [0, 1, 2] [3] [1, 2, 3, 0] (by decide) rfl rfl (by decide) (by decide) (by decide) (fun _ => rfl) rfl (q0 := 0) rfl rfl rfl rfl hl.1 (Nat.le_of_ble_eq_true rfl) dL_setFixedPeriod_4 ⟨Nat.le_of_ble_eq_true rfl, Nat.le_of_ble_eq_true rfl⟩ (fun c_1 v9_ H locs hP hD hS => ?_) (fun E9 ce9 q9 H locs x9 hP hD hS h91 h92 h93 => ?_)
  · skip
    refine lv_i2l (v := (Int32.toInt64 ((f_X6_setFixedPeriod fp p0).1))) hx hb dL_setFixedPeriod_7 rfl ?_
    refine va_last hx hb hK hP hD hS 3 2 rfl rfl (gInL (by decide)) dL_setFixedPeriod_8 (fun H locs hP hD hS => ?_)
    replace hP : va_P G.1 vwCl [(z0, .inr (9, [.ref c0, .ref c0q, .ref c0u, .ref c0v, .int sv, .int sw, .ref a0, .ref b0])), (c0, .inr (6, [.ref s0, .ref k0, .ref i0, .ref o0, .ref x0, .int et, .int wt, .int tm, .int sta, .int he, .int ac, .int ov])), (k0, .inr (5, [.ref k1, .int pt, .int ot, .int ((f_X6_setFixedPeriod fp p0).2), .int on])), (qo, .inl (G.2.1.2.2.1, 1, .inr (.inl (vp_updL oc (Int32.toNatClampNeg 0) (Int32.toInt64 ((f_X6_setFixedPeriod fp p0).1))))))] H := hP
    replace hD : va_D A [(z0, .inr (9, [.ref c0, .ref c0q, .ref c0u, .ref c0v, .int sv, .int sw, .ref a0, .ref b0])), (c0, .inr (6, [.ref s0, .ref k0, .ref i0, .ref o0, .ref x0, .int et, .int wt, .int tm, .int sta, .int he, .int ac, .int ov])), (k0, .inr (5, [.ref k1, .int pt, .int ot, .int ((f_X6_setFixedPeriod fp p0).2), .int on])), (qo, .inl (G.2.1.2.2.1, 1, .inr (.inl (vp_updL oc (Int32.toNatClampNeg 0) (Int32.toInt64 ((f_X6_setFixedPeriod fp p0).1))))))] := hD
    refine lv_goto (tgt := 15) hx hb dL_setFixedPeriod_9 (by decide) ?_
    refine lv_iconst (v := 0) hx hb dL_setFixedPeriod_15 (by decide) ?_
    refine gyOf (r1 := some (.int (kodA (th_X6_setFixedPeriod p0)))) (u1 := [(z0, .inr (9, [.ref c0, .ref c0q, .ref c0u, .ref c0v, .int sv, .int sw, .ref a0, .ref b0])), (c0, .inr (6, [.ref s0, .ref k0, .ref i0, .ref o0, .ref x0, .int et, .int wt, .int tm, .int sta, .int he, .int ac, .int ov])), (k0, .inr (5, [.ref k1, .int pt, .int ot, .int ((f_X6_setFixedPeriod fp p0).2), .int on])), (qo, .inl (G.2.1.2.2.1, 1, .inr (.inl (oF (th_X6_setFixedPeriod p0) (Int32.toInt64 ((f_X6_setFixedPeriod fp p0).1)) oc))))]) 0 rfl rfl ?_
    exact gRetI F hr hlocks hK hP hD hS (congrArg (fun z => some (Value.int z)) (k1_0 c_1)) (by rw [oF_n c_1]) (Nat.le_of_ble_eq_true rfl) (Nat.le_of_ble_eq_true rfl) dL_setFixedPeriod_16
  · rcases (thc_X6_setFixedPeriod _ : _ = none ∨ _) with z9 | z9
    · exact absurd (x9.symm.trans z9) (Option.some_ne_none _)
    · have eE : E9 = "java/lang/IllegalArgumentException" := Option.some.inj (x9.symm.trans z9)
      subst eE
      refine vx_catch (own := RL) (name := "java/lang/IllegalArgumentException") (E := "java/lang/IllegalArgumentException") hown [] ⟨0, 9, 12, 25⟩ [] (htab.trans rfl) (fun _ h => (List.not_mem_nil h).elim) (by decide) (by decide) (hts _ k_cl_L_25) (va_Nw.use rfl (hN.2.2.1 ("java/lang/IllegalArgumentException", "java/lang/IllegalArgumentException") (by decide +kernel))) h91 h92 h93 ?_
      refine lv_astore_n (lv' := [(3, .ref q9), (0, .ref z0), (1, .int p0), (2, .ref qo)]) hx hb dL_setFixedPeriod_12 rfl hl (by decide) rfl (fun ls hl => ?_)
      refine lv_iconst (v := 1) hx hb dL_setFixedPeriod_13 (by decide) ?_
      refine gyOf (r1 := some (.int (kodA (th_X6_setFixedPeriod p0)))) (u1 := [(z0, .inr (9, [.ref c0, .ref c0q, .ref c0u, .ref c0v, .int sv, .int sw, .ref a0, .ref b0])), (c0, .inr (6, [.ref s0, .ref k0, .ref i0, .ref o0, .ref x0, .int et, .int wt, .int tm, .int sta, .int he, .int ac, .int ov])), (k0, .inr (5, [.ref k1, .int pt, .int ot, .int ((f_X6_setFixedPeriod fp p0).2), .int on])), (qo, .inl (G.2.1.2.2.1, 1, .inr (.inl (oF (th_X6_setFixedPeriod p0) (Int32.toInt64 ((f_X6_setFixedPeriod fp p0).1)) oc))))]) 0 rfl rfl ?_
      exact gRetI F hr hlocks hK hP hD hS (congrArg (fun z => some (Value.int z)) (k1_1 x9)) (by rw [oF_x x9, fx_X6_setFixedPeriod fp p0 x9]) (Nat.le_of_ble_eq_true rfl) (Nat.le_of_ble_eq_true rfl) dL_setFixedPeriod_14
theorem okH_L_setFixedPeriod : gOkH yL_setFixedPeriod cL_setFixedPeriod 4 [(0, 9, 12, 25)] 3 := ⟨⟨k_st_L_setFixedPeriod, k_in_L, k_cd_L_setFixedPeriod⟩, by decide, by decide, by decide +kernel⟩
theorem thc_X6_mismatch (p0 : Int32) : (th_X6_mismatch p0) = none ∨ (th_X6_mismatch p0) = some "java/lang/IndexOutOfBoundsException" := by
  unfold th_X6_mismatch
  try dsimp only
  split
  · skip
    exact Or.inl rfl
  · skip
    rcases (thc_X6_requireTank _ : _ = none ∨ _) with h | h
    · exact Or.inl h
    · exact Or.inr (h)
set_option maxRecDepth 100000 in
set_option maxHeartbeats 4000000 in
theorem c_L_mismatch (l : Launch) (hfl : l.stackTraces = false) (G : gG) (z0 : Nat) (c0 : Nat) (c0q : Nat) (c0u : Nat) (c0v : Nat) (a0 : Nat) (b0 : Nat) (sv : Int32) (sw : Int32) (s0 : Nat) (k0 : Nat) (i0 : Nat) (o0 : Nat) (x0 : Nat) (et : Int32) (wt : Int32) (tm : Int32) (sta : Int32) (he : Int32) (ac : Int32) (ov : Int32) (k1 : Nat) (pt : Int32) (ot : Int32) (fp : Int32) (on : Int32) (temps : Nat → Int32) (p0 : Int32) (qo : Nat) (oc : Nat → Int64) : gH l G yL_mismatch cL_mismatch 4 [(0, 9, 12, 19)] { frames := 8, cells := 1, slots := 6, locals := 132 } [.ref z0, .int p0, .ref qo] [(z0, .inr (9, [.ref c0, .ref c0q, .ref c0u, .ref c0v, .int sv, .int sw, .ref a0, .ref b0])), (c0, .inr (6, [.ref s0, .ref k0, .ref i0, .ref o0, .ref x0, .int et, .int wt, .int tm, .int sta, .int he, .int ac, .int ov])), (k0, .inr (5, [.ref k1, .int pt, .int ot, .int fp, .int on])), (k1, .inl (G.2.1.1, 8, .inl temps)), (qo, .inl (G.2.1.2.2.1, 1, .inr (.inl oc)))] (kodA (th_X6_mismatch p0)) (fun vv => [(z0, .inr (9, [.ref c0, .ref c0q, .ref c0u, .ref c0v, .int sv, .int sw, .ref a0, .ref b0])), (c0, .inr (6, [.ref s0, .ref k0, .ref i0, .ref o0, .ref x0, .int et, .int wt, .int tm, .int sta, .int he, .int ac, .int ov])), (k0, .inr (5, [.ref k1, .int pt, .int ot, .int fp, .int on])), (k1, .inl (G.2.1.1, 8, .inl temps)), (qo, .inl (G.2.1.2.2.1, 1, .inr (.inl (oF (th_X6_mismatch p0) (Int32.toInt64 (f_X6_mismatch pt fp on temps p0)) oc))))]) 1 6 := by
  refine ghBegin (by decide +kernel) (Nat.le_of_ble_eq_true rfl) (fun p e s m args below meth c A F hr hlocks htab hN hSt hNc hK hP hD hA hS ls hl => ?_)
  obtain ⟨hx, hb, hml, hown, hts⟩ := id F
  replace hP : va_P G.1 vwCl [(z0, .inr (9, [.ref c0, .ref c0q, .ref c0u, .ref c0v, .int sv, .int sw, .ref a0, .ref b0])), (c0, .inr (6, [.ref s0, .ref k0, .ref i0, .ref o0, .ref x0, .int et, .int wt, .int tm, .int sta, .int he, .int ac, .int ov])), (k0, .inr (5, [.ref k1, .int pt, .int ot, .int fp, .int on])), (k1, .inl (G.2.1.1, 8, .inl temps)), (qo, .inl (G.2.1.2.2.1, 1, .inr (.inl oc)))] s.heap := hP
  replace hl : lv_has ls 4 [(0, .ref z0), (1, .int p0), (2, .ref qo)] := hl
  refine lv_aload_n hx hb dL_mismatch_0 rfl (lv_at hl 2 rfl) ?_
  refine lv_iconst (v := 0) hx hb dL_mismatch_1 (by decide) ?_
  refine lv_aload_n hx hb dL_mismatch_2 rfl (lv_at hl 0 rfl) ?_
  refine lv_iload_n hx hb dL_mismatch_3 rfl (lv_at hl 1 rfl) ?_
  refine gzV (As := [.int p0]) (rest := [.int 0, .ref qo]) (wr := [(qo, .inl (G.2.1.2.2.1, 1, .inr (.inl oc)))]) (ws' := fun v9_ => [(z0, .inr (9, [.ref c0, .ref c0q, .ref c0u, .ref c0v, .int sv, .int sw, .ref a0, .ref b0])), (c0, .inr (6, [.ref s0, .ref k0, .ref i0, .ref o0, .ref x0, .int et, .int wt, .int tm, .int sta, .int he, .int ac, .int ov])), (k0, .inr (5, [.ref k1, .int pt, .int ot, .int fp, .int on])), (k1, .inl (G.2.1.1, 8, .inl temps)), (qo, .inl (G.2.1.2.2.1, 1, .inr (.inl oc)))]) (wsx := [(z0, .inr (9, [.ref c0, .ref c0q, .ref c0u, .ref c0v, .int sv, .int sw, .ref a0, .ref b0])), (c0, .inr (6, [.ref s0, .ref k0, .ref i0, .ref o0, .ref x0, .int et, .int wt, .int tm, .int sta, .int he, .int ac, .int ov])), (k0, .inr (5, [.ref k1, .int pt, .int ot, .int fp, .int on])), (k1, .inl (G.2.1.1, 8, .inl temps)), (qo, .inl (G.2.1.2.2.1, 1, .inr (.inl oc)))]) F ((c_X6_mismatch l hfl G z0 c0 c0q c0u c0v a0 b0 sv sw s0 k0 i0 o0 x0 et wt tm sta he ac ov k1 pt ot fp on temps p0) _) gzX okV_X6_mismatch k_ml_L_63 rfl rfl ⟨Nat.le_of_ble_eq_true rfl, Nat.le_of_ble_eq_true rfl⟩ hN hSt hK hP hD hS hA [0, 1, 2, 3] [4] [1, 2, 3, 4, 0] (by decide) rfl rfl (by decide) (by decide) (by decide) (fun _ => rfl) rfl (q0 := 0) rfl rfl rfl rfl hl.1 (Nat.le_of_ble_eq_true rfl) dL_mismatch_4 ⟨Nat.le_of_ble_eq_true rfl, Nat.le_of_ble_eq_true rfl⟩ (fun c_1 v9_ H locs hP hD hS => ?_) (fun E9 ce9 q9 H locs x9 hP hD hS h91 h92 h93 => ?_)
  · skip
    refine lv_i2l (v := (Int32.toInt64 (f_X6_mismatch pt fp on temps p0))) hx hb dL_mismatch_7 rfl ?_
    refine va_last hx hb hK hP hD hS 4 2 rfl rfl (gInL (by decide)) dL_mismatch_8 (fun H locs hP hD hS => ?_)
    replace hP : va_P G.1 vwCl [(z0, .inr (9, [.ref c0, .ref c0q, .ref c0u, .ref c0v, .int sv, .int sw, .ref a0, .ref b0])), (c0, .inr (6, [.ref s0, .ref k0, .ref i0, .ref o0, .ref x0, .int et, .int wt, .int tm, .int sta, .int he, .int ac, .int ov])), (k0, .inr (5, [.ref k1, .int pt, .int ot, .int fp, .int on])), (k1, .inl (G.2.1.1, 8, .inl temps)), (qo, .inl (G.2.1.2.2.1, 1, .inr (.inl (vp_updL oc (Int32.toNatClampNeg 0) (Int32.toInt64 (f_X6_mismatch pt fp on temps p0))))))] H := hP
    replace hD : va_D A [(z0, .inr (9, [.ref c0, .ref c0q, .ref c0u, .ref c0v, .int sv, .int sw, .ref a0, .ref b0])), (c0, .inr (6, [.ref s0, .ref k0, .ref i0, .ref o0, .ref x0, .int et, .int wt, .int tm, .int sta, .int he, .int ac, .int ov])), (k0, .inr (5, [.ref k1, .int pt, .int ot, .int fp, .int on])), (k1, .inl (G.2.1.1, 8, .inl temps)), (qo, .inl (G.2.1.2.2.1, 1, .inr (.inl (vp_updL oc (Int32.toNatClampNeg 0) (Int32.toInt64 (f_X6_mismatch pt fp on temps p0))))))] := hD
    refine lv_goto (tgt := 15) hx hb dL_mismatch_9 (by decide) ?_
    refine lv_iconst (v := 0) hx hb dL_mismatch_15 (by decide) ?_
    refine gyOf (r1 := some (.int (kodA (th_X6_mismatch p0)))) (u1 := [(z0, .inr (9, [.ref c0, .ref c0q, .ref c0u, .ref c0v, .int sv, .int sw, .ref a0, .ref b0])), (c0, .inr (6, [.ref s0, .ref k0, .ref i0, .ref o0, .ref x0, .int et, .int wt, .int tm, .int sta, .int he, .int ac, .int ov])), (k0, .inr (5, [.ref k1, .int pt, .int ot, .int fp, .int on])), (k1, .inl (G.2.1.1, 8, .inl temps)), (qo, .inl (G.2.1.2.2.1, 1, .inr (.inl (oF (th_X6_mismatch p0) (Int32.toInt64 (f_X6_mismatch pt fp on temps p0)) oc))))]) 0 rfl rfl ?_
    exact gRetI F hr hlocks hK hP hD hS (congrArg (fun z => some (Value.int z)) (k1_0 c_1)) (by rw [oF_n c_1]) (Nat.le_of_ble_eq_true rfl) (Nat.le_of_ble_eq_true rfl) dL_mismatch_16
  · rcases (thc_X6_mismatch _ : _ = none ∨ _) with z9 | z9
    · exact absurd (x9.symm.trans z9) (Option.some_ne_none _)
    · have eE : E9 = "java/lang/IndexOutOfBoundsException" := Option.some.inj (x9.symm.trans z9)
      subst eE
      refine vx_catch (own := RL) (name := "java/lang/IndexOutOfBoundsException") (E := "java/lang/IndexOutOfBoundsException") hown [] ⟨0, 9, 12, 19⟩ [] (htab.trans rfl) (fun _ h => (List.not_mem_nil h).elim) (by decide) (by decide) (hts _ k_cl_L_19) (va_Nw.use rfl (hN.2.2.1 ("java/lang/IndexOutOfBoundsException", "java/lang/IndexOutOfBoundsException") (by decide +kernel))) h91 h92 h93 ?_
      refine lv_astore_n (lv' := [(3, .ref q9), (0, .ref z0), (1, .int p0), (2, .ref qo)]) hx hb dL_mismatch_12 rfl hl (by decide) rfl (fun ls hl => ?_)
      refine lv_iconst (v := 1) hx hb dL_mismatch_13 (by decide) ?_
      refine gyOf (r1 := some (.int (kodA (th_X6_mismatch p0)))) (u1 := [(z0, .inr (9, [.ref c0, .ref c0q, .ref c0u, .ref c0v, .int sv, .int sw, .ref a0, .ref b0])), (c0, .inr (6, [.ref s0, .ref k0, .ref i0, .ref o0, .ref x0, .int et, .int wt, .int tm, .int sta, .int he, .int ac, .int ov])), (k0, .inr (5, [.ref k1, .int pt, .int ot, .int fp, .int on])), (k1, .inl (G.2.1.1, 8, .inl temps)), (qo, .inl (G.2.1.2.2.1, 1, .inr (.inl (oF (th_X6_mismatch p0) (Int32.toInt64 (f_X6_mismatch pt fp on temps p0)) oc))))]) 0 rfl rfl ?_
      exact gRetI F hr hlocks hK hP hD hS (congrArg (fun z => some (Value.int z)) (k1_1 x9)) (by rw [oF_x x9]) (Nat.le_of_ble_eq_true rfl) (Nat.le_of_ble_eq_true rfl) dL_mismatch_14
theorem okH_L_mismatch : gOkH yL_mismatch cL_mismatch 4 [(0, 9, 12, 19)] 3 := ⟨⟨k_st_L_mismatch, k_in_L, k_cd_L_mismatch⟩, by decide, by decide, by decide +kernel⟩
theorem thc_X6_start (p0 : Int32) (p1 : Int32) : (th_X6_start p0 p1) = none ∨ (th_X6_start p0 p1) = some "java/lang/IndexOutOfBoundsException" := by
  unfold th_X6_start
  try dsimp only
  split
  · skip
    exact Or.inl rfl
  · skip
    rcases (thc_X6_requireLocation _ _ : _ = none ∨ _) with h | h
    · exact Or.inl h
    · exact Or.inr (h)
theorem fx_X6_start (sta : Int32) (he : Int32) (p0 : Int32) (p1 : Int32) {E : String} (h : (th_X6_start p0 p1) = some E) : (f_X6_start sta he p0 p1) = (sta, he) := by
  unfold th_X6_start at h
  unfold f_X6_start
  try dsimp only at h ⊢
  split at h
  · skip
    exact absurd h.symm (Option.some_ne_none _)
  · skip
    rw [if_neg (by assumption)]
    try rfl
set_option maxRecDepth 100000 in
set_option maxHeartbeats 4000000 in
theorem c_L_start (l : Launch) (hfl : l.stackTraces = false) (G : gG) (z0 : Nat) (c0 : Nat) (c0q : Nat) (c0u : Nat) (c0v : Nat) (a0 : Nat) (b0 : Nat) (sv : Int32) (sw : Int32) (s0 : Nat) (k0 : Nat) (i0 : Nat) (o0 : Nat) (x0 : Nat) (et : Int32) (wt : Int32) (tm : Int32) (sta : Int32) (he : Int32) (ac : Int32) (ov : Int32) (p0 : Int32) (p1 : Int32) : gH l G yL_start cL_start 4 [(0, 6, 9, 19)] { frames := 8, cells := 1, slots := 6, locals := 133 } [.ref z0, .int p0, .int p1] [(z0, .inr (9, [.ref c0, .ref c0q, .ref c0u, .ref c0v, .int sv, .int sw, .ref a0, .ref b0])), (c0, .inr (6, [.ref s0, .ref k0, .ref i0, .ref o0, .ref x0, .int et, .int wt, .int tm, .int sta, .int he, .int ac, .int ov]))] (kodA (th_X6_start p0 p1)) (fun vv => [(z0, .inr (9, [.ref c0, .ref c0q, .ref c0u, .ref c0v, .int sv, .int sw, .ref a0, .ref b0])), (c0, .inr (6, [.ref s0, .ref k0, .ref i0, .ref o0, .ref x0, .int et, .int wt, .int tm, .int ((f_X6_start sta he p0 p1).1), .int ((f_X6_start sta he p0 p1).2), .int ac, .int ov]))]) 1 6 := by
  refine ghBegin (by decide +kernel) (Nat.le_of_ble_eq_true rfl) (fun p e s m args below meth c A F hr hlocks htab hN hSt hNc hK hP hD hA hS ls hl => ?_)
  obtain ⟨hx, hb, hml, hown, hts⟩ := id F
  replace hP : va_P G.1 vwCl [(z0, .inr (9, [.ref c0, .ref c0q, .ref c0u, .ref c0v, .int sv, .int sw, .ref a0, .ref b0])), (c0, .inr (6, [.ref s0, .ref k0, .ref i0, .ref o0, .ref x0, .int et, .int wt, .int tm, .int sta, .int he, .int ac, .int ov]))] s.heap := hP
  replace hl : lv_has ls 4 [(0, .ref z0), (1, .int p0), (2, .int p1)] := hl
  refine lv_aload_n hx hb dL_start_0 rfl (lv_at hl 0 rfl) ?_
  refine lv_iload_n hx hb dL_start_1 rfl (lv_at hl 1 rfl) ?_
  refine lv_iload_n hx hb dL_start_2 rfl (lv_at hl 2 rfl) ?_
  refine gzV (As := [.int p0, .int p1]) (rest := []) (wr := []) (ws' := fun v9_ => [(z0, .inr (9, [.ref c0, .ref c0q, .ref c0u, .ref c0v, .int sv, .int sw, .ref a0, .ref b0])), (c0, .inr (6, [.ref s0, .ref k0, .ref i0, .ref o0, .ref x0, .int et, .int wt, .int tm, .int ((f_X6_start sta he p0 p1).1), .int ((f_X6_start sta he p0 p1).2), .int ac, .int ov]))]) (wsx := [(z0, .inr (9, [.ref c0, .ref c0q, .ref c0u, .ref c0v, .int sv, .int sw, .ref a0, .ref b0])), (c0, .inr (6, [.ref s0, .ref k0, .ref i0, .ref o0, .ref x0, .int et, .int wt, .int tm, .int sta, .int he, .int ac, .int ov]))]) F ((c_X6_start l hfl G z0 c0 c0q c0u c0v a0 b0 sv sw s0 k0 i0 o0 x0 et wt tm sta he ac ov p0 p1) _) gzX okV_X6_start k_ml_L_66 rfl rfl ⟨Nat.le_of_ble_eq_true rfl, Nat.le_of_ble_eq_true rfl⟩ hN hSt hK hP hD hS hA [0, 1] [] [0, 1] (by decide) rfl rfl (by decide) (by decide) (by decide) (fun _ => rfl) rfl (q0 := 0) rfl rfl rfl rfl hl.1 (Nat.le_of_ble_eq_true rfl) dL_start_3 ⟨Nat.le_of_ble_eq_true rfl, Nat.le_of_ble_eq_true rfl⟩ (fun c_1 v9_ H locs hP hD hS => ?_) (fun E9 ce9 q9 H locs x9 hP hD hS h91 h92 h93 => ?_)
  · skip
    refine lv_goto (tgt := 12) hx hb dL_start_6 (by decide) ?_
    refine lv_iconst (v := 0) hx hb dL_start_12 (by decide) ?_
    refine gyOf (r1 := some (.int (kodA (th_X6_start p0 p1)))) (u1 := [(z0, .inr (9, [.ref c0, .ref c0q, .ref c0u, .ref c0v, .int sv, .int sw, .ref a0, .ref b0])), (c0, .inr (6, [.ref s0, .ref k0, .ref i0, .ref o0, .ref x0, .int et, .int wt, .int tm, .int ((f_X6_start sta he p0 p1).1), .int ((f_X6_start sta he p0 p1).2), .int ac, .int ov]))]) 0 rfl rfl ?_
    exact gRetI F hr hlocks hK hP hD hS (congrArg (fun z => some (Value.int z)) (k1_0 c_1)) rfl (Nat.le_of_ble_eq_true rfl) (Nat.le_of_ble_eq_true rfl) dL_start_13
  · rcases (thc_X6_start _ _ : _ = none ∨ _) with z9 | z9
    · exact absurd (x9.symm.trans z9) (Option.some_ne_none _)
    · have eE : E9 = "java/lang/IndexOutOfBoundsException" := Option.some.inj (x9.symm.trans z9)
      subst eE
      refine vx_catch (own := RL) (name := "java/lang/IndexOutOfBoundsException") (E := "java/lang/IndexOutOfBoundsException") hown [] ⟨0, 6, 9, 19⟩ [] (htab.trans rfl) (fun _ h => (List.not_mem_nil h).elim) (by decide) (by decide) (hts _ k_cl_L_19) (va_Nw.use rfl (hN.2.2.1 ("java/lang/IndexOutOfBoundsException", "java/lang/IndexOutOfBoundsException") (by decide +kernel))) h91 h92 h93 ?_
      refine lv_astore_n (lv' := [(3, .ref q9), (0, .ref z0), (1, .int p0), (2, .int p1)]) hx hb dL_start_9 rfl hl (by decide) rfl (fun ls hl => ?_)
      refine lv_iconst (v := 1) hx hb dL_start_10 (by decide) ?_
      refine gyOf (r1 := some (.int (kodA (th_X6_start p0 p1)))) (u1 := [(z0, .inr (9, [.ref c0, .ref c0q, .ref c0u, .ref c0v, .int sv, .int sw, .ref a0, .ref b0])), (c0, .inr (6, [.ref s0, .ref k0, .ref i0, .ref o0, .ref x0, .int et, .int wt, .int tm, .int ((f_X6_start sta he p0 p1).1), .int ((f_X6_start sta he p0 p1).2), .int ac, .int ov]))]) 0 rfl rfl ?_
      exact gRetI F hr hlocks hK hP hD hS (congrArg (fun z => some (Value.int z)) (k1_1 x9)) (by rw [fx_X6_start sta he p0 p1 x9]) (Nat.le_of_ble_eq_true rfl) (Nat.le_of_ble_eq_true rfl) dL_start_11
theorem okH_L_start : gOkH yL_start cL_start 4 [(0, 6, 9, 19)] 3 := ⟨⟨k_st_L_start, k_in_L, k_cd_L_start⟩, by decide, by decide, by decide +kernel⟩
