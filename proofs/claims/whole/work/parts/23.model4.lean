def st_X7_comesIn_45  (k : Nat) (v0_ : Nat → Int32) : (Nat → Int32) :=
  (upd v0_ (Int32.toNatClampNeg (30 + (nI k))) (v0_ (Int32.toNatClampNeg ((30 + (nI k)) + 1))))
def it_X7_comesIn_45 (w : Nat → Int32) : Nat → (Nat → Int32)
  | 0 => (upd (upd w 1 (w 30)) 12 (((upd w 1 (w 30)) 12) - 1))
  | i + 1 => st_X7_comesIn_45 i (it_X7_comesIn_45 w i)
def f_X7_comesIn (w : Nat → Int32) (ring : Nat → Int32) : Int32 × (Nat → Int32) × (Nat → Int32) :=
  if (w 12) = 0 then
    (0, (upd w 4 2), ring)
  else
    (1, (f_X7_passes (it_X7_comesIn_45 w ((w 12).toNatClampNeg - 1)) ring 1).1, (f_X7_passes (it_X7_comesIn_45 w ((w 12).toNatClampNeg - 1)) ring 1).2)

theorem ixK {a : Int32} {n k : Nat} (ha : a.toInt = n) (hn : n < 1000) (hk : k < 1000) : (a + nI k).toNatClampNeg = n + k ∧ ((a + nI k) + 1).toNatClampNeg = n + k + 1 := by
  have e := nI_toInt (n := k) (by omega)
  have e1 : (1 : Int32).toInt = 1 := (by decide)
  have e5 := gI_add (x := a) (y := nI k) (by omega) (by omega)
  have e6 := gI_add (x := a + nI k) (y := 1) (by omega) (by omega)
  exact ⟨gClamp (by omega), gClamp (by omega)⟩
theorem comesIn_it {w : Nat → Int32} : ∀ k, k ≤ 64 → ∀ j, it_X7_comesIn_45 w k j = if 30 ≤ j ∧ j < 30 + k then w (j + 1) else upd (upd w 1 (w 30)) 12 (w 12 - 1) j := by
  intro k
  induction k with
  | zero => intro _ j; rw [if_neg (by omega)]; rfl
  | succ k ih =>
    intro hk j
    obtain ⟨e1, e2⟩ := ixK (a := 30) (n := 30) (k := k) (by decide) (by decide) (by omega)
    show st_X7_comesIn_45 k (it_X7_comesIn_45 w k) j = _
    unfold st_X7_comesIn_45
    rw [e1, e2]
    by_cases h : j = 30 + k
    · rw [h, pus, ih (by omega), if_neg (by omega), if_pos (by omega), pu (by omega), pu (by omega)]
    · rw [pu h, ih (by omega)]
      by_cases h2 : 30 ≤ j ∧ j < 30 + k
      · rw [if_pos h2, if_pos (by omega)]
      · rw [if_neg h2, if_neg (by omega)]
theorem nI_pred1 {x : Int32} (h : 0 ≤ x.toInt ∧ x.toInt ≤ 64) (hx : ¬ x = 0) : x - 1 = nI (x.toNatClampNeg - 1) := by
  have e := gI_clamp h.1
  have e0 : (0 : Int32).toInt = 0 := (by decide)
  have e1 : (1 : Int32).toInt = 1 := (by decide)
  have hne : x.toInt ≠ 0 := fun q => hx (gI_ext (by rw [q, e0]))
  have e2 := gI_sub (x := x) (y := 1) (by omega) (by omega)
  have e3 := nI_toInt (n := x.toNatClampNeg - 1) (by omega)
  exact gI_ext (by omega)
theorem comesIn12 {w : Nat → Int32} (h : 0 ≤ (w 12).toInt ∧ (w 12).toInt ≤ 64) (hx : ¬ w 12 = 0) : ∀ k, k ≤ (w 12).toNatClampNeg - 1 → it_X7_comesIn_45 w k 12 = nI ((w 12).toNatClampNeg - 1) := by
  intro k hk
  have e := gI_clamp h.1
  rw [comesIn_it k (by omega), if_neg (by omega), pus]
  exact nI_pred1 h hx
theorem RT_comesIn {w : Nat → Int32} {b : Nat} (h : 0 ≤ (w 12).toInt ∧ (w 12).toInt ≤ 64) (hT : RT w b) : ∀ k, k ≤ (w 12).toNatClampNeg - 1 → RT (it_X7_comesIn_45 w k) b := by
  intro k hk
  have e := gI_clamp h.1
  have g : ∀ j, j < 12 → j ≠ 1 → it_X7_comesIn_45 w k j = w j := fun j h1 h2 => by rw [comesIn_it k (by omega), if_neg (by omega), pu (by omega), pu h2]
  obtain ⟨h1, h8, h9, h11⟩ := hT
  exact ⟨by rw [g 0 (by decide) (by decide)]; exact h1, by rw [g 8 (by decide) (by decide)]; exact h8, by rw [g 9 (by decide) (by decide)]; exact h9, by rw [g 11 (by decide) (by decide)]; exact h11⟩

set_option maxRecDepth 100000 in
set_option maxHeartbeats 4000000 in
theorem c_X7_comesIn (l : Launch) (G : gG) (m0 : Nat) (m1 : Nat) (m2 : Nat) (m3 : Nat) (m6 : Nat) (m13 : Nat) (m14 : Nat) (m17 : Nat) (m18 : Nat) (m19 : Nat) (rz : Int32) (hf : Int32) (hs : Int32) (len : Int32) (ec : Int32) (ep : Int32) (pos : Int32) (bg : Int32) (bad : Int32) (plc : Int32) (sta : Int32) (shm : Int32) (w : Nat → Int32) (ring : Nat → Int32) (h12 : 0 ≤ (w 12).toInt ∧ (w 12).toInt ≤ 64) (hT : RT w 2) : gM l G yX7_comesIn cX7_comesIn 2 (some .boolean) { frames := 5, cells := 0, slots := 0, locals := 107 } [.ref m0] [(m0, .inr (10, [.int rz, .ref m1, .ref m2, .ref m3, .int hf, .int hs, .ref m6, .int len, .int ec, .int ep, .int pos, .int bg, .int bad, .ref m13, .ref m14, .int plc, .int sta, .ref m17, .ref m18, .ref m19, .int shm])), (m1, .inl (G.2.1.1, 670, .inl w)), (m18, .inl (G.2.1.1, 640, .inl ring))] (some (.int ((f_X7_comesIn w ring).1))) [(m0, .inr (10, [.int rz, .ref m1, .ref m2, .ref m3, .int hf, .int hs, .ref m6, .int len, .int ec, .int ep, .int pos, .int bg, .int bad, .ref m13, .ref m14, .int plc, .int sta, .ref m17, .ref m18, .ref m19, .int shm])), (m1, .inl (G.2.1.1, 670, .inl ((f_X7_comesIn w ring).2.1))), (m18, .inl (G.2.1.1, 640, .inl ((f_X7_comesIn w ring).2.2)))] 0 0 := by
  refine gBegin (by decide +kernel) (Nat.le_of_ble_eq_true rfl) (fun p e s m args below meth c A F hr hlocks hname hN hK hP hD hA hS ls hl => ?_)
  obtain ⟨hx, hb, hml, hown, hts⟩ := id F
  replace hP : va_P G.1 vwCl [(m0, .inr (10, [.int rz, .ref m1, .ref m2, .ref m3, .int hf, .int hs, .ref m6, .int len, .int ec, .int ep, .int pos, .int bg, .int bad, .ref m13, .ref m14, .int plc, .int sta, .ref m17, .ref m18, .ref m19, .int shm])), (m1, .inl (G.2.1.1, 670, .inl w)), (m18, .inl (G.2.1.1, 640, .inl ring))] s.heap := hP
  replace hl : lv_has ls 2 [(0, .ref m0)] := hl
  refine lv_aload_n hx hb dX7_comesIn_0 rfl (lv_at hl 0 rfl) ?_
  refine va_get (D := G.1) (ci := 10) (v := .ref m1) (C := RX7) (T := TX7) (N := 21) hx hb hts in_X7 hown hK hP 0 rfl rfl 1 (by decide) (hts _ k_fl_X7_7) (fun _ h9 => h9) rfl dX7_comesIn_1 ?_
  refine lv_bipush (v := 12) hx hb dX7_comesIn_4 (by decide) ?_
  refine gIald (k := 12) hx hb hK hP 1 0 rfl rfl (by decide) (gInL (by decide)) dX7_comesIn_6 ?_
  refine lv_if_ne (tgt := 19) hx hb dX7_comesIn_7 (by decide) (fun c_1 => ?_) (fun c_1 => ?_)
  · skip
    refine lv_aload_n hx hb dX7_comesIn_19 rfl (lv_at hl 0 rfl) ?_
    refine va_get (D := G.1) (ci := 10) (v := .ref m1) (C := RX7) (T := TX7) (N := 21) hx hb hts in_X7 hown hK hP 0 rfl rfl 1 (by decide) (hts _ k_fl_X7_7) (fun _ h9 => h9) rfl dX7_comesIn_20 ?_
    refine lv_iconst (v := 1) hx hb dX7_comesIn_23 (by decide) ?_
    refine lv_aload_n hx hb dX7_comesIn_24 rfl (lv_at hl 0 rfl) ?_
    refine va_get (D := G.1) (ci := 10) (v := .ref m1) (C := RX7) (T := TX7) (N := 21) hx hb hts in_X7 hown hK hP 0 rfl rfl 1 (by decide) (hts _ k_fl_X7_7) (fun _ h9 => h9) rfl dX7_comesIn_25 ?_
    refine lv_bipush (v := 30) hx hb dX7_comesIn_28 (by decide) ?_
    refine gIald (k := 30) hx hb hK hP 1 0 rfl rfl (by decide) (gInL (by decide)) dX7_comesIn_30 ?_
    refine gIast (k := 1) hx hb hK hP hD hS 1 0 rfl rfl (by decide) (gInL (by decide)) dX7_comesIn_31 (fun H locs hP hD hS => ?_)
    replace hP : va_P G.1 vwCl [(m0, .inr (10, [.int rz, .ref m1, .ref m2, .ref m3, .int hf, .int hs, .ref m6, .int len, .int ec, .int ep, .int pos, .int bg, .int bad, .ref m13, .ref m14, .int plc, .int sta, .ref m17, .ref m18, .ref m19, .int shm])), (m1, .inl (G.2.1.1, 670, .inl (upd w 1 (w 30)))), (m18, .inl (G.2.1.1, 640, .inl ring))] H := hP
    replace hD : va_D A [(m0, .inr (10, [.int rz, .ref m1, .ref m2, .ref m3, .int hf, .int hs, .ref m6, .int len, .int ec, .int ep, .int pos, .int bg, .int bad, .ref m13, .ref m14, .int plc, .int sta, .ref m17, .ref m18, .ref m19, .int shm])), (m1, .inl (G.2.1.1, 670, .inl (upd w 1 (w 30)))), (m18, .inl (G.2.1.1, 640, .inl ring))] := hD
    refine lv_aload_n hx hb dX7_comesIn_32 rfl (lv_at hl 0 rfl) ?_
    refine va_get (D := G.1) (ci := 10) (v := .ref m1) (C := RX7) (T := TX7) (N := 21) hx hb hts in_X7 hown hK hP 0 rfl rfl 1 (by decide) (hts _ k_fl_X7_7) (fun _ h9 => h9) rfl dX7_comesIn_33 ?_
    refine lv_bipush (v := 12) hx hb dX7_comesIn_36 (by decide) ?_
    refine lv_dup2_11 hx hb dX7_comesIn_38 rfl rfl ?_
    refine gIald (k := 12) hx hb hK hP 1 0 rfl rfl (by decide) (gInL (by decide)) dX7_comesIn_39 ?_
    refine lv_iconst (v := 1) hx hb dX7_comesIn_40 (by decide) ?_
    refine lv_isub hx hb dX7_comesIn_41 ?_
    refine gIast (k := 12) hx hb hK hP hD hS 1 0 rfl rfl (by decide) (gInL (by decide)) dX7_comesIn_42 (fun H locs hP hD hS => ?_)
    replace hP : va_P G.1 vwCl [(m0, .inr (10, [.int rz, .ref m1, .ref m2, .ref m3, .int hf, .int hs, .ref m6, .int len, .int ec, .int ep, .int pos, .int bg, .int bad, .ref m13, .ref m14, .int plc, .int sta, .ref m17, .ref m18, .ref m19, .int shm])), (m1, .inl (G.2.1.1, 670, .inl (upd (upd w 1 (w 30)) 12 (((upd w 1 (w 30)) 12) - 1)))), (m18, .inl (G.2.1.1, 640, .inl ring))] H := hP
    replace hD : va_D A [(m0, .inr (10, [.int rz, .ref m1, .ref m2, .ref m3, .int hf, .int hs, .ref m6, .int len, .int ec, .int ep, .int pos, .int bg, .int bad, .ref m13, .ref m14, .int plc, .int sta, .ref m17, .ref m18, .ref m19, .int shm])), (m1, .inl (G.2.1.1, 670, .inl (upd (upd w 1 (w 30)) 12 (((upd w 1 (w 30)) 12) - 1)))), (m18, .inl (G.2.1.1, 640, .inl ring))] := hD
    refine lv_iconst (v := 0) hx hb dX7_comesIn_43 (by decide) ?_
    refine lv_istore_n (lv' := [(1, .int 0), (0, .ref m0)]) hx hb dX7_comesIn_44 rfl hl (by decide) rfl (fun ls hl => ?_)
    have loop_45 : ∀ (fu k : Nat), k + fu = ((w 12).toNatClampNeg - 1) → ∀ (H : Heap) (locs : List Loc), va_P G.1 vwCl [(m0, .inr (10, [.int rz, .ref m1, .ref m2, .ref m3, .int hf, .int hs, .ref m6, .int len, .int ec, .int ep, .int pos, .int bg, .int bad, .ref m13, .ref m14, .int plc, .int sta, .ref m17, .ref m18, .ref m19, .int shm])), (m1, .inl (G.2.1.1, 670, .inl (it_X7_comesIn_45 w k))), (m18, .inl (G.2.1.1, 640, .inl ring))] H → va_D A [(m0, .inr (10, [.int rz, .ref m1, .ref m2, .ref m3, .int hf, .int hs, .ref m6, .int len, .int ec, .int ep, .int pos, .int bg, .int bad, .ref m13, .ref m14, .int plc, .int sta, .ref m17, .ref m18, .ref m19, .int shm])), (m1, .inl (G.2.1.1, 670, .inl (it_X7_comesIn_45 w k))), (m18, .inl (G.2.1.1, 640, .inl ring))] → va_S A s.heap H locs → ∀ ls : Array Slot, lv_has ls 2 [(1, .int (nI k)), (0, .ref m0)] → W p l e { frames := 5, cells := 0, slots := 0, locals := 107 } s m args below meth c H locs 0 0 (MQ below (gQ G (some (.int ((f_X7_comesIn w ring).1))) [(m0, .inr (10, [.int rz, .ref m1, .ref m2, .ref m3, .int hf, .int hs, .ref m6, .int len, .int ec, .int ep, .int pos, .int bg, .int bad, .ref m13, .ref m14, .int plc, .int sta, .ref m17, .ref m18, .ref m19, .int shm])), (m1, .inl (G.2.1.1, 670, .inl ((f_X7_comesIn w ring).2.1))), (m18, .inl (G.2.1.1, 640, .inl ((f_X7_comesIn w ring).2.2)))] A) args s 0 0 A) (F0 m 45 ls []) := by
      intro fu
      induction fu with
      | zero =>
        intro k hk H locs hP hD hS ls hl
        have ek : ((w 12).toNatClampNeg - 1) = k := by omega
        subst ek
        replace hP : va_P G.1 vwCl [(m0, .inr (10, [.int rz, .ref m1, .ref m2, .ref m3, .int hf, .int hs, .ref m6, .int len, .int ec, .int ep, .int pos, .int bg, .int bad, .ref m13, .ref m14, .int plc, .int sta, .ref m17, .ref m18, .ref m19, .int shm])), (m1, .inl (G.2.1.1, 670, .inl (it_X7_comesIn_45 w ((w 12).toNatClampNeg - 1)))), (m18, .inl (G.2.1.1, 640, .inl ring))] H := hP
        replace hD : va_D A [(m0, .inr (10, [.int rz, .ref m1, .ref m2, .ref m3, .int hf, .int hs, .ref m6, .int len, .int ec, .int ep, .int pos, .int bg, .int bad, .ref m13, .ref m14, .int plc, .int sta, .ref m17, .ref m18, .ref m19, .int shm])), (m1, .inl (G.2.1.1, 670, .inl (it_X7_comesIn_45 w ((w 12).toNatClampNeg - 1)))), (m18, .inl (G.2.1.1, 640, .inl ring))] := hD
        replace hl : lv_has ls 2 [(1, .int (nI ((w 12).toNatClampNeg - 1))), (0, .ref m0)] := hl
        refine lv_iload_n hx hb dX7_comesIn_45 rfl (lv_at hl 0 rfl) ?_
        refine lv_aload_n hx hb dX7_comesIn_46 rfl (lv_at hl 1 rfl) ?_
        refine va_get (D := G.1) (ci := 10) (v := .ref m1) (C := RX7) (T := TX7) (N := 21) hx hb hts in_X7 hown hK hP 0 rfl rfl 1 (by decide) (hts _ k_fl_X7_7) (fun _ h9 => h9) rfl dX7_comesIn_47 ?_
        refine lv_bipush (v := 12) hx hb dX7_comesIn_50 (by decide) ?_
        refine gIald (k := 12) hx hb hK hP 1 0 rfl rfl (by decide) (gInL (by decide)) dX7_comesIn_52 ?_
        refine lv_icmp_ge (tgt := 82) hx hb dX7_comesIn_53 (by decide) (fun c_2 => ?_) (fun c_2 => ?_)
        · skip
          refine lv_aload_n hx hb dX7_comesIn_82 rfl (lv_at hl 1 rfl) ?_
          refine lv_iconst (v := 1) hx hb dX7_comesIn_83 (by decide) ?_
          refine gV (As := [.int 1]) (rest := []) (wr := []) (ws' := [(m0, .inr (10, [.int rz, .ref m1, .ref m2, .ref m3, .int hf, .int hs, .ref m6, .int len, .int ec, .int ep, .int pos, .int bg, .int bad, .ref m13, .ref m14, .int plc, .int sta, .ref m17, .ref m18, .ref m19, .int shm])), (m1, .inl (G.2.1.1, 670, .inl ((f_X7_passes (it_X7_comesIn_45 w ((w 12).toNatClampNeg - 1)) ring 1).1))), (m18, .inl (G.2.1.1, 640, .inl ((f_X7_passes (it_X7_comesIn_45 w ((w 12).toNatClampNeg - 1)) ring 1).2)))]) F (c_X7_passes l G m0 m1 m2 m3 m6 m13 m14 m17 m18 m19 rz hf hs len ec ep pos bg bad plc sta shm (it_X7_comesIn_45 w ((w 12).toNatClampNeg - 1)) ring 1 (RT_comesIn h12 hT _ (Nat.le_refl _))) okV_X7_passes k_ml_X7_264 rfl rfl ⟨Nat.le_of_ble_eq_true rfl, Nat.le_of_ble_eq_true rfl⟩ hN hK hP hD hS hA [0, 1, 2] [] [0, 1, 2] (by decide) rfl rfl (by decide) (by decide) (by decide) rfl (q0 := 0) rfl rfl rfl rfl hl.1 (Nat.le_of_ble_eq_true rfl) dX7_comesIn_84 ⟨Nat.le_refl _, Nat.le_refl _⟩ (fun H locs hP hD hS => ?_)
          refine lv_iconst (v := 1) hx hb dX7_comesIn_87 (by decide) ?_
          have ef : (f_X7_comesIn w ring) = (1, (f_X7_passes (it_X7_comesIn_45 w ((w 12).toNatClampNeg - 1)) ring 1).1, (f_X7_passes (it_X7_comesIn_45 w ((w 12).toNatClampNeg - 1)) ring 1).2) := (if_neg c_1)
          exact gRetZ F hr hlocks hK hP hD hS rfl (by rw [ef]) (by rw [ef]) (Nat.le_of_ble_eq_true rfl) (Nat.le_of_ble_eq_true rfl) dX7_comesIn_88
        · exact absurd (by rw [comesIn12 h12 c_1 _ (Nat.le_refl _)]; exact Int32.le_refl _) c_2
      | succ fu ih =>
        intro k hk H locs hP hD hS ls hl
        have hlt_k : k < ((w 12).toNatClampNeg - 1) := by omega
        refine lv_iload_n hx hb dX7_comesIn_45 rfl (lv_at hl 0 rfl) ?_
        refine lv_aload_n hx hb dX7_comesIn_46 rfl (lv_at hl 1 rfl) ?_
        refine va_get (D := G.1) (ci := 10) (v := .ref m1) (C := RX7) (T := TX7) (N := 21) hx hb hts in_X7 hown hK hP 0 rfl rfl 1 (by decide) (hts _ k_fl_X7_7) (fun _ h9 => h9) rfl dX7_comesIn_47 ?_
        refine lv_bipush (v := 12) hx hb dX7_comesIn_50 (by decide) ?_
        refine gIald (k := 12) hx hb hK hP 1 0 rfl rfl (by decide) (gInL (by decide)) dX7_comesIn_52 ?_
        refine lv_icmp_ge (tgt := 82) hx hb dX7_comesIn_53 (by decide) (fun c_3 => ?_) (fun c_3 => ?_)
        · exact absurd c_3 (by rw [comesIn12 h12 c_1 k (by omega)]; exact nI_ge hlt_k (by have hq := gI_clamp h12.1; omega))
        · skip
          refine lv_aload_n hx hb dX7_comesIn_56 rfl (lv_at hl 1 rfl) ?_
          refine va_get (D := G.1) (ci := 10) (v := .ref m1) (C := RX7) (T := TX7) (N := 21) hx hb hts in_X7 hown hK hP 0 rfl rfl 1 (by decide) (hts _ k_fl_X7_7) (fun _ h9 => h9) rfl dX7_comesIn_57 ?_
          refine lv_bipush (v := 30) hx hb dX7_comesIn_60 (by decide) ?_
          refine lv_iload_n hx hb dX7_comesIn_62 rfl (lv_at hl 0 rfl) ?_
          refine lv_iadd hx hb dX7_comesIn_63 ?_
          refine lv_aload_n hx hb dX7_comesIn_64 rfl (lv_at hl 1 rfl) ?_
          refine va_get (D := G.1) (ci := 10) (v := .ref m1) (C := RX7) (T := TX7) (N := 21) hx hb hts in_X7 hown hK hP 0 rfl rfl 1 (by decide) (hts _ k_fl_X7_7) (fun _ h9 => h9) rfl dX7_comesIn_65 ?_
          refine lv_bipush (v := 30) hx hb dX7_comesIn_68 (by decide) ?_
          refine lv_iload_n hx hb dX7_comesIn_70 rfl (lv_at hl 0 rfl) ?_
          refine lv_iadd hx hb dX7_comesIn_71 ?_
          refine lv_iconst (v := 1) hx hb dX7_comesIn_72 (by decide) ?_
          refine lv_iadd hx hb dX7_comesIn_73 ?_
          refine va_iald hx hb hK hP 1 0 rfl rfl (by have hq := gI_clamp h12.1; have z0 : (30 : Int32).toInt = 30 := (by decide); have z1 := nI_toInt (n := k) (by omega); (try have z2 := gI_add (x := 30) (y := (nI k)) (by omega) (by omega)); have z3 : (1 : Int32).toInt = 1 := (by decide); (try have z4 := gI_add (x := (30 + (nI k))) (y := 1) (by omega) (by omega)); (try rw [vp_in_iff]); omega) dX7_comesIn_74 ?_
          refine va_iast hx hb hK hP hD hS 1 0 rfl rfl (by have hq := gI_clamp h12.1; have z0 : (30 : Int32).toInt = 30 := (by decide); have z1 := nI_toInt (n := k) (by omega); (try have z2 := gI_add (x := 30) (y := (nI k)) (by omega) (by omega)); (try rw [vp_in_iff]); omega) dX7_comesIn_75 (fun H locs hP hD hS => ?_)
          replace hP : va_P G.1 vwCl [(m0, .inr (10, [.int rz, .ref m1, .ref m2, .ref m3, .int hf, .int hs, .ref m6, .int len, .int ec, .int ep, .int pos, .int bg, .int bad, .ref m13, .ref m14, .int plc, .int sta, .ref m17, .ref m18, .ref m19, .int shm])), (m1, .inl (G.2.1.1, 670, .inl (upd (it_X7_comesIn_45 w k) (Int32.toNatClampNeg (30 + (nI k))) ((it_X7_comesIn_45 w k) (Int32.toNatClampNeg ((30 + (nI k)) + 1)))))), (m18, .inl (G.2.1.1, 640, .inl ring))] H := hP
          replace hD : va_D A [(m0, .inr (10, [.int rz, .ref m1, .ref m2, .ref m3, .int hf, .int hs, .ref m6, .int len, .int ec, .int ep, .int pos, .int bg, .int bad, .ref m13, .ref m14, .int plc, .int sta, .ref m17, .ref m18, .ref m19, .int shm])), (m1, .inl (G.2.1.1, 670, .inl (upd (it_X7_comesIn_45 w k) (Int32.toNatClampNeg (30 + (nI k))) ((it_X7_comesIn_45 w k) (Int32.toNatClampNeg ((30 + (nI k)) + 1)))))), (m18, .inl (G.2.1.1, 640, .inl ring))] := hD
          refine lv_iinc (v := (nI (k + 1))) (lv' := [(1, .int (nI (k + 1))), (0, .ref m0)]) hx hb dX7_comesIn_76 hl (k := 0) rfl (nI_1 k) (by decide) rfl (fun ls hl => ?_)
          refine lv_goto (tgt := 45) hx hb dX7_comesIn_79 (by decide) ?_
          have ek : (it_X7_comesIn_45 w (k + 1)) = (upd (it_X7_comesIn_45 w k) (Int32.toNatClampNeg (30 + (nI k))) ((it_X7_comesIn_45 w k) (Int32.toNatClampNeg ((30 + (nI k)) + 1)))) := rfl
          exact ih (k + 1) (by omega) _ _ (by rw [ek]; exact hP) (by rw [ek]; exact hD) hS ls (lv_sub hl [0, 1] rfl)
    exact loop_45 ((w 12).toNatClampNeg - 1) 0 (by omega) _ _ hP hD hS ls (lv_sub hl [0, 1] rfl)
  · skip
    refine lv_aload_n hx hb dX7_comesIn_10 rfl (lv_at hl 0 rfl) ?_
    refine va_get (D := G.1) (ci := 10) (v := .ref m1) (C := RX7) (T := TX7) (N := 21) hx hb hts in_X7 hown hK hP 0 rfl rfl 1 (by decide) (hts _ k_fl_X7_7) (fun _ h9 => h9) rfl dX7_comesIn_11 ?_
    refine lv_iconst (v := 4) hx hb dX7_comesIn_14 (by decide) ?_
    refine lv_iconst (v := 2) hx hb dX7_comesIn_15 (by decide) ?_
    refine gIast (k := 4) hx hb hK hP hD hS 1 0 rfl rfl (by decide) (gInL (by decide)) dX7_comesIn_16 (fun H locs hP hD hS => ?_)
    replace hP : va_P G.1 vwCl [(m0, .inr (10, [.int rz, .ref m1, .ref m2, .ref m3, .int hf, .int hs, .ref m6, .int len, .int ec, .int ep, .int pos, .int bg, .int bad, .ref m13, .ref m14, .int plc, .int sta, .ref m17, .ref m18, .ref m19, .int shm])), (m1, .inl (G.2.1.1, 670, .inl (upd w 4 2))), (m18, .inl (G.2.1.1, 640, .inl ring))] H := hP
    replace hD : va_D A [(m0, .inr (10, [.int rz, .ref m1, .ref m2, .ref m3, .int hf, .int hs, .ref m6, .int len, .int ec, .int ep, .int pos, .int bg, .int bad, .ref m13, .ref m14, .int plc, .int sta, .ref m17, .ref m18, .ref m19, .int shm])), (m1, .inl (G.2.1.1, 670, .inl (upd w 4 2))), (m18, .inl (G.2.1.1, 640, .inl ring))] := hD
    refine lv_iconst (v := 0) hx hb dX7_comesIn_17 (by decide) ?_
    have ef : (f_X7_comesIn w ring) = (0, (upd w 4 2), ring) := (if_pos c_1)
    exact gRetZ F hr hlocks hK hP hD hS rfl (by rw [ef]) (by rw [ef]) (Nat.le_of_ble_eq_true rfl) (Nat.le_of_ble_eq_true rfl) dX7_comesIn_18
theorem okV_X7_comesIn : gOkV yX7_comesIn cX7_comesIn 2 (some .boolean) 0 := ⟨⟨k_im_X7_comesIn, k_se_X7_comesIn, k_in_X7, k_cd_X7_comesIn⟩, by decide, by decide, by decide +kernel⟩
def st_X7_takeOutput_42  (k : Nat) (v0_ : Nat → Int32) : (Nat → Int32) :=
  (upd v0_ (Int32.toNatClampNeg (94 + (nI k))) (v0_ (Int32.toNatClampNeg ((94 + (nI k)) + 1))))
def it_X7_takeOutput_42 (w : Nat → Int32) : Nat → (Nat → Int32)
  | 0 => (upd w 13 ((w 13) - 1))
  | i + 1 => st_X7_takeOutput_42 i (it_X7_takeOutput_42 w i)
def f_X7_takeOutput (w : Nat → Int32) : Int32 × Int32 × (Nat → Int32) :=
  if (w 13) = 0 then
    ((f_X7_fails 1).1, (f_X7_fails 1).2, w)
  else
    if ((it_X7_takeOutput_42 w ((w 13).toNatClampNeg - 1)) 4) = 3 then
      ((w 94), 0, (upd (it_X7_takeOutput_42 w ((w 13).toNatClampNeg - 1)) 4 0))
    else
      ((w 94), 0, (upd (it_X7_takeOutput_42 w ((w 13).toNatClampNeg - 1)) 4 ((it_X7_takeOutput_42 w ((w 13).toNatClampNeg - 1)) 4)))

theorem takeOut_it {w : Nat → Int32} : ∀ k, k ≤ 64 → ∀ j, it_X7_takeOutput_42 w k j = if 94 ≤ j ∧ j < 94 + k then w (j + 1) else upd w 13 (w 13 - 1) j := by
  intro k
  induction k with
  | zero => intro _ j; rw [if_neg (by omega)]; rfl
  | succ k ih =>
    intro hk j
    obtain ⟨e1, e2⟩ := ixK (a := 94) (n := 94) (k := k) (by decide) (by decide) (by omega)
    show st_X7_takeOutput_42 k (it_X7_takeOutput_42 w k) j = _
    unfold st_X7_takeOutput_42
    rw [e1, e2]
    by_cases h : j = 94 + k
    · rw [h, pus, ih (by omega), if_neg (by omega), if_pos (by omega), pu (by omega)]
    · rw [pu h, ih (by omega)]
      by_cases h2 : 94 ≤ j ∧ j < 94 + k
      · rw [if_pos h2, if_pos (by omega)]
      · rw [if_neg h2, if_neg (by omega)]
theorem takeOut13 {w : Nat → Int32} (h : 0 ≤ (w 13).toInt ∧ (w 13).toInt ≤ 64) (hx : ¬ w 13 = 0) : ∀ k, k ≤ (w 13).toNatClampNeg - 1 → it_X7_takeOutput_42 w k 13 = nI ((w 13).toNatClampNeg - 1) := by
  intro k hk
  have e := gI_clamp h.1
  rw [takeOut_it k (by omega), if_neg (by omega), pus]
  exact nI_pred1 h hx

set_option maxRecDepth 100000 in
set_option maxHeartbeats 4000000 in
theorem c_X7_takeOutput (l : Launch) (G : gG) (m0 : Nat) (m1 : Nat) (m2 : Nat) (m3 : Nat) (m6 : Nat) (m13 : Nat) (m14 : Nat) (m17 : Nat) (m18 : Nat) (m19 : Nat) (rz : Int32) (hf : Int32) (hs : Int32) (len : Int32) (ec : Int32) (ep : Int32) (pos : Int32) (bg : Int32) (bad : Int32) (plc : Int32) (sta : Int32) (shm : Int32) (w : Nat → Int32) (h13 : 0 ≤ (w 13).toInt ∧ (w 13).toInt ≤ 64) : gM l G yX7_takeOutput cX7_takeOutput 3 (some .int) { frames := 1, cells := 0, slots := 0, locals := 21 } [.ref m0] [(m0, .inr (10, [.int rz, .ref m1, .ref m2, .ref m3, .int hf, .int hs, .ref m6, .int len, .int ec, .int ep, .int pos, .int bg, .int bad, .ref m13, .ref m14, .int plc, .int sta, .ref m17, .ref m18, .ref m19, .int shm])), (m1, .inl (G.2.1.1, 670, .inl w))] (some (.int ((f_X7_takeOutput w).1))) [(m0, .inr (10, [.int ((f_X7_takeOutput w).2.1), .ref m1, .ref m2, .ref m3, .int hf, .int hs, .ref m6, .int len, .int ec, .int ep, .int pos, .int bg, .int bad, .ref m13, .ref m14, .int plc, .int sta, .ref m17, .ref m18, .ref m19, .int shm])), (m1, .inl (G.2.1.1, 670, .inl ((f_X7_takeOutput w).2.2)))] 0 0 := by
  refine gBegin (by decide +kernel) (Nat.le_of_ble_eq_true rfl) (fun p e s m args below meth c A F hr hlocks hname hN hK hP hD hA hS ls hl => ?_)
  obtain ⟨hx, hb, hml, hown, hts⟩ := id F
  replace hP : va_P G.1 vwCl [(m0, .inr (10, [.int rz, .ref m1, .ref m2, .ref m3, .int hf, .int hs, .ref m6, .int len, .int ec, .int ep, .int pos, .int bg, .int bad, .ref m13, .ref m14, .int plc, .int sta, .ref m17, .ref m18, .ref m19, .int shm])), (m1, .inl (G.2.1.1, 670, .inl w))] s.heap := hP
  replace hl : lv_has ls 3 [(0, .ref m0)] := hl
  refine lv_aload_n hx hb dX7_takeOutput_0 rfl (lv_at hl 0 rfl) ?_
  refine lv_iconst (v := 0) hx hb dX7_takeOutput_1 (by decide) ?_
  refine va_put (D := G.1) (ci := 10) (v := .int 0) (ty := .int) (C := RX7) (T := TX7) (N := 21) hx hb hts in_X7 tyX7 tyX7_ok nmX7 hown hK hP hD hS 0 rfl rfl 0 (by decide) (hts _ k_fl_X7_76) (fun _ h9 => h9) rfl (by decide +kernel) rfl rfl (Nat.le_of_ble_eq_true rfl) dX7_takeOutput_2 (fun H locs hP hD hS => ?_)
  replace hP : va_P G.1 vwCl [(m0, .inr (10, [.int 0, .ref m1, .ref m2, .ref m3, .int hf, .int hs, .ref m6, .int len, .int ec, .int ep, .int pos, .int bg, .int bad, .ref m13, .ref m14, .int plc, .int sta, .ref m17, .ref m18, .ref m19, .int shm])), (m1, .inl (G.2.1.1, 670, .inl w))] H := hP
  replace hD : va_D A [(m0, .inr (10, [.int 0, .ref m1, .ref m2, .ref m3, .int hf, .int hs, .ref m6, .int len, .int ec, .int ep, .int pos, .int bg, .int bad, .ref m13, .ref m14, .int plc, .int sta, .ref m17, .ref m18, .ref m19, .int shm])), (m1, .inl (G.2.1.1, 670, .inl w))] := hD
  refine lv_aload_n hx hb dX7_takeOutput_5 rfl (lv_at hl 0 rfl) ?_
  refine va_get (D := G.1) (ci := 10) (v := .ref m1) (C := RX7) (T := TX7) (N := 21) hx hb hts in_X7 hown hK hP 0 rfl rfl 1 (by decide) (hts _ k_fl_X7_7) (fun _ h9 => h9) rfl dX7_takeOutput_6 ?_
  refine lv_bipush (v := 13) hx hb dX7_takeOutput_9 (by decide) ?_
  refine gIald (k := 13) hx hb hK hP 1 0 rfl rfl (by decide) (gInL (by decide)) dX7_takeOutput_11 ?_
  refine lv_if_ne (tgt := 21) hx hb dX7_takeOutput_12 (by decide) (fun c_1 => ?_) (fun c_1 => ?_)
  · skip
    refine lv_aload_n hx hb dX7_takeOutput_21 rfl (lv_at hl 0 rfl) ?_
    refine va_get (D := G.1) (ci := 10) (v := .ref m1) (C := RX7) (T := TX7) (N := 21) hx hb hts in_X7 hown hK hP 0 rfl rfl 1 (by decide) (hts _ k_fl_X7_7) (fun _ h9 => h9) rfl dX7_takeOutput_22 ?_
    refine lv_bipush (v := 94) hx hb dX7_takeOutput_25 (by decide) ?_
    refine gIald (k := 94) hx hb hK hP 1 0 rfl rfl (by decide) (gInL (by decide)) dX7_takeOutput_27 ?_
    refine lv_istore_n (lv' := [(1, .int (w 94)), (0, .ref m0)]) hx hb dX7_takeOutput_28 rfl hl (by decide) rfl (fun ls hl => ?_)
    refine lv_aload_n hx hb dX7_takeOutput_29 rfl (lv_at hl 1 rfl) ?_
    refine va_get (D := G.1) (ci := 10) (v := .ref m1) (C := RX7) (T := TX7) (N := 21) hx hb hts in_X7 hown hK hP 0 rfl rfl 1 (by decide) (hts _ k_fl_X7_7) (fun _ h9 => h9) rfl dX7_takeOutput_30 ?_
    refine lv_bipush (v := 13) hx hb dX7_takeOutput_33 (by decide) ?_
    refine lv_dup2_11 hx hb dX7_takeOutput_35 rfl rfl ?_
    refine gIald (k := 13) hx hb hK hP 1 0 rfl rfl (by decide) (gInL (by decide)) dX7_takeOutput_36 ?_
    refine lv_iconst (v := 1) hx hb dX7_takeOutput_37 (by decide) ?_
    refine lv_isub hx hb dX7_takeOutput_38 ?_
    refine gIast (k := 13) hx hb hK hP hD hS 1 0 rfl rfl (by decide) (gInL (by decide)) dX7_takeOutput_39 (fun H locs hP hD hS => ?_)
    replace hP : va_P G.1 vwCl [(m0, .inr (10, [.int 0, .ref m1, .ref m2, .ref m3, .int hf, .int hs, .ref m6, .int len, .int ec, .int ep, .int pos, .int bg, .int bad, .ref m13, .ref m14, .int plc, .int sta, .ref m17, .ref m18, .ref m19, .int shm])), (m1, .inl (G.2.1.1, 670, .inl (upd w 13 ((w 13) - 1))))] H := hP
    replace hD : va_D A [(m0, .inr (10, [.int 0, .ref m1, .ref m2, .ref m3, .int hf, .int hs, .ref m6, .int len, .int ec, .int ep, .int pos, .int bg, .int bad, .ref m13, .ref m14, .int plc, .int sta, .ref m17, .ref m18, .ref m19, .int shm])), (m1, .inl (G.2.1.1, 670, .inl (upd w 13 ((w 13) - 1))))] := hD
    refine lv_iconst (v := 0) hx hb dX7_takeOutput_40 (by decide) ?_
    refine lv_istore_n (lv' := [(2, .int 0), (1, .int (w 94)), (0, .ref m0)]) hx hb dX7_takeOutput_41 rfl hl (by decide) rfl (fun ls hl => ?_)
    have loop_42 : ∀ (fu k : Nat), k + fu = ((w 13).toNatClampNeg - 1) → ∀ (H : Heap) (locs : List Loc), va_P G.1 vwCl [(m0, .inr (10, [.int 0, .ref m1, .ref m2, .ref m3, .int hf, .int hs, .ref m6, .int len, .int ec, .int ep, .int pos, .int bg, .int bad, .ref m13, .ref m14, .int plc, .int sta, .ref m17, .ref m18, .ref m19, .int shm])), (m1, .inl (G.2.1.1, 670, .inl (it_X7_takeOutput_42 w k)))] H → va_D A [(m0, .inr (10, [.int 0, .ref m1, .ref m2, .ref m3, .int hf, .int hs, .ref m6, .int len, .int ec, .int ep, .int pos, .int bg, .int bad, .ref m13, .ref m14, .int plc, .int sta, .ref m17, .ref m18, .ref m19, .int shm])), (m1, .inl (G.2.1.1, 670, .inl (it_X7_takeOutput_42 w k)))] → va_S A s.heap H locs → ∀ ls : Array Slot, lv_has ls 3 [(2, .int (nI k)), (1, .int (w 94)), (0, .ref m0)] → W p l e { frames := 1, cells := 0, slots := 0, locals := 21 } s m args below meth c H locs 0 0 (MQ below (gQ G (some (.int ((f_X7_takeOutput w).1))) [(m0, .inr (10, [.int ((f_X7_takeOutput w).2.1), .ref m1, .ref m2, .ref m3, .int hf, .int hs, .ref m6, .int len, .int ec, .int ep, .int pos, .int bg, .int bad, .ref m13, .ref m14, .int plc, .int sta, .ref m17, .ref m18, .ref m19, .int shm])), (m1, .inl (G.2.1.1, 670, .inl ((f_X7_takeOutput w).2.2)))] A) args s 0 0 A) (F0 m 42 ls []) := by
      intro fu
      induction fu with
      | zero =>
        intro k hk H locs hP hD hS ls hl
        have ek : ((w 13).toNatClampNeg - 1) = k := by omega
        subst ek
        replace hP : va_P G.1 vwCl [(m0, .inr (10, [.int 0, .ref m1, .ref m2, .ref m3, .int hf, .int hs, .ref m6, .int len, .int ec, .int ep, .int pos, .int bg, .int bad, .ref m13, .ref m14, .int plc, .int sta, .ref m17, .ref m18, .ref m19, .int shm])), (m1, .inl (G.2.1.1, 670, .inl (it_X7_takeOutput_42 w ((w 13).toNatClampNeg - 1))))] H := hP
        replace hD : va_D A [(m0, .inr (10, [.int 0, .ref m1, .ref m2, .ref m3, .int hf, .int hs, .ref m6, .int len, .int ec, .int ep, .int pos, .int bg, .int bad, .ref m13, .ref m14, .int plc, .int sta, .ref m17, .ref m18, .ref m19, .int shm])), (m1, .inl (G.2.1.1, 670, .inl (it_X7_takeOutput_42 w ((w 13).toNatClampNeg - 1))))] := hD
        replace hl : lv_has ls 3 [(2, .int (nI ((w 13).toNatClampNeg - 1))), (1, .int (w 94)), (0, .ref m0)] := hl
        refine lv_iload_n hx hb dX7_takeOutput_42 rfl (lv_at hl 0 rfl) ?_
        refine lv_aload_n hx hb dX7_takeOutput_43 rfl (lv_at hl 2 rfl) ?_
        refine va_get (D := G.1) (ci := 10) (v := .ref m1) (C := RX7) (T := TX7) (N := 21) hx hb hts in_X7 hown hK hP 0 rfl rfl 1 (by decide) (hts _ k_fl_X7_7) (fun _ h9 => h9) rfl dX7_takeOutput_44 ?_
        refine lv_bipush (v := 13) hx hb dX7_takeOutput_47 (by decide) ?_
        refine gIald (k := 13) hx hb hK hP 1 0 rfl rfl (by decide) (gInL (by decide)) dX7_takeOutput_49 ?_
        refine lv_icmp_ge (tgt := 79) hx hb dX7_takeOutput_50 (by decide) (fun c_2 => ?_) (fun c_2 => ?_)
        · skip
          refine lv_aload_n hx hb dX7_takeOutput_79 rfl (lv_at hl 2 rfl) ?_
          refine va_get (D := G.1) (ci := 10) (v := .ref m1) (C := RX7) (T := TX7) (N := 21) hx hb hts in_X7 hown hK hP 0 rfl rfl 1 (by decide) (hts _ k_fl_X7_7) (fun _ h9 => h9) rfl dX7_takeOutput_80 ?_
          refine lv_iconst (v := 4) hx hb dX7_takeOutput_83 (by decide) ?_
          refine lv_aload_n hx hb dX7_takeOutput_84 rfl (lv_at hl 2 rfl) ?_
          refine va_get (D := G.1) (ci := 10) (v := .ref m1) (C := RX7) (T := TX7) (N := 21) hx hb hts in_X7 hown hK hP 0 rfl rfl 1 (by decide) (hts _ k_fl_X7_7) (fun _ h9 => h9) rfl dX7_takeOutput_85 ?_
          refine lv_iconst (v := 4) hx hb dX7_takeOutput_88 (by decide) ?_
          refine gIald (k := 4) hx hb hK hP 1 0 rfl rfl (by decide) (gInL (by decide)) dX7_takeOutput_89 ?_
          refine lv_iconst (v := 3) hx hb dX7_takeOutput_90 (by decide) ?_
          refine lv_icmp_ne (tgt := 98) hx hb dX7_takeOutput_91 (by decide) (fun c_3 => ?_) (fun c_3 => ?_)
          · skip
            refine lv_aload_n hx hb dX7_takeOutput_98 rfl (lv_at hl 2 rfl) ?_
            refine va_get (D := G.1) (ci := 10) (v := .ref m1) (C := RX7) (T := TX7) (N := 21) hx hb hts in_X7 hown hK hP 0 rfl rfl 1 (by decide) (hts _ k_fl_X7_7) (fun _ h9 => h9) rfl dX7_takeOutput_99 ?_
            refine lv_iconst (v := 4) hx hb dX7_takeOutput_102 (by decide) ?_
            refine gIald (k := 4) hx hb hK hP 1 0 rfl rfl (by decide) (gInL (by decide)) dX7_takeOutput_103 ?_
            refine gIast (k := 4) hx hb hK hP hD hS 1 0 rfl rfl (by decide) (gInL (by decide)) dX7_takeOutput_104 (fun H locs hP hD hS => ?_)
            replace hP : va_P G.1 vwCl [(m0, .inr (10, [.int 0, .ref m1, .ref m2, .ref m3, .int hf, .int hs, .ref m6, .int len, .int ec, .int ep, .int pos, .int bg, .int bad, .ref m13, .ref m14, .int plc, .int sta, .ref m17, .ref m18, .ref m19, .int shm])), (m1, .inl (G.2.1.1, 670, .inl (upd (it_X7_takeOutput_42 w ((w 13).toNatClampNeg - 1)) 4 ((it_X7_takeOutput_42 w ((w 13).toNatClampNeg - 1)) 4))))] H := hP
            replace hD : va_D A [(m0, .inr (10, [.int 0, .ref m1, .ref m2, .ref m3, .int hf, .int hs, .ref m6, .int len, .int ec, .int ep, .int pos, .int bg, .int bad, .ref m13, .ref m14, .int plc, .int sta, .ref m17, .ref m18, .ref m19, .int shm])), (m1, .inl (G.2.1.1, 670, .inl (upd (it_X7_takeOutput_42 w ((w 13).toNatClampNeg - 1)) 4 ((it_X7_takeOutput_42 w ((w 13).toNatClampNeg - 1)) 4))))] := hD
            refine lv_iload_n hx hb dX7_takeOutput_105 rfl (lv_at hl 1 rfl) ?_
            have ef : (f_X7_takeOutput w) = ((w 94), 0, (upd (it_X7_takeOutput_42 w ((w 13).toNatClampNeg - 1)) 4 ((it_X7_takeOutput_42 w ((w 13).toNatClampNeg - 1)) 4))) := ((if_neg c_1).trans (if_neg c_3))
            exact gRetI F hr hlocks hK hP hD hS (by rw [ef]) (by rw [ef]) (Nat.le_of_ble_eq_true rfl) (Nat.le_of_ble_eq_true rfl) dX7_takeOutput_106
          · skip
            refine lv_iconst (v := 0) hx hb dX7_takeOutput_94 (by decide) ?_
            refine lv_goto (tgt := 104) hx hb dX7_takeOutput_95 (by decide) ?_
            refine gIast (k := 4) hx hb hK hP hD hS 1 0 rfl rfl (by decide) (gInL (by decide)) dX7_takeOutput_104 (fun H locs hP hD hS => ?_)
            replace hP : va_P G.1 vwCl [(m0, .inr (10, [.int 0, .ref m1, .ref m2, .ref m3, .int hf, .int hs, .ref m6, .int len, .int ec, .int ep, .int pos, .int bg, .int bad, .ref m13, .ref m14, .int plc, .int sta, .ref m17, .ref m18, .ref m19, .int shm])), (m1, .inl (G.2.1.1, 670, .inl (upd (it_X7_takeOutput_42 w ((w 13).toNatClampNeg - 1)) 4 0)))] H := hP
            replace hD : va_D A [(m0, .inr (10, [.int 0, .ref m1, .ref m2, .ref m3, .int hf, .int hs, .ref m6, .int len, .int ec, .int ep, .int pos, .int bg, .int bad, .ref m13, .ref m14, .int plc, .int sta, .ref m17, .ref m18, .ref m19, .int shm])), (m1, .inl (G.2.1.1, 670, .inl (upd (it_X7_takeOutput_42 w ((w 13).toNatClampNeg - 1)) 4 0)))] := hD
            refine lv_iload_n hx hb dX7_takeOutput_105 rfl (lv_at hl 1 rfl) ?_
            have ef : (f_X7_takeOutput w) = ((w 94), 0, (upd (it_X7_takeOutput_42 w ((w 13).toNatClampNeg - 1)) 4 0)) := ((if_neg c_1).trans (if_pos c_3))
            exact gRetI F hr hlocks hK hP hD hS (by rw [ef]) (by rw [ef]) (Nat.le_of_ble_eq_true rfl) (Nat.le_of_ble_eq_true rfl) dX7_takeOutput_106
        · exact absurd (by rw [takeOut13 h13 c_1 _ (Nat.le_refl _)]; exact Int32.le_refl _) c_2
      | succ fu ih =>
        intro k hk H locs hP hD hS ls hl
        have hlt_k : k < ((w 13).toNatClampNeg - 1) := by omega
        refine lv_iload_n hx hb dX7_takeOutput_42 rfl (lv_at hl 0 rfl) ?_
        refine lv_aload_n hx hb dX7_takeOutput_43 rfl (lv_at hl 2 rfl) ?_
        refine va_get (D := G.1) (ci := 10) (v := .ref m1) (C := RX7) (T := TX7) (N := 21) hx hb hts in_X7 hown hK hP 0 rfl rfl 1 (by decide) (hts _ k_fl_X7_7) (fun _ h9 => h9) rfl dX7_takeOutput_44 ?_
        refine lv_bipush (v := 13) hx hb dX7_takeOutput_47 (by decide) ?_
        refine gIald (k := 13) hx hb hK hP 1 0 rfl rfl (by decide) (gInL (by decide)) dX7_takeOutput_49 ?_
        refine lv_icmp_ge (tgt := 79) hx hb dX7_takeOutput_50 (by decide) (fun c_4 => ?_) (fun c_4 => ?_)
        · exact absurd c_4 (by rw [takeOut13 h13 c_1 k (by omega)]; exact nI_ge hlt_k (by have hq := gI_clamp h13.1; omega))
        · skip
          refine lv_aload_n hx hb dX7_takeOutput_53 rfl (lv_at hl 2 rfl) ?_
          refine va_get (D := G.1) (ci := 10) (v := .ref m1) (C := RX7) (T := TX7) (N := 21) hx hb hts in_X7 hown hK hP 0 rfl rfl 1 (by decide) (hts _ k_fl_X7_7) (fun _ h9 => h9) rfl dX7_takeOutput_54 ?_
          refine lv_bipush (v := 94) hx hb dX7_takeOutput_57 (by decide) ?_
          refine lv_iload_n hx hb dX7_takeOutput_59 rfl (lv_at hl 0 rfl) ?_
          refine lv_iadd hx hb dX7_takeOutput_60 ?_
          refine lv_aload_n hx hb dX7_takeOutput_61 rfl (lv_at hl 2 rfl) ?_
          refine va_get (D := G.1) (ci := 10) (v := .ref m1) (C := RX7) (T := TX7) (N := 21) hx hb hts in_X7 hown hK hP 0 rfl rfl 1 (by decide) (hts _ k_fl_X7_7) (fun _ h9 => h9) rfl dX7_takeOutput_62 ?_
          refine lv_bipush (v := 94) hx hb dX7_takeOutput_65 (by decide) ?_
          refine lv_iload_n hx hb dX7_takeOutput_67 rfl (lv_at hl 0 rfl) ?_
          refine lv_iadd hx hb dX7_takeOutput_68 ?_
          refine lv_iconst (v := 1) hx hb dX7_takeOutput_69 (by decide) ?_
          refine lv_iadd hx hb dX7_takeOutput_70 ?_
          refine va_iald hx hb hK hP 1 0 rfl rfl (by have hq := gI_clamp h13.1; have z0 : (94 : Int32).toInt = 94 := (by decide); have z1 := nI_toInt (n := k) (by omega); (try have z2 := gI_add (x := 94) (y := (nI k)) (by omega) (by omega)); have z3 : (1 : Int32).toInt = 1 := (by decide); (try have z4 := gI_add (x := (94 + (nI k))) (y := 1) (by omega) (by omega)); (try rw [vp_in_iff]); omega) dX7_takeOutput_71 ?_
          refine va_iast hx hb hK hP hD hS 1 0 rfl rfl (by have hq := gI_clamp h13.1; have z0 : (94 : Int32).toInt = 94 := (by decide); have z1 := nI_toInt (n := k) (by omega); (try have z2 := gI_add (x := 94) (y := (nI k)) (by omega) (by omega)); (try rw [vp_in_iff]); omega) dX7_takeOutput_72 (fun H locs hP hD hS => ?_)
          replace hP : va_P G.1 vwCl [(m0, .inr (10, [.int 0, .ref m1, .ref m2, .ref m3, .int hf, .int hs, .ref m6, .int len, .int ec, .int ep, .int pos, .int bg, .int bad, .ref m13, .ref m14, .int plc, .int sta, .ref m17, .ref m18, .ref m19, .int shm])), (m1, .inl (G.2.1.1, 670, .inl (upd (it_X7_takeOutput_42 w k) (Int32.toNatClampNeg (94 + (nI k))) ((it_X7_takeOutput_42 w k) (Int32.toNatClampNeg ((94 + (nI k)) + 1))))))] H := hP
          replace hD : va_D A [(m0, .inr (10, [.int 0, .ref m1, .ref m2, .ref m3, .int hf, .int hs, .ref m6, .int len, .int ec, .int ep, .int pos, .int bg, .int bad, .ref m13, .ref m14, .int plc, .int sta, .ref m17, .ref m18, .ref m19, .int shm])), (m1, .inl (G.2.1.1, 670, .inl (upd (it_X7_takeOutput_42 w k) (Int32.toNatClampNeg (94 + (nI k))) ((it_X7_takeOutput_42 w k) (Int32.toNatClampNeg ((94 + (nI k)) + 1))))))] := hD
          refine lv_iinc (v := (nI (k + 1))) (lv' := [(2, .int (nI (k + 1))), (1, .int (w 94)), (0, .ref m0)]) hx hb dX7_takeOutput_73 hl (k := 0) rfl (nI_1 k) (by decide) rfl (fun ls hl => ?_)
          refine lv_goto (tgt := 42) hx hb dX7_takeOutput_76 (by decide) ?_
          have ek : (it_X7_takeOutput_42 w (k + 1)) = (upd (it_X7_takeOutput_42 w k) (Int32.toNatClampNeg (94 + (nI k))) ((it_X7_takeOutput_42 w k) (Int32.toNatClampNeg ((94 + (nI k)) + 1)))) := rfl
          exact ih (k + 1) (by omega) _ _ (by rw [ek]; exact hP) (by rw [ek]; exact hD) hS ls (lv_sub hl [0, 1, 2] rfl)
    exact loop_42 ((w 13).toNatClampNeg - 1) 0 (by omega) _ _ hP hD hS ls (lv_sub hl [0, 1, 2] rfl)
  · skip
    refine lv_aload_n hx hb dX7_takeOutput_15 rfl (lv_at hl 0 rfl) ?_
    refine lv_iconst (v := 1) hx hb dX7_takeOutput_16 (by decide) ?_
    refine gV (As := [.int 1]) (rest := []) (wr := [(m1, .inl (G.2.1.1, 670, .inl w))]) (ws' := [(m0, .inr (10, [.int ((f_X7_fails 1).2), .ref m1, .ref m2, .ref m3, .int hf, .int hs, .ref m6, .int len, .int ec, .int ep, .int pos, .int bg, .int bad, .ref m13, .ref m14, .int plc, .int sta, .ref m17, .ref m18, .ref m19, .int shm])), (m1, .inl (G.2.1.1, 670, .inl w))]) F (c_X7_fails l G m0 m1 m2 m3 m6 m13 m14 m17 m18 m19 0 hf hs len ec ep pos bg bad plc sta shm 1) okV_X7_fails k_ml_X7_98 rfl rfl ⟨Nat.le_of_ble_eq_true rfl, Nat.le_of_ble_eq_true rfl⟩ hN hK hP hD hS hA [0] [1] [1, 0] (by decide) rfl rfl (by decide) (by decide) (by decide) rfl (q0 := 0) rfl rfl rfl rfl hl.1 (Nat.le_of_ble_eq_true rfl) dX7_takeOutput_17 ⟨Nat.le_refl _, Nat.le_refl _⟩ (fun H locs hP hD hS => ?_)
    have ef : (f_X7_takeOutput w) = ((f_X7_fails 1).1, (f_X7_fails 1).2, w) := (if_pos c_1)
    exact gRetI F hr hlocks hK hP hD hS (by rw [ef]) (by rw [ef]) (Nat.le_of_ble_eq_true rfl) (Nat.le_of_ble_eq_true rfl) dX7_takeOutput_20
theorem okV_X7_takeOutput : gOkV yX7_takeOutput cX7_takeOutput 3 (some .int) 0 := ⟨⟨k_im_X7_takeOutput, k_se_X7_takeOutput, k_in_X7, k_cd_X7_takeOutput⟩, by decide, by decide, by decide +kernel⟩

/-- what an instruction asks of the cells, with room for b minor cycles more -/
def EI (w : Nat → Int32) (b : Nat) : Prop := RT w b ∧ (0 ≤ (w 3).toInt ∧ (w 3).toInt < 256) ∧ (0 ≤ (w 12).toInt ∧ (w 12).toInt ≤ 64) ∧ 0 ≤ (w 13).toInt ∧ (w 13).toInt ≤ 64
theorem RT_reads {w ring : Nat → Int32} {op p : Int32} {b : Nat} (hop : 0 ≤ p.toInt ∧ p.toInt < 256) (h : RT w (b + 55)) : RT (f_X7_reads w ring op p).1 (b + 1) := by
  have h1 := (RT_waits (ring := ring) (b := b + 21) (mod32_rng hop.1) (h.le (by omega))).2
  unfold f_X7_reads
  split
  · exact (RT_passes (n := 21) (b := b) (RT_works (h1.le (by omega)))).2
  · exact (RT_passes (n := 1) (b := b) (RT_works (h1.le (by omega)))).2
theorem reads_cell {w ring : Nat → Int32} {op p : Int32} {j : Nat} (hop : 0 ≤ p.toInt ∧ p.toInt < 256) (h : RT w 55) (hj : j < 14) (h0 : j ≠ 0) (h1 : j ≠ 1) (h2 : j ≠ 2) (h6 : j ≠ 6) (h7 : j ≠ 7) (h9 : j ≠ 9) : (f_X7_reads w ring op p).1 j = w j := by
  have k1 := (RT_waits (ring := ring) (b := 21) (mod32_rng hop.1) (h.le (by omega))).2
  have k2 := waits_cell (ring := ring) (mod32_rng hop.1) (h.le (by omega)) hj h0 h6 h7 h9
  unfold f_X7_reads
  split
  · show (f_X7_passes _ _ _).1 j = _
    rw [passes_cell (RT_works (k1.le (by omega))) hj h0 h7 h9, works_cell h1 h2]; exact k2
  · show (f_X7_passes _ _ _).1 j = _
    rw [passes_cell (RT_works (k1.le (by omega))) hj h0 h7 h9, works_cell h1 h2]; exact k2
theorem RT_stores {w ring : Nat → Int32} {p : Int32} {b : Nat} (hop : 0 ≤ p.toInt ∧ p.toInt < 256) (h : RT w (b + 35)) : RT (f_X7_stores w ring p).1 (b + 1) := by
  have h1 := (RT_waits (ring := ring) (b := b + 1) (mod32_rng hop.1) (h.le (by omega))).2
  unfold f_X7_stores
  exact (RT_passes (n := 1) (b := b) (RT_upd (h1.le (by omega)) (by rw [ixOp hop]; omega))).2
theorem stores_cell {w ring : Nat → Int32} {p : Int32} {j : Nat} (hop : 0 ≤ p.toInt ∧ p.toInt < 256) (h : RT w 35) (hj : j < 14) (h0 : j ≠ 0) (h6 : j ≠ 6) (h7 : j ≠ 7) (h9 : j ≠ 9) : (f_X7_stores w ring p).1 j = w j := by
  have k1 := (RT_waits (ring := ring) (b := 1) (mod32_rng hop.1) (h.le (by omega))).2
  have k2 := waits_cell (ring := ring) (mod32_rng hop.1) (h.le (by omega)) hj h0 h6 h7 h9
  unfold f_X7_stores
  show (f_X7_passes _ _ _).1 j = _
  rw [passes_cell (RT_upd k1 (by rw [ixOp hop]; omega)) hj h0 h7 h9, pu (by rw [ixOp hop]; omega)]; exact k2
theorem RT_countsDown {w ring : Nat → Int32} {p : Int32} {b : Nat} (hop : 0 ≤ p.toInt ∧ p.toInt < 256) (h : RT w (b + 67)) : RT (f_X7_countsDown w ring p).1 (b + 1) := by
  have h1 := (RT_waits (ring := ring) (b := b + 34) (mod32_rng hop.1) (h.le (by omega))).2
  unfold f_X7_countsDown
  exact (RT_passes (n := 1) (b := b) (RT_upd ((RT_passes (n := 32) (b := b + 1) (show RT (upd _ 1 _) (32 + (b + 1) + 1) from h1.le (by omega))).2.le (by omega)) (by rw [ixOp hop]; omega))).2
theorem countsDown_cell {w ring : Nat → Int32} {p : Int32} {j : Nat} (hop : 0 ≤ p.toInt ∧ p.toInt < 256) (h : RT w 67) (hj : j < 14) (h0 : j ≠ 0) (h1 : j ≠ 1) (h6 : j ≠ 6) (h7 : j ≠ 7) (h9 : j ≠ 9) : (f_X7_countsDown w ring p).1 j = w j := by
  have k1 := (RT_waits (ring := ring) (b := 34) (mod32_rng hop.1) (h.le (by omega))).2
  have k2 := waits_cell (ring := ring) (mod32_rng hop.1) (h.le (by omega)) hj h0 h6 h7 h9
  unfold f_X7_countsDown
  show (f_X7_passes _ _ _).1 j = _
  rw [passes_cell (RT_upd (RT_passes (n := 32) (b := 1) (show RT (upd _ 1 _) 34 from k1.le (by omega))).2 (by rw [ixOp hop]; omega)) hj h0 h7 h9, pu (by rw [ixOp hop]; omega), passes_cell (show RT (upd _ 1 _) 33 from k1.le (by omega)) hj h0 h7 h9, pu h1]; exact k2
theorem RT_shifts {w ring : Nat → Int32} {op p : Int32} {b : Nat} (hop : 0 ≤ p.toInt ∧ p.toInt < 32) (h : RT w (b + 33)) : RT (f_X7_shifts w ring op p).1 (b + 1) := by
  have e1 : (1 : Int32).toInt = 1 := (by decide)
  have e2 := gI_add (x := 1) (y := p) (by omega) (by omega)
  have e3 := gI_clamp (x := 1 + p) (by omega)
  unfold f_X7_shifts
  split
  · exact (RT_passes (n := (1 + p).toNatClampNeg) (b := b) (RT_takes (h.le (by omega)))).2
  · exact (RT_passes (n := (1 + p).toNatClampNeg) (b := b) (RT_takes (h.le (by omega)))).2
theorem shifts_cell {w ring : Nat → Int32} {op p : Int32} {j : Nat} (hop : 0 ≤ p.toInt ∧ p.toInt < 32) (h : RT w 33) (hj : j < 14) (h0 : j ≠ 0) (h1 : j ≠ 1) (h2 : j ≠ 2) (h7 : j ≠ 7) (h9 : j ≠ 9) : (f_X7_shifts w ring op p).1 j = w j := by
  have e1 : (1 : Int32).toInt = 1 := (by decide)
  have e2 := gI_add (x := 1) (y := p) (by omega) (by omega)
  have e3 := gI_clamp (x := 1 + p) (by omega)
  unfold f_X7_shifts
  split
  · show (f_X7_passes _ _ _).1 j = _
    rw [passes_cell (RT_takes (h.le (by omega))) hj h0 h7 h9, takes_cell h1 h2]
  · show (f_X7_passes _ _ _).1 j = _
    rw [passes_cell (RT_takes (h.le (by omega))) hj h0 h7 h9, takes_cell h1 h2]
theorem EI.le {w : Nat → Int32} {a b : Nat} (h : EI w b) (hab : a ≤ b) : EI w a := ⟨h.1.le hab, h.2⟩
/-- cells 3, 12 and 13 alone count -/
theorem EI.of {w v : Nat → Int32} {b : Nat} (hT : RT v b) (h : EI w 0) (h3 : v 3 = w 3) (h12 : v 12 = w 12) (h13 : v 13 = w 13) : EI v b := ⟨hT, by rw [h3]; exact h.2.1, by rw [h12]; exact h.2.2.1, by rw [h13]; exact h.2.2.2⟩
theorem EI_passes {w ring : Nat → Int32} {n b : Nat} (h : EI w (n + b + 1)) : EI (f_X7_passes w ring n).1 (b + 1) := EI.of (RT_passes h.1).2 (h.le (by omega)) (passes_cell (h.1.le (by omega)) (by decide) (by decide) (by decide) (by decide)) (passes_cell (h.1.le (by omega)) (by decide) (by decide) (by decide) (by decide)) (passes_cell (h.1.le (by omega)) (by decide) (by decide) (by decide) (by decide))
theorem EI_waits {w ring : Nat → Int32} {c : Int32} {b : Nat} (hc : 0 ≤ c.toInt ∧ c.toInt < 32) (h : EI w (b + 33)) : EI (f_X7_waitsFor w ring c).1 (b + 1) := EI.of (RT_waits hc h.1).2 (h.le (by omega)) (waits_cell hc (h.1.le (by omega)) (by decide) (by decide) (by decide) (by decide) (by decide)) (waits_cell hc (h.1.le (by omega)) (by decide) (by decide) (by decide) (by decide) (by decide)) (waits_cell hc (h.1.le (by omega)) (by decide) (by decide) (by decide) (by decide) (by decide))
theorem EI_reads {w ring : Nat → Int32} {op p : Int32} {b : Nat} (hop : 0 ≤ p.toInt ∧ p.toInt < 256) (h : EI w (b + 55)) : EI (f_X7_reads w ring op p).1 (b + 1) := EI.of (RT_reads hop h.1) (h.le (by omega)) (reads_cell hop (h.1.le (by omega)) (by decide) (by decide) (by decide) (by decide) (by decide) (by decide) (by decide)) (reads_cell hop (h.1.le (by omega)) (by decide) (by decide) (by decide) (by decide) (by decide) (by decide) (by decide)) (reads_cell hop (h.1.le (by omega)) (by decide) (by decide) (by decide) (by decide) (by decide) (by decide) (by decide))
theorem EI_stores {w ring : Nat → Int32} {p : Int32} {b : Nat} (hop : 0 ≤ p.toInt ∧ p.toInt < 256) (h : EI w (b + 35)) : EI (f_X7_stores w ring p).1 (b + 1) := EI.of (RT_stores hop h.1) (h.le (by omega)) (stores_cell hop (h.1.le (by omega)) (by decide) (by decide) (by decide) (by decide) (by decide)) (stores_cell hop (h.1.le (by omega)) (by decide) (by decide) (by decide) (by decide) (by decide)) (stores_cell hop (h.1.le (by omega)) (by decide) (by decide) (by decide) (by decide) (by decide))
theorem EI_countsDown {w ring : Nat → Int32} {p : Int32} {b : Nat} (hop : 0 ≤ p.toInt ∧ p.toInt < 256) (h : EI w (b + 67)) : EI (f_X7_countsDown w ring p).1 (b + 1) := EI.of (RT_countsDown hop h.1) (h.le (by omega)) (countsDown_cell hop (h.1.le (by omega)) (by decide) (by decide) (by decide) (by decide) (by decide) (by decide)) (countsDown_cell hop (h.1.le (by omega)) (by decide) (by decide) (by decide) (by decide) (by decide) (by decide)) (countsDown_cell hop (h.1.le (by omega)) (by decide) (by decide) (by decide) (by decide) (by decide) (by decide))
theorem EI_shifts {w ring : Nat → Int32} {op p : Int32} {b : Nat} (hop : 0 ≤ p.toInt ∧ p.toInt < 32) (h : EI w (b + 33)) : EI (f_X7_shifts w ring op p).1 (b + 1) := EI.of (RT_shifts hop h.1) (h.le (by omega)) (shifts_cell hop (h.1.le (by omega)) (by decide) (by decide) (by decide) (by decide) (by decide) (by decide)) (shifts_cell hop (h.1.le (by omega)) (by decide) (by decide) (by decide) (by decide) (by decide) (by decide)) (shifts_cell hop (h.1.le (by omega)) (by decide) (by decide) (by decide) (by decide) (by decide) (by decide))
theorem EI_comesIn {w ring : Nat → Int32} {b : Nat} (h : EI w (b + 2)) : EI (f_X7_comesIn w ring).2.1 (b + 1) := by
  have h12 := h.2.2.1
  have e := gI_clamp h12.1
  unfold f_X7_comesIn
  split
  · rename_i q
    exact ⟨h.1.le (by omega), h.2⟩
  · rename_i q
    have k := RT_comesIn h12 h.1 _ (Nat.le_refl _)
    have g : ∀ j, j < 14 → j ≠ 1 → j ≠ 12 → it_X7_comesIn_45 w ((w 12).toNatClampNeg - 1) j = w j := fun j h1 h2 h3 => by rw [comesIn_it _ (by omega), if_neg (by omega), pu h3, pu h2]
    have g12 := comesIn12 h12 q _ (Nat.le_refl _)
    have en := nI_toInt (n := (w 12).toNatClampNeg - 1) (by omega)
    refine EI_passes (n := 1) (b := b) ⟨k.le (by omega), by rw [g 3 (by decide) (by decide) (by decide)]; exact h.2.1, by rw [g12]; omega, by rw [g 13 (by decide) (by decide) (by decide)]; exact h.2.2.2⟩
theorem EI_goesOut {w ring : Nat → Int32} {b : Nat} (h : EI w (b + 2)) : EI (f_X7_goesOut w ring).2.1 (b + 1) := by
  have h13 := h.2.2.2
  have e94 : (94 : Int32).toInt = 94 := (by decide)
  have e64 : (64 : Int32).toInt = 64 := (by decide)
  have eo : (1 : Int32).toInt = 1 := (by decide)
  have e1 := gI_add (x := 94) (y := w 13) (by omega) (by omega)
  have e2 := gI_clamp (x := 94 + w 13) (by omega)
  unfold f_X7_goesOut
  split
  · exact ⟨h.1.le (by omega), h.2⟩
  · rename_i q
    have hne : (w 13).toInt ≠ 64 := fun z => q (gI_ext (by rw [z, e64]))
    have e5 := gI_add (x := w 13) (y := 1) (by omega) (by omega)
    refine EI_passes (n := 1) (b := b) ⟨(RT_upd (RT_upd h.1 (by omega)) (by decide)).le (by omega), ?_, ?_, ?_⟩
    · rw [pu (by decide), pu (by omega)]; exact h.2.1
    · rw [pu (by decide), pu (by omega)]; exact h.2.2.1
    · rw [pus, pu (by omega)]; omega
theorem EI_isTaken {w : Nat → Int32} {op : Int32} {b : Nat} (h : EI w b) : EI (f_X7_isTaken w op).2 b := by
  unfold f_X7_isTaken
  repeat (first | exact h | split)

