theorem here_pos {len pos : Int32} {text : Nat → Int32} {z : Int32 × Int32} (hlen : 0 ≤ len.toInt ∧ len.toInt ≤ 600) (hpos : 0 ≤ pos.toInt ∧ pos.toInt ≤ 700) (h : f_X7_here len pos text = z) : pos.toInt ≤ z.2.toInt ∧ (z.2.toInt ≤ len.toInt ∨ z.2.toInt ≤ pos.toInt) ∧ (¬ z.1 = -1 → z.2.toInt < len.toInt) := by
  have q := here_rng (text := text) hlen hpos
  rw [h] at q
  refine ⟨q.2.1, ?_, q.2.2.2.2⟩
  rcases q.2.2.1 with y | y
  · exact Or.inl y
  · rw [y]; exact Or.inr (Int.le_refl _)
theorem number_pos {len ec ep pos bad p0 p1 p2 : Int32} {text : Nat → Int32} {z : Int32 × Int32 × Int32 × Int32 × Int32} (hlen : 0 ≤ len.toInt ∧ len.toInt ≤ 600) (hpos : 0 ≤ pos.toInt ∧ pos.toInt ≤ 700) (h : f_X7_number len ec ep pos bad text p0 p1 p2 = z) : (pos.toInt ≤ z.2.2.2.1.toInt ∧ (z.2.2.2.1.toInt ≤ len.toInt ∨ z.2.2.2.1.toInt ≤ pos.toInt)) ∧ (p0.toInt ≤ 0 → 0 ≤ p1.toInt → p0.toInt ≤ z.1.toInt ∧ z.1.toInt ≤ p1.toInt) ∧ (¬ bad = 0 → ¬ z.2.2.2.2 = 0) := by
  have q := number_rng (ec := ec) (ep := ep) (bad := bad) (text := text) (p0 := p0) (p1 := p1) (p2 := p2) hlen hpos
  rw [h] at q
  exact q
theorem sign_pos {len ec ep pos bad p0 : Int32} {text : Nat → Int32} {z : Int32 × Int32 × Int32 × Int32} (hlen : 0 ≤ len.toInt ∧ len.toInt ≤ 600) (hpos : 0 ≤ pos.toInt ∧ pos.toInt ≤ 700) (h : f_X7_sign len ec ep pos bad text p0 = z) : (pos.toInt ≤ z.2.2.1.toInt ∧ (z.2.2.1.toInt ≤ len.toInt + 1 ∨ z.2.2.1.toInt ≤ pos.toInt + 1)) ∧ (¬ bad = 0 → ¬ z.2.2.2 = 0) ∧ (z.2.2.2 = 0 → pos.toInt < z.2.2.1.toInt) := by
  have q := sign_rng (ec := ec) (ep := ep) (bad := bad) (text := text) (p0 := p0) hlen hpos
  rw [h] at q
  exact q
theorem word_it {len pos : Int32} {text : Nat → Int32} : ∀ (n : Nat) (y x3 : Int32) (x1 : Int64), 0 ≤ y.toInt → (len.toInt - y.toInt).toNat < n → (y.toInt ≤ (wl_X7_word len pos text n y x1 x3).2.1.toInt ∧ ((wl_X7_word len pos text n y x1 x3).2.1.toInt ≤ len.toInt ∨ (wl_X7_word len pos text n y x1 x3).2.1.toInt ≤ y.toInt)) := by
  intro n
  induction n with
  | zero => intro y x3 x1 _ h; omega
  | succ n ih =>
    intro y x3 x1 h0 h
    unfold wl_X7_word
    split
    · exact ⟨Int.le_refl _, Or.inr (Int.le_refl _)⟩
    · by_cases c1 : len ≤ y
      · rw [if_pos c1]; exact ⟨Int.le_refl _, Or.inr (Int.le_refl _)⟩
      · rw [if_neg c1]
        have h1 := nxt_pos c1 h0
        have h2 := tok_mu c1 h
        have r1 := Int32.toInt_lt len
        have o1 : (1 : Int32).toInt = 1 := by decide
        have c2 := c1
        rw [gI_le] at c2
        have ea := gI_add (x := y) (y := 1) (by omega) (by omega)
        split
        · exact ⟨Int.le_refl _, Or.inr (Int.le_refl _)⟩
        · split
          · have g := ih (y + 1) (x3 + 1) (-1) h1 h2
            omega
          · have g := ih (y + 1) (x3 + 1) (((27 * x1) + (Int32.toInt64 (text (Int32.toNatClampNeg y)))) - 96) h1 h2
            omega
theorem word_pos {len pos : Int32} {text : Nat → Int32} {z : Int64 × Int32 × Int32} (hlen : 0 ≤ len.toInt ∧ len.toInt ≤ 600) (hpos : 0 ≤ pos.toInt ∧ pos.toInt ≤ 700) (h : f_X7_word len pos text = z) : pos.toInt ≤ z.2.1.toInt ∧ (z.2.1.toInt ≤ len.toInt ∨ z.2.1.toInt ≤ pos.toInt) := by
  have q := here_pos (text := text) hlen hpos rfl
  have g := word_it (len := len) (pos := pos) (text := text) 701 (f_X7_here len pos text).2 0 0 (by omega) (by omega)
  have e : wl_X7_word len pos text 701 (f_X7_here len pos text).2 0 0 = z := h
  rw [e] at g
  omega
def f_X7_readLocation (len : Int32) (ec : Int32) (ep : Int32) (pos : Int32) (bad : Int32) (text : Nat → Int32) : Int32 × Int32 × Int32 × Int32 × Int32 :=
  let t1 := (f_X7_number len ec ep pos bad text 0 7 0)
  let t2 := (f_X7_sign len t1.2.1 t1.2.2.1 t1.2.2.2.1 t1.2.2.2.2 text 46)
  let t3 := (f_X7_number len t2.1 t2.2.1 t2.2.2.1 t2.2.2.2 text 0 31 0)
  (((32 * t1.1) + t3.1), t3.2.1, t3.2.2.1, t3.2.2.2.1, t3.2.2.2.2)
set_option maxRecDepth 100000 in
set_option maxHeartbeats 4000000 in
theorem c_X7_readLocation (l : Launch) (G : gG) (m0 : Nat) (m1 : Nat) (m2 : Nat) (m3 : Nat) (m6 : Nat) (m13 : Nat) (m14 : Nat) (m17 : Nat) (m18 : Nat) (m19 : Nat) (rz : Int32) (hf : Int32) (hs : Int32) (len : Int32) (ec : Int32) (ep : Int32) (pos : Int32) (bg : Int32) (bad : Int32) (plc : Int32) (sta : Int32) (shm : Int32) (text : Nat → Int32) (hlen : 0 ≤ len.toInt ∧ len.toInt ≤ 600) (hpos : 0 ≤ pos.toInt ∧ pos.toInt ≤ 690) : gM l G yX7_readLocation cX7_readLocation 2 (some .int) { frames := 2, cells := 0, slots := 0, locals := 51 } [.ref m0] [(m0, .inr (10, [.int rz, .ref m1, .ref m2, .ref m3, .int hf, .int hs, .ref m6, .int len, .int ec, .int ep, .int pos, .int bg, .int bad, .ref m13, .ref m14, .int plc, .int sta, .ref m17, .ref m18, .ref m19, .int shm])), (m6, .inl (G.2.1.1, 600, .inl text))] (some (.int ((f_X7_readLocation len ec ep pos bad text).1))) [(m0, .inr (10, [.int rz, .ref m1, .ref m2, .ref m3, .int hf, .int hs, .ref m6, .int len, .int ((f_X7_readLocation len ec ep pos bad text).2.1), .int ((f_X7_readLocation len ec ep pos bad text).2.2.1), .int ((f_X7_readLocation len ec ep pos bad text).2.2.2.1), .int bg, .int ((f_X7_readLocation len ec ep pos bad text).2.2.2.2), .ref m13, .ref m14, .int plc, .int sta, .ref m17, .ref m18, .ref m19, .int shm])), (m6, .inl (G.2.1.1, 600, .inl text))] 0 0 := by
  refine gBegin (by decide +kernel) (Nat.le_of_ble_eq_true rfl) (fun p e s m args below meth c A F hr hlocks hname hN hK hP hD hA hS ls hl => ?_)
  obtain ⟨hx, hb, hml, hown, hts⟩ := id F
  replace hP : va_P G.1 vwCl [(m0, .inr (10, [.int rz, .ref m1, .ref m2, .ref m3, .int hf, .int hs, .ref m6, .int len, .int ec, .int ep, .int pos, .int bg, .int bad, .ref m13, .ref m14, .int plc, .int sta, .ref m17, .ref m18, .ref m19, .int shm])), (m6, .inl (G.2.1.1, 600, .inl text))] s.heap := hP
  replace hl : lv_has ls 2 [(0, .ref m0)] := hl
  refine lv_aload_n hx hb dX7_readLocation_0 rfl (lv_at hl 0 rfl) ?_
  refine lv_iconst (v := 0) hx hb dX7_readLocation_1 (by decide) ?_
  refine lv_bipush (v := 7) hx hb dX7_readLocation_2 (by decide) ?_
  refine lv_iconst (v := 0) hx hb dX7_readLocation_4 (by decide) ?_
  refine gV (As := [.int 0, .int 7, .int 0]) (rest := []) (wr := []) (ws' := [(m0, .inr (10, [.int rz, .ref m1, .ref m2, .ref m3, .int hf, .int hs, .ref m6, .int len, .int ((f_X7_number len ec ep pos bad text 0 7 0).2.1), .int ((f_X7_number len ec ep pos bad text 0 7 0).2.2.1), .int ((f_X7_number len ec ep pos bad text 0 7 0).2.2.2.1), .int bg, .int ((f_X7_number len ec ep pos bad text 0 7 0).2.2.2.2), .ref m13, .ref m14, .int plc, .int sta, .ref m17, .ref m18, .ref m19, .int shm])), (m6, .inl (G.2.1.1, 600, .inl text))]) F (c_X7_number l G m0 m1 m2 m3 m6 m13 m14 m17 m18 m19 rz hf hs len ec ep pos bg bad plc sta shm text 0 7 0 hlen (by have o0 : (0 : Int32).toInt = 0 := (by decide); have o1 : (1 : Int32).toInt = 1 := (by decide); omega)) okV_X7_number k_ml_X7_141 rfl rfl ⟨Nat.le_of_ble_eq_true rfl, Nat.le_of_ble_eq_true rfl⟩ hN hK hP hD hS hA [0, 1] [] [0, 1] (by decide) rfl rfl (by decide) (by decide) (by decide) rfl (q0 := 0) rfl rfl rfl rfl hl.1 (Nat.le_of_ble_eq_true rfl) dX7_readLocation_5 ⟨Nat.le_refl _, Nat.le_refl _⟩ (fun H locs hP hD hS => ?_)
  generalize et1 : (f_X7_number len ec ep pos bad text 0 7 0) = t1 at hP hD ⊢
  refine lv_istore_n (lv' := [(1, .int t1.1), (0, .ref m0)]) hx hb dX7_readLocation_8 rfl hl (by decide) rfl (fun ls hl => ?_)
  refine lv_aload_n hx hb dX7_readLocation_9 rfl (lv_at hl 1 rfl) ?_
  refine lv_bipush (v := 46) hx hb dX7_readLocation_10 (by decide) ?_
  refine gV (As := [.int 46]) (rest := []) (wr := []) (ws' := [(m0, .inr (10, [.int rz, .ref m1, .ref m2, .ref m3, .int hf, .int hs, .ref m6, .int len, .int ((f_X7_sign len t1.2.1 t1.2.2.1 t1.2.2.2.1 t1.2.2.2.2 text 46).1), .int ((f_X7_sign len t1.2.1 t1.2.2.1 t1.2.2.2.1 t1.2.2.2.2 text 46).2.1), .int ((f_X7_sign len t1.2.1 t1.2.2.1 t1.2.2.2.1 t1.2.2.2.2 text 46).2.2.1), .int bg, .int ((f_X7_sign len t1.2.1 t1.2.2.1 t1.2.2.2.1 t1.2.2.2.2 text 46).2.2.2), .ref m13, .ref m14, .int plc, .int sta, .ref m17, .ref m18, .ref m19, .int shm])), (m6, .inl (G.2.1.1, 600, .inl text))]) F (c_X7_sign l G m0 m1 m2 m3 m6 m13 m14 m17 m18 m19 rz hf hs len t1.2.1 t1.2.2.1 t1.2.2.2.1 bg t1.2.2.2.2 plc sta shm text 46 hlen (by have o0 : (0 : Int32).toInt = 0 := (by decide); have o1 : (1 : Int32).toInt = 1 := (by decide); have q0 := number_pos hlen (by omega) et1; omega)) okV_X7_sign k_ml_X7_145 rfl rfl ⟨Nat.le_of_ble_eq_true rfl, Nat.le_of_ble_eq_true rfl⟩ hN hK hP hD hS hA [0, 1] [] [0, 1] (by decide) rfl rfl (by decide) (by decide) (by decide) rfl (q0 := 0) rfl rfl rfl rfl hl.1 (Nat.le_of_ble_eq_true rfl) dX7_readLocation_12 ⟨Nat.le_refl _, Nat.le_refl _⟩ (fun H locs hP hD hS => ?_)
  generalize et2 : (f_X7_sign len t1.2.1 t1.2.2.1 t1.2.2.2.1 t1.2.2.2.2 text 46) = t2 at hP hD ⊢
  refine lv_bipush (v := 32) hx hb dX7_readLocation_15 (by decide) ?_
  refine lv_iload_n hx hb dX7_readLocation_17 rfl (lv_at hl 0 rfl) ?_
  refine lv_imul hx hb dX7_readLocation_18 ?_
  refine lv_aload_n hx hb dX7_readLocation_19 rfl (lv_at hl 1 rfl) ?_
  refine lv_iconst (v := 0) hx hb dX7_readLocation_20 (by decide) ?_
  refine lv_bipush (v := 31) hx hb dX7_readLocation_21 (by decide) ?_
  refine lv_iconst (v := 0) hx hb dX7_readLocation_23 (by decide) ?_
  refine gV (As := [.int 0, .int 31, .int 0]) (rest := [.int (32 * t1.1)]) (wr := []) (ws' := [(m0, .inr (10, [.int rz, .ref m1, .ref m2, .ref m3, .int hf, .int hs, .ref m6, .int len, .int ((f_X7_number len t2.1 t2.2.1 t2.2.2.1 t2.2.2.2 text 0 31 0).2.1), .int ((f_X7_number len t2.1 t2.2.1 t2.2.2.1 t2.2.2.2 text 0 31 0).2.2.1), .int ((f_X7_number len t2.1 t2.2.1 t2.2.2.1 t2.2.2.2 text 0 31 0).2.2.2.1), .int bg, .int ((f_X7_number len t2.1 t2.2.1 t2.2.2.1 t2.2.2.2 text 0 31 0).2.2.2.2), .ref m13, .ref m14, .int plc, .int sta, .ref m17, .ref m18, .ref m19, .int shm])), (m6, .inl (G.2.1.1, 600, .inl text))]) F (c_X7_number l G m0 m1 m2 m3 m6 m13 m14 m17 m18 m19 rz hf hs len t2.1 t2.2.1 t2.2.2.1 bg t2.2.2.2 plc sta shm text 0 31 0 hlen (by have o0 : (0 : Int32).toInt = 0 := (by decide); have o1 : (1 : Int32).toInt = 1 := (by decide); have q0 := number_pos hlen (by omega) et1; have q1 := sign_pos hlen (by omega) et2; omega)) okV_X7_number k_ml_X7_141 rfl rfl ⟨Nat.le_of_ble_eq_true rfl, Nat.le_of_ble_eq_true rfl⟩ hN hK hP hD hS hA [0, 1] [] [0, 1] (by decide) rfl rfl (by decide) (by decide) (by decide) rfl (q0 := 0) rfl rfl rfl rfl hl.1 (Nat.le_of_ble_eq_true rfl) dX7_readLocation_24 ⟨Nat.le_refl _, Nat.le_refl _⟩ (fun H locs hP hD hS => ?_)
  generalize et3 : (f_X7_number len t2.1 t2.2.1 t2.2.2.1 t2.2.2.2 text 0 31 0) = t3 at hP hD ⊢
  refine lv_iadd hx hb dX7_readLocation_27 ?_
  have ef : (f_X7_readLocation len ec ep pos bad text) = (((32 * t1.1) + t3.1), t3.2.1, t3.2.2.1, t3.2.2.2.1, t3.2.2.2.2) := (by subst et3; subst et2; subst et1; exact rfl)
  exact gRetI F hr hlocks hK hP hD hS (by rw [ef]) (by rw [ef]) (Nat.le_of_ble_eq_true rfl) (Nat.le_of_ble_eq_true rfl) dX7_readLocation_28
theorem okV_X7_readLocation : gOkV yX7_readLocation cX7_readLocation 2 (some .int) 0 := ⟨⟨k_im_X7_readLocation, k_se_X7_readLocation, k_in_X7, k_cd_X7_readLocation⟩, by decide, by decide, by decide +kernel⟩
theorem rl_pos {len ec ep pos bad : Int32} {text : Nat → Int32} {z : Int32 × Int32 × Int32 × Int32 × Int32} (hlen : 0 ≤ len.toInt ∧ len.toInt ≤ 600) (hpos : 0 ≤ pos.toInt ∧ pos.toInt ≤ 690) (h : f_X7_readLocation len ec ep pos bad text = z) : (pos.toInt ≤ z.2.2.2.1.toInt ∧ (z.2.2.2.1.toInt ≤ len.toInt + 1 ∨ z.2.2.2.1.toInt ≤ pos.toInt + 1)) ∧ (0 ≤ z.1.toInt ∧ z.1.toInt < 256) ∧ (¬ bad = 0 → ¬ z.2.2.2.2 = 0) := by
  have o0 : (0 : Int32).toInt = 0 := (by decide)
  have o7 : (7 : Int32).toInt = 7 := (by decide)
  have o31 : (31 : Int32).toInt = 31 := (by decide)
  have o32 : (32 : Int32).toInt = 32 := (by decide)
  unfold f_X7_readLocation at h
  dsimp only at h
  generalize e1 : f_X7_number len ec ep pos bad text 0 7 0 = t1 at h
  have q1 := number_pos hlen (by omega) e1
  generalize e2 : f_X7_sign len t1.2.1 t1.2.2.1 t1.2.2.2.1 t1.2.2.2.2 text 46 = t2 at h
  have q2 := sign_pos hlen (by omega) e2
  generalize e3 : f_X7_number len t2.1 t2.2.1 t2.2.2.1 t2.2.2.2 text 0 31 0 = t3 at h
  have q3 := number_pos hlen (by omega) e3
  have r1 := q1.2.1 (by omega) (by omega)
  have r3 := q3.2.1 (by omega) (by omega)
  have m1 := gI_mul (x := 32) (y := t1.1) (by rw [o32]; omega) (by rw [o32]; omega)
  rw [o32] at m1
  have m2 := gI_add (x := 32 * t1.1) (y := t3.1) (by omega) (by omega)
  subst h
  refine ⟨⟨by show _ ≤ t3.2.2.2.1.toInt; omega, by show t3.2.2.2.1.toInt ≤ _ ∨ t3.2.2.2.1.toInt ≤ _; omega⟩, ⟨by show 0 ≤ (32 * t1.1 + t3.1).toInt; omega, by show (32 * t1.1 + t3.1).toInt < 256; omega⟩, fun b => ?_⟩
  exact q3.2.2 (q2.2.1 (q1.2.2 b))
def wl_X7_opcodeOf (mn : Nat → Int64) (p0 : Int64) : Nat → Nat → Int32
  | 0, _ =>
    (-1)
  | n + 1, k =>
    if (mn (Int32.toNatClampNeg (nI k))) = p0 then
      (nI k)
    else
      wl_X7_opcodeOf mn p0 n (k + 1)
def f_X7_opcodeOf (mn : Nat → Int64) (p0 : Int64) : Int32 :=
  (wl_X7_opcodeOf mn p0 16 0)
set_option maxRecDepth 100000 in
set_option maxHeartbeats 4000000 in
theorem c_X7_opcodeOf (l : Launch) (G : gG) (m0 : Nat) (m1 : Nat) (m2 : Nat) (m3 : Nat) (m6 : Nat) (m13 : Nat) (m14 : Nat) (m17 : Nat) (m18 : Nat) (m19 : Nat) (rz : Int32) (hf : Int32) (hs : Int32) (len : Int32) (ec : Int32) (ep : Int32) (pos : Int32) (bg : Int32) (bad : Int32) (plc : Int32) (sta : Int32) (shm : Int32) (mn : Nat → Int64) (p0 : Int64) : gM l G yX7_opcodeOf cX7_opcodeOf 4 (some .int) { frames := 0, cells := 0, slots := 0, locals := 0 } [.ref m0, .long p0] [(m0, .inr (10, [.int rz, .ref m1, .ref m2, .ref m3, .int hf, .int hs, .ref m6, .int len, .int ec, .int ep, .int pos, .int bg, .int bad, .ref m13, .ref m14, .int plc, .int sta, .ref m17, .ref m18, .ref m19, .int shm])), (m17, .inl (G.2.1.2.2.1, 16, .inr (.inl mn)))] (some (.int (f_X7_opcodeOf mn p0))) [(m0, .inr (10, [.int rz, .ref m1, .ref m2, .ref m3, .int hf, .int hs, .ref m6, .int len, .int ec, .int ep, .int pos, .int bg, .int bad, .ref m13, .ref m14, .int plc, .int sta, .ref m17, .ref m18, .ref m19, .int shm])), (m17, .inl (G.2.1.2.2.1, 16, .inr (.inl mn)))] 0 0 := by
  refine gBegin (by decide +kernel) (Nat.le_of_ble_eq_true rfl) (fun p e s m args below meth c A F hr hlocks hname hN hK hP hD hA hS ls hl => ?_)
  obtain ⟨hx, hb, hml, hown, hts⟩ := id F
  replace hP : va_P G.1 vwCl [(m0, .inr (10, [.int rz, .ref m1, .ref m2, .ref m3, .int hf, .int hs, .ref m6, .int len, .int ec, .int ep, .int pos, .int bg, .int bad, .ref m13, .ref m14, .int plc, .int sta, .ref m17, .ref m18, .ref m19, .int shm])), (m17, .inl (G.2.1.2.2.1, 16, .inr (.inl mn)))] s.heap := hP
  replace hl : lv_has ls 4 [(0, .ref m0), (1, .long p0)] := hl
  refine lv_iconst (v := 0) hx hb dX7_opcodeOf_0 (by decide) ?_
  refine lv_istore_n (lv' := [(3, .int 0), (0, .ref m0), (1, .long p0)]) hx hb dX7_opcodeOf_1 rfl hl (by decide) rfl (fun ls hl => ?_)
  have loop_2 : ∀ (fu k : Nat), k + fu = 16 → (f_X7_opcodeOf mn p0) = wl_X7_opcodeOf mn p0 fu k → ∀ (H : Heap) (locs : List Loc), va_P G.1 vwCl [(m0, .inr (10, [.int rz, .ref m1, .ref m2, .ref m3, .int hf, .int hs, .ref m6, .int len, .int ec, .int ep, .int pos, .int bg, .int bad, .ref m13, .ref m14, .int plc, .int sta, .ref m17, .ref m18, .ref m19, .int shm])), (m17, .inl (G.2.1.2.2.1, 16, .inr (.inl mn)))] H → va_D A [(m0, .inr (10, [.int rz, .ref m1, .ref m2, .ref m3, .int hf, .int hs, .ref m6, .int len, .int ec, .int ep, .int pos, .int bg, .int bad, .ref m13, .ref m14, .int plc, .int sta, .ref m17, .ref m18, .ref m19, .int shm])), (m17, .inl (G.2.1.2.2.1, 16, .inr (.inl mn)))] → va_S A s.heap H locs → ∀ ls : Array Slot, lv_has ls 4 [(3, .int (nI k)), (0, .ref m0), (1, .long p0)] → W p l e { frames := 0, cells := 0, slots := 0, locals := 0 } s m args below meth c H locs 0 0 (MQ below (gQ G (some (.int (f_X7_opcodeOf mn p0))) [(m0, .inr (10, [.int rz, .ref m1, .ref m2, .ref m3, .int hf, .int hs, .ref m6, .int len, .int ec, .int ep, .int pos, .int bg, .int bad, .ref m13, .ref m14, .int plc, .int sta, .ref m17, .ref m18, .ref m19, .int shm])), (m17, .inl (G.2.1.2.2.1, 16, .inr (.inl mn)))] A) args s 0 0 A) (F0 m 2 ls []) := by
    intro fu
    induction fu with
    | zero =>
      intro k hk hO H locs hP hD hS ls hl
      have ek : 16 = k := by omega
      subst ek
      refine lv_iload_n hx hb dX7_opcodeOf_2 rfl (lv_at hl 0 rfl) ?_
      refine lv_bipush (v := 16) hx hb dX7_opcodeOf_3 (by decide) ?_
      refine lv_icmp_ge (tgt := 27) hx hb dX7_opcodeOf_5 (by decide) (fun c_1 => ?_) (fun c_1 => ?_)
      · skip
        refine lv_iconst (v := (-1)) hx hb dX7_opcodeOf_27 (by decide) ?_
        have ef : (f_X7_opcodeOf mn p0) = (-1) := hO
        exact gRetI F hr hlocks hK hP hD hS (by rw [ef]) rfl (Nat.le_of_ble_eq_true rfl) (Nat.le_of_ble_eq_true rfl) dX7_opcodeOf_28
      · exact absurd (Int32.le_refl _) c_1
    | succ fu ih =>
      intro k hk hO H locs hP hD hS ls hl
      have hlt_k : k < 16 := by omega
      refine lv_iload_n hx hb dX7_opcodeOf_2 rfl (lv_at hl 0 rfl) ?_
      refine lv_bipush (v := 16) hx hb dX7_opcodeOf_3 (by decide) ?_
      refine lv_icmp_ge (tgt := 27) hx hb dX7_opcodeOf_5 (by decide) (fun c_2 => ?_) (fun c_2 => ?_)
      · exact absurd c_2 (nI_ge hlt_k (by decide))
      · skip
        refine lv_aload_n hx hb dX7_opcodeOf_8 rfl (lv_at hl 1 rfl) ?_
        refine va_get (D := G.1) (ci := 10) (v := .ref m17) (C := RX7) (T := TX7) (N := 21) hx hb hts in_X7 hown hK hP 0 rfl rfl 17 (by decide) (hts _ k_fl_X7_65) (fun _ h9 => h9) rfl dX7_opcodeOf_9 ?_
        refine lv_iload_n hx hb dX7_opcodeOf_12 rfl (lv_at hl 0 rfl) ?_
        refine va_lald hx hb hK hP 1 2 rfl rfl (vp_in_nI (Nat.lt_of_lt_of_le hlt_k (Nat.le_of_ble_eq_true rfl)) (by decide)) dX7_opcodeOf_13 ?_
        refine lv_lload_n hx hb dX7_opcodeOf_14 rfl (lv_at hl 2 rfl) ?_
        refine gLc_ne (tgt := 21) hx hb dX7_opcodeOf_15 dX7_opcodeOf_16 (by decide) (fun c_3 => ?_) (fun c_3 => ?_)
        · skip
          refine lv_iinc (v := (nI (k + 1))) (lv' := [(3, .int (nI (k + 1))), (0, .ref m0), (1, .long p0)]) hx hb dX7_opcodeOf_21 hl (k := 0) rfl (nI_1 k) (by decide) rfl (fun ls hl => ?_)
          refine lv_goto (tgt := 2) hx hb dX7_opcodeOf_24 (by decide) ?_
          exact ih (k + 1) (by omega) (hO.trans (if_neg c_3)) _ _ hP hD hS ls (lv_sub hl [0, 1, 2] rfl)
        · skip
          refine lv_iload_n hx hb dX7_opcodeOf_19 rfl (lv_at hl 0 rfl) ?_
          have ef : (f_X7_opcodeOf mn p0) = (nI k) := (hO.trans (if_pos c_3))
          exact gRetI F hr hlocks hK hP hD hS (by rw [ef]) rfl (Nat.le_of_ble_eq_true rfl) (Nat.le_of_ble_eq_true rfl) dX7_opcodeOf_20
  exact loop_2 16 0 (by omega) (rfl) _ _ hP hD hS ls (lv_sub hl [0, 1, 2] rfl)
theorem okV_X7_opcodeOf : gOkV yX7_opcodeOf cX7_opcodeOf 4 (some .int) 1 := ⟨⟨k_im_X7_opcodeOf, k_se_X7_opcodeOf, k_in_X7, k_cd_X7_opcodeOf⟩, by decide, by decide, by decide +kernel⟩
def f_X7_hasOperand (p0 : Int32) : Int32 :=
  if p0 = 0 then
    0
  else
    if p0 = 8 then
      0
    else
      if p0 = 9 then
        0
      else
        if p0 = 13 then
          0
        else
          if p0 = 14 then
            0
          else
            1
set_option maxRecDepth 100000 in
set_option maxHeartbeats 4000000 in
theorem c_X7_hasOperand (l : Launch) (G : gG) (p0 : Int32) : gM l G yX7_hasOperand cX7_hasOperand 1 (some .boolean) { frames := 0, cells := 0, slots := 0, locals := 0 } [.int p0] [] (some (.int (f_X7_hasOperand p0))) [] 0 0 := by
  refine gBegin (by decide +kernel) (Nat.le_of_ble_eq_true rfl) (fun p e s m args below meth c A F hr hlocks hname hN hK hP hD hA hS ls hl => ?_)
  obtain ⟨hx, hb, hml, hown, hts⟩ := id F
  replace hP : va_P G.1 vwCl [] s.heap := hP
  replace hl : lv_has ls 1 [(0, .int p0)] := hl
  refine lv_iload_n hx hb dX7_hasOperand_0 rfl (lv_at hl 0 rfl) ?_
  refine lv_if_eq (tgt := 32) hx hb dX7_hasOperand_1 (by decide) (fun c_1 => ?_) (fun c_1 => ?_)
  · skip
    refine lv_iconst (v := 0) hx hb dX7_hasOperand_32 (by decide) ?_
    have ef : (f_X7_hasOperand p0) = 0 := (if_pos c_1)
    exact gRetZ F hr hlocks hK hP hD hS rfl (by rw [ef]) rfl (Nat.le_of_ble_eq_true rfl) (Nat.le_of_ble_eq_true rfl) dX7_hasOperand_33
  · skip
    refine lv_iload_n hx hb dX7_hasOperand_4 rfl (lv_at hl 0 rfl) ?_
    refine lv_bipush (v := 8) hx hb dX7_hasOperand_5 (by decide) ?_
    refine lv_icmp_eq (tgt := 32) hx hb dX7_hasOperand_7 (by decide) (fun c_2 => ?_) (fun c_2 => ?_)
    · skip
      refine lv_iconst (v := 0) hx hb dX7_hasOperand_32 (by decide) ?_
      have ef : (f_X7_hasOperand p0) = 0 := ((if_neg c_1).trans (if_pos c_2))
      exact gRetZ F hr hlocks hK hP hD hS rfl (by rw [ef]) rfl (Nat.le_of_ble_eq_true rfl) (Nat.le_of_ble_eq_true rfl) dX7_hasOperand_33
    · skip
      refine lv_iload_n hx hb dX7_hasOperand_10 rfl (lv_at hl 0 rfl) ?_
      refine lv_bipush (v := 9) hx hb dX7_hasOperand_11 (by decide) ?_
      refine lv_icmp_eq (tgt := 32) hx hb dX7_hasOperand_13 (by decide) (fun c_3 => ?_) (fun c_3 => ?_)
      · skip
        refine lv_iconst (v := 0) hx hb dX7_hasOperand_32 (by decide) ?_
        have ef : (f_X7_hasOperand p0) = 0 := ((if_neg c_1).trans ((if_neg c_2).trans (if_pos c_3)))
        exact gRetZ F hr hlocks hK hP hD hS rfl (by rw [ef]) rfl (Nat.le_of_ble_eq_true rfl) (Nat.le_of_ble_eq_true rfl) dX7_hasOperand_33
      · skip
        refine lv_iload_n hx hb dX7_hasOperand_16 rfl (lv_at hl 0 rfl) ?_
        refine lv_bipush (v := 13) hx hb dX7_hasOperand_17 (by decide) ?_
        refine lv_icmp_eq (tgt := 32) hx hb dX7_hasOperand_19 (by decide) (fun c_4 => ?_) (fun c_4 => ?_)
        · skip
          refine lv_iconst (v := 0) hx hb dX7_hasOperand_32 (by decide) ?_
          have ef : (f_X7_hasOperand p0) = 0 := ((if_neg c_1).trans ((if_neg c_2).trans ((if_neg c_3).trans (if_pos c_4))))
          exact gRetZ F hr hlocks hK hP hD hS rfl (by rw [ef]) rfl (Nat.le_of_ble_eq_true rfl) (Nat.le_of_ble_eq_true rfl) dX7_hasOperand_33
        · skip
          refine lv_iload_n hx hb dX7_hasOperand_22 rfl (lv_at hl 0 rfl) ?_
          refine lv_bipush (v := 14) hx hb dX7_hasOperand_23 (by decide) ?_
          refine lv_icmp_eq (tgt := 32) hx hb dX7_hasOperand_25 (by decide) (fun c_5 => ?_) (fun c_5 => ?_)
          · skip
            refine lv_iconst (v := 0) hx hb dX7_hasOperand_32 (by decide) ?_
            have ef : (f_X7_hasOperand p0) = 0 := ((if_neg c_1).trans ((if_neg c_2).trans ((if_neg c_3).trans ((if_neg c_4).trans (if_pos c_5)))))
            exact gRetZ F hr hlocks hK hP hD hS rfl (by rw [ef]) rfl (Nat.le_of_ble_eq_true rfl) (Nat.le_of_ble_eq_true rfl) dX7_hasOperand_33
          · skip
            refine lv_iconst (v := 1) hx hb dX7_hasOperand_28 (by decide) ?_
            refine lv_goto (tgt := 33) hx hb dX7_hasOperand_29 (by decide) ?_
            have ef : (f_X7_hasOperand p0) = 1 := ((if_neg c_1).trans ((if_neg c_2).trans ((if_neg c_3).trans ((if_neg c_4).trans (if_neg c_5)))))
            exact gRetZ F hr hlocks hK hP hD hS rfl (by rw [ef]) rfl (Nat.le_of_ble_eq_true rfl) (Nat.le_of_ble_eq_true rfl) dX7_hasOperand_33
theorem okS_X7_hasOperand : gOkS yX7_hasOperand cX7_hasOperand 1 (some .boolean) 1 := ⟨⟨k_st_X7_hasOperand, k_in_X7, k_cd_X7_hasOperand⟩, by decide, by decide, by decide +kernel⟩
def f_X7_coded (p0 : Int32) (p1 : Int32) (p2 : Int32) : Int32 :=
  ((((p0 ||| (((p1 / 32) <<< ((4 : Int32) &&& 31)) : Int32)) ||| (((p1 % 32) <<< ((7 : Int32) &&& 31)) : Int32)) ||| (((p2 / 32) <<< ((12 : Int32) &&& 31)) : Int32)) ||| (((p2 % 32) <<< ((15 : Int32) &&& 31)) : Int32))
set_option maxRecDepth 100000 in
set_option maxHeartbeats 4000000 in
theorem c_X7_coded (l : Launch) (G : gG) (p0 : Int32) (p1 : Int32) (p2 : Int32) : gM l G yX7_coded cX7_coded 3 (some .int) { frames := 0, cells := 0, slots := 0, locals := 0 } [.int p0, .int p1, .int p2] [] (some (.int (f_X7_coded p0 p1 p2))) [] 0 0 := by
  refine gBegin (by decide +kernel) (Nat.le_of_ble_eq_true rfl) (fun p e s m args below meth c A F hr hlocks hname hN hK hP hD hA hS ls hl => ?_)
  obtain ⟨hx, hb, hml, hown, hts⟩ := id F
  replace hP : va_P G.1 vwCl [] s.heap := hP
  replace hl : lv_has ls 3 [(0, .int p0), (1, .int p1), (2, .int p2)] := hl
  refine lv_iload_n hx hb dX7_coded_0 rfl (lv_at hl 0 rfl) ?_
  refine lv_iload_n hx hb dX7_coded_1 rfl (lv_at hl 1 rfl) ?_
  refine lv_bipush (v := 32) hx hb dX7_coded_2 (by decide) ?_
  refine lv_idiv hx hb dX7_coded_4 (by decide) ?_
  refine lv_iconst (v := 4) hx hb dX7_coded_5 (by decide) ?_
  refine lv_ishl hx hb dX7_coded_6 ?_
  refine lv_ior hx hb dX7_coded_7 ?_
  refine lv_iload_n hx hb dX7_coded_8 rfl (lv_at hl 1 rfl) ?_
  refine lv_bipush (v := 32) hx hb dX7_coded_9 (by decide) ?_
  refine gIrem hx hb dX7_coded_11 (by decide) ?_
  refine lv_bipush (v := 7) hx hb dX7_coded_12 (by decide) ?_
  refine lv_ishl hx hb dX7_coded_14 ?_
  refine lv_ior hx hb dX7_coded_15 ?_
  refine lv_iload_n hx hb dX7_coded_16 rfl (lv_at hl 2 rfl) ?_
  refine lv_bipush (v := 32) hx hb dX7_coded_17 (by decide) ?_
  refine lv_idiv hx hb dX7_coded_19 (by decide) ?_
  refine lv_bipush (v := 12) hx hb dX7_coded_20 (by decide) ?_
  refine lv_ishl hx hb dX7_coded_22 ?_
  refine lv_ior hx hb dX7_coded_23 ?_
  refine lv_iload_n hx hb dX7_coded_24 rfl (lv_at hl 2 rfl) ?_
  refine lv_bipush (v := 32) hx hb dX7_coded_25 (by decide) ?_
  refine gIrem hx hb dX7_coded_27 (by decide) ?_
  refine lv_bipush (v := 15) hx hb dX7_coded_28 (by decide) ?_
  refine lv_ishl hx hb dX7_coded_30 ?_
  refine lv_ior hx hb dX7_coded_31 ?_
  exact gRetI F hr hlocks hK hP hD hS rfl rfl (Nat.le_of_ble_eq_true rfl) (Nat.le_of_ble_eq_true rfl) dX7_coded_32
theorem okS_X7_coded : gOkS yX7_coded cX7_coded 3 (some .int) 3 := ⟨⟨k_st_X7_coded, k_in_X7, k_cd_X7_coded⟩, by decide, by decide, by decide +kernel⟩
def f_X7_after (p0 : Int32) : Int32 :=
  (((p0 / 32) * 32) + ((p0 + 1) % 32))
set_option maxRecDepth 100000 in
set_option maxHeartbeats 4000000 in
theorem c_X7_after (l : Launch) (G : gG) (p0 : Int32) : gM l G yX7_after cX7_after 1 (some .int) { frames := 0, cells := 0, slots := 0, locals := 0 } [.int p0] [] (some (.int (f_X7_after p0))) [] 0 0 := by
  refine gBegin (by decide +kernel) (Nat.le_of_ble_eq_true rfl) (fun p e s m args below meth c A F hr hlocks hname hN hK hP hD hA hS ls hl => ?_)
  obtain ⟨hx, hb, hml, hown, hts⟩ := id F
  replace hP : va_P G.1 vwCl [] s.heap := hP
  replace hl : lv_has ls 1 [(0, .int p0)] := hl
  refine lv_iload_n hx hb dX7_after_0 rfl (lv_at hl 0 rfl) ?_
  refine lv_bipush (v := 32) hx hb dX7_after_1 (by decide) ?_
  refine lv_idiv hx hb dX7_after_3 (by decide) ?_
  refine lv_bipush (v := 32) hx hb dX7_after_4 (by decide) ?_
  refine lv_imul hx hb dX7_after_6 ?_
  refine lv_iload_n hx hb dX7_after_7 rfl (lv_at hl 0 rfl) ?_
  refine lv_iconst (v := 1) hx hb dX7_after_8 (by decide) ?_
  refine lv_iadd hx hb dX7_after_9 ?_
  refine lv_bipush (v := 32) hx hb dX7_after_10 (by decide) ?_
  refine gIrem hx hb dX7_after_12 (by decide) ?_
  refine lv_iadd hx hb dX7_after_13 ?_
  exact gRetI F hr hlocks hK hP hD hS rfl rfl (Nat.le_of_ble_eq_true rfl) (Nat.le_of_ble_eq_true rfl) dX7_after_14
theorem okS_X7_after : gOkS yX7_after cX7_after 1 (some .int) 1 := ⟨⟨k_st_X7_after, k_in_X7, k_cd_X7_after⟩, by decide, by decide, by decide +kernel⟩
theorem after_rng {p : Int32} (h : 0 ≤ p.toInt ∧ p.toInt < 256) : 0 ≤ (f_X7_after p).toInt ∧ (f_X7_after p).toInt < 256 := by
  obtain ⟨n, hn, rfl⟩ := of_rng (N := 256) (by decide) h
  unfold f_X7_after
  rw [div32_nI (by omega), nI_1, mod32_nI (by omega), nI_lit32, pk_mul, nI_add, nI_toInt (by omega)]
  omega
def f_X7_writes (plc : Int32) (draft : Nat → Int32) (wri : Nat → Int32) (p0 : Int32) : Int32 × (Nat → Int32) × (Nat → Int32) :=
  ((f_X7_after plc), (upd draft (Int32.toNatClampNeg plc) (p0 &&& 1048575)), (upd wri (Int32.toNatClampNeg plc) (vp_nar .boolean 1)))
set_option maxRecDepth 100000 in
set_option maxHeartbeats 4000000 in
theorem c_X7_writes (l : Launch) (G : gG) (m0 : Nat) (m1 : Nat) (m2 : Nat) (m3 : Nat) (m6 : Nat) (m13 : Nat) (m14 : Nat) (m17 : Nat) (m18 : Nat) (m19 : Nat) (rz : Int32) (hf : Int32) (hs : Int32) (len : Int32) (ec : Int32) (ep : Int32) (pos : Int32) (bg : Int32) (bad : Int32) (plc : Int32) (sta : Int32) (shm : Int32) (draft : Nat → Int32) (wri : Nat → Int32) (p0 : Int32) (hplc : 0 ≤ plc.toInt ∧ plc.toInt < 256) : gM l G yX7_writes cX7_writes 2 none { frames := 1, cells := 0, slots := 0, locals := 20 } [.ref m0, .int p0] [(m0, .inr (10, [.int rz, .ref m1, .ref m2, .ref m3, .int hf, .int hs, .ref m6, .int len, .int ec, .int ep, .int pos, .int bg, .int bad, .ref m13, .ref m14, .int plc, .int sta, .ref m17, .ref m18, .ref m19, .int shm])), (m13, .inl (G.2.1.1, 256, .inl draft)), (m14, .inl (G.2.1.2.1, 256, .inl wri))] none [(m0, .inr (10, [.int rz, .ref m1, .ref m2, .ref m3, .int hf, .int hs, .ref m6, .int len, .int ec, .int ep, .int pos, .int bg, .int bad, .ref m13, .ref m14, .int ((f_X7_writes plc draft wri p0).1), .int sta, .ref m17, .ref m18, .ref m19, .int shm])), (m13, .inl (G.2.1.1, 256, .inl ((f_X7_writes plc draft wri p0).2.1))), (m14, .inl (G.2.1.2.1, 256, .inl ((f_X7_writes plc draft wri p0).2.2)))] 0 0 := by
  refine gBegin (by decide +kernel) (Nat.le_of_ble_eq_true rfl) (fun p e s m args below meth c A F hr hlocks hname hN hK hP hD hA hS ls hl => ?_)
  obtain ⟨hx, hb, hml, hown, hts⟩ := id F
  replace hP : va_P G.1 vwCl [(m0, .inr (10, [.int rz, .ref m1, .ref m2, .ref m3, .int hf, .int hs, .ref m6, .int len, .int ec, .int ep, .int pos, .int bg, .int bad, .ref m13, .ref m14, .int plc, .int sta, .ref m17, .ref m18, .ref m19, .int shm])), (m13, .inl (G.2.1.1, 256, .inl draft)), (m14, .inl (G.2.1.2.1, 256, .inl wri))] s.heap := hP
  replace hl : lv_has ls 2 [(0, .ref m0), (1, .int p0)] := hl
  refine lv_aload_n hx hb dX7_writes_0 rfl (lv_at hl 0 rfl) ?_
  refine va_get (D := G.1) (ci := 10) (v := .ref m13) (C := RX7) (T := TX7) (N := 21) hx hb hts in_X7 hown hK hP 0 rfl rfl 13 (by decide) (hts _ k_fl_X7_26) (fun _ h9 => h9) rfl dX7_writes_1 ?_
  refine lv_aload_n hx hb dX7_writes_4 rfl (lv_at hl 0 rfl) ?_
  refine va_get (D := G.1) (ci := 10) (v := .int plc) (C := RX7) (T := TX7) (N := 21) hx hb hts in_X7 hown hK hP 0 rfl rfl 15 (by decide) (hts _ k_fl_X7_148) (fun _ h9 => h9) rfl dX7_writes_5 ?_
  refine lv_iload_n hx hb dX7_writes_8 rfl (lv_at hl 1 rfl) ?_
  refine lv_ldc (v := 1048575) hx hb hown (hts _ k_co_X7_94) dX7_writes_9 ?_
  refine lv_iand hx hb dX7_writes_11 ?_
  refine va_iast hx hb hK hP hD hS 1 0 rfl rfl (by (try rw [vp_in_iff]); omega) dX7_writes_12 (fun H locs hP hD hS => ?_)
  replace hP : va_P G.1 vwCl [(m0, .inr (10, [.int rz, .ref m1, .ref m2, .ref m3, .int hf, .int hs, .ref m6, .int len, .int ec, .int ep, .int pos, .int bg, .int bad, .ref m13, .ref m14, .int plc, .int sta, .ref m17, .ref m18, .ref m19, .int shm])), (m13, .inl (G.2.1.1, 256, .inl (upd draft (Int32.toNatClampNeg plc) (p0 &&& 1048575)))), (m14, .inl (G.2.1.2.1, 256, .inl wri))] H := hP
  replace hD : va_D A [(m0, .inr (10, [.int rz, .ref m1, .ref m2, .ref m3, .int hf, .int hs, .ref m6, .int len, .int ec, .int ep, .int pos, .int bg, .int bad, .ref m13, .ref m14, .int plc, .int sta, .ref m17, .ref m18, .ref m19, .int shm])), (m13, .inl (G.2.1.1, 256, .inl (upd draft (Int32.toNatClampNeg plc) (p0 &&& 1048575)))), (m14, .inl (G.2.1.2.1, 256, .inl wri))] := hD
  refine lv_aload_n hx hb dX7_writes_13 rfl (lv_at hl 0 rfl) ?_
  refine va_get (D := G.1) (ci := 10) (v := .ref m14) (C := RX7) (T := TX7) (N := 21) hx hb hts in_X7 hown hK hP 0 rfl rfl 14 (by decide) (hts _ k_fl_X7_29) (fun _ h9 => h9) rfl dX7_writes_14 ?_
  refine lv_aload_n hx hb dX7_writes_17 rfl (lv_at hl 0 rfl) ?_
  refine va_get (D := G.1) (ci := 10) (v := .int plc) (C := RX7) (T := TX7) (N := 21) hx hb hts in_X7 hown hK hP 0 rfl rfl 15 (by decide) (hts _ k_fl_X7_148) (fun _ h9 => h9) rfl dX7_writes_18 ?_
  refine lv_iconst (v := 1) hx hb dX7_writes_21 (by decide) ?_
  refine va_zast hx hb hK hP hD hS 2 1 rfl rfl (by (try rw [vp_in_iff]); omega) dX7_writes_22 (fun H locs hP hD hS => ?_)
  replace hP : va_P G.1 vwCl [(m0, .inr (10, [.int rz, .ref m1, .ref m2, .ref m3, .int hf, .int hs, .ref m6, .int len, .int ec, .int ep, .int pos, .int bg, .int bad, .ref m13, .ref m14, .int plc, .int sta, .ref m17, .ref m18, .ref m19, .int shm])), (m13, .inl (G.2.1.1, 256, .inl (upd draft (Int32.toNatClampNeg plc) (p0 &&& 1048575)))), (m14, .inl (G.2.1.2.1, 256, .inl (upd wri (Int32.toNatClampNeg plc) (vp_nar .boolean 1))))] H := hP
  replace hD : va_D A [(m0, .inr (10, [.int rz, .ref m1, .ref m2, .ref m3, .int hf, .int hs, .ref m6, .int len, .int ec, .int ep, .int pos, .int bg, .int bad, .ref m13, .ref m14, .int plc, .int sta, .ref m17, .ref m18, .ref m19, .int shm])), (m13, .inl (G.2.1.1, 256, .inl (upd draft (Int32.toNatClampNeg plc) (p0 &&& 1048575)))), (m14, .inl (G.2.1.2.1, 256, .inl (upd wri (Int32.toNatClampNeg plc) (vp_nar .boolean 1))))] := hD
  refine lv_aload_n hx hb dX7_writes_23 rfl (lv_at hl 0 rfl) ?_
  refine lv_aload_n hx hb dX7_writes_24 rfl (lv_at hl 0 rfl) ?_
  refine va_get (D := G.1) (ci := 10) (v := .int plc) (C := RX7) (T := TX7) (N := 21) hx hb hts in_X7 hown hK hP 0 rfl rfl 15 (by decide) (hts _ k_fl_X7_148) (fun _ h9 => h9) rfl dX7_writes_25 ?_
  refine gS (As := [.int plc]) (rest := [.ref m0]) (wr := [(m0, .inr (10, [.int rz, .ref m1, .ref m2, .ref m3, .int hf, .int hs, .ref m6, .int len, .int ec, .int ep, .int pos, .int bg, .int bad, .ref m13, .ref m14, .int plc, .int sta, .ref m17, .ref m18, .ref m19, .int shm])), (m13, .inl (G.2.1.1, 256, .inl (upd draft (Int32.toNatClampNeg plc) (p0 &&& 1048575)))), (m14, .inl (G.2.1.2.1, 256, .inl (upd wri (Int32.toNatClampNeg plc) (vp_nar .boolean 1))))]) (ws' := [(m0, .inr (10, [.int rz, .ref m1, .ref m2, .ref m3, .int hf, .int hs, .ref m6, .int len, .int ec, .int ep, .int pos, .int bg, .int bad, .ref m13, .ref m14, .int plc, .int sta, .ref m17, .ref m18, .ref m19, .int shm])), (m13, .inl (G.2.1.1, 256, .inl (upd draft (Int32.toNatClampNeg plc) (p0 &&& 1048575)))), (m14, .inl (G.2.1.2.1, 256, .inl (upd wri (Int32.toNatClampNeg plc) (vp_nar .boolean 1))))]) F (c_X7_after l G plc) okS_X7_after k_ml_X7_151 rfl rfl ⟨Nat.le_of_ble_eq_true rfl, Nat.le_of_ble_eq_true rfl⟩ hN hK hP hD hS hA [] [0, 1, 2] [0, 1, 2] (by decide) rfl rfl (by decide) (by decide) (by decide) rfl rfl rfl hl.1 (Nat.le_of_ble_eq_true rfl) dX7_writes_28 ⟨Nat.le_refl _, Nat.le_refl _⟩ (fun H locs hP hD hS => ?_)
  refine va_put (D := G.1) (ci := 10) (v := .int (f_X7_after plc)) (ty := .int) (C := RX7) (T := TX7) (N := 21) hx hb hts in_X7 tyX7 tyX7_ok nmX7 hown hK hP hD hS 0 rfl rfl 15 (by decide) (hts _ k_fl_X7_148) (fun _ h9 => h9) rfl (by decide +kernel) rfl rfl (Nat.le_of_ble_eq_true rfl) dX7_writes_31 (fun H locs hP hD hS => ?_)
  replace hP : va_P G.1 vwCl [(m0, .inr (10, [.int rz, .ref m1, .ref m2, .ref m3, .int hf, .int hs, .ref m6, .int len, .int ec, .int ep, .int pos, .int bg, .int bad, .ref m13, .ref m14, .int (f_X7_after plc), .int sta, .ref m17, .ref m18, .ref m19, .int shm])), (m13, .inl (G.2.1.1, 256, .inl (upd draft (Int32.toNatClampNeg plc) (p0 &&& 1048575)))), (m14, .inl (G.2.1.2.1, 256, .inl (upd wri (Int32.toNatClampNeg plc) (vp_nar .boolean 1))))] H := hP
  replace hD : va_D A [(m0, .inr (10, [.int rz, .ref m1, .ref m2, .ref m3, .int hf, .int hs, .ref m6, .int len, .int ec, .int ep, .int pos, .int bg, .int bad, .ref m13, .ref m14, .int (f_X7_after plc), .int sta, .ref m17, .ref m18, .ref m19, .int shm])), (m13, .inl (G.2.1.1, 256, .inl (upd draft (Int32.toNatClampNeg plc) (p0 &&& 1048575)))), (m14, .inl (G.2.1.2.1, 256, .inl (upd wri (Int32.toNatClampNeg plc) (vp_nar .boolean 1))))] := hD
  exact gRetV F hr hlocks hK hP hD hS rfl rfl (Nat.le_of_ble_eq_true rfl) (Nat.le_of_ble_eq_true rfl) dX7_writes_34
theorem okV_X7_writes : gOkV yX7_writes cX7_writes 2 none 1 := ⟨⟨k_im_X7_writes, k_se_X7_writes, k_in_X7, k_cd_X7_writes⟩, by decide, by decide, by decide +kernel⟩
def f_X7_instruction (len : Int32) (ec : Int32) (ep : Int32) (pos : Int32) (bg : Int32) (bad : Int32) (plc : Int32) (text : Nat → Int32) (draft : Nat → Int32) (wri : Nat → Int32) (p0 : Int32) : Int32 × Int32 × Int32 × Int32 × Int32 × Int32 × (Nat → Int32) × (Nat → Int32) :=
  if (f_X7_hasOperand p0) = 0 then
    if p0 = 8 then
      let t3 := (f_X7_number len ec ep pos bad text 0 31 0)
      if t3.2.2.2.2 = 0 then
        let t6 := (f_X7_here len t3.2.2.2.1 text)
        if (f_X7_in (Int32.toInt64 t6.1) 97 122) = 0 then
          let t9 := (f_X7_writes plc draft wri (f_X7_coded p0 t3.1 (f_X7_after plc)))
          (t3.2.1, t3.2.2.1, t6.2, bg, t3.2.2.2.2, t9.1, t9.2.1, t9.2.2)
        else
          let t10 := (f_X7_word len t6.2 text)
          if t10.1 = 399641 then
            let t12 := (f_X7_readLocation len t3.2.1 t3.2.2.1 t10.2.1 t3.2.2.2.2 text)
            if t12.2.2.2.2 = 0 then
              let t14 := (f_X7_writes plc draft wri (f_X7_coded p0 t3.1 t12.1))
              (t12.2.1, t12.2.2.1, t12.2.2.2.1, t10.2.2, t12.2.2.2.2, t14.1, t14.2.1, t14.2.2)
            else
              (t12.2.1, t12.2.2.1, t12.2.2.2.1, t10.2.2, t12.2.2.2.2, plc, draft, wri)
          else
            let t15 := (f_X7_wrong t3.2.1 t3.2.2.1 t3.2.2.2.2 1 t10.2.2)
            let t16 := (f_X7_readLocation len t15.1 t15.2.1 t10.2.1 t15.2.2 text)
            if t16.2.2.2.2 = 0 then
              let t18 := (f_X7_writes plc draft wri (f_X7_coded p0 t3.1 t16.1))
              (t16.2.1, t16.2.2.1, t16.2.2.2.1, t10.2.2, t16.2.2.2.2, t18.1, t18.2.1, t18.2.2)
            else
              (t16.2.1, t16.2.2.1, t16.2.2.2.1, t10.2.2, t16.2.2.2.2, plc, draft, wri)
      else
        (t3.2.1, t3.2.2.1, t3.2.2.2.1, bg, t3.2.2.2.2, plc, draft, wri)
    else
      if p0 = 9 then
        let t35 := (f_X7_number len ec ep pos bad text 0 31 0)
        if t35.2.2.2.2 = 0 then
          let t38 := (f_X7_here len t35.2.2.2.1 text)
          if (f_X7_in (Int32.toInt64 t38.1) 97 122) = 0 then
            let t41 := (f_X7_writes plc draft wri (f_X7_coded p0 t35.1 (f_X7_after plc)))
            (t35.2.1, t35.2.2.1, t38.2, bg, t35.2.2.2.2, t41.1, t41.2.1, t41.2.2)
          else
            let t42 := (f_X7_word len t38.2 text)
            if t42.1 = 399641 then
              let t44 := (f_X7_readLocation len t35.2.1 t35.2.2.1 t42.2.1 t35.2.2.2.2 text)
              if t44.2.2.2.2 = 0 then
                let t46 := (f_X7_writes plc draft wri (f_X7_coded p0 t35.1 t44.1))
                (t44.2.1, t44.2.2.1, t44.2.2.2.1, t42.2.2, t44.2.2.2.2, t46.1, t46.2.1, t46.2.2)
              else
                (t44.2.1, t44.2.2.1, t44.2.2.2.1, t42.2.2, t44.2.2.2.2, plc, draft, wri)
            else
              let t47 := (f_X7_wrong t35.2.1 t35.2.2.1 t35.2.2.2.2 1 t42.2.2)
              let t48 := (f_X7_readLocation len t47.1 t47.2.1 t42.2.1 t47.2.2 text)
              if t48.2.2.2.2 = 0 then
                let t50 := (f_X7_writes plc draft wri (f_X7_coded p0 t35.1 t48.1))
                (t48.2.1, t48.2.2.1, t48.2.2.2.1, t42.2.2, t48.2.2.2.2, t50.1, t50.2.1, t50.2.2)
              else
                (t48.2.1, t48.2.2.1, t48.2.2.2.1, t42.2.2, t48.2.2.2.2, plc, draft, wri)
        else
          (t35.2.1, t35.2.2.1, t35.2.2.2.1, bg, t35.2.2.2.2, plc, draft, wri)
      else
        if bad = 0 then
          let t22 := (f_X7_here len pos text)
          if (f_X7_in (Int32.toInt64 t22.1) 97 122) = 0 then
            let t25 := (f_X7_writes plc draft wri (f_X7_coded p0 0 (f_X7_after plc)))
            (ec, ep, t22.2, bg, bad, t25.1, t25.2.1, t25.2.2)
          else
            let t26 := (f_X7_word len t22.2 text)
            if t26.1 = 399641 then
              let t28 := (f_X7_readLocation len ec ep t26.2.1 bad text)
              if t28.2.2.2.2 = 0 then
                let t30 := (f_X7_writes plc draft wri (f_X7_coded p0 0 t28.1))
                (t28.2.1, t28.2.2.1, t28.2.2.2.1, t26.2.2, t28.2.2.2.2, t30.1, t30.2.1, t30.2.2)
              else
                (t28.2.1, t28.2.2.1, t28.2.2.2.1, t26.2.2, t28.2.2.2.2, plc, draft, wri)
            else
              let t31 := (f_X7_wrong ec ep bad 1 t26.2.2)
              let t32 := (f_X7_readLocation len t31.1 t31.2.1 t26.2.1 t31.2.2 text)
              if t32.2.2.2.2 = 0 then
                let t34 := (f_X7_writes plc draft wri (f_X7_coded p0 0 t32.1))
                (t32.2.1, t32.2.2.1, t32.2.2.2.1, t26.2.2, t32.2.2.2.2, t34.1, t34.2.1, t34.2.2)
              else
                (t32.2.1, t32.2.2.1, t32.2.2.2.1, t26.2.2, t32.2.2.2.2, plc, draft, wri)
        else
          (ec, ep, pos, bg, bad, plc, draft, wri)
  else
    let t51 := (f_X7_readLocation len ec ep pos bad text)
    if t51.2.2.2.2 = 0 then
      let t54 := (f_X7_here len t51.2.2.2.1 text)
      if (f_X7_in (Int32.toInt64 t54.1) 97 122) = 0 then
        let t57 := (f_X7_writes plc draft wri (f_X7_coded p0 t51.1 (f_X7_after plc)))
        (t51.2.1, t51.2.2.1, t54.2, bg, t51.2.2.2.2, t57.1, t57.2.1, t57.2.2)
      else
        let t58 := (f_X7_word len t54.2 text)
        if t58.1 = 399641 then
          let t60 := (f_X7_readLocation len t51.2.1 t51.2.2.1 t58.2.1 t51.2.2.2.2 text)
          if t60.2.2.2.2 = 0 then
            let t62 := (f_X7_writes plc draft wri (f_X7_coded p0 t51.1 t60.1))
            (t60.2.1, t60.2.2.1, t60.2.2.2.1, t58.2.2, t60.2.2.2.2, t62.1, t62.2.1, t62.2.2)
          else
            (t60.2.1, t60.2.2.1, t60.2.2.2.1, t58.2.2, t60.2.2.2.2, plc, draft, wri)
        else
          let t63 := (f_X7_wrong t51.2.1 t51.2.2.1 t51.2.2.2.2 1 t58.2.2)
          let t64 := (f_X7_readLocation len t63.1 t63.2.1 t58.2.1 t63.2.2 text)
          if t64.2.2.2.2 = 0 then
            let t66 := (f_X7_writes plc draft wri (f_X7_coded p0 t51.1 t64.1))
            (t64.2.1, t64.2.2.1, t64.2.2.2.1, t58.2.2, t64.2.2.2.2, t66.1, t66.2.1, t66.2.2)
          else
            (t64.2.1, t64.2.2.1, t64.2.2.2.1, t58.2.2, t64.2.2.2.2, plc, draft, wri)
    else
      (t51.2.1, t51.2.2.1, t51.2.2.2.1, bg, t51.2.2.2.2, plc, draft, wri)
set_option maxRecDepth 100000 in
set_option maxHeartbeats 4000000 in
theorem c_X7_instruction (l : Launch) (G : gG) (m0 : Nat) (m1 : Nat) (m2 : Nat) (m3 : Nat) (m6 : Nat) (m13 : Nat) (m14 : Nat) (m17 : Nat) (m18 : Nat) (m19 : Nat) (rz : Int32) (hf : Int32) (hs : Int32) (len : Int32) (ec : Int32) (ep : Int32) (pos : Int32) (bg : Int32) (bad : Int32) (plc : Int32) (sta : Int32) (shm : Int32) (text : Nat → Int32) (draft : Nat → Int32) (wri : Nat → Int32) (p0 : Int32) (hlen : 0 ≤ len.toInt ∧ len.toInt ≤ 600) (hpos : 0 ≤ pos.toInt ∧ pos.toInt ≤ 650) (hplc : 0 ≤ plc.toInt ∧ plc.toInt < 256) : gM l G yX7_instruction cX7_instruction 4 none { frames := 3, cells := 0, slots := 0, locals := 72 } [.ref m0, .int p0] [(m0, .inr (10, [.int rz, .ref m1, .ref m2, .ref m3, .int hf, .int hs, .ref m6, .int len, .int ec, .int ep, .int pos, .int bg, .int bad, .ref m13, .ref m14, .int plc, .int sta, .ref m17, .ref m18, .ref m19, .int shm])), (m6, .inl (G.2.1.1, 600, .inl text)), (m13, .inl (G.2.1.1, 256, .inl draft)), (m14, .inl (G.2.1.2.1, 256, .inl wri))] none [(m0, .inr (10, [.int rz, .ref m1, .ref m2, .ref m3, .int hf, .int hs, .ref m6, .int len, .int ((f_X7_instruction len ec ep pos bg bad plc text draft wri p0).1), .int ((f_X7_instruction len ec ep pos bg bad plc text draft wri p0).2.1), .int ((f_X7_instruction len ec ep pos bg bad plc text draft wri p0).2.2.1), .int ((f_X7_instruction len ec ep pos bg bad plc text draft wri p0).2.2.2.1), .int ((f_X7_instruction len ec ep pos bg bad plc text draft wri p0).2.2.2.2.1), .ref m13, .ref m14, .int ((f_X7_instruction len ec ep pos bg bad plc text draft wri p0).2.2.2.2.2.1), .int sta, .ref m17, .ref m18, .ref m19, .int shm])), (m6, .inl (G.2.1.1, 600, .inl text)), (m13, .inl (G.2.1.1, 256, .inl ((f_X7_instruction len ec ep pos bg bad plc text draft wri p0).2.2.2.2.2.2.1))), (m14, .inl (G.2.1.2.1, 256, .inl ((f_X7_instruction len ec ep pos bg bad plc text draft wri p0).2.2.2.2.2.2.2)))] 0 0 := by
  refine gBegin (by decide +kernel) (Nat.le_of_ble_eq_true rfl) (fun p e s m args below meth c A F hr hlocks hname hN hK hP hD hA hS ls hl => ?_)
  obtain ⟨hx, hb, hml, hown, hts⟩ := id F
  replace hP : va_P G.1 vwCl [(m0, .inr (10, [.int rz, .ref m1, .ref m2, .ref m3, .int hf, .int hs, .ref m6, .int len, .int ec, .int ep, .int pos, .int bg, .int bad, .ref m13, .ref m14, .int plc, .int sta, .ref m17, .ref m18, .ref m19, .int shm])), (m6, .inl (G.2.1.1, 600, .inl text)), (m13, .inl (G.2.1.1, 256, .inl draft)), (m14, .inl (G.2.1.2.1, 256, .inl wri))] s.heap := hP
  replace hl : lv_has ls 4 [(0, .ref m0), (1, .int p0)] := hl
  refine lv_iload_n hx hb dX7_instruction_0 rfl (lv_at hl 1 rfl) ?_
  refine gS (As := [.int p0]) (rest := []) (wr := [(m0, .inr (10, [.int rz, .ref m1, .ref m2, .ref m3, .int hf, .int hs, .ref m6, .int len, .int ec, .int ep, .int pos, .int bg, .int bad, .ref m13, .ref m14, .int plc, .int sta, .ref m17, .ref m18, .ref m19, .int shm])), (m6, .inl (G.2.1.1, 600, .inl text)), (m13, .inl (G.2.1.1, 256, .inl draft)), (m14, .inl (G.2.1.2.1, 256, .inl wri))]) (ws' := [(m0, .inr (10, [.int rz, .ref m1, .ref m2, .ref m3, .int hf, .int hs, .ref m6, .int len, .int ec, .int ep, .int pos, .int bg, .int bad, .ref m13, .ref m14, .int plc, .int sta, .ref m17, .ref m18, .ref m19, .int shm])), (m6, .inl (G.2.1.1, 600, .inl text)), (m13, .inl (G.2.1.1, 256, .inl draft)), (m14, .inl (G.2.1.2.1, 256, .inl wri))]) F (c_X7_hasOperand l G p0) okS_X7_hasOperand k_ml_X7_154 rfl rfl ⟨Nat.le_of_ble_eq_true rfl, Nat.le_of_ble_eq_true rfl⟩ hN hK hP hD hS hA [] [0, 1, 2, 3] [0, 1, 2, 3] (by decide) rfl rfl (by decide) (by decide) (by decide) rfl rfl rfl hl.1 (Nat.le_of_ble_eq_true rfl) dX7_instruction_1 ⟨Nat.le_refl _, Nat.le_refl _⟩ (fun H locs hP hD hS => ?_)
  refine lv_if_eq (tgt := 14) hx hb dX7_instruction_4 (by decide) (fun c_1 => ?_) (fun c_1 => ?_)
  · skip
    refine lv_iload_n hx hb dX7_instruction_14 rfl (lv_at hl 1 rfl) ?_
    refine lv_bipush (v := 8) hx hb dX7_instruction_15 (by decide) ?_
    refine lv_icmp_eq (tgt := 26) hx hb dX7_instruction_17 (by decide) (fun c_2 => ?_) (fun c_2 => ?_)
    · skip
      refine lv_aload_n hx hb dX7_instruction_26 rfl (lv_at hl 0 rfl) ?_
      refine lv_iconst (v := 0) hx hb dX7_instruction_27 (by decide) ?_
      refine lv_bipush (v := 31) hx hb dX7_instruction_28 (by decide) ?_
      refine lv_iconst (v := 0) hx hb dX7_instruction_30 (by decide) ?_
      refine gV (As := [.int 0, .int 31, .int 0]) (rest := []) (wr := [(m13, .inl (G.2.1.1, 256, .inl draft)), (m14, .inl (G.2.1.2.1, 256, .inl wri))]) (ws' := [(m0, .inr (10, [.int rz, .ref m1, .ref m2, .ref m3, .int hf, .int hs, .ref m6, .int len, .int ((f_X7_number len ec ep pos bad text 0 31 0).2.1), .int ((f_X7_number len ec ep pos bad text 0 31 0).2.2.1), .int ((f_X7_number len ec ep pos bad text 0 31 0).2.2.2.1), .int bg, .int ((f_X7_number len ec ep pos bad text 0 31 0).2.2.2.2), .ref m13, .ref m14, .int plc, .int sta, .ref m17, .ref m18, .ref m19, .int shm])), (m6, .inl (G.2.1.1, 600, .inl text)), (m13, .inl (G.2.1.1, 256, .inl draft)), (m14, .inl (G.2.1.2.1, 256, .inl wri))]) F (c_X7_number l G m0 m1 m2 m3 m6 m13 m14 m17 m18 m19 rz hf hs len ec ep pos bg bad plc sta shm text 0 31 0 hlen (by have o0 : (0 : Int32).toInt = 0 := (by decide); have o1 : (1 : Int32).toInt = 1 := (by decide); omega)) okV_X7_number k_ml_X7_141 rfl rfl ⟨Nat.le_of_ble_eq_true rfl, Nat.le_of_ble_eq_true rfl⟩ hN hK hP hD hS hA [0, 1] [2, 3] [2, 3, 0, 1] (by decide) rfl rfl (by decide) (by decide) (by decide) rfl (q0 := 0) rfl rfl rfl rfl hl.1 (Nat.le_of_ble_eq_true rfl) dX7_instruction_31 ⟨Nat.le_refl _, Nat.le_refl _⟩ (fun H locs hP hD hS => ?_)
      generalize et3 : (f_X7_number len ec ep pos bad text 0 31 0) = t3 at hP hD ⊢
      refine lv_goto (tgt := 38) hx hb dX7_instruction_34 (by decide) ?_
      refine lv_istore_n (lv' := [(2, .int t3.1), (0, .ref m0), (1, .int p0)]) hx hb dX7_instruction_38 rfl hl (by decide) rfl (fun ls hl => ?_)
      refine lv_aload_n hx hb dX7_instruction_39 rfl (lv_at hl 1 rfl) ?_
      refine va_get (D := G.1) (ci := 10) (v := .int plc) (C := RX7) (T := TX7) (N := 21) hx hb hts in_X7 hown hK hP 0 rfl rfl 15 (by decide) (hts _ k_fl_X7_148) (fun _ h9 => h9) rfl dX7_instruction_40 ?_
      refine gS (As := [.int plc]) (rest := []) (wr := [(m0, .inr (10, [.int rz, .ref m1, .ref m2, .ref m3, .int hf, .int hs, .ref m6, .int len, .int t3.2.1, .int t3.2.2.1, .int t3.2.2.2.1, .int bg, .int t3.2.2.2.2, .ref m13, .ref m14, .int plc, .int sta, .ref m17, .ref m18, .ref m19, .int shm])), (m6, .inl (G.2.1.1, 600, .inl text)), (m13, .inl (G.2.1.1, 256, .inl draft)), (m14, .inl (G.2.1.2.1, 256, .inl wri))]) (ws' := [(m0, .inr (10, [.int rz, .ref m1, .ref m2, .ref m3, .int hf, .int hs, .ref m6, .int len, .int t3.2.1, .int t3.2.2.1, .int t3.2.2.2.1, .int bg, .int t3.2.2.2.2, .ref m13, .ref m14, .int plc, .int sta, .ref m17, .ref m18, .ref m19, .int shm])), (m6, .inl (G.2.1.1, 600, .inl text)), (m13, .inl (G.2.1.1, 256, .inl draft)), (m14, .inl (G.2.1.2.1, 256, .inl wri))]) F (c_X7_after l G plc) okS_X7_after k_ml_X7_151 rfl rfl ⟨Nat.le_of_ble_eq_true rfl, Nat.le_of_ble_eq_true rfl⟩ hN hK hP hD hS hA [] [0, 1, 2, 3] [0, 1, 2, 3] (by decide) rfl rfl (by decide) (by decide) (by decide) rfl rfl rfl hl.1 (Nat.le_of_ble_eq_true rfl) dX7_instruction_43 ⟨Nat.le_refl _, Nat.le_refl _⟩ (fun H locs hP hD hS => ?_)
      refine lv_istore_n (lv' := [(3, .int (f_X7_after plc)), (2, .int t3.1), (0, .ref m0), (1, .int p0)]) hx hb dX7_instruction_46 rfl hl (by decide) rfl (fun ls hl => ?_)
      refine lv_aload_n hx hb dX7_instruction_47 rfl (lv_at hl 2 rfl) ?_
      refine va_get (D := G.1) (ci := 10) (v := .int t3.2.2.2.2) (C := RX7) (T := TX7) (N := 21) hx hb hts in_X7 hown hK hP 0 rfl rfl 12 (by decide) (hts _ k_fl_X7_109) (fun _ h9 => h9) rfl dX7_instruction_48 ?_
      refine lv_if_ne (tgt := 96) hx hb dX7_instruction_51 (by decide) (fun c_4 => ?_) (fun c_4 => ?_)
      · skip
        refine lv_aload_n hx hb dX7_instruction_96 rfl (lv_at hl 2 rfl) ?_
        refine va_get (D := G.1) (ci := 10) (v := .int t3.2.2.2.2) (C := RX7) (T := TX7) (N := 21) hx hb hts in_X7 hown hK hP 0 rfl rfl 12 (by decide) (hts _ k_fl_X7_109) (fun _ h9 => h9) rfl dX7_instruction_97 ?_
        refine lv_if_ne (tgt := 113) hx hb dX7_instruction_100 (by decide) (fun c_5 => ?_) (fun c_5 => ?_)
        · skip
          have ef : (f_X7_instruction len ec ep pos bg bad plc text draft wri p0) = (t3.2.1, t3.2.2.1, t3.2.2.2.1, bg, t3.2.2.2.2, plc, draft, wri) := (by subst et3; exact ((if_pos c_1).trans ((if_pos c_2).trans (if_neg c_4))))
          exact gRetV F hr hlocks hK hP hD hS rfl (by rw [ef]) (Nat.le_of_ble_eq_true rfl) (Nat.le_of_ble_eq_true rfl) dX7_instruction_113
        · first | exact absurd c_4 c_5 | exact absurd c_5 c_4
      · skip
        refine lv_aload_n hx hb dX7_instruction_54 rfl (lv_at hl 2 rfl) ?_
        refine gV (As := []) (rest := []) (wr := [(m13, .inl (G.2.1.1, 256, .inl draft)), (m14, .inl (G.2.1.2.1, 256, .inl wri))]) (ws' := [(m0, .inr (10, [.int rz, .ref m1, .ref m2, .ref m3, .int hf, .int hs, .ref m6, .int len, .int t3.2.1, .int t3.2.2.1, .int ((f_X7_here len t3.2.2.2.1 text).2), .int bg, .int t3.2.2.2.2, .ref m13, .ref m14, .int plc, .int sta, .ref m17, .ref m18, .ref m19, .int shm])), (m6, .inl (G.2.1.1, 600, .inl text)), (m13, .inl (G.2.1.1, 256, .inl draft)), (m14, .inl (G.2.1.2.1, 256, .inl wri))]) F (c_X7_here l G m0 m1 m2 m3 m6 m13 m14 m17 m18 m19 rz hf hs len t3.2.1 t3.2.2.1 t3.2.2.2.1 bg t3.2.2.2.2 plc sta shm text hlen (by have o0 : (0 : Int32).toInt = 0 := (by decide); have o1 : (1 : Int32).toInt = 1 := (by decide); have q0 := number_pos hlen (by omega) et3; omega)) okV_X7_here k_ml_X7_116 rfl rfl ⟨Nat.le_of_ble_eq_true rfl, Nat.le_of_ble_eq_true rfl⟩ hN hK hP hD hS hA [0, 1] [2, 3] [2, 3, 0, 1] (by decide) rfl rfl (by decide) (by decide) (by decide) rfl (q0 := 0) rfl rfl rfl rfl hl.1 (Nat.le_of_ble_eq_true rfl) dX7_instruction_55 ⟨Nat.le_refl _, Nat.le_refl _⟩ (fun H locs hP hD hS => ?_)
        generalize et6 : (f_X7_here len t3.2.2.2.1 text) = t6 at hP hD ⊢
        refine lv_i2l (v := (Int32.toInt64 t6.1)) hx hb dX7_instruction_58 rfl ?_
        refine lv_ldc2 (v := 97) hx hb hown (hts _ k_lc_X7_120) dX7_instruction_59 ?_
        refine lv_ldc2 (v := 122) hx hb hown (hts _ k_lc_X7_122) dX7_instruction_62 ?_
        refine gS (As := [.long (Int32.toInt64 t6.1), .long 97, .long 122]) (rest := []) (wr := [(m0, .inr (10, [.int rz, .ref m1, .ref m2, .ref m3, .int hf, .int hs, .ref m6, .int len, .int t3.2.1, .int t3.2.2.1, .int t6.2, .int bg, .int t3.2.2.2.2, .ref m13, .ref m14, .int plc, .int sta, .ref m17, .ref m18, .ref m19, .int shm])), (m6, .inl (G.2.1.1, 600, .inl text)), (m13, .inl (G.2.1.1, 256, .inl draft)), (m14, .inl (G.2.1.2.1, 256, .inl wri))]) (ws' := [(m0, .inr (10, [.int rz, .ref m1, .ref m2, .ref m3, .int hf, .int hs, .ref m6, .int len, .int t3.2.1, .int t3.2.2.1, .int t6.2, .int bg, .int t3.2.2.2.2, .ref m13, .ref m14, .int plc, .int sta, .ref m17, .ref m18, .ref m19, .int shm])), (m6, .inl (G.2.1.1, 600, .inl text)), (m13, .inl (G.2.1.1, 256, .inl draft)), (m14, .inl (G.2.1.2.1, 256, .inl wri))]) F (c_X7_in l G (Int32.toInt64 t6.1) 97 122) okS_X7_in k_ml_X7_81 rfl rfl ⟨Nat.le_of_ble_eq_true rfl, Nat.le_of_ble_eq_true rfl⟩ hN hK hP hD hS hA [] [0, 1, 2, 3] [0, 1, 2, 3] (by decide) rfl rfl (by decide) (by decide) (by decide) rfl rfl rfl hl.1 (Nat.le_of_ble_eq_true rfl) dX7_instruction_65 ⟨Nat.le_refl _, Nat.le_refl _⟩ (fun H locs hP hD hS => ?_)
        refine lv_if_eq (tgt := 96) hx hb dX7_instruction_68 (by decide) (fun c_7 => ?_) (fun c_7 => ?_)
        · skip
          refine lv_aload_n hx hb dX7_instruction_96 rfl (lv_at hl 2 rfl) ?_
          refine va_get (D := G.1) (ci := 10) (v := .int t3.2.2.2.2) (C := RX7) (T := TX7) (N := 21) hx hb hts in_X7 hown hK hP 0 rfl rfl 12 (by decide) (hts _ k_fl_X7_109) (fun _ h9 => h9) rfl dX7_instruction_97 ?_
          refine lv_if_ne (tgt := 113) hx hb dX7_instruction_100 (by decide) (fun c_8 => ?_) (fun c_8 => ?_)
          · first | exact absurd c_4 c_8 | exact absurd c_8 c_4
          · skip
            refine lv_aload_n hx hb dX7_instruction_103 rfl (lv_at hl 2 rfl) ?_
            refine lv_iload_n hx hb dX7_instruction_104 rfl (lv_at hl 3 rfl) ?_
            refine lv_iload_n hx hb dX7_instruction_105 rfl (lv_at hl 1 rfl) ?_
            refine lv_iload_n hx hb dX7_instruction_106 rfl (lv_at hl 0 rfl) ?_
            refine gS (As := [.int p0, .int t3.1, .int (f_X7_after plc)]) (rest := [.ref m0]) (wr := [(m0, .inr (10, [.int rz, .ref m1, .ref m2, .ref m3, .int hf, .int hs, .ref m6, .int len, .int t3.2.1, .int t3.2.2.1, .int t6.2, .int bg, .int t3.2.2.2.2, .ref m13, .ref m14, .int plc, .int sta, .ref m17, .ref m18, .ref m19, .int shm])), (m6, .inl (G.2.1.1, 600, .inl text)), (m13, .inl (G.2.1.1, 256, .inl draft)), (m14, .inl (G.2.1.2.1, 256, .inl wri))]) (ws' := [(m0, .inr (10, [.int rz, .ref m1, .ref m2, .ref m3, .int hf, .int hs, .ref m6, .int len, .int t3.2.1, .int t3.2.2.1, .int t6.2, .int bg, .int t3.2.2.2.2, .ref m13, .ref m14, .int plc, .int sta, .ref m17, .ref m18, .ref m19, .int shm])), (m6, .inl (G.2.1.1, 600, .inl text)), (m13, .inl (G.2.1.1, 256, .inl draft)), (m14, .inl (G.2.1.2.1, 256, .inl wri))]) F (c_X7_coded l G p0 t3.1 (f_X7_after plc)) okS_X7_coded k_ml_X7_166 rfl rfl ⟨Nat.le_of_ble_eq_true rfl, Nat.le_of_ble_eq_true rfl⟩ hN hK hP hD hS hA [] [0, 1, 2, 3] [0, 1, 2, 3] (by decide) rfl rfl (by decide) (by decide) (by decide) rfl rfl rfl hl.1 (Nat.le_of_ble_eq_true rfl) dX7_instruction_107 ⟨Nat.le_refl _, Nat.le_refl _⟩ (fun H locs hP hD hS => ?_)
            refine gV (As := [.int (f_X7_coded p0 t3.1 (f_X7_after plc))]) (rest := []) (wr := [(m6, .inl (G.2.1.1, 600, .inl text))]) (ws' := [(m0, .inr (10, [.int rz, .ref m1, .ref m2, .ref m3, .int hf, .int hs, .ref m6, .int len, .int t3.2.1, .int t3.2.2.1, .int t6.2, .int bg, .int t3.2.2.2.2, .ref m13, .ref m14, .int ((f_X7_writes plc draft wri (f_X7_coded p0 t3.1 (f_X7_after plc))).1), .int sta, .ref m17, .ref m18, .ref m19, .int shm])), (m6, .inl (G.2.1.1, 600, .inl text)), (m13, .inl (G.2.1.1, 256, .inl ((f_X7_writes plc draft wri (f_X7_coded p0 t3.1 (f_X7_after plc))).2.1))), (m14, .inl (G.2.1.2.1, 256, .inl ((f_X7_writes plc draft wri (f_X7_coded p0 t3.1 (f_X7_after plc))).2.2)))]) F (c_X7_writes l G m0 m1 m2 m3 m6 m13 m14 m17 m18 m19 rz hf hs len t3.2.1 t3.2.2.1 t6.2 bg t3.2.2.2.2 plc sta shm draft wri (f_X7_coded p0 t3.1 (f_X7_after plc)) hplc) okV_X7_writes k_ml_X7_170 rfl rfl ⟨Nat.le_of_ble_eq_true rfl, Nat.le_of_ble_eq_true rfl⟩ hN hK hP hD hS hA [0, 2, 3] [1] [1, 0, 2, 3] (by decide) rfl rfl (by decide) (by decide) (by decide) rfl (q0 := 0) rfl rfl rfl rfl hl.1 (Nat.le_of_ble_eq_true rfl) dX7_instruction_110 ⟨Nat.le_refl _, Nat.le_refl _⟩ (fun H locs hP hD hS => ?_)
            generalize et9 : (f_X7_writes plc draft wri (f_X7_coded p0 t3.1 (f_X7_after plc))) = t9 at hP hD ⊢
            have ef : (f_X7_instruction len ec ep pos bg bad plc text draft wri p0) = (t3.2.1, t3.2.2.1, t6.2, bg, t3.2.2.2.2, t9.1, t9.2.1, t9.2.2) := (by subst et9; subst et6; subst et3; exact ((if_pos c_1).trans ((if_pos c_2).trans ((if_pos c_4).trans (if_pos c_7)))))
            exact gRetV F hr hlocks hK hP hD hS rfl (by rw [ef]) (Nat.le_of_ble_eq_true rfl) (Nat.le_of_ble_eq_true rfl) dX7_instruction_113
        · skip
          refine lv_aload_n hx hb dX7_instruction_71 rfl (lv_at hl 2 rfl) ?_
          refine gV (As := []) (rest := []) (wr := [(m13, .inl (G.2.1.1, 256, .inl draft)), (m14, .inl (G.2.1.2.1, 256, .inl wri))]) (ws' := [(m0, .inr (10, [.int rz, .ref m1, .ref m2, .ref m3, .int hf, .int hs, .ref m6, .int len, .int t3.2.1, .int t3.2.2.1, .int ((f_X7_word len t6.2 text).2.1), .int ((f_X7_word len t6.2 text).2.2), .int t3.2.2.2.2, .ref m13, .ref m14, .int plc, .int sta, .ref m17, .ref m18, .ref m19, .int shm])), (m6, .inl (G.2.1.1, 600, .inl text)), (m13, .inl (G.2.1.1, 256, .inl draft)), (m14, .inl (G.2.1.2.1, 256, .inl wri))]) F (c_X7_word l G m0 m1 m2 m3 m6 m13 m14 m17 m18 m19 rz hf hs len t3.2.1 t3.2.2.1 t6.2 bg t3.2.2.2.2 plc sta shm text hlen (by have o0 : (0 : Int32).toInt = 0 := (by decide); have o1 : (1 : Int32).toInt = 1 := (by decide); have q0 := number_pos hlen (by omega) et3; have q1 := here_pos hlen (by omega) et6; omega)) okV_X7_word k_ml_X7_160 rfl rfl ⟨Nat.le_of_ble_eq_true rfl, Nat.le_of_ble_eq_true rfl⟩ hN hK hP hD hS hA [0, 1] [2, 3] [2, 3, 0, 1] (by decide) rfl rfl (by decide) (by decide) (by decide) rfl (q0 := 0) rfl rfl rfl rfl hl.1 (Nat.le_of_ble_eq_true rfl) dX7_instruction_72 ⟨Nat.le_refl _, Nat.le_refl _⟩ (fun H locs hP hD hS => ?_)
          generalize et10 : (f_X7_word len t6.2 text) = t10 at hP hD ⊢
          refine lv_ldc2 (v := 399641) hx hb hown (hts _ k_lc_X7_164) dX7_instruction_75 ?_
          refine gLc_eq (tgt := 91) hx hb dX7_instruction_78 dX7_instruction_79 (by decide) (fun c_11 => ?_) (fun c_11 => ?_)
          · skip
            refine lv_aload_n hx hb dX7_instruction_91 rfl (lv_at hl 2 rfl) ?_
            refine gV (As := []) (rest := []) (wr := [(m13, .inl (G.2.1.1, 256, .inl draft)), (m14, .inl (G.2.1.2.1, 256, .inl wri))]) (ws' := [(m0, .inr (10, [.int rz, .ref m1, .ref m2, .ref m3, .int hf, .int hs, .ref m6, .int len, .int ((f_X7_readLocation len t3.2.1 t3.2.2.1 t10.2.1 t3.2.2.2.2 text).2.1), .int ((f_X7_readLocation len t3.2.1 t3.2.2.1 t10.2.1 t3.2.2.2.2 text).2.2.1), .int ((f_X7_readLocation len t3.2.1 t3.2.2.1 t10.2.1 t3.2.2.2.2 text).2.2.2.1), .int t10.2.2, .int ((f_X7_readLocation len t3.2.1 t3.2.2.1 t10.2.1 t3.2.2.2.2 text).2.2.2.2), .ref m13, .ref m14, .int plc, .int sta, .ref m17, .ref m18, .ref m19, .int shm])), (m6, .inl (G.2.1.1, 600, .inl text)), (m13, .inl (G.2.1.1, 256, .inl draft)), (m14, .inl (G.2.1.2.1, 256, .inl wri))]) F (c_X7_readLocation l G m0 m1 m2 m3 m6 m13 m14 m17 m18 m19 rz hf hs len t3.2.1 t3.2.2.1 t10.2.1 t10.2.2 t3.2.2.2.2 plc sta shm text hlen (by have o0 : (0 : Int32).toInt = 0 := (by decide); have o1 : (1 : Int32).toInt = 1 := (by decide); have q0 := number_pos hlen (by omega) et3; have q1 := here_pos hlen (by omega) et6; have q2 := word_pos hlen (by omega) et10; omega)) okV_X7_readLocation k_ml_X7_157 rfl rfl ⟨Nat.le_of_ble_eq_true rfl, Nat.le_of_ble_eq_true rfl⟩ hN hK hP hD hS hA [0, 1] [2, 3] [2, 3, 0, 1] (by decide) rfl rfl (by decide) (by decide) (by decide) rfl (q0 := 0) rfl rfl rfl rfl hl.1 (Nat.le_of_ble_eq_true rfl) dX7_instruction_92 ⟨Nat.le_refl _, Nat.le_refl _⟩ (fun H locs hP hD hS => ?_)
            generalize et12 : (f_X7_readLocation len t3.2.1 t3.2.2.1 t10.2.1 t3.2.2.2.2 text) = t12 at hP hD ⊢
            refine lv_istore_n (lv' := [(3, .int t12.1), (2, .int t3.1), (0, .ref m0), (1, .int p0)]) hx hb dX7_instruction_95 rfl hl (by decide) rfl (fun ls hl => ?_)
            refine lv_aload_n hx hb dX7_instruction_96 rfl (lv_at hl 2 rfl) ?_
            refine va_get (D := G.1) (ci := 10) (v := .int t12.2.2.2.2) (C := RX7) (T := TX7) (N := 21) hx hb hts in_X7 hown hK hP 0 rfl rfl 12 (by decide) (hts _ k_fl_X7_109) (fun _ h9 => h9) rfl dX7_instruction_97 ?_
            refine lv_if_ne (tgt := 113) hx hb dX7_instruction_100 (by decide) (fun c_13 => ?_) (fun c_13 => ?_)
            · skip
              have ef : (f_X7_instruction len ec ep pos bg bad plc text draft wri p0) = (t12.2.1, t12.2.2.1, t12.2.2.2.1, t10.2.2, t12.2.2.2.2, plc, draft, wri) := (by subst et12; subst et10; subst et6; subst et3; exact ((if_pos c_1).trans ((if_pos c_2).trans ((if_pos c_4).trans ((if_neg c_7).trans ((if_pos c_11).trans (if_neg c_13)))))))
              exact gRetV F hr hlocks hK hP hD hS rfl (by rw [ef]) (Nat.le_of_ble_eq_true rfl) (Nat.le_of_ble_eq_true rfl) dX7_instruction_113
            · skip
              refine lv_aload_n hx hb dX7_instruction_103 rfl (lv_at hl 2 rfl) ?_
              refine lv_iload_n hx hb dX7_instruction_104 rfl (lv_at hl 3 rfl) ?_
              refine lv_iload_n hx hb dX7_instruction_105 rfl (lv_at hl 1 rfl) ?_
              refine lv_iload_n hx hb dX7_instruction_106 rfl (lv_at hl 0 rfl) ?_
              refine gS (As := [.int p0, .int t3.1, .int t12.1]) (rest := [.ref m0]) (wr := [(m0, .inr (10, [.int rz, .ref m1, .ref m2, .ref m3, .int hf, .int hs, .ref m6, .int len, .int t12.2.1, .int t12.2.2.1, .int t12.2.2.2.1, .int t10.2.2, .int t12.2.2.2.2, .ref m13, .ref m14, .int plc, .int sta, .ref m17, .ref m18, .ref m19, .int shm])), (m6, .inl (G.2.1.1, 600, .inl text)), (m13, .inl (G.2.1.1, 256, .inl draft)), (m14, .inl (G.2.1.2.1, 256, .inl wri))]) (ws' := [(m0, .inr (10, [.int rz, .ref m1, .ref m2, .ref m3, .int hf, .int hs, .ref m6, .int len, .int t12.2.1, .int t12.2.2.1, .int t12.2.2.2.1, .int t10.2.2, .int t12.2.2.2.2, .ref m13, .ref m14, .int plc, .int sta, .ref m17, .ref m18, .ref m19, .int shm])), (m6, .inl (G.2.1.1, 600, .inl text)), (m13, .inl (G.2.1.1, 256, .inl draft)), (m14, .inl (G.2.1.2.1, 256, .inl wri))]) F (c_X7_coded l G p0 t3.1 t12.1) okS_X7_coded k_ml_X7_166 rfl rfl ⟨Nat.le_of_ble_eq_true rfl, Nat.le_of_ble_eq_true rfl⟩ hN hK hP hD hS hA [] [0, 1, 2, 3] [0, 1, 2, 3] (by decide) rfl rfl (by decide) (by decide) (by decide) rfl rfl rfl hl.1 (Nat.le_of_ble_eq_true rfl) dX7_instruction_107 ⟨Nat.le_refl _, Nat.le_refl _⟩ (fun H locs hP hD hS => ?_)
              refine gV (As := [.int (f_X7_coded p0 t3.1 t12.1)]) (rest := []) (wr := [(m6, .inl (G.2.1.1, 600, .inl text))]) (ws' := [(m0, .inr (10, [.int rz, .ref m1, .ref m2, .ref m3, .int hf, .int hs, .ref m6, .int len, .int t12.2.1, .int t12.2.2.1, .int t12.2.2.2.1, .int t10.2.2, .int t12.2.2.2.2, .ref m13, .ref m14, .int ((f_X7_writes plc draft wri (f_X7_coded p0 t3.1 t12.1)).1), .int sta, .ref m17, .ref m18, .ref m19, .int shm])), (m6, .inl (G.2.1.1, 600, .inl text)), (m13, .inl (G.2.1.1, 256, .inl ((f_X7_writes plc draft wri (f_X7_coded p0 t3.1 t12.1)).2.1))), (m14, .inl (G.2.1.2.1, 256, .inl ((f_X7_writes plc draft wri (f_X7_coded p0 t3.1 t12.1)).2.2)))]) F (c_X7_writes l G m0 m1 m2 m3 m6 m13 m14 m17 m18 m19 rz hf hs len t12.2.1 t12.2.2.1 t12.2.2.2.1 t10.2.2 t12.2.2.2.2 plc sta shm draft wri (f_X7_coded p0 t3.1 t12.1) hplc) okV_X7_writes k_ml_X7_170 rfl rfl ⟨Nat.le_of_ble_eq_true rfl, Nat.le_of_ble_eq_true rfl⟩ hN hK hP hD hS hA [0, 2, 3] [1] [1, 0, 2, 3] (by decide) rfl rfl (by decide) (by decide) (by decide) rfl (q0 := 0) rfl rfl rfl rfl hl.1 (Nat.le_of_ble_eq_true rfl) dX7_instruction_110 ⟨Nat.le_refl _, Nat.le_refl _⟩ (fun H locs hP hD hS => ?_)
              generalize et14 : (f_X7_writes plc draft wri (f_X7_coded p0 t3.1 t12.1)) = t14 at hP hD ⊢
              have ef : (f_X7_instruction len ec ep pos bg bad plc text draft wri p0) = (t12.2.1, t12.2.2.1, t12.2.2.2.1, t10.2.2, t12.2.2.2.2, t14.1, t14.2.1, t14.2.2) := (by subst et14; subst et12; subst et10; subst et6; subst et3; exact ((if_pos c_1).trans ((if_pos c_2).trans ((if_pos c_4).trans ((if_neg c_7).trans ((if_pos c_11).trans (if_pos c_13)))))))
              exact gRetV F hr hlocks hK hP hD hS rfl (by rw [ef]) (Nat.le_of_ble_eq_true rfl) (Nat.le_of_ble_eq_true rfl) dX7_instruction_113
          · skip
            refine lv_aload_n hx hb dX7_instruction_82 rfl (lv_at hl 2 rfl) ?_
            refine lv_iconst (v := 1) hx hb dX7_instruction_83 (by decide) ?_
            refine lv_aload_n hx hb dX7_instruction_84 rfl (lv_at hl 2 rfl) ?_
            refine va_get (D := G.1) (ci := 10) (v := .int t10.2.2) (C := RX7) (T := TX7) (N := 21) hx hb hts in_X7 hown hK hP 0 rfl rfl 11 (by decide) (hts _ k_fl_X7_124) (fun _ h9 => h9) rfl dX7_instruction_85 ?_
            refine gV (As := [.int 1, .int t10.2.2]) (rest := []) (wr := [(m6, .inl (G.2.1.1, 600, .inl text)), (m13, .inl (G.2.1.1, 256, .inl draft)), (m14, .inl (G.2.1.2.1, 256, .inl wri))]) (ws' := [(m0, .inr (10, [.int rz, .ref m1, .ref m2, .ref m3, .int hf, .int hs, .ref m6, .int len, .int ((f_X7_wrong t3.2.1 t3.2.2.1 t3.2.2.2.2 1 t10.2.2).1), .int ((f_X7_wrong t3.2.1 t3.2.2.1 t3.2.2.2.2 1 t10.2.2).2.1), .int t10.2.1, .int t10.2.2, .int ((f_X7_wrong t3.2.1 t3.2.2.1 t3.2.2.2.2 1 t10.2.2).2.2), .ref m13, .ref m14, .int plc, .int sta, .ref m17, .ref m18, .ref m19, .int shm])), (m6, .inl (G.2.1.1, 600, .inl text)), (m13, .inl (G.2.1.1, 256, .inl draft)), (m14, .inl (G.2.1.2.1, 256, .inl wri))]) F (c_X7_wrong l G m0 m1 m2 m3 m6 m13 m14 m17 m18 m19 rz hf hs len t3.2.1 t3.2.2.1 t10.2.1 t10.2.2 t3.2.2.2.2 plc sta shm 1 t10.2.2) okV_X7_wrong k_ml_X7_137 rfl rfl ⟨Nat.le_of_ble_eq_true rfl, Nat.le_of_ble_eq_true rfl⟩ hN hK hP hD hS hA [0] [1, 2, 3] [3, 0, 1, 2] (by decide) rfl rfl (by decide) (by decide) (by decide) rfl (q0 := 0) rfl rfl rfl rfl hl.1 (Nat.le_of_ble_eq_true rfl) dX7_instruction_88 ⟨Nat.le_refl _, Nat.le_refl _⟩ (fun H locs hP hD hS => ?_)
            generalize et15 : (f_X7_wrong t3.2.1 t3.2.2.1 t3.2.2.2.2 1 t10.2.2) = t15 at hP hD ⊢
            refine lv_aload_n hx hb dX7_instruction_91 rfl (lv_at hl 2 rfl) ?_
            refine gV (As := []) (rest := []) (wr := [(m13, .inl (G.2.1.1, 256, .inl draft)), (m14, .inl (G.2.1.2.1, 256, .inl wri))]) (ws' := [(m0, .inr (10, [.int rz, .ref m1, .ref m2, .ref m3, .int hf, .int hs, .ref m6, .int len, .int ((f_X7_readLocation len t15.1 t15.2.1 t10.2.1 t15.2.2 text).2.1), .int ((f_X7_readLocation len t15.1 t15.2.1 t10.2.1 t15.2.2 text).2.2.1), .int ((f_X7_readLocation len t15.1 t15.2.1 t10.2.1 t15.2.2 text).2.2.2.1), .int t10.2.2, .int ((f_X7_readLocation len t15.1 t15.2.1 t10.2.1 t15.2.2 text).2.2.2.2), .ref m13, .ref m14, .int plc, .int sta, .ref m17, .ref m18, .ref m19, .int shm])), (m6, .inl (G.2.1.1, 600, .inl text)), (m13, .inl (G.2.1.1, 256, .inl draft)), (m14, .inl (G.2.1.2.1, 256, .inl wri))]) F (c_X7_readLocation l G m0 m1 m2 m3 m6 m13 m14 m17 m18 m19 rz hf hs len t15.1 t15.2.1 t10.2.1 t10.2.2 t15.2.2 plc sta shm text hlen (by have o0 : (0 : Int32).toInt = 0 := (by decide); have o1 : (1 : Int32).toInt = 1 := (by decide); have q0 := number_pos hlen (by omega) et3; have q1 := here_pos hlen (by omega) et6; have q2 := word_pos hlen (by omega) et10; omega)) okV_X7_readLocation k_ml_X7_157 rfl rfl ⟨Nat.le_of_ble_eq_true rfl, Nat.le_of_ble_eq_true rfl⟩ hN hK hP hD hS hA [0, 1] [2, 3] [2, 3, 0, 1] (by decide) rfl rfl (by decide) (by decide) (by decide) rfl (q0 := 0) rfl rfl rfl rfl hl.1 (Nat.le_of_ble_eq_true rfl) dX7_instruction_92 ⟨Nat.le_refl _, Nat.le_refl _⟩ (fun H locs hP hD hS => ?_)
            generalize et16 : (f_X7_readLocation len t15.1 t15.2.1 t10.2.1 t15.2.2 text) = t16 at hP hD ⊢
            refine lv_istore_n (lv' := [(3, .int t16.1), (2, .int t3.1), (0, .ref m0), (1, .int p0)]) hx hb dX7_instruction_95 rfl hl (by decide) rfl (fun ls hl => ?_)
            refine lv_aload_n hx hb dX7_instruction_96 rfl (lv_at hl 2 rfl) ?_
            refine va_get (D := G.1) (ci := 10) (v := .int t16.2.2.2.2) (C := RX7) (T := TX7) (N := 21) hx hb hts in_X7 hown hK hP 0 rfl rfl 12 (by decide) (hts _ k_fl_X7_109) (fun _ h9 => h9) rfl dX7_instruction_97 ?_
            refine lv_if_ne (tgt := 113) hx hb dX7_instruction_100 (by decide) (fun c_17 => ?_) (fun c_17 => ?_)
            · skip
              have ef : (f_X7_instruction len ec ep pos bg bad plc text draft wri p0) = (t16.2.1, t16.2.2.1, t16.2.2.2.1, t10.2.2, t16.2.2.2.2, plc, draft, wri) := (by subst et16; subst et15; subst et10; subst et6; subst et3; exact ((if_pos c_1).trans ((if_pos c_2).trans ((if_pos c_4).trans ((if_neg c_7).trans ((if_neg c_11).trans (if_neg c_17)))))))
              exact gRetV F hr hlocks hK hP hD hS rfl (by rw [ef]) (Nat.le_of_ble_eq_true rfl) (Nat.le_of_ble_eq_true rfl) dX7_instruction_113
            · skip
              refine lv_aload_n hx hb dX7_instruction_103 rfl (lv_at hl 2 rfl) ?_
              refine lv_iload_n hx hb dX7_instruction_104 rfl (lv_at hl 3 rfl) ?_
              refine lv_iload_n hx hb dX7_instruction_105 rfl (lv_at hl 1 rfl) ?_
              refine lv_iload_n hx hb dX7_instruction_106 rfl (lv_at hl 0 rfl) ?_
              refine gS (As := [.int p0, .int t3.1, .int t16.1]) (rest := [.ref m0]) (wr := [(m0, .inr (10, [.int rz, .ref m1, .ref m2, .ref m3, .int hf, .int hs, .ref m6, .int len, .int t16.2.1, .int t16.2.2.1, .int t16.2.2.2.1, .int t10.2.2, .int t16.2.2.2.2, .ref m13, .ref m14, .int plc, .int sta, .ref m17, .ref m18, .ref m19, .int shm])), (m6, .inl (G.2.1.1, 600, .inl text)), (m13, .inl (G.2.1.1, 256, .inl draft)), (m14, .inl (G.2.1.2.1, 256, .inl wri))]) (ws' := [(m0, .inr (10, [.int rz, .ref m1, .ref m2, .ref m3, .int hf, .int hs, .ref m6, .int len, .int t16.2.1, .int t16.2.2.1, .int t16.2.2.2.1, .int t10.2.2, .int t16.2.2.2.2, .ref m13, .ref m14, .int plc, .int sta, .ref m17, .ref m18, .ref m19, .int shm])), (m6, .inl (G.2.1.1, 600, .inl text)), (m13, .inl (G.2.1.1, 256, .inl draft)), (m14, .inl (G.2.1.2.1, 256, .inl wri))]) F (c_X7_coded l G p0 t3.1 t16.1) okS_X7_coded k_ml_X7_166 rfl rfl ⟨Nat.le_of_ble_eq_true rfl, Nat.le_of_ble_eq_true rfl⟩ hN hK hP hD hS hA [] [0, 1, 2, 3] [0, 1, 2, 3] (by decide) rfl rfl (by decide) (by decide) (by decide) rfl rfl rfl hl.1 (Nat.le_of_ble_eq_true rfl) dX7_instruction_107 ⟨Nat.le_refl _, Nat.le_refl _⟩ (fun H locs hP hD hS => ?_)
              refine gV (As := [.int (f_X7_coded p0 t3.1 t16.1)]) (rest := []) (wr := [(m6, .inl (G.2.1.1, 600, .inl text))]) (ws' := [(m0, .inr (10, [.int rz, .ref m1, .ref m2, .ref m3, .int hf, .int hs, .ref m6, .int len, .int t16.2.1, .int t16.2.2.1, .int t16.2.2.2.1, .int t10.2.2, .int t16.2.2.2.2, .ref m13, .ref m14, .int ((f_X7_writes plc draft wri (f_X7_coded p0 t3.1 t16.1)).1), .int sta, .ref m17, .ref m18, .ref m19, .int shm])), (m6, .inl (G.2.1.1, 600, .inl text)), (m13, .inl (G.2.1.1, 256, .inl ((f_X7_writes plc draft wri (f_X7_coded p0 t3.1 t16.1)).2.1))), (m14, .inl (G.2.1.2.1, 256, .inl ((f_X7_writes plc draft wri (f_X7_coded p0 t3.1 t16.1)).2.2)))]) F (c_X7_writes l G m0 m1 m2 m3 m6 m13 m14 m17 m18 m19 rz hf hs len t16.2.1 t16.2.2.1 t16.2.2.2.1 t10.2.2 t16.2.2.2.2 plc sta shm draft wri (f_X7_coded p0 t3.1 t16.1) hplc) okV_X7_writes k_ml_X7_170 rfl rfl ⟨Nat.le_of_ble_eq_true rfl, Nat.le_of_ble_eq_true rfl⟩ hN hK hP hD hS hA [0, 2, 3] [1] [1, 0, 2, 3] (by decide) rfl rfl (by decide) (by decide) (by decide) rfl (q0 := 0) rfl rfl rfl rfl hl.1 (Nat.le_of_ble_eq_true rfl) dX7_instruction_110 ⟨Nat.le_refl _, Nat.le_refl _⟩ (fun H locs hP hD hS => ?_)
              generalize et18 : (f_X7_writes plc draft wri (f_X7_coded p0 t3.1 t16.1)) = t18 at hP hD ⊢
              have ef : (f_X7_instruction len ec ep pos bg bad plc text draft wri p0) = (t16.2.1, t16.2.2.1, t16.2.2.2.1, t10.2.2, t16.2.2.2.2, t18.1, t18.2.1, t18.2.2) := (by subst et18; subst et16; subst et15; subst et10; subst et6; subst et3; exact ((if_pos c_1).trans ((if_pos c_2).trans ((if_pos c_4).trans ((if_neg c_7).trans ((if_neg c_11).trans (if_pos c_17)))))))
              exact gRetV F hr hlocks hK hP hD hS rfl (by rw [ef]) (Nat.le_of_ble_eq_true rfl) (Nat.le_of_ble_eq_true rfl) dX7_instruction_113
    · skip
      refine lv_iload_n hx hb dX7_instruction_20 rfl (lv_at hl 1 rfl) ?_
      refine lv_bipush (v := 9) hx hb dX7_instruction_21 (by decide) ?_
      refine lv_icmp_ne (tgt := 37) hx hb dX7_instruction_23 (by decide) (fun c_19 => ?_) (fun c_19 => ?_)
      · skip
        refine lv_iconst (v := 0) hx hb dX7_instruction_37 (by decide) ?_
        refine lv_istore_n (lv' := [(2, .int 0), (0, .ref m0), (1, .int p0)]) hx hb dX7_instruction_38 rfl hl (by decide) rfl (fun ls hl => ?_)
        refine lv_aload_n hx hb dX7_instruction_39 rfl (lv_at hl 1 rfl) ?_
        refine va_get (D := G.1) (ci := 10) (v := .int plc) (C := RX7) (T := TX7) (N := 21) hx hb hts in_X7 hown hK hP 0 rfl rfl 15 (by decide) (hts _ k_fl_X7_148) (fun _ h9 => h9) rfl dX7_instruction_40 ?_
        refine gS (As := [.int plc]) (rest := []) (wr := [(m0, .inr (10, [.int rz, .ref m1, .ref m2, .ref m3, .int hf, .int hs, .ref m6, .int len, .int ec, .int ep, .int pos, .int bg, .int bad, .ref m13, .ref m14, .int plc, .int sta, .ref m17, .ref m18, .ref m19, .int shm])), (m6, .inl (G.2.1.1, 600, .inl text)), (m13, .inl (G.2.1.1, 256, .inl draft)), (m14, .inl (G.2.1.2.1, 256, .inl wri))]) (ws' := [(m0, .inr (10, [.int rz, .ref m1, .ref m2, .ref m3, .int hf, .int hs, .ref m6, .int len, .int ec, .int ep, .int pos, .int bg, .int bad, .ref m13, .ref m14, .int plc, .int sta, .ref m17, .ref m18, .ref m19, .int shm])), (m6, .inl (G.2.1.1, 600, .inl text)), (m13, .inl (G.2.1.1, 256, .inl draft)), (m14, .inl (G.2.1.2.1, 256, .inl wri))]) F (c_X7_after l G plc) okS_X7_after k_ml_X7_151 rfl rfl ⟨Nat.le_of_ble_eq_true rfl, Nat.le_of_ble_eq_true rfl⟩ hN hK hP hD hS hA [] [0, 1, 2, 3] [0, 1, 2, 3] (by decide) rfl rfl (by decide) (by decide) (by decide) rfl rfl rfl hl.1 (Nat.le_of_ble_eq_true rfl) dX7_instruction_43 ⟨Nat.le_refl _, Nat.le_refl _⟩ (fun H locs hP hD hS => ?_)
        refine lv_istore_n (lv' := [(3, .int (f_X7_after plc)), (2, .int 0), (0, .ref m0), (1, .int p0)]) hx hb dX7_instruction_46 rfl hl (by decide) rfl (fun ls hl => ?_)
        refine lv_aload_n hx hb dX7_instruction_47 rfl (lv_at hl 2 rfl) ?_
        refine va_get (D := G.1) (ci := 10) (v := .int bad) (C := RX7) (T := TX7) (N := 21) hx hb hts in_X7 hown hK hP 0 rfl rfl 12 (by decide) (hts _ k_fl_X7_109) (fun _ h9 => h9) rfl dX7_instruction_48 ?_
        refine lv_if_ne (tgt := 96) hx hb dX7_instruction_51 (by decide) (fun c_20 => ?_) (fun c_20 => ?_)
        · skip
          refine lv_aload_n hx hb dX7_instruction_96 rfl (lv_at hl 2 rfl) ?_
          refine va_get (D := G.1) (ci := 10) (v := .int bad) (C := RX7) (T := TX7) (N := 21) hx hb hts in_X7 hown hK hP 0 rfl rfl 12 (by decide) (hts _ k_fl_X7_109) (fun _ h9 => h9) rfl dX7_instruction_97 ?_
          refine lv_if_ne (tgt := 113) hx hb dX7_instruction_100 (by decide) (fun c_21 => ?_) (fun c_21 => ?_)
          · skip
            have ef : (f_X7_instruction len ec ep pos bg bad plc text draft wri p0) = (ec, ep, pos, bg, bad, plc, draft, wri) := ((if_pos c_1).trans ((if_neg c_2).trans ((if_neg c_19).trans (if_neg c_20))))
            exact gRetV F hr hlocks hK hP hD hS rfl (by rw [ef]) (Nat.le_of_ble_eq_true rfl) (Nat.le_of_ble_eq_true rfl) dX7_instruction_113
          · first | exact absurd c_20 c_21 | exact absurd c_21 c_20
        · skip
          refine lv_aload_n hx hb dX7_instruction_54 rfl (lv_at hl 2 rfl) ?_
          refine gV (As := []) (rest := []) (wr := [(m13, .inl (G.2.1.1, 256, .inl draft)), (m14, .inl (G.2.1.2.1, 256, .inl wri))]) (ws' := [(m0, .inr (10, [.int rz, .ref m1, .ref m2, .ref m3, .int hf, .int hs, .ref m6, .int len, .int ec, .int ep, .int ((f_X7_here len pos text).2), .int bg, .int bad, .ref m13, .ref m14, .int plc, .int sta, .ref m17, .ref m18, .ref m19, .int shm])), (m6, .inl (G.2.1.1, 600, .inl text)), (m13, .inl (G.2.1.1, 256, .inl draft)), (m14, .inl (G.2.1.2.1, 256, .inl wri))]) F (c_X7_here l G m0 m1 m2 m3 m6 m13 m14 m17 m18 m19 rz hf hs len ec ep pos bg bad plc sta shm text hlen (by have o0 : (0 : Int32).toInt = 0 := (by decide); have o1 : (1 : Int32).toInt = 1 := (by decide); omega)) okV_X7_here k_ml_X7_116 rfl rfl ⟨Nat.le_of_ble_eq_true rfl, Nat.le_of_ble_eq_true rfl⟩ hN hK hP hD hS hA [0, 1] [2, 3] [2, 3, 0, 1] (by decide) rfl rfl (by decide) (by decide) (by decide) rfl (q0 := 0) rfl rfl rfl rfl hl.1 (Nat.le_of_ble_eq_true rfl) dX7_instruction_55 ⟨Nat.le_refl _, Nat.le_refl _⟩ (fun H locs hP hD hS => ?_)
          generalize et22 : (f_X7_here len pos text) = t22 at hP hD ⊢
          refine lv_i2l (v := (Int32.toInt64 t22.1)) hx hb dX7_instruction_58 rfl ?_
          refine lv_ldc2 (v := 97) hx hb hown (hts _ k_lc_X7_120) dX7_instruction_59 ?_
          refine lv_ldc2 (v := 122) hx hb hown (hts _ k_lc_X7_122) dX7_instruction_62 ?_
          refine gS (As := [.long (Int32.toInt64 t22.1), .long 97, .long 122]) (rest := []) (wr := [(m0, .inr (10, [.int rz, .ref m1, .ref m2, .ref m3, .int hf, .int hs, .ref m6, .int len, .int ec, .int ep, .int t22.2, .int bg, .int bad, .ref m13, .ref m14, .int plc, .int sta, .ref m17, .ref m18, .ref m19, .int shm])), (m6, .inl (G.2.1.1, 600, .inl text)), (m13, .inl (G.2.1.1, 256, .inl draft)), (m14, .inl (G.2.1.2.1, 256, .inl wri))]) (ws' := [(m0, .inr (10, [.int rz, .ref m1, .ref m2, .ref m3, .int hf, .int hs, .ref m6, .int len, .int ec, .int ep, .int t22.2, .int bg, .int bad, .ref m13, .ref m14, .int plc, .int sta, .ref m17, .ref m18, .ref m19, .int shm])), (m6, .inl (G.2.1.1, 600, .inl text)), (m13, .inl (G.2.1.1, 256, .inl draft)), (m14, .inl (G.2.1.2.1, 256, .inl wri))]) F (c_X7_in l G (Int32.toInt64 t22.1) 97 122) okS_X7_in k_ml_X7_81 rfl rfl ⟨Nat.le_of_ble_eq_true rfl, Nat.le_of_ble_eq_true rfl⟩ hN hK hP hD hS hA [] [0, 1, 2, 3] [0, 1, 2, 3] (by decide) rfl rfl (by decide) (by decide) (by decide) rfl rfl rfl hl.1 (Nat.le_of_ble_eq_true rfl) dX7_instruction_65 ⟨Nat.le_refl _, Nat.le_refl _⟩ (fun H locs hP hD hS => ?_)
          refine lv_if_eq (tgt := 96) hx hb dX7_instruction_68 (by decide) (fun c_23 => ?_) (fun c_23 => ?_)
          · skip
            refine lv_aload_n hx hb dX7_instruction_96 rfl (lv_at hl 2 rfl) ?_
            refine va_get (D := G.1) (ci := 10) (v := .int bad) (C := RX7) (T := TX7) (N := 21) hx hb hts in_X7 hown hK hP 0 rfl rfl 12 (by decide) (hts _ k_fl_X7_109) (fun _ h9 => h9) rfl dX7_instruction_97 ?_
            refine lv_if_ne (tgt := 113) hx hb dX7_instruction_100 (by decide) (fun c_24 => ?_) (fun c_24 => ?_)
            · first | exact absurd c_20 c_24 | exact absurd c_24 c_20
            · skip
              refine lv_aload_n hx hb dX7_instruction_103 rfl (lv_at hl 2 rfl) ?_
              refine lv_iload_n hx hb dX7_instruction_104 rfl (lv_at hl 3 rfl) ?_
              refine lv_iload_n hx hb dX7_instruction_105 rfl (lv_at hl 1 rfl) ?_
              refine lv_iload_n hx hb dX7_instruction_106 rfl (lv_at hl 0 rfl) ?_
              refine gS (As := [.int p0, .int 0, .int (f_X7_after plc)]) (rest := [.ref m0]) (wr := [(m0, .inr (10, [.int rz, .ref m1, .ref m2, .ref m3, .int hf, .int hs, .ref m6, .int len, .int ec, .int ep, .int t22.2, .int bg, .int bad, .ref m13, .ref m14, .int plc, .int sta, .ref m17, .ref m18, .ref m19, .int shm])), (m6, .inl (G.2.1.1, 600, .inl text)), (m13, .inl (G.2.1.1, 256, .inl draft)), (m14, .inl (G.2.1.2.1, 256, .inl wri))]) (ws' := [(m0, .inr (10, [.int rz, .ref m1, .ref m2, .ref m3, .int hf, .int hs, .ref m6, .int len, .int ec, .int ep, .int t22.2, .int bg, .int bad, .ref m13, .ref m14, .int plc, .int sta, .ref m17, .ref m18, .ref m19, .int shm])), (m6, .inl (G.2.1.1, 600, .inl text)), (m13, .inl (G.2.1.1, 256, .inl draft)), (m14, .inl (G.2.1.2.1, 256, .inl wri))]) F (c_X7_coded l G p0 0 (f_X7_after plc)) okS_X7_coded k_ml_X7_166 rfl rfl ⟨Nat.le_of_ble_eq_true rfl, Nat.le_of_ble_eq_true rfl⟩ hN hK hP hD hS hA [] [0, 1, 2, 3] [0, 1, 2, 3] (by decide) rfl rfl (by decide) (by decide) (by decide) rfl rfl rfl hl.1 (Nat.le_of_ble_eq_true rfl) dX7_instruction_107 ⟨Nat.le_refl _, Nat.le_refl _⟩ (fun H locs hP hD hS => ?_)
              refine gV (As := [.int (f_X7_coded p0 0 (f_X7_after plc))]) (rest := []) (wr := [(m6, .inl (G.2.1.1, 600, .inl text))]) (ws' := [(m0, .inr (10, [.int rz, .ref m1, .ref m2, .ref m3, .int hf, .int hs, .ref m6, .int len, .int ec, .int ep, .int t22.2, .int bg, .int bad, .ref m13, .ref m14, .int ((f_X7_writes plc draft wri (f_X7_coded p0 0 (f_X7_after plc))).1), .int sta, .ref m17, .ref m18, .ref m19, .int shm])), (m6, .inl (G.2.1.1, 600, .inl text)), (m13, .inl (G.2.1.1, 256, .inl ((f_X7_writes plc draft wri (f_X7_coded p0 0 (f_X7_after plc))).2.1))), (m14, .inl (G.2.1.2.1, 256, .inl ((f_X7_writes plc draft wri (f_X7_coded p0 0 (f_X7_after plc))).2.2)))]) F (c_X7_writes l G m0 m1 m2 m3 m6 m13 m14 m17 m18 m19 rz hf hs len ec ep t22.2 bg bad plc sta shm draft wri (f_X7_coded p0 0 (f_X7_after plc)) hplc) okV_X7_writes k_ml_X7_170 rfl rfl ⟨Nat.le_of_ble_eq_true rfl, Nat.le_of_ble_eq_true rfl⟩ hN hK hP hD hS hA [0, 2, 3] [1] [1, 0, 2, 3] (by decide) rfl rfl (by decide) (by decide) (by decide) rfl (q0 := 0) rfl rfl rfl rfl hl.1 (Nat.le_of_ble_eq_true rfl) dX7_instruction_110 ⟨Nat.le_refl _, Nat.le_refl _⟩ (fun H locs hP hD hS => ?_)
              generalize et25 : (f_X7_writes plc draft wri (f_X7_coded p0 0 (f_X7_after plc))) = t25 at hP hD ⊢
              have ef : (f_X7_instruction len ec ep pos bg bad plc text draft wri p0) = (ec, ep, t22.2, bg, bad, t25.1, t25.2.1, t25.2.2) := (by subst et25; subst et22; exact ((if_pos c_1).trans ((if_neg c_2).trans ((if_neg c_19).trans ((if_pos c_20).trans (if_pos c_23))))))
              exact gRetV F hr hlocks hK hP hD hS rfl (by rw [ef]) (Nat.le_of_ble_eq_true rfl) (Nat.le_of_ble_eq_true rfl) dX7_instruction_113
          · skip
            refine lv_aload_n hx hb dX7_instruction_71 rfl (lv_at hl 2 rfl) ?_
            refine gV (As := []) (rest := []) (wr := [(m13, .inl (G.2.1.1, 256, .inl draft)), (m14, .inl (G.2.1.2.1, 256, .inl wri))]) (ws' := [(m0, .inr (10, [.int rz, .ref m1, .ref m2, .ref m3, .int hf, .int hs, .ref m6, .int len, .int ec, .int ep, .int ((f_X7_word len t22.2 text).2.1), .int ((f_X7_word len t22.2 text).2.2), .int bad, .ref m13, .ref m14, .int plc, .int sta, .ref m17, .ref m18, .ref m19, .int shm])), (m6, .inl (G.2.1.1, 600, .inl text)), (m13, .inl (G.2.1.1, 256, .inl draft)), (m14, .inl (G.2.1.2.1, 256, .inl wri))]) F (c_X7_word l G m0 m1 m2 m3 m6 m13 m14 m17 m18 m19 rz hf hs len ec ep t22.2 bg bad plc sta shm text hlen (by have o0 : (0 : Int32).toInt = 0 := (by decide); have o1 : (1 : Int32).toInt = 1 := (by decide); have q0 := here_pos hlen (by omega) et22; omega)) okV_X7_word k_ml_X7_160 rfl rfl ⟨Nat.le_of_ble_eq_true rfl, Nat.le_of_ble_eq_true rfl⟩ hN hK hP hD hS hA [0, 1] [2, 3] [2, 3, 0, 1] (by decide) rfl rfl (by decide) (by decide) (by decide) rfl (q0 := 0) rfl rfl rfl rfl hl.1 (Nat.le_of_ble_eq_true rfl) dX7_instruction_72 ⟨Nat.le_refl _, Nat.le_refl _⟩ (fun H locs hP hD hS => ?_)
            generalize et26 : (f_X7_word len t22.2 text) = t26 at hP hD ⊢
            refine lv_ldc2 (v := 399641) hx hb hown (hts _ k_lc_X7_164) dX7_instruction_75 ?_
            refine gLc_eq (tgt := 91) hx hb dX7_instruction_78 dX7_instruction_79 (by decide) (fun c_27 => ?_) (fun c_27 => ?_)
            · skip
              refine lv_aload_n hx hb dX7_instruction_91 rfl (lv_at hl 2 rfl) ?_
              refine gV (As := []) (rest := []) (wr := [(m13, .inl (G.2.1.1, 256, .inl draft)), (m14, .inl (G.2.1.2.1, 256, .inl wri))]) (ws' := [(m0, .inr (10, [.int rz, .ref m1, .ref m2, .ref m3, .int hf, .int hs, .ref m6, .int len, .int ((f_X7_readLocation len ec ep t26.2.1 bad text).2.1), .int ((f_X7_readLocation len ec ep t26.2.1 bad text).2.2.1), .int ((f_X7_readLocation len ec ep t26.2.1 bad text).2.2.2.1), .int t26.2.2, .int ((f_X7_readLocation len ec ep t26.2.1 bad text).2.2.2.2), .ref m13, .ref m14, .int plc, .int sta, .ref m17, .ref m18, .ref m19, .int shm])), (m6, .inl (G.2.1.1, 600, .inl text)), (m13, .inl (G.2.1.1, 256, .inl draft)), (m14, .inl (G.2.1.2.1, 256, .inl wri))]) F (c_X7_readLocation l G m0 m1 m2 m3 m6 m13 m14 m17 m18 m19 rz hf hs len ec ep t26.2.1 t26.2.2 bad plc sta shm text hlen (by have o0 : (0 : Int32).toInt = 0 := (by decide); have o1 : (1 : Int32).toInt = 1 := (by decide); have q0 := here_pos hlen (by omega) et22; have q1 := word_pos hlen (by omega) et26; omega)) okV_X7_readLocation k_ml_X7_157 rfl rfl ⟨Nat.le_of_ble_eq_true rfl, Nat.le_of_ble_eq_true rfl⟩ hN hK hP hD hS hA [0, 1] [2, 3] [2, 3, 0, 1] (by decide) rfl rfl (by decide) (by decide) (by decide) rfl (q0 := 0) rfl rfl rfl rfl hl.1 (Nat.le_of_ble_eq_true rfl) dX7_instruction_92 ⟨Nat.le_refl _, Nat.le_refl _⟩ (fun H locs hP hD hS => ?_)
              generalize et28 : (f_X7_readLocation len ec ep t26.2.1 bad text) = t28 at hP hD ⊢
              refine lv_istore_n (lv' := [(3, .int t28.1), (2, .int 0), (0, .ref m0), (1, .int p0)]) hx hb dX7_instruction_95 rfl hl (by decide) rfl (fun ls hl => ?_)
              refine lv_aload_n hx hb dX7_instruction_96 rfl (lv_at hl 2 rfl) ?_
              refine va_get (D := G.1) (ci := 10) (v := .int t28.2.2.2.2) (C := RX7) (T := TX7) (N := 21) hx hb hts in_X7 hown hK hP 0 rfl rfl 12 (by decide) (hts _ k_fl_X7_109) (fun _ h9 => h9) rfl dX7_instruction_97 ?_
              refine lv_if_ne (tgt := 113) hx hb dX7_instruction_100 (by decide) (fun c_29 => ?_) (fun c_29 => ?_)
              · skip
                have ef : (f_X7_instruction len ec ep pos bg bad plc text draft wri p0) = (t28.2.1, t28.2.2.1, t28.2.2.2.1, t26.2.2, t28.2.2.2.2, plc, draft, wri) := (by subst et28; subst et26; subst et22; exact ((if_pos c_1).trans ((if_neg c_2).trans ((if_neg c_19).trans ((if_pos c_20).trans ((if_neg c_23).trans ((if_pos c_27).trans (if_neg c_29))))))))
                exact gRetV F hr hlocks hK hP hD hS rfl (by rw [ef]) (Nat.le_of_ble_eq_true rfl) (Nat.le_of_ble_eq_true rfl) dX7_instruction_113
              · skip
                refine lv_aload_n hx hb dX7_instruction_103 rfl (lv_at hl 2 rfl) ?_
                refine lv_iload_n hx hb dX7_instruction_104 rfl (lv_at hl 3 rfl) ?_
                refine lv_iload_n hx hb dX7_instruction_105 rfl (lv_at hl 1 rfl) ?_
                refine lv_iload_n hx hb dX7_instruction_106 rfl (lv_at hl 0 rfl) ?_
                refine gS (As := [.int p0, .int 0, .int t28.1]) (rest := [.ref m0]) (wr := [(m0, .inr (10, [.int rz, .ref m1, .ref m2, .ref m3, .int hf, .int hs, .ref m6, .int len, .int t28.2.1, .int t28.2.2.1, .int t28.2.2.2.1, .int t26.2.2, .int t28.2.2.2.2, .ref m13, .ref m14, .int plc, .int sta, .ref m17, .ref m18, .ref m19, .int shm])), (m6, .inl (G.2.1.1, 600, .inl text)), (m13, .inl (G.2.1.1, 256, .inl draft)), (m14, .inl (G.2.1.2.1, 256, .inl wri))]) (ws' := [(m0, .inr (10, [.int rz, .ref m1, .ref m2, .ref m3, .int hf, .int hs, .ref m6, .int len, .int t28.2.1, .int t28.2.2.1, .int t28.2.2.2.1, .int t26.2.2, .int t28.2.2.2.2, .ref m13, .ref m14, .int plc, .int sta, .ref m17, .ref m18, .ref m19, .int shm])), (m6, .inl (G.2.1.1, 600, .inl text)), (m13, .inl (G.2.1.1, 256, .inl draft)), (m14, .inl (G.2.1.2.1, 256, .inl wri))]) F (c_X7_coded l G p0 0 t28.1) okS_X7_coded k_ml_X7_166 rfl rfl ⟨Nat.le_of_ble_eq_true rfl, Nat.le_of_ble_eq_true rfl⟩ hN hK hP hD hS hA [] [0, 1, 2, 3] [0, 1, 2, 3] (by decide) rfl rfl (by decide) (by decide) (by decide) rfl rfl rfl hl.1 (Nat.le_of_ble_eq_true rfl) dX7_instruction_107 ⟨Nat.le_refl _, Nat.le_refl _⟩ (fun H locs hP hD hS => ?_)
                refine gV (As := [.int (f_X7_coded p0 0 t28.1)]) (rest := []) (wr := [(m6, .inl (G.2.1.1, 600, .inl text))]) (ws' := [(m0, .inr (10, [.int rz, .ref m1, .ref m2, .ref m3, .int hf, .int hs, .ref m6, .int len, .int t28.2.1, .int t28.2.2.1, .int t28.2.2.2.1, .int t26.2.2, .int t28.2.2.2.2, .ref m13, .ref m14, .int ((f_X7_writes plc draft wri (f_X7_coded p0 0 t28.1)).1), .int sta, .ref m17, .ref m18, .ref m19, .int shm])), (m6, .inl (G.2.1.1, 600, .inl text)), (m13, .inl (G.2.1.1, 256, .inl ((f_X7_writes plc draft wri (f_X7_coded p0 0 t28.1)).2.1))), (m14, .inl (G.2.1.2.1, 256, .inl ((f_X7_writes plc draft wri (f_X7_coded p0 0 t28.1)).2.2)))]) F (c_X7_writes l G m0 m1 m2 m3 m6 m13 m14 m17 m18 m19 rz hf hs len t28.2.1 t28.2.2.1 t28.2.2.2.1 t26.2.2 t28.2.2.2.2 plc sta shm draft wri (f_X7_coded p0 0 t28.1) hplc) okV_X7_writes k_ml_X7_170 rfl rfl ⟨Nat.le_of_ble_eq_true rfl, Nat.le_of_ble_eq_true rfl⟩ hN hK hP hD hS hA [0, 2, 3] [1] [1, 0, 2, 3] (by decide) rfl rfl (by decide) (by decide) (by decide) rfl (q0 := 0) rfl rfl rfl rfl hl.1 (Nat.le_of_ble_eq_true rfl) dX7_instruction_110 ⟨Nat.le_refl _, Nat.le_refl _⟩ (fun H locs hP hD hS => ?_)
                generalize et30 : (f_X7_writes plc draft wri (f_X7_coded p0 0 t28.1)) = t30 at hP hD ⊢
                have ef : (f_X7_instruction len ec ep pos bg bad plc text draft wri p0) = (t28.2.1, t28.2.2.1, t28.2.2.2.1, t26.2.2, t28.2.2.2.2, t30.1, t30.2.1, t30.2.2) := (by subst et30; subst et28; subst et26; subst et22; exact ((if_pos c_1).trans ((if_neg c_2).trans ((if_neg c_19).trans ((if_pos c_20).trans ((if_neg c_23).trans ((if_pos c_27).trans (if_pos c_29))))))))
                exact gRetV F hr hlocks hK hP hD hS rfl (by rw [ef]) (Nat.le_of_ble_eq_true rfl) (Nat.le_of_ble_eq_true rfl) dX7_instruction_113
            · skip
              refine lv_aload_n hx hb dX7_instruction_82 rfl (lv_at hl 2 rfl) ?_
              refine lv_iconst (v := 1) hx hb dX7_instruction_83 (by decide) ?_
              refine lv_aload_n hx hb dX7_instruction_84 rfl (lv_at hl 2 rfl) ?_
              refine va_get (D := G.1) (ci := 10) (v := .int t26.2.2) (C := RX7) (T := TX7) (N := 21) hx hb hts in_X7 hown hK hP 0 rfl rfl 11 (by decide) (hts _ k_fl_X7_124) (fun _ h9 => h9) rfl dX7_instruction_85 ?_
              refine gV (As := [.int 1, .int t26.2.2]) (rest := []) (wr := [(m6, .inl (G.2.1.1, 600, .inl text)), (m13, .inl (G.2.1.1, 256, .inl draft)), (m14, .inl (G.2.1.2.1, 256, .inl wri))]) (ws' := [(m0, .inr (10, [.int rz, .ref m1, .ref m2, .ref m3, .int hf, .int hs, .ref m6, .int len, .int ((f_X7_wrong ec ep bad 1 t26.2.2).1), .int ((f_X7_wrong ec ep bad 1 t26.2.2).2.1), .int t26.2.1, .int t26.2.2, .int ((f_X7_wrong ec ep bad 1 t26.2.2).2.2), .ref m13, .ref m14, .int plc, .int sta, .ref m17, .ref m18, .ref m19, .int shm])), (m6, .inl (G.2.1.1, 600, .inl text)), (m13, .inl (G.2.1.1, 256, .inl draft)), (m14, .inl (G.2.1.2.1, 256, .inl wri))]) F (c_X7_wrong l G m0 m1 m2 m3 m6 m13 m14 m17 m18 m19 rz hf hs len ec ep t26.2.1 t26.2.2 bad plc sta shm 1 t26.2.2) okV_X7_wrong k_ml_X7_137 rfl rfl ⟨Nat.le_of_ble_eq_true rfl, Nat.le_of_ble_eq_true rfl⟩ hN hK hP hD hS hA [0] [1, 2, 3] [3, 0, 1, 2] (by decide) rfl rfl (by decide) (by decide) (by decide) rfl (q0 := 0) rfl rfl rfl rfl hl.1 (Nat.le_of_ble_eq_true rfl) dX7_instruction_88 ⟨Nat.le_refl _, Nat.le_refl _⟩ (fun H locs hP hD hS => ?_)
              generalize et31 : (f_X7_wrong ec ep bad 1 t26.2.2) = t31 at hP hD ⊢
              refine lv_aload_n hx hb dX7_instruction_91 rfl (lv_at hl 2 rfl) ?_
              refine gV (As := []) (rest := []) (wr := [(m13, .inl (G.2.1.1, 256, .inl draft)), (m14, .inl (G.2.1.2.1, 256, .inl wri))]) (ws' := [(m0, .inr (10, [.int rz, .ref m1, .ref m2, .ref m3, .int hf, .int hs, .ref m6, .int len, .int ((f_X7_readLocation len t31.1 t31.2.1 t26.2.1 t31.2.2 text).2.1), .int ((f_X7_readLocation len t31.1 t31.2.1 t26.2.1 t31.2.2 text).2.2.1), .int ((f_X7_readLocation len t31.1 t31.2.1 t26.2.1 t31.2.2 text).2.2.2.1), .int t26.2.2, .int ((f_X7_readLocation len t31.1 t31.2.1 t26.2.1 t31.2.2 text).2.2.2.2), .ref m13, .ref m14, .int plc, .int sta, .ref m17, .ref m18, .ref m19, .int shm])), (m6, .inl (G.2.1.1, 600, .inl text)), (m13, .inl (G.2.1.1, 256, .inl draft)), (m14, .inl (G.2.1.2.1, 256, .inl wri))]) F (c_X7_readLocation l G m0 m1 m2 m3 m6 m13 m14 m17 m18 m19 rz hf hs len t31.1 t31.2.1 t26.2.1 t26.2.2 t31.2.2 plc sta shm text hlen (by have o0 : (0 : Int32).toInt = 0 := (by decide); have o1 : (1 : Int32).toInt = 1 := (by decide); have q0 := here_pos hlen (by omega) et22; have q1 := word_pos hlen (by omega) et26; omega)) okV_X7_readLocation k_ml_X7_157 rfl rfl ⟨Nat.le_of_ble_eq_true rfl, Nat.le_of_ble_eq_true rfl⟩ hN hK hP hD hS hA [0, 1] [2, 3] [2, 3, 0, 1] (by decide) rfl rfl (by decide) (by decide) (by decide) rfl (q0 := 0) rfl rfl rfl rfl hl.1 (Nat.le_of_ble_eq_true rfl) dX7_instruction_92 ⟨Nat.le_refl _, Nat.le_refl _⟩ (fun H locs hP hD hS => ?_)
              generalize et32 : (f_X7_readLocation len t31.1 t31.2.1 t26.2.1 t31.2.2 text) = t32 at hP hD ⊢
              refine lv_istore_n (lv' := [(3, .int t32.1), (2, .int 0), (0, .ref m0), (1, .int p0)]) hx hb dX7_instruction_95 rfl hl (by decide) rfl (fun ls hl => ?_)
              refine lv_aload_n hx hb dX7_instruction_96 rfl (lv_at hl 2 rfl) ?_
              refine va_get (D := G.1) (ci := 10) (v := .int t32.2.2.2.2) (C := RX7) (T := TX7) (N := 21) hx hb hts in_X7 hown hK hP 0 rfl rfl 12 (by decide) (hts _ k_fl_X7_109) (fun _ h9 => h9) rfl dX7_instruction_97 ?_
              refine lv_if_ne (tgt := 113) hx hb dX7_instruction_100 (by decide) (fun c_33 => ?_) (fun c_33 => ?_)
              · skip
                have ef : (f_X7_instruction len ec ep pos bg bad plc text draft wri p0) = (t32.2.1, t32.2.2.1, t32.2.2.2.1, t26.2.2, t32.2.2.2.2, plc, draft, wri) := (by subst et32; subst et31; subst et26; subst et22; exact ((if_pos c_1).trans ((if_neg c_2).trans ((if_neg c_19).trans ((if_pos c_20).trans ((if_neg c_23).trans ((if_neg c_27).trans (if_neg c_33))))))))
                exact gRetV F hr hlocks hK hP hD hS rfl (by rw [ef]) (Nat.le_of_ble_eq_true rfl) (Nat.le_of_ble_eq_true rfl) dX7_instruction_113
              · skip
                refine lv_aload_n hx hb dX7_instruction_103 rfl (lv_at hl 2 rfl) ?_
                refine lv_iload_n hx hb dX7_instruction_104 rfl (lv_at hl 3 rfl) ?_
                refine lv_iload_n hx hb dX7_instruction_105 rfl (lv_at hl 1 rfl) ?_
                refine lv_iload_n hx hb dX7_instruction_106 rfl (lv_at hl 0 rfl) ?_
                refine gS (As := [.int p0, .int 0, .int t32.1]) (rest := [.ref m0]) (wr := [(m0, .inr (10, [.int rz, .ref m1, .ref m2, .ref m3, .int hf, .int hs, .ref m6, .int len, .int t32.2.1, .int t32.2.2.1, .int t32.2.2.2.1, .int t26.2.2, .int t32.2.2.2.2, .ref m13, .ref m14, .int plc, .int sta, .ref m17, .ref m18, .ref m19, .int shm])), (m6, .inl (G.2.1.1, 600, .inl text)), (m13, .inl (G.2.1.1, 256, .inl draft)), (m14, .inl (G.2.1.2.1, 256, .inl wri))]) (ws' := [(m0, .inr (10, [.int rz, .ref m1, .ref m2, .ref m3, .int hf, .int hs, .ref m6, .int len, .int t32.2.1, .int t32.2.2.1, .int t32.2.2.2.1, .int t26.2.2, .int t32.2.2.2.2, .ref m13, .ref m14, .int plc, .int sta, .ref m17, .ref m18, .ref m19, .int shm])), (m6, .inl (G.2.1.1, 600, .inl text)), (m13, .inl (G.2.1.1, 256, .inl draft)), (m14, .inl (G.2.1.2.1, 256, .inl wri))]) F (c_X7_coded l G p0 0 t32.1) okS_X7_coded k_ml_X7_166 rfl rfl ⟨Nat.le_of_ble_eq_true rfl, Nat.le_of_ble_eq_true rfl⟩ hN hK hP hD hS hA [] [0, 1, 2, 3] [0, 1, 2, 3] (by decide) rfl rfl (by decide) (by decide) (by decide) rfl rfl rfl hl.1 (Nat.le_of_ble_eq_true rfl) dX7_instruction_107 ⟨Nat.le_refl _, Nat.le_refl _⟩ (fun H locs hP hD hS => ?_)
                refine gV (As := [.int (f_X7_coded p0 0 t32.1)]) (rest := []) (wr := [(m6, .inl (G.2.1.1, 600, .inl text))]) (ws' := [(m0, .inr (10, [.int rz, .ref m1, .ref m2, .ref m3, .int hf, .int hs, .ref m6, .int len, .int t32.2.1, .int t32.2.2.1, .int t32.2.2.2.1, .int t26.2.2, .int t32.2.2.2.2, .ref m13, .ref m14, .int ((f_X7_writes plc draft wri (f_X7_coded p0 0 t32.1)).1), .int sta, .ref m17, .ref m18, .ref m19, .int shm])), (m6, .inl (G.2.1.1, 600, .inl text)), (m13, .inl (G.2.1.1, 256, .inl ((f_X7_writes plc draft wri (f_X7_coded p0 0 t32.1)).2.1))), (m14, .inl (G.2.1.2.1, 256, .inl ((f_X7_writes plc draft wri (f_X7_coded p0 0 t32.1)).2.2)))]) F (c_X7_writes l G m0 m1 m2 m3 m6 m13 m14 m17 m18 m19 rz hf hs len t32.2.1 t32.2.2.1 t32.2.2.2.1 t26.2.2 t32.2.2.2.2 plc sta shm draft wri (f_X7_coded p0 0 t32.1) hplc) okV_X7_writes k_ml_X7_170 rfl rfl ⟨Nat.le_of_ble_eq_true rfl, Nat.le_of_ble_eq_true rfl⟩ hN hK hP hD hS hA [0, 2, 3] [1] [1, 0, 2, 3] (by decide) rfl rfl (by decide) (by decide) (by decide) rfl (q0 := 0) rfl rfl rfl rfl hl.1 (Nat.le_of_ble_eq_true rfl) dX7_instruction_110 ⟨Nat.le_refl _, Nat.le_refl _⟩ (fun H locs hP hD hS => ?_)
                generalize et34 : (f_X7_writes plc draft wri (f_X7_coded p0 0 t32.1)) = t34 at hP hD ⊢
                have ef : (f_X7_instruction len ec ep pos bg bad plc text draft wri p0) = (t32.2.1, t32.2.2.1, t32.2.2.2.1, t26.2.2, t32.2.2.2.2, t34.1, t34.2.1, t34.2.2) := (by subst et34; subst et32; subst et31; subst et26; subst et22; exact ((if_pos c_1).trans ((if_neg c_2).trans ((if_neg c_19).trans ((if_pos c_20).trans ((if_neg c_23).trans ((if_neg c_27).trans (if_pos c_33))))))))
                exact gRetV F hr hlocks hK hP hD hS rfl (by rw [ef]) (Nat.le_of_ble_eq_true rfl) (Nat.le_of_ble_eq_true rfl) dX7_instruction_113
      · skip
        refine lv_aload_n hx hb dX7_instruction_26 rfl (lv_at hl 0 rfl) ?_
        refine lv_iconst (v := 0) hx hb dX7_instruction_27 (by decide) ?_
        refine lv_bipush (v := 31) hx hb dX7_instruction_28 (by decide) ?_
        refine lv_iconst (v := 0) hx hb dX7_instruction_30 (by decide) ?_
        refine gV (As := [.int 0, .int 31, .int 0]) (rest := []) (wr := [(m13, .inl (G.2.1.1, 256, .inl draft)), (m14, .inl (G.2.1.2.1, 256, .inl wri))]) (ws' := [(m0, .inr (10, [.int rz, .ref m1, .ref m2, .ref m3, .int hf, .int hs, .ref m6, .int len, .int ((f_X7_number len ec ep pos bad text 0 31 0).2.1), .int ((f_X7_number len ec ep pos bad text 0 31 0).2.2.1), .int ((f_X7_number len ec ep pos bad text 0 31 0).2.2.2.1), .int bg, .int ((f_X7_number len ec ep pos bad text 0 31 0).2.2.2.2), .ref m13, .ref m14, .int plc, .int sta, .ref m17, .ref m18, .ref m19, .int shm])), (m6, .inl (G.2.1.1, 600, .inl text)), (m13, .inl (G.2.1.1, 256, .inl draft)), (m14, .inl (G.2.1.2.1, 256, .inl wri))]) F (c_X7_number l G m0 m1 m2 m3 m6 m13 m14 m17 m18 m19 rz hf hs len ec ep pos bg bad plc sta shm text 0 31 0 hlen (by have o0 : (0 : Int32).toInt = 0 := (by decide); have o1 : (1 : Int32).toInt = 1 := (by decide); omega)) okV_X7_number k_ml_X7_141 rfl rfl ⟨Nat.le_of_ble_eq_true rfl, Nat.le_of_ble_eq_true rfl⟩ hN hK hP hD hS hA [0, 1] [2, 3] [2, 3, 0, 1] (by decide) rfl rfl (by decide) (by decide) (by decide) rfl (q0 := 0) rfl rfl rfl rfl hl.1 (Nat.le_of_ble_eq_true rfl) dX7_instruction_31 ⟨Nat.le_refl _, Nat.le_refl _⟩ (fun H locs hP hD hS => ?_)
        generalize et35 : (f_X7_number len ec ep pos bad text 0 31 0) = t35 at hP hD ⊢
        refine lv_goto (tgt := 38) hx hb dX7_instruction_34 (by decide) ?_
        refine lv_istore_n (lv' := [(2, .int t35.1), (0, .ref m0), (1, .int p0)]) hx hb dX7_instruction_38 rfl hl (by decide) rfl (fun ls hl => ?_)
        refine lv_aload_n hx hb dX7_instruction_39 rfl (lv_at hl 1 rfl) ?_
        refine va_get (D := G.1) (ci := 10) (v := .int plc) (C := RX7) (T := TX7) (N := 21) hx hb hts in_X7 hown hK hP 0 rfl rfl 15 (by decide) (hts _ k_fl_X7_148) (fun _ h9 => h9) rfl dX7_instruction_40 ?_
        refine gS (As := [.int plc]) (rest := []) (wr := [(m0, .inr (10, [.int rz, .ref m1, .ref m2, .ref m3, .int hf, .int hs, .ref m6, .int len, .int t35.2.1, .int t35.2.2.1, .int t35.2.2.2.1, .int bg, .int t35.2.2.2.2, .ref m13, .ref m14, .int plc, .int sta, .ref m17, .ref m18, .ref m19, .int shm])), (m6, .inl (G.2.1.1, 600, .inl text)), (m13, .inl (G.2.1.1, 256, .inl draft)), (m14, .inl (G.2.1.2.1, 256, .inl wri))]) (ws' := [(m0, .inr (10, [.int rz, .ref m1, .ref m2, .ref m3, .int hf, .int hs, .ref m6, .int len, .int t35.2.1, .int t35.2.2.1, .int t35.2.2.2.1, .int bg, .int t35.2.2.2.2, .ref m13, .ref m14, .int plc, .int sta, .ref m17, .ref m18, .ref m19, .int shm])), (m6, .inl (G.2.1.1, 600, .inl text)), (m13, .inl (G.2.1.1, 256, .inl draft)), (m14, .inl (G.2.1.2.1, 256, .inl wri))]) F (c_X7_after l G plc) okS_X7_after k_ml_X7_151 rfl rfl ⟨Nat.le_of_ble_eq_true rfl, Nat.le_of_ble_eq_true rfl⟩ hN hK hP hD hS hA [] [0, 1, 2, 3] [0, 1, 2, 3] (by decide) rfl rfl (by decide) (by decide) (by decide) rfl rfl rfl hl.1 (Nat.le_of_ble_eq_true rfl) dX7_instruction_43 ⟨Nat.le_refl _, Nat.le_refl _⟩ (fun H locs hP hD hS => ?_)
        refine lv_istore_n (lv' := [(3, .int (f_X7_after plc)), (2, .int t35.1), (0, .ref m0), (1, .int p0)]) hx hb dX7_instruction_46 rfl hl (by decide) rfl (fun ls hl => ?_)
        refine lv_aload_n hx hb dX7_instruction_47 rfl (lv_at hl 2 rfl) ?_
        refine va_get (D := G.1) (ci := 10) (v := .int t35.2.2.2.2) (C := RX7) (T := TX7) (N := 21) hx hb hts in_X7 hown hK hP 0 rfl rfl 12 (by decide) (hts _ k_fl_X7_109) (fun _ h9 => h9) rfl dX7_instruction_48 ?_
        refine lv_if_ne (tgt := 96) hx hb dX7_instruction_51 (by decide) (fun c_36 => ?_) (fun c_36 => ?_)
        · skip
          refine lv_aload_n hx hb dX7_instruction_96 rfl (lv_at hl 2 rfl) ?_
          refine va_get (D := G.1) (ci := 10) (v := .int t35.2.2.2.2) (C := RX7) (T := TX7) (N := 21) hx hb hts in_X7 hown hK hP 0 rfl rfl 12 (by decide) (hts _ k_fl_X7_109) (fun _ h9 => h9) rfl dX7_instruction_97 ?_
          refine lv_if_ne (tgt := 113) hx hb dX7_instruction_100 (by decide) (fun c_37 => ?_) (fun c_37 => ?_)
          · skip
            have ef : (f_X7_instruction len ec ep pos bg bad plc text draft wri p0) = (t35.2.1, t35.2.2.1, t35.2.2.2.1, bg, t35.2.2.2.2, plc, draft, wri) := (by subst et35; exact ((if_pos c_1).trans ((if_neg c_2).trans ((if_pos c_19).trans (if_neg c_36)))))
            exact gRetV F hr hlocks hK hP hD hS rfl (by rw [ef]) (Nat.le_of_ble_eq_true rfl) (Nat.le_of_ble_eq_true rfl) dX7_instruction_113
          · first | exact absurd c_36 c_37 | exact absurd c_37 c_36
        · skip
          refine lv_aload_n hx hb dX7_instruction_54 rfl (lv_at hl 2 rfl) ?_
          refine gV (As := []) (rest := []) (wr := [(m13, .inl (G.2.1.1, 256, .inl draft)), (m14, .inl (G.2.1.2.1, 256, .inl wri))]) (ws' := [(m0, .inr (10, [.int rz, .ref m1, .ref m2, .ref m3, .int hf, .int hs, .ref m6, .int len, .int t35.2.1, .int t35.2.2.1, .int ((f_X7_here len t35.2.2.2.1 text).2), .int bg, .int t35.2.2.2.2, .ref m13, .ref m14, .int plc, .int sta, .ref m17, .ref m18, .ref m19, .int shm])), (m6, .inl (G.2.1.1, 600, .inl text)), (m13, .inl (G.2.1.1, 256, .inl draft)), (m14, .inl (G.2.1.2.1, 256, .inl wri))]) F (c_X7_here l G m0 m1 m2 m3 m6 m13 m14 m17 m18 m19 rz hf hs len t35.2.1 t35.2.2.1 t35.2.2.2.1 bg t35.2.2.2.2 plc sta shm text hlen (by have o0 : (0 : Int32).toInt = 0 := (by decide); have o1 : (1 : Int32).toInt = 1 := (by decide); have q0 := number_pos hlen (by omega) et35; omega)) okV_X7_here k_ml_X7_116 rfl rfl ⟨Nat.le_of_ble_eq_true rfl, Nat.le_of_ble_eq_true rfl⟩ hN hK hP hD hS hA [0, 1] [2, 3] [2, 3, 0, 1] (by decide) rfl rfl (by decide) (by decide) (by decide) rfl (q0 := 0) rfl rfl rfl rfl hl.1 (Nat.le_of_ble_eq_true rfl) dX7_instruction_55 ⟨Nat.le_refl _, Nat.le_refl _⟩ (fun H locs hP hD hS => ?_)
          generalize et38 : (f_X7_here len t35.2.2.2.1 text) = t38 at hP hD ⊢
          refine lv_i2l (v := (Int32.toInt64 t38.1)) hx hb dX7_instruction_58 rfl ?_
          refine lv_ldc2 (v := 97) hx hb hown (hts _ k_lc_X7_120) dX7_instruction_59 ?_
          refine lv_ldc2 (v := 122) hx hb hown (hts _ k_lc_X7_122) dX7_instruction_62 ?_
          refine gS (As := [.long (Int32.toInt64 t38.1), .long 97, .long 122]) (rest := []) (wr := [(m0, .inr (10, [.int rz, .ref m1, .ref m2, .ref m3, .int hf, .int hs, .ref m6, .int len, .int t35.2.1, .int t35.2.2.1, .int t38.2, .int bg, .int t35.2.2.2.2, .ref m13, .ref m14, .int plc, .int sta, .ref m17, .ref m18, .ref m19, .int shm])), (m6, .inl (G.2.1.1, 600, .inl text)), (m13, .inl (G.2.1.1, 256, .inl draft)), (m14, .inl (G.2.1.2.1, 256, .inl wri))]) (ws' := [(m0, .inr (10, [.int rz, .ref m1, .ref m2, .ref m3, .int hf, .int hs, .ref m6, .int len, .int t35.2.1, .int t35.2.2.1, .int t38.2, .int bg, .int t35.2.2.2.2, .ref m13, .ref m14, .int plc, .int sta, .ref m17, .ref m18, .ref m19, .int shm])), (m6, .inl (G.2.1.1, 600, .inl text)), (m13, .inl (G.2.1.1, 256, .inl draft)), (m14, .inl (G.2.1.2.1, 256, .inl wri))]) F (c_X7_in l G (Int32.toInt64 t38.1) 97 122) okS_X7_in k_ml_X7_81 rfl rfl ⟨Nat.le_of_ble_eq_true rfl, Nat.le_of_ble_eq_true rfl⟩ hN hK hP hD hS hA [] [0, 1, 2, 3] [0, 1, 2, 3] (by decide) rfl rfl (by decide) (by decide) (by decide) rfl rfl rfl hl.1 (Nat.le_of_ble_eq_true rfl) dX7_instruction_65 ⟨Nat.le_refl _, Nat.le_refl _⟩ (fun H locs hP hD hS => ?_)
          refine lv_if_eq (tgt := 96) hx hb dX7_instruction_68 (by decide) (fun c_39 => ?_) (fun c_39 => ?_)
          · skip
            refine lv_aload_n hx hb dX7_instruction_96 rfl (lv_at hl 2 rfl) ?_
            refine va_get (D := G.1) (ci := 10) (v := .int t35.2.2.2.2) (C := RX7) (T := TX7) (N := 21) hx hb hts in_X7 hown hK hP 0 rfl rfl 12 (by decide) (hts _ k_fl_X7_109) (fun _ h9 => h9) rfl dX7_instruction_97 ?_
            refine lv_if_ne (tgt := 113) hx hb dX7_instruction_100 (by decide) (fun c_40 => ?_) (fun c_40 => ?_)
            · first | exact absurd c_36 c_40 | exact absurd c_40 c_36
            · skip
              refine lv_aload_n hx hb dX7_instruction_103 rfl (lv_at hl 2 rfl) ?_
              refine lv_iload_n hx hb dX7_instruction_104 rfl (lv_at hl 3 rfl) ?_
              refine lv_iload_n hx hb dX7_instruction_105 rfl (lv_at hl 1 rfl) ?_
              refine lv_iload_n hx hb dX7_instruction_106 rfl (lv_at hl 0 rfl) ?_
              refine gS (As := [.int p0, .int t35.1, .int (f_X7_after plc)]) (rest := [.ref m0]) (wr := [(m0, .inr (10, [.int rz, .ref m1, .ref m2, .ref m3, .int hf, .int hs, .ref m6, .int len, .int t35.2.1, .int t35.2.2.1, .int t38.2, .int bg, .int t35.2.2.2.2, .ref m13, .ref m14, .int plc, .int sta, .ref m17, .ref m18, .ref m19, .int shm])), (m6, .inl (G.2.1.1, 600, .inl text)), (m13, .inl (G.2.1.1, 256, .inl draft)), (m14, .inl (G.2.1.2.1, 256, .inl wri))]) (ws' := [(m0, .inr (10, [.int rz, .ref m1, .ref m2, .ref m3, .int hf, .int hs, .ref m6, .int len, .int t35.2.1, .int t35.2.2.1, .int t38.2, .int bg, .int t35.2.2.2.2, .ref m13, .ref m14, .int plc, .int sta, .ref m17, .ref m18, .ref m19, .int shm])), (m6, .inl (G.2.1.1, 600, .inl text)), (m13, .inl (G.2.1.1, 256, .inl draft)), (m14, .inl (G.2.1.2.1, 256, .inl wri))]) F (c_X7_coded l G p0 t35.1 (f_X7_after plc)) okS_X7_coded k_ml_X7_166 rfl rfl ⟨Nat.le_of_ble_eq_true rfl, Nat.le_of_ble_eq_true rfl⟩ hN hK hP hD hS hA [] [0, 1, 2, 3] [0, 1, 2, 3] (by decide) rfl rfl (by decide) (by decide) (by decide) rfl rfl rfl hl.1 (Nat.le_of_ble_eq_true rfl) dX7_instruction_107 ⟨Nat.le_refl _, Nat.le_refl _⟩ (fun H locs hP hD hS => ?_)
              refine gV (As := [.int (f_X7_coded p0 t35.1 (f_X7_after plc))]) (rest := []) (wr := [(m6, .inl (G.2.1.1, 600, .inl text))]) (ws' := [(m0, .inr (10, [.int rz, .ref m1, .ref m2, .ref m3, .int hf, .int hs, .ref m6, .int len, .int t35.2.1, .int t35.2.2.1, .int t38.2, .int bg, .int t35.2.2.2.2, .ref m13, .ref m14, .int ((f_X7_writes plc draft wri (f_X7_coded p0 t35.1 (f_X7_after plc))).1), .int sta, .ref m17, .ref m18, .ref m19, .int shm])), (m6, .inl (G.2.1.1, 600, .inl text)), (m13, .inl (G.2.1.1, 256, .inl ((f_X7_writes plc draft wri (f_X7_coded p0 t35.1 (f_X7_after plc))).2.1))), (m14, .inl (G.2.1.2.1, 256, .inl ((f_X7_writes plc draft wri (f_X7_coded p0 t35.1 (f_X7_after plc))).2.2)))]) F (c_X7_writes l G m0 m1 m2 m3 m6 m13 m14 m17 m18 m19 rz hf hs len t35.2.1 t35.2.2.1 t38.2 bg t35.2.2.2.2 plc sta shm draft wri (f_X7_coded p0 t35.1 (f_X7_after plc)) hplc) okV_X7_writes k_ml_X7_170 rfl rfl ⟨Nat.le_of_ble_eq_true rfl, Nat.le_of_ble_eq_true rfl⟩ hN hK hP hD hS hA [0, 2, 3] [1] [1, 0, 2, 3] (by decide) rfl rfl (by decide) (by decide) (by decide) rfl (q0 := 0) rfl rfl rfl rfl hl.1 (Nat.le_of_ble_eq_true rfl) dX7_instruction_110 ⟨Nat.le_refl _, Nat.le_refl _⟩ (fun H locs hP hD hS => ?_)
              generalize et41 : (f_X7_writes plc draft wri (f_X7_coded p0 t35.1 (f_X7_after plc))) = t41 at hP hD ⊢
              have ef : (f_X7_instruction len ec ep pos bg bad plc text draft wri p0) = (t35.2.1, t35.2.2.1, t38.2, bg, t35.2.2.2.2, t41.1, t41.2.1, t41.2.2) := (by subst et41; subst et38; subst et35; exact ((if_pos c_1).trans ((if_neg c_2).trans ((if_pos c_19).trans ((if_pos c_36).trans (if_pos c_39))))))
              exact gRetV F hr hlocks hK hP hD hS rfl (by rw [ef]) (Nat.le_of_ble_eq_true rfl) (Nat.le_of_ble_eq_true rfl) dX7_instruction_113
          · skip
            refine lv_aload_n hx hb dX7_instruction_71 rfl (lv_at hl 2 rfl) ?_
            refine gV (As := []) (rest := []) (wr := [(m13, .inl (G.2.1.1, 256, .inl draft)), (m14, .inl (G.2.1.2.1, 256, .inl wri))]) (ws' := [(m0, .inr (10, [.int rz, .ref m1, .ref m2, .ref m3, .int hf, .int hs, .ref m6, .int len, .int t35.2.1, .int t35.2.2.1, .int ((f_X7_word len t38.2 text).2.1), .int ((f_X7_word len t38.2 text).2.2), .int t35.2.2.2.2, .ref m13, .ref m14, .int plc, .int sta, .ref m17, .ref m18, .ref m19, .int shm])), (m6, .inl (G.2.1.1, 600, .inl text)), (m13, .inl (G.2.1.1, 256, .inl draft)), (m14, .inl (G.2.1.2.1, 256, .inl wri))]) F (c_X7_word l G m0 m1 m2 m3 m6 m13 m14 m17 m18 m19 rz hf hs len t35.2.1 t35.2.2.1 t38.2 bg t35.2.2.2.2 plc sta shm text hlen (by have o0 : (0 : Int32).toInt = 0 := (by decide); have o1 : (1 : Int32).toInt = 1 := (by decide); have q0 := number_pos hlen (by omega) et35; have q1 := here_pos hlen (by omega) et38; omega)) okV_X7_word k_ml_X7_160 rfl rfl ⟨Nat.le_of_ble_eq_true rfl, Nat.le_of_ble_eq_true rfl⟩ hN hK hP hD hS hA [0, 1] [2, 3] [2, 3, 0, 1] (by decide) rfl rfl (by decide) (by decide) (by decide) rfl (q0 := 0) rfl rfl rfl rfl hl.1 (Nat.le_of_ble_eq_true rfl) dX7_instruction_72 ⟨Nat.le_refl _, Nat.le_refl _⟩ (fun H locs hP hD hS => ?_)
            generalize et42 : (f_X7_word len t38.2 text) = t42 at hP hD ⊢
            refine lv_ldc2 (v := 399641) hx hb hown (hts _ k_lc_X7_164) dX7_instruction_75 ?_
            refine gLc_eq (tgt := 91) hx hb dX7_instruction_78 dX7_instruction_79 (by decide) (fun c_43 => ?_) (fun c_43 => ?_)
            · skip
              refine lv_aload_n hx hb dX7_instruction_91 rfl (lv_at hl 2 rfl) ?_
              refine gV (As := []) (rest := []) (wr := [(m13, .inl (G.2.1.1, 256, .inl draft)), (m14, .inl (G.2.1.2.1, 256, .inl wri))]) (ws' := [(m0, .inr (10, [.int rz, .ref m1, .ref m2, .ref m3, .int hf, .int hs, .ref m6, .int len, .int ((f_X7_readLocation len t35.2.1 t35.2.2.1 t42.2.1 t35.2.2.2.2 text).2.1), .int ((f_X7_readLocation len t35.2.1 t35.2.2.1 t42.2.1 t35.2.2.2.2 text).2.2.1), .int ((f_X7_readLocation len t35.2.1 t35.2.2.1 t42.2.1 t35.2.2.2.2 text).2.2.2.1), .int t42.2.2, .int ((f_X7_readLocation len t35.2.1 t35.2.2.1 t42.2.1 t35.2.2.2.2 text).2.2.2.2), .ref m13, .ref m14, .int plc, .int sta, .ref m17, .ref m18, .ref m19, .int shm])), (m6, .inl (G.2.1.1, 600, .inl text)), (m13, .inl (G.2.1.1, 256, .inl draft)), (m14, .inl (G.2.1.2.1, 256, .inl wri))]) F (c_X7_readLocation l G m0 m1 m2 m3 m6 m13 m14 m17 m18 m19 rz hf hs len t35.2.1 t35.2.2.1 t42.2.1 t42.2.2 t35.2.2.2.2 plc sta shm text hlen (by have o0 : (0 : Int32).toInt = 0 := (by decide); have o1 : (1 : Int32).toInt = 1 := (by decide); have q0 := number_pos hlen (by omega) et35; have q1 := here_pos hlen (by omega) et38; have q2 := word_pos hlen (by omega) et42; omega)) okV_X7_readLocation k_ml_X7_157 rfl rfl ⟨Nat.le_of_ble_eq_true rfl, Nat.le_of_ble_eq_true rfl⟩ hN hK hP hD hS hA [0, 1] [2, 3] [2, 3, 0, 1] (by decide) rfl rfl (by decide) (by decide) (by decide) rfl (q0 := 0) rfl rfl rfl rfl hl.1 (Nat.le_of_ble_eq_true rfl) dX7_instruction_92 ⟨Nat.le_refl _, Nat.le_refl _⟩ (fun H locs hP hD hS => ?_)
              generalize et44 : (f_X7_readLocation len t35.2.1 t35.2.2.1 t42.2.1 t35.2.2.2.2 text) = t44 at hP hD ⊢
              refine lv_istore_n (lv' := [(3, .int t44.1), (2, .int t35.1), (0, .ref m0), (1, .int p0)]) hx hb dX7_instruction_95 rfl hl (by decide) rfl (fun ls hl => ?_)
              refine lv_aload_n hx hb dX7_instruction_96 rfl (lv_at hl 2 rfl) ?_
              refine va_get (D := G.1) (ci := 10) (v := .int t44.2.2.2.2) (C := RX7) (T := TX7) (N := 21) hx hb hts in_X7 hown hK hP 0 rfl rfl 12 (by decide) (hts _ k_fl_X7_109) (fun _ h9 => h9) rfl dX7_instruction_97 ?_
              refine lv_if_ne (tgt := 113) hx hb dX7_instruction_100 (by decide) (fun c_45 => ?_) (fun c_45 => ?_)
              · skip
                have ef : (f_X7_instruction len ec ep pos bg bad plc text draft wri p0) = (t44.2.1, t44.2.2.1, t44.2.2.2.1, t42.2.2, t44.2.2.2.2, plc, draft, wri) := (by subst et44; subst et42; subst et38; subst et35; exact ((if_pos c_1).trans ((if_neg c_2).trans ((if_pos c_19).trans ((if_pos c_36).trans ((if_neg c_39).trans ((if_pos c_43).trans (if_neg c_45))))))))
                exact gRetV F hr hlocks hK hP hD hS rfl (by rw [ef]) (Nat.le_of_ble_eq_true rfl) (Nat.le_of_ble_eq_true rfl) dX7_instruction_113
              · skip
                refine lv_aload_n hx hb dX7_instruction_103 rfl (lv_at hl 2 rfl) ?_
                refine lv_iload_n hx hb dX7_instruction_104 rfl (lv_at hl 3 rfl) ?_
                refine lv_iload_n hx hb dX7_instruction_105 rfl (lv_at hl 1 rfl) ?_
                refine lv_iload_n hx hb dX7_instruction_106 rfl (lv_at hl 0 rfl) ?_
                refine gS (As := [.int p0, .int t35.1, .int t44.1]) (rest := [.ref m0]) (wr := [(m0, .inr (10, [.int rz, .ref m1, .ref m2, .ref m3, .int hf, .int hs, .ref m6, .int len, .int t44.2.1, .int t44.2.2.1, .int t44.2.2.2.1, .int t42.2.2, .int t44.2.2.2.2, .ref m13, .ref m14, .int plc, .int sta, .ref m17, .ref m18, .ref m19, .int shm])), (m6, .inl (G.2.1.1, 600, .inl text)), (m13, .inl (G.2.1.1, 256, .inl draft)), (m14, .inl (G.2.1.2.1, 256, .inl wri))]) (ws' := [(m0, .inr (10, [.int rz, .ref m1, .ref m2, .ref m3, .int hf, .int hs, .ref m6, .int len, .int t44.2.1, .int t44.2.2.1, .int t44.2.2.2.1, .int t42.2.2, .int t44.2.2.2.2, .ref m13, .ref m14, .int plc, .int sta, .ref m17, .ref m18, .ref m19, .int shm])), (m6, .inl (G.2.1.1, 600, .inl text)), (m13, .inl (G.2.1.1, 256, .inl draft)), (m14, .inl (G.2.1.2.1, 256, .inl wri))]) F (c_X7_coded l G p0 t35.1 t44.1) okS_X7_coded k_ml_X7_166 rfl rfl ⟨Nat.le_of_ble_eq_true rfl, Nat.le_of_ble_eq_true rfl⟩ hN hK hP hD hS hA [] [0, 1, 2, 3] [0, 1, 2, 3] (by decide) rfl rfl (by decide) (by decide) (by decide) rfl rfl rfl hl.1 (Nat.le_of_ble_eq_true rfl) dX7_instruction_107 ⟨Nat.le_refl _, Nat.le_refl _⟩ (fun H locs hP hD hS => ?_)
                refine gV (As := [.int (f_X7_coded p0 t35.1 t44.1)]) (rest := []) (wr := [(m6, .inl (G.2.1.1, 600, .inl text))]) (ws' := [(m0, .inr (10, [.int rz, .ref m1, .ref m2, .ref m3, .int hf, .int hs, .ref m6, .int len, .int t44.2.1, .int t44.2.2.1, .int t44.2.2.2.1, .int t42.2.2, .int t44.2.2.2.2, .ref m13, .ref m14, .int ((f_X7_writes plc draft wri (f_X7_coded p0 t35.1 t44.1)).1), .int sta, .ref m17, .ref m18, .ref m19, .int shm])), (m6, .inl (G.2.1.1, 600, .inl text)), (m13, .inl (G.2.1.1, 256, .inl ((f_X7_writes plc draft wri (f_X7_coded p0 t35.1 t44.1)).2.1))), (m14, .inl (G.2.1.2.1, 256, .inl ((f_X7_writes plc draft wri (f_X7_coded p0 t35.1 t44.1)).2.2)))]) F (c_X7_writes l G m0 m1 m2 m3 m6 m13 m14 m17 m18 m19 rz hf hs len t44.2.1 t44.2.2.1 t44.2.2.2.1 t42.2.2 t44.2.2.2.2 plc sta shm draft wri (f_X7_coded p0 t35.1 t44.1) hplc) okV_X7_writes k_ml_X7_170 rfl rfl ⟨Nat.le_of_ble_eq_true rfl, Nat.le_of_ble_eq_true rfl⟩ hN hK hP hD hS hA [0, 2, 3] [1] [1, 0, 2, 3] (by decide) rfl rfl (by decide) (by decide) (by decide) rfl (q0 := 0) rfl rfl rfl rfl hl.1 (Nat.le_of_ble_eq_true rfl) dX7_instruction_110 ⟨Nat.le_refl _, Nat.le_refl _⟩ (fun H locs hP hD hS => ?_)
                generalize et46 : (f_X7_writes plc draft wri (f_X7_coded p0 t35.1 t44.1)) = t46 at hP hD ⊢
                have ef : (f_X7_instruction len ec ep pos bg bad plc text draft wri p0) = (t44.2.1, t44.2.2.1, t44.2.2.2.1, t42.2.2, t44.2.2.2.2, t46.1, t46.2.1, t46.2.2) := (by subst et46; subst et44; subst et42; subst et38; subst et35; exact ((if_pos c_1).trans ((if_neg c_2).trans ((if_pos c_19).trans ((if_pos c_36).trans ((if_neg c_39).trans ((if_pos c_43).trans (if_pos c_45))))))))
                exact gRetV F hr hlocks hK hP hD hS rfl (by rw [ef]) (Nat.le_of_ble_eq_true rfl) (Nat.le_of_ble_eq_true rfl) dX7_instruction_113
            · skip
              refine lv_aload_n hx hb dX7_instruction_82 rfl (lv_at hl 2 rfl) ?_
              refine lv_iconst (v := 1) hx hb dX7_instruction_83 (by decide) ?_
              refine lv_aload_n hx hb dX7_instruction_84 rfl (lv_at hl 2 rfl) ?_
              refine va_get (D := G.1) (ci := 10) (v := .int t42.2.2) (C := RX7) (T := TX7) (N := 21) hx hb hts in_X7 hown hK hP 0 rfl rfl 11 (by decide) (hts _ k_fl_X7_124) (fun _ h9 => h9) rfl dX7_instruction_85 ?_
              refine gV (As := [.int 1, .int t42.2.2]) (rest := []) (wr := [(m6, .inl (G.2.1.1, 600, .inl text)), (m13, .inl (G.2.1.1, 256, .inl draft)), (m14, .inl (G.2.1.2.1, 256, .inl wri))]) (ws' := [(m0, .inr (10, [.int rz, .ref m1, .ref m2, .ref m3, .int hf, .int hs, .ref m6, .int len, .int ((f_X7_wrong t35.2.1 t35.2.2.1 t35.2.2.2.2 1 t42.2.2).1), .int ((f_X7_wrong t35.2.1 t35.2.2.1 t35.2.2.2.2 1 t42.2.2).2.1), .int t42.2.1, .int t42.2.2, .int ((f_X7_wrong t35.2.1 t35.2.2.1 t35.2.2.2.2 1 t42.2.2).2.2), .ref m13, .ref m14, .int plc, .int sta, .ref m17, .ref m18, .ref m19, .int shm])), (m6, .inl (G.2.1.1, 600, .inl text)), (m13, .inl (G.2.1.1, 256, .inl draft)), (m14, .inl (G.2.1.2.1, 256, .inl wri))]) F (c_X7_wrong l G m0 m1 m2 m3 m6 m13 m14 m17 m18 m19 rz hf hs len t35.2.1 t35.2.2.1 t42.2.1 t42.2.2 t35.2.2.2.2 plc sta shm 1 t42.2.2) okV_X7_wrong k_ml_X7_137 rfl rfl ⟨Nat.le_of_ble_eq_true rfl, Nat.le_of_ble_eq_true rfl⟩ hN hK hP hD hS hA [0] [1, 2, 3] [3, 0, 1, 2] (by decide) rfl rfl (by decide) (by decide) (by decide) rfl (q0 := 0) rfl rfl rfl rfl hl.1 (Nat.le_of_ble_eq_true rfl) dX7_instruction_88 ⟨Nat.le_refl _, Nat.le_refl _⟩ (fun H locs hP hD hS => ?_)
              generalize et47 : (f_X7_wrong t35.2.1 t35.2.2.1 t35.2.2.2.2 1 t42.2.2) = t47 at hP hD ⊢
              refine lv_aload_n hx hb dX7_instruction_91 rfl (lv_at hl 2 rfl) ?_
              refine gV (As := []) (rest := []) (wr := [(m13, .inl (G.2.1.1, 256, .inl draft)), (m14, .inl (G.2.1.2.1, 256, .inl wri))]) (ws' := [(m0, .inr (10, [.int rz, .ref m1, .ref m2, .ref m3, .int hf, .int hs, .ref m6, .int len, .int ((f_X7_readLocation len t47.1 t47.2.1 t42.2.1 t47.2.2 text).2.1), .int ((f_X7_readLocation len t47.1 t47.2.1 t42.2.1 t47.2.2 text).2.2.1), .int ((f_X7_readLocation len t47.1 t47.2.1 t42.2.1 t47.2.2 text).2.2.2.1), .int t42.2.2, .int ((f_X7_readLocation len t47.1 t47.2.1 t42.2.1 t47.2.2 text).2.2.2.2), .ref m13, .ref m14, .int plc, .int sta, .ref m17, .ref m18, .ref m19, .int shm])), (m6, .inl (G.2.1.1, 600, .inl text)), (m13, .inl (G.2.1.1, 256, .inl draft)), (m14, .inl (G.2.1.2.1, 256, .inl wri))]) F (c_X7_readLocation l G m0 m1 m2 m3 m6 m13 m14 m17 m18 m19 rz hf hs len t47.1 t47.2.1 t42.2.1 t42.2.2 t47.2.2 plc sta shm text hlen (by have o0 : (0 : Int32).toInt = 0 := (by decide); have o1 : (1 : Int32).toInt = 1 := (by decide); have q0 := number_pos hlen (by omega) et35; have q1 := here_pos hlen (by omega) et38; have q2 := word_pos hlen (by omega) et42; omega)) okV_X7_readLocation k_ml_X7_157 rfl rfl ⟨Nat.le_of_ble_eq_true rfl, Nat.le_of_ble_eq_true rfl⟩ hN hK hP hD hS hA [0, 1] [2, 3] [2, 3, 0, 1] (by decide) rfl rfl (by decide) (by decide) (by decide) rfl (q0 := 0) rfl rfl rfl rfl hl.1 (Nat.le_of_ble_eq_true rfl) dX7_instruction_92 ⟨Nat.le_refl _, Nat.le_refl _⟩ (fun H locs hP hD hS => ?_)
              generalize et48 : (f_X7_readLocation len t47.1 t47.2.1 t42.2.1 t47.2.2 text) = t48 at hP hD ⊢
              refine lv_istore_n (lv' := [(3, .int t48.1), (2, .int t35.1), (0, .ref m0), (1, .int p0)]) hx hb dX7_instruction_95 rfl hl (by decide) rfl (fun ls hl => ?_)
              refine lv_aload_n hx hb dX7_instruction_96 rfl (lv_at hl 2 rfl) ?_
              refine va_get (D := G.1) (ci := 10) (v := .int t48.2.2.2.2) (C := RX7) (T := TX7) (N := 21) hx hb hts in_X7 hown hK hP 0 rfl rfl 12 (by decide) (hts _ k_fl_X7_109) (fun _ h9 => h9) rfl dX7_instruction_97 ?_
              refine lv_if_ne (tgt := 113) hx hb dX7_instruction_100 (by decide) (fun c_49 => ?_) (fun c_49 => ?_)
              · skip
                have ef : (f_X7_instruction len ec ep pos bg bad plc text draft wri p0) = (t48.2.1, t48.2.2.1, t48.2.2.2.1, t42.2.2, t48.2.2.2.2, plc, draft, wri) := (by subst et48; subst et47; subst et42; subst et38; subst et35; exact ((if_pos c_1).trans ((if_neg c_2).trans ((if_pos c_19).trans ((if_pos c_36).trans ((if_neg c_39).trans ((if_neg c_43).trans (if_neg c_49))))))))
                exact gRetV F hr hlocks hK hP hD hS rfl (by rw [ef]) (Nat.le_of_ble_eq_true rfl) (Nat.le_of_ble_eq_true rfl) dX7_instruction_113
              · skip
                refine lv_aload_n hx hb dX7_instruction_103 rfl (lv_at hl 2 rfl) ?_
                refine lv_iload_n hx hb dX7_instruction_104 rfl (lv_at hl 3 rfl) ?_
                refine lv_iload_n hx hb dX7_instruction_105 rfl (lv_at hl 1 rfl) ?_
                refine lv_iload_n hx hb dX7_instruction_106 rfl (lv_at hl 0 rfl) ?_
                refine gS (As := [.int p0, .int t35.1, .int t48.1]) (rest := [.ref m0]) (wr := [(m0, .inr (10, [.int rz, .ref m1, .ref m2, .ref m3, .int hf, .int hs, .ref m6, .int len, .int t48.2.1, .int t48.2.2.1, .int t48.2.2.2.1, .int t42.2.2, .int t48.2.2.2.2, .ref m13, .ref m14, .int plc, .int sta, .ref m17, .ref m18, .ref m19, .int shm])), (m6, .inl (G.2.1.1, 600, .inl text)), (m13, .inl (G.2.1.1, 256, .inl draft)), (m14, .inl (G.2.1.2.1, 256, .inl wri))]) (ws' := [(m0, .inr (10, [.int rz, .ref m1, .ref m2, .ref m3, .int hf, .int hs, .ref m6, .int len, .int t48.2.1, .int t48.2.2.1, .int t48.2.2.2.1, .int t42.2.2, .int t48.2.2.2.2, .ref m13, .ref m14, .int plc, .int sta, .ref m17, .ref m18, .ref m19, .int shm])), (m6, .inl (G.2.1.1, 600, .inl text)), (m13, .inl (G.2.1.1, 256, .inl draft)), (m14, .inl (G.2.1.2.1, 256, .inl wri))]) F (c_X7_coded l G p0 t35.1 t48.1) okS_X7_coded k_ml_X7_166 rfl rfl ⟨Nat.le_of_ble_eq_true rfl, Nat.le_of_ble_eq_true rfl⟩ hN hK hP hD hS hA [] [0, 1, 2, 3] [0, 1, 2, 3] (by decide) rfl rfl (by decide) (by decide) (by decide) rfl rfl rfl hl.1 (Nat.le_of_ble_eq_true rfl) dX7_instruction_107 ⟨Nat.le_refl _, Nat.le_refl _⟩ (fun H locs hP hD hS => ?_)
                refine gV (As := [.int (f_X7_coded p0 t35.1 t48.1)]) (rest := []) (wr := [(m6, .inl (G.2.1.1, 600, .inl text))]) (ws' := [(m0, .inr (10, [.int rz, .ref m1, .ref m2, .ref m3, .int hf, .int hs, .ref m6, .int len, .int t48.2.1, .int t48.2.2.1, .int t48.2.2.2.1, .int t42.2.2, .int t48.2.2.2.2, .ref m13, .ref m14, .int ((f_X7_writes plc draft wri (f_X7_coded p0 t35.1 t48.1)).1), .int sta, .ref m17, .ref m18, .ref m19, .int shm])), (m6, .inl (G.2.1.1, 600, .inl text)), (m13, .inl (G.2.1.1, 256, .inl ((f_X7_writes plc draft wri (f_X7_coded p0 t35.1 t48.1)).2.1))), (m14, .inl (G.2.1.2.1, 256, .inl ((f_X7_writes plc draft wri (f_X7_coded p0 t35.1 t48.1)).2.2)))]) F (c_X7_writes l G m0 m1 m2 m3 m6 m13 m14 m17 m18 m19 rz hf hs len t48.2.1 t48.2.2.1 t48.2.2.2.1 t42.2.2 t48.2.2.2.2 plc sta shm draft wri (f_X7_coded p0 t35.1 t48.1) hplc) okV_X7_writes k_ml_X7_170 rfl rfl ⟨Nat.le_of_ble_eq_true rfl, Nat.le_of_ble_eq_true rfl⟩ hN hK hP hD hS hA [0, 2, 3] [1] [1, 0, 2, 3] (by decide) rfl rfl (by decide) (by decide) (by decide) rfl (q0 := 0) rfl rfl rfl rfl hl.1 (Nat.le_of_ble_eq_true rfl) dX7_instruction_110 ⟨Nat.le_refl _, Nat.le_refl _⟩ (fun H locs hP hD hS => ?_)
                generalize et50 : (f_X7_writes plc draft wri (f_X7_coded p0 t35.1 t48.1)) = t50 at hP hD ⊢
                have ef : (f_X7_instruction len ec ep pos bg bad plc text draft wri p0) = (t48.2.1, t48.2.2.1, t48.2.2.2.1, t42.2.2, t48.2.2.2.2, t50.1, t50.2.1, t50.2.2) := (by subst et50; subst et48; subst et47; subst et42; subst et38; subst et35; exact ((if_pos c_1).trans ((if_neg c_2).trans ((if_pos c_19).trans ((if_pos c_36).trans ((if_neg c_39).trans ((if_neg c_43).trans (if_pos c_49))))))))
                exact gRetV F hr hlocks hK hP hD hS rfl (by rw [ef]) (Nat.le_of_ble_eq_true rfl) (Nat.le_of_ble_eq_true rfl) dX7_instruction_113
  · skip
    refine lv_aload_n hx hb dX7_instruction_7 rfl (lv_at hl 0 rfl) ?_
    refine gV (As := []) (rest := []) (wr := [(m13, .inl (G.2.1.1, 256, .inl draft)), (m14, .inl (G.2.1.2.1, 256, .inl wri))]) (ws' := [(m0, .inr (10, [.int rz, .ref m1, .ref m2, .ref m3, .int hf, .int hs, .ref m6, .int len, .int ((f_X7_readLocation len ec ep pos bad text).2.1), .int ((f_X7_readLocation len ec ep pos bad text).2.2.1), .int ((f_X7_readLocation len ec ep pos bad text).2.2.2.1), .int bg, .int ((f_X7_readLocation len ec ep pos bad text).2.2.2.2), .ref m13, .ref m14, .int plc, .int sta, .ref m17, .ref m18, .ref m19, .int shm])), (m6, .inl (G.2.1.1, 600, .inl text)), (m13, .inl (G.2.1.1, 256, .inl draft)), (m14, .inl (G.2.1.2.1, 256, .inl wri))]) F (c_X7_readLocation l G m0 m1 m2 m3 m6 m13 m14 m17 m18 m19 rz hf hs len ec ep pos bg bad plc sta shm text hlen (by have o0 : (0 : Int32).toInt = 0 := (by decide); have o1 : (1 : Int32).toInt = 1 := (by decide); omega)) okV_X7_readLocation k_ml_X7_157 rfl rfl ⟨Nat.le_of_ble_eq_true rfl, Nat.le_of_ble_eq_true rfl⟩ hN hK hP hD hS hA [0, 1] [2, 3] [2, 3, 0, 1] (by decide) rfl rfl (by decide) (by decide) (by decide) rfl (q0 := 0) rfl rfl rfl rfl hl.1 (Nat.le_of_ble_eq_true rfl) dX7_instruction_8 ⟨Nat.le_refl _, Nat.le_refl _⟩ (fun H locs hP hD hS => ?_)
    generalize et51 : (f_X7_readLocation len ec ep pos bad text) = t51 at hP hD ⊢
    refine lv_goto (tgt := 38) hx hb dX7_instruction_11 (by decide) ?_
    refine lv_istore_n (lv' := [(2, .int t51.1), (0, .ref m0), (1, .int p0)]) hx hb dX7_instruction_38 rfl hl (by decide) rfl (fun ls hl => ?_)
    refine lv_aload_n hx hb dX7_instruction_39 rfl (lv_at hl 1 rfl) ?_
    refine va_get (D := G.1) (ci := 10) (v := .int plc) (C := RX7) (T := TX7) (N := 21) hx hb hts in_X7 hown hK hP 0 rfl rfl 15 (by decide) (hts _ k_fl_X7_148) (fun _ h9 => h9) rfl dX7_instruction_40 ?_
    refine gS (As := [.int plc]) (rest := []) (wr := [(m0, .inr (10, [.int rz, .ref m1, .ref m2, .ref m3, .int hf, .int hs, .ref m6, .int len, .int t51.2.1, .int t51.2.2.1, .int t51.2.2.2.1, .int bg, .int t51.2.2.2.2, .ref m13, .ref m14, .int plc, .int sta, .ref m17, .ref m18, .ref m19, .int shm])), (m6, .inl (G.2.1.1, 600, .inl text)), (m13, .inl (G.2.1.1, 256, .inl draft)), (m14, .inl (G.2.1.2.1, 256, .inl wri))]) (ws' := [(m0, .inr (10, [.int rz, .ref m1, .ref m2, .ref m3, .int hf, .int hs, .ref m6, .int len, .int t51.2.1, .int t51.2.2.1, .int t51.2.2.2.1, .int bg, .int t51.2.2.2.2, .ref m13, .ref m14, .int plc, .int sta, .ref m17, .ref m18, .ref m19, .int shm])), (m6, .inl (G.2.1.1, 600, .inl text)), (m13, .inl (G.2.1.1, 256, .inl draft)), (m14, .inl (G.2.1.2.1, 256, .inl wri))]) F (c_X7_after l G plc) okS_X7_after k_ml_X7_151 rfl rfl ⟨Nat.le_of_ble_eq_true rfl, Nat.le_of_ble_eq_true rfl⟩ hN hK hP hD hS hA [] [0, 1, 2, 3] [0, 1, 2, 3] (by decide) rfl rfl (by decide) (by decide) (by decide) rfl rfl rfl hl.1 (Nat.le_of_ble_eq_true rfl) dX7_instruction_43 ⟨Nat.le_refl _, Nat.le_refl _⟩ (fun H locs hP hD hS => ?_)
    refine lv_istore_n (lv' := [(3, .int (f_X7_after plc)), (2, .int t51.1), (0, .ref m0), (1, .int p0)]) hx hb dX7_instruction_46 rfl hl (by decide) rfl (fun ls hl => ?_)
    refine lv_aload_n hx hb dX7_instruction_47 rfl (lv_at hl 2 rfl) ?_
    refine va_get (D := G.1) (ci := 10) (v := .int t51.2.2.2.2) (C := RX7) (T := TX7) (N := 21) hx hb hts in_X7 hown hK hP 0 rfl rfl 12 (by decide) (hts _ k_fl_X7_109) (fun _ h9 => h9) rfl dX7_instruction_48 ?_
    refine lv_if_ne (tgt := 96) hx hb dX7_instruction_51 (by decide) (fun c_52 => ?_) (fun c_52 => ?_)
    · skip
      refine lv_aload_n hx hb dX7_instruction_96 rfl (lv_at hl 2 rfl) ?_
      refine va_get (D := G.1) (ci := 10) (v := .int t51.2.2.2.2) (C := RX7) (T := TX7) (N := 21) hx hb hts in_X7 hown hK hP 0 rfl rfl 12 (by decide) (hts _ k_fl_X7_109) (fun _ h9 => h9) rfl dX7_instruction_97 ?_
      refine lv_if_ne (tgt := 113) hx hb dX7_instruction_100 (by decide) (fun c_53 => ?_) (fun c_53 => ?_)
      · skip
        have ef : (f_X7_instruction len ec ep pos bg bad plc text draft wri p0) = (t51.2.1, t51.2.2.1, t51.2.2.2.1, bg, t51.2.2.2.2, plc, draft, wri) := (by subst et51; exact ((if_neg c_1).trans (if_neg c_52)))
        exact gRetV F hr hlocks hK hP hD hS rfl (by rw [ef]) (Nat.le_of_ble_eq_true rfl) (Nat.le_of_ble_eq_true rfl) dX7_instruction_113
      · first | exact absurd c_52 c_53 | exact absurd c_53 c_52
    · skip
      refine lv_aload_n hx hb dX7_instruction_54 rfl (lv_at hl 2 rfl) ?_
      refine gV (As := []) (rest := []) (wr := [(m13, .inl (G.2.1.1, 256, .inl draft)), (m14, .inl (G.2.1.2.1, 256, .inl wri))]) (ws' := [(m0, .inr (10, [.int rz, .ref m1, .ref m2, .ref m3, .int hf, .int hs, .ref m6, .int len, .int t51.2.1, .int t51.2.2.1, .int ((f_X7_here len t51.2.2.2.1 text).2), .int bg, .int t51.2.2.2.2, .ref m13, .ref m14, .int plc, .int sta, .ref m17, .ref m18, .ref m19, .int shm])), (m6, .inl (G.2.1.1, 600, .inl text)), (m13, .inl (G.2.1.1, 256, .inl draft)), (m14, .inl (G.2.1.2.1, 256, .inl wri))]) F (c_X7_here l G m0 m1 m2 m3 m6 m13 m14 m17 m18 m19 rz hf hs len t51.2.1 t51.2.2.1 t51.2.2.2.1 bg t51.2.2.2.2 plc sta shm text hlen (by have o0 : (0 : Int32).toInt = 0 := (by decide); have o1 : (1 : Int32).toInt = 1 := (by decide); have q0 := rl_pos hlen (by omega) et51; omega)) okV_X7_here k_ml_X7_116 rfl rfl ⟨Nat.le_of_ble_eq_true rfl, Nat.le_of_ble_eq_true rfl⟩ hN hK hP hD hS hA [0, 1] [2, 3] [2, 3, 0, 1] (by decide) rfl rfl (by decide) (by decide) (by decide) rfl (q0 := 0) rfl rfl rfl rfl hl.1 (Nat.le_of_ble_eq_true rfl) dX7_instruction_55 ⟨Nat.le_refl _, Nat.le_refl _⟩ (fun H locs hP hD hS => ?_)
      generalize et54 : (f_X7_here len t51.2.2.2.1 text) = t54 at hP hD ⊢
      refine lv_i2l (v := (Int32.toInt64 t54.1)) hx hb dX7_instruction_58 rfl ?_
      refine lv_ldc2 (v := 97) hx hb hown (hts _ k_lc_X7_120) dX7_instruction_59 ?_
      refine lv_ldc2 (v := 122) hx hb hown (hts _ k_lc_X7_122) dX7_instruction_62 ?_
      refine gS (As := [.long (Int32.toInt64 t54.1), .long 97, .long 122]) (rest := []) (wr := [(m0, .inr (10, [.int rz, .ref m1, .ref m2, .ref m3, .int hf, .int hs, .ref m6, .int len, .int t51.2.1, .int t51.2.2.1, .int t54.2, .int bg, .int t51.2.2.2.2, .ref m13, .ref m14, .int plc, .int sta, .ref m17, .ref m18, .ref m19, .int shm])), (m6, .inl (G.2.1.1, 600, .inl text)), (m13, .inl (G.2.1.1, 256, .inl draft)), (m14, .inl (G.2.1.2.1, 256, .inl wri))]) (ws' := [(m0, .inr (10, [.int rz, .ref m1, .ref m2, .ref m3, .int hf, .int hs, .ref m6, .int len, .int t51.2.1, .int t51.2.2.1, .int t54.2, .int bg, .int t51.2.2.2.2, .ref m13, .ref m14, .int plc, .int sta, .ref m17, .ref m18, .ref m19, .int shm])), (m6, .inl (G.2.1.1, 600, .inl text)), (m13, .inl (G.2.1.1, 256, .inl draft)), (m14, .inl (G.2.1.2.1, 256, .inl wri))]) F (c_X7_in l G (Int32.toInt64 t54.1) 97 122) okS_X7_in k_ml_X7_81 rfl rfl ⟨Nat.le_of_ble_eq_true rfl, Nat.le_of_ble_eq_true rfl⟩ hN hK hP hD hS hA [] [0, 1, 2, 3] [0, 1, 2, 3] (by decide) rfl rfl (by decide) (by decide) (by decide) rfl rfl rfl hl.1 (Nat.le_of_ble_eq_true rfl) dX7_instruction_65 ⟨Nat.le_refl _, Nat.le_refl _⟩ (fun H locs hP hD hS => ?_)
      refine lv_if_eq (tgt := 96) hx hb dX7_instruction_68 (by decide) (fun c_55 => ?_) (fun c_55 => ?_)
      · skip
        refine lv_aload_n hx hb dX7_instruction_96 rfl (lv_at hl 2 rfl) ?_
        refine va_get (D := G.1) (ci := 10) (v := .int t51.2.2.2.2) (C := RX7) (T := TX7) (N := 21) hx hb hts in_X7 hown hK hP 0 rfl rfl 12 (by decide) (hts _ k_fl_X7_109) (fun _ h9 => h9) rfl dX7_instruction_97 ?_
        refine lv_if_ne (tgt := 113) hx hb dX7_instruction_100 (by decide) (fun c_56 => ?_) (fun c_56 => ?_)
        · first | exact absurd c_52 c_56 | exact absurd c_56 c_52
        · skip
          refine lv_aload_n hx hb dX7_instruction_103 rfl (lv_at hl 2 rfl) ?_
          refine lv_iload_n hx hb dX7_instruction_104 rfl (lv_at hl 3 rfl) ?_
          refine lv_iload_n hx hb dX7_instruction_105 rfl (lv_at hl 1 rfl) ?_
          refine lv_iload_n hx hb dX7_instruction_106 rfl (lv_at hl 0 rfl) ?_
          refine gS (As := [.int p0, .int t51.1, .int (f_X7_after plc)]) (rest := [.ref m0]) (wr := [(m0, .inr (10, [.int rz, .ref m1, .ref m2, .ref m3, .int hf, .int hs, .ref m6, .int len, .int t51.2.1, .int t51.2.2.1, .int t54.2, .int bg, .int t51.2.2.2.2, .ref m13, .ref m14, .int plc, .int sta, .ref m17, .ref m18, .ref m19, .int shm])), (m6, .inl (G.2.1.1, 600, .inl text)), (m13, .inl (G.2.1.1, 256, .inl draft)), (m14, .inl (G.2.1.2.1, 256, .inl wri))]) (ws' := [(m0, .inr (10, [.int rz, .ref m1, .ref m2, .ref m3, .int hf, .int hs, .ref m6, .int len, .int t51.2.1, .int t51.2.2.1, .int t54.2, .int bg, .int t51.2.2.2.2, .ref m13, .ref m14, .int plc, .int sta, .ref m17, .ref m18, .ref m19, .int shm])), (m6, .inl (G.2.1.1, 600, .inl text)), (m13, .inl (G.2.1.1, 256, .inl draft)), (m14, .inl (G.2.1.2.1, 256, .inl wri))]) F (c_X7_coded l G p0 t51.1 (f_X7_after plc)) okS_X7_coded k_ml_X7_166 rfl rfl ⟨Nat.le_of_ble_eq_true rfl, Nat.le_of_ble_eq_true rfl⟩ hN hK hP hD hS hA [] [0, 1, 2, 3] [0, 1, 2, 3] (by decide) rfl rfl (by decide) (by decide) (by decide) rfl rfl rfl hl.1 (Nat.le_of_ble_eq_true rfl) dX7_instruction_107 ⟨Nat.le_refl _, Nat.le_refl _⟩ (fun H locs hP hD hS => ?_)
          refine gV (As := [.int (f_X7_coded p0 t51.1 (f_X7_after plc))]) (rest := []) (wr := [(m6, .inl (G.2.1.1, 600, .inl text))]) (ws' := [(m0, .inr (10, [.int rz, .ref m1, .ref m2, .ref m3, .int hf, .int hs, .ref m6, .int len, .int t51.2.1, .int t51.2.2.1, .int t54.2, .int bg, .int t51.2.2.2.2, .ref m13, .ref m14, .int ((f_X7_writes plc draft wri (f_X7_coded p0 t51.1 (f_X7_after plc))).1), .int sta, .ref m17, .ref m18, .ref m19, .int shm])), (m6, .inl (G.2.1.1, 600, .inl text)), (m13, .inl (G.2.1.1, 256, .inl ((f_X7_writes plc draft wri (f_X7_coded p0 t51.1 (f_X7_after plc))).2.1))), (m14, .inl (G.2.1.2.1, 256, .inl ((f_X7_writes plc draft wri (f_X7_coded p0 t51.1 (f_X7_after plc))).2.2)))]) F (c_X7_writes l G m0 m1 m2 m3 m6 m13 m14 m17 m18 m19 rz hf hs len t51.2.1 t51.2.2.1 t54.2 bg t51.2.2.2.2 plc sta shm draft wri (f_X7_coded p0 t51.1 (f_X7_after plc)) hplc) okV_X7_writes k_ml_X7_170 rfl rfl ⟨Nat.le_of_ble_eq_true rfl, Nat.le_of_ble_eq_true rfl⟩ hN hK hP hD hS hA [0, 2, 3] [1] [1, 0, 2, 3] (by decide) rfl rfl (by decide) (by decide) (by decide) rfl (q0 := 0) rfl rfl rfl rfl hl.1 (Nat.le_of_ble_eq_true rfl) dX7_instruction_110 ⟨Nat.le_refl _, Nat.le_refl _⟩ (fun H locs hP hD hS => ?_)
          generalize et57 : (f_X7_writes plc draft wri (f_X7_coded p0 t51.1 (f_X7_after plc))) = t57 at hP hD ⊢
          have ef : (f_X7_instruction len ec ep pos bg bad plc text draft wri p0) = (t51.2.1, t51.2.2.1, t54.2, bg, t51.2.2.2.2, t57.1, t57.2.1, t57.2.2) := (by subst et57; subst et54; subst et51; exact ((if_neg c_1).trans ((if_pos c_52).trans (if_pos c_55))))
          exact gRetV F hr hlocks hK hP hD hS rfl (by rw [ef]) (Nat.le_of_ble_eq_true rfl) (Nat.le_of_ble_eq_true rfl) dX7_instruction_113
      · skip
        refine lv_aload_n hx hb dX7_instruction_71 rfl (lv_at hl 2 rfl) ?_
        refine gV (As := []) (rest := []) (wr := [(m13, .inl (G.2.1.1, 256, .inl draft)), (m14, .inl (G.2.1.2.1, 256, .inl wri))]) (ws' := [(m0, .inr (10, [.int rz, .ref m1, .ref m2, .ref m3, .int hf, .int hs, .ref m6, .int len, .int t51.2.1, .int t51.2.2.1, .int ((f_X7_word len t54.2 text).2.1), .int ((f_X7_word len t54.2 text).2.2), .int t51.2.2.2.2, .ref m13, .ref m14, .int plc, .int sta, .ref m17, .ref m18, .ref m19, .int shm])), (m6, .inl (G.2.1.1, 600, .inl text)), (m13, .inl (G.2.1.1, 256, .inl draft)), (m14, .inl (G.2.1.2.1, 256, .inl wri))]) F (c_X7_word l G m0 m1 m2 m3 m6 m13 m14 m17 m18 m19 rz hf hs len t51.2.1 t51.2.2.1 t54.2 bg t51.2.2.2.2 plc sta shm text hlen (by have o0 : (0 : Int32).toInt = 0 := (by decide); have o1 : (1 : Int32).toInt = 1 := (by decide); have q0 := rl_pos hlen (by omega) et51; have q1 := here_pos hlen (by omega) et54; omega)) okV_X7_word k_ml_X7_160 rfl rfl ⟨Nat.le_of_ble_eq_true rfl, Nat.le_of_ble_eq_true rfl⟩ hN hK hP hD hS hA [0, 1] [2, 3] [2, 3, 0, 1] (by decide) rfl rfl (by decide) (by decide) (by decide) rfl (q0 := 0) rfl rfl rfl rfl hl.1 (Nat.le_of_ble_eq_true rfl) dX7_instruction_72 ⟨Nat.le_refl _, Nat.le_refl _⟩ (fun H locs hP hD hS => ?_)
        generalize et58 : (f_X7_word len t54.2 text) = t58 at hP hD ⊢
        refine lv_ldc2 (v := 399641) hx hb hown (hts _ k_lc_X7_164) dX7_instruction_75 ?_
        refine gLc_eq (tgt := 91) hx hb dX7_instruction_78 dX7_instruction_79 (by decide) (fun c_59 => ?_) (fun c_59 => ?_)
        · skip
          refine lv_aload_n hx hb dX7_instruction_91 rfl (lv_at hl 2 rfl) ?_
          refine gV (As := []) (rest := []) (wr := [(m13, .inl (G.2.1.1, 256, .inl draft)), (m14, .inl (G.2.1.2.1, 256, .inl wri))]) (ws' := [(m0, .inr (10, [.int rz, .ref m1, .ref m2, .ref m3, .int hf, .int hs, .ref m6, .int len, .int ((f_X7_readLocation len t51.2.1 t51.2.2.1 t58.2.1 t51.2.2.2.2 text).2.1), .int ((f_X7_readLocation len t51.2.1 t51.2.2.1 t58.2.1 t51.2.2.2.2 text).2.2.1), .int ((f_X7_readLocation len t51.2.1 t51.2.2.1 t58.2.1 t51.2.2.2.2 text).2.2.2.1), .int t58.2.2, .int ((f_X7_readLocation len t51.2.1 t51.2.2.1 t58.2.1 t51.2.2.2.2 text).2.2.2.2), .ref m13, .ref m14, .int plc, .int sta, .ref m17, .ref m18, .ref m19, .int shm])), (m6, .inl (G.2.1.1, 600, .inl text)), (m13, .inl (G.2.1.1, 256, .inl draft)), (m14, .inl (G.2.1.2.1, 256, .inl wri))]) F (c_X7_readLocation l G m0 m1 m2 m3 m6 m13 m14 m17 m18 m19 rz hf hs len t51.2.1 t51.2.2.1 t58.2.1 t58.2.2 t51.2.2.2.2 plc sta shm text hlen (by have o0 : (0 : Int32).toInt = 0 := (by decide); have o1 : (1 : Int32).toInt = 1 := (by decide); have q0 := rl_pos hlen (by omega) et51; have q1 := here_pos hlen (by omega) et54; have q2 := word_pos hlen (by omega) et58; omega)) okV_X7_readLocation k_ml_X7_157 rfl rfl ⟨Nat.le_of_ble_eq_true rfl, Nat.le_of_ble_eq_true rfl⟩ hN hK hP hD hS hA [0, 1] [2, 3] [2, 3, 0, 1] (by decide) rfl rfl (by decide) (by decide) (by decide) rfl (q0 := 0) rfl rfl rfl rfl hl.1 (Nat.le_of_ble_eq_true rfl) dX7_instruction_92 ⟨Nat.le_refl _, Nat.le_refl _⟩ (fun H locs hP hD hS => ?_)
          generalize et60 : (f_X7_readLocation len t51.2.1 t51.2.2.1 t58.2.1 t51.2.2.2.2 text) = t60 at hP hD ⊢
          refine lv_istore_n (lv' := [(3, .int t60.1), (2, .int t51.1), (0, .ref m0), (1, .int p0)]) hx hb dX7_instruction_95 rfl hl (by decide) rfl (fun ls hl => ?_)
          refine lv_aload_n hx hb dX7_instruction_96 rfl (lv_at hl 2 rfl) ?_
          refine va_get (D := G.1) (ci := 10) (v := .int t60.2.2.2.2) (C := RX7) (T := TX7) (N := 21) hx hb hts in_X7 hown hK hP 0 rfl rfl 12 (by decide) (hts _ k_fl_X7_109) (fun _ h9 => h9) rfl dX7_instruction_97 ?_
          refine lv_if_ne (tgt := 113) hx hb dX7_instruction_100 (by decide) (fun c_61 => ?_) (fun c_61 => ?_)
          · skip
            have ef : (f_X7_instruction len ec ep pos bg bad plc text draft wri p0) = (t60.2.1, t60.2.2.1, t60.2.2.2.1, t58.2.2, t60.2.2.2.2, plc, draft, wri) := (by subst et60; subst et58; subst et54; subst et51; exact ((if_neg c_1).trans ((if_pos c_52).trans ((if_neg c_55).trans ((if_pos c_59).trans (if_neg c_61))))))
            exact gRetV F hr hlocks hK hP hD hS rfl (by rw [ef]) (Nat.le_of_ble_eq_true rfl) (Nat.le_of_ble_eq_true rfl) dX7_instruction_113
          · skip
            refine lv_aload_n hx hb dX7_instruction_103 rfl (lv_at hl 2 rfl) ?_
            refine lv_iload_n hx hb dX7_instruction_104 rfl (lv_at hl 3 rfl) ?_
            refine lv_iload_n hx hb dX7_instruction_105 rfl (lv_at hl 1 rfl) ?_
            refine lv_iload_n hx hb dX7_instruction_106 rfl (lv_at hl 0 rfl) ?_
            refine gS (As := [.int p0, .int t51.1, .int t60.1]) (rest := [.ref m0]) (wr := [(m0, .inr (10, [.int rz, .ref m1, .ref m2, .ref m3, .int hf, .int hs, .ref m6, .int len, .int t60.2.1, .int t60.2.2.1, .int t60.2.2.2.1, .int t58.2.2, .int t60.2.2.2.2, .ref m13, .ref m14, .int plc, .int sta, .ref m17, .ref m18, .ref m19, .int shm])), (m6, .inl (G.2.1.1, 600, .inl text)), (m13, .inl (G.2.1.1, 256, .inl draft)), (m14, .inl (G.2.1.2.1, 256, .inl wri))]) (ws' := [(m0, .inr (10, [.int rz, .ref m1, .ref m2, .ref m3, .int hf, .int hs, .ref m6, .int len, .int t60.2.1, .int t60.2.2.1, .int t60.2.2.2.1, .int t58.2.2, .int t60.2.2.2.2, .ref m13, .ref m14, .int plc, .int sta, .ref m17, .ref m18, .ref m19, .int shm])), (m6, .inl (G.2.1.1, 600, .inl text)), (m13, .inl (G.2.1.1, 256, .inl draft)), (m14, .inl (G.2.1.2.1, 256, .inl wri))]) F (c_X7_coded l G p0 t51.1 t60.1) okS_X7_coded k_ml_X7_166 rfl rfl ⟨Nat.le_of_ble_eq_true rfl, Nat.le_of_ble_eq_true rfl⟩ hN hK hP hD hS hA [] [0, 1, 2, 3] [0, 1, 2, 3] (by decide) rfl rfl (by decide) (by decide) (by decide) rfl rfl rfl hl.1 (Nat.le_of_ble_eq_true rfl) dX7_instruction_107 ⟨Nat.le_refl _, Nat.le_refl _⟩ (fun H locs hP hD hS => ?_)
            refine gV (As := [.int (f_X7_coded p0 t51.1 t60.1)]) (rest := []) (wr := [(m6, .inl (G.2.1.1, 600, .inl text))]) (ws' := [(m0, .inr (10, [.int rz, .ref m1, .ref m2, .ref m3, .int hf, .int hs, .ref m6, .int len, .int t60.2.1, .int t60.2.2.1, .int t60.2.2.2.1, .int t58.2.2, .int t60.2.2.2.2, .ref m13, .ref m14, .int ((f_X7_writes plc draft wri (f_X7_coded p0 t51.1 t60.1)).1), .int sta, .ref m17, .ref m18, .ref m19, .int shm])), (m6, .inl (G.2.1.1, 600, .inl text)), (m13, .inl (G.2.1.1, 256, .inl ((f_X7_writes plc draft wri (f_X7_coded p0 t51.1 t60.1)).2.1))), (m14, .inl (G.2.1.2.1, 256, .inl ((f_X7_writes plc draft wri (f_X7_coded p0 t51.1 t60.1)).2.2)))]) F (c_X7_writes l G m0 m1 m2 m3 m6 m13 m14 m17 m18 m19 rz hf hs len t60.2.1 t60.2.2.1 t60.2.2.2.1 t58.2.2 t60.2.2.2.2 plc sta shm draft wri (f_X7_coded p0 t51.1 t60.1) hplc) okV_X7_writes k_ml_X7_170 rfl rfl ⟨Nat.le_of_ble_eq_true rfl, Nat.le_of_ble_eq_true rfl⟩ hN hK hP hD hS hA [0, 2, 3] [1] [1, 0, 2, 3] (by decide) rfl rfl (by decide) (by decide) (by decide) rfl (q0 := 0) rfl rfl rfl rfl hl.1 (Nat.le_of_ble_eq_true rfl) dX7_instruction_110 ⟨Nat.le_refl _, Nat.le_refl _⟩ (fun H locs hP hD hS => ?_)
            generalize et62 : (f_X7_writes plc draft wri (f_X7_coded p0 t51.1 t60.1)) = t62 at hP hD ⊢
            have ef : (f_X7_instruction len ec ep pos bg bad plc text draft wri p0) = (t60.2.1, t60.2.2.1, t60.2.2.2.1, t58.2.2, t60.2.2.2.2, t62.1, t62.2.1, t62.2.2) := (by subst et62; subst et60; subst et58; subst et54; subst et51; exact ((if_neg c_1).trans ((if_pos c_52).trans ((if_neg c_55).trans ((if_pos c_59).trans (if_pos c_61))))))
            exact gRetV F hr hlocks hK hP hD hS rfl (by rw [ef]) (Nat.le_of_ble_eq_true rfl) (Nat.le_of_ble_eq_true rfl) dX7_instruction_113
        · skip
          refine lv_aload_n hx hb dX7_instruction_82 rfl (lv_at hl 2 rfl) ?_
          refine lv_iconst (v := 1) hx hb dX7_instruction_83 (by decide) ?_
          refine lv_aload_n hx hb dX7_instruction_84 rfl (lv_at hl 2 rfl) ?_
          refine va_get (D := G.1) (ci := 10) (v := .int t58.2.2) (C := RX7) (T := TX7) (N := 21) hx hb hts in_X7 hown hK hP 0 rfl rfl 11 (by decide) (hts _ k_fl_X7_124) (fun _ h9 => h9) rfl dX7_instruction_85 ?_
          refine gV (As := [.int 1, .int t58.2.2]) (rest := []) (wr := [(m6, .inl (G.2.1.1, 600, .inl text)), (m13, .inl (G.2.1.1, 256, .inl draft)), (m14, .inl (G.2.1.2.1, 256, .inl wri))]) (ws' := [(m0, .inr (10, [.int rz, .ref m1, .ref m2, .ref m3, .int hf, .int hs, .ref m6, .int len, .int ((f_X7_wrong t51.2.1 t51.2.2.1 t51.2.2.2.2 1 t58.2.2).1), .int ((f_X7_wrong t51.2.1 t51.2.2.1 t51.2.2.2.2 1 t58.2.2).2.1), .int t58.2.1, .int t58.2.2, .int ((f_X7_wrong t51.2.1 t51.2.2.1 t51.2.2.2.2 1 t58.2.2).2.2), .ref m13, .ref m14, .int plc, .int sta, .ref m17, .ref m18, .ref m19, .int shm])), (m6, .inl (G.2.1.1, 600, .inl text)), (m13, .inl (G.2.1.1, 256, .inl draft)), (m14, .inl (G.2.1.2.1, 256, .inl wri))]) F (c_X7_wrong l G m0 m1 m2 m3 m6 m13 m14 m17 m18 m19 rz hf hs len t51.2.1 t51.2.2.1 t58.2.1 t58.2.2 t51.2.2.2.2 plc sta shm 1 t58.2.2) okV_X7_wrong k_ml_X7_137 rfl rfl ⟨Nat.le_of_ble_eq_true rfl, Nat.le_of_ble_eq_true rfl⟩ hN hK hP hD hS hA [0] [1, 2, 3] [3, 0, 1, 2] (by decide) rfl rfl (by decide) (by decide) (by decide) rfl (q0 := 0) rfl rfl rfl rfl hl.1 (Nat.le_of_ble_eq_true rfl) dX7_instruction_88 ⟨Nat.le_refl _, Nat.le_refl _⟩ (fun H locs hP hD hS => ?_)
          generalize et63 : (f_X7_wrong t51.2.1 t51.2.2.1 t51.2.2.2.2 1 t58.2.2) = t63 at hP hD ⊢
          refine lv_aload_n hx hb dX7_instruction_91 rfl (lv_at hl 2 rfl) ?_
          refine gV (As := []) (rest := []) (wr := [(m13, .inl (G.2.1.1, 256, .inl draft)), (m14, .inl (G.2.1.2.1, 256, .inl wri))]) (ws' := [(m0, .inr (10, [.int rz, .ref m1, .ref m2, .ref m3, .int hf, .int hs, .ref m6, .int len, .int ((f_X7_readLocation len t63.1 t63.2.1 t58.2.1 t63.2.2 text).2.1), .int ((f_X7_readLocation len t63.1 t63.2.1 t58.2.1 t63.2.2 text).2.2.1), .int ((f_X7_readLocation len t63.1 t63.2.1 t58.2.1 t63.2.2 text).2.2.2.1), .int t58.2.2, .int ((f_X7_readLocation len t63.1 t63.2.1 t58.2.1 t63.2.2 text).2.2.2.2), .ref m13, .ref m14, .int plc, .int sta, .ref m17, .ref m18, .ref m19, .int shm])), (m6, .inl (G.2.1.1, 600, .inl text)), (m13, .inl (G.2.1.1, 256, .inl draft)), (m14, .inl (G.2.1.2.1, 256, .inl wri))]) F (c_X7_readLocation l G m0 m1 m2 m3 m6 m13 m14 m17 m18 m19 rz hf hs len t63.1 t63.2.1 t58.2.1 t58.2.2 t63.2.2 plc sta shm text hlen (by have o0 : (0 : Int32).toInt = 0 := (by decide); have o1 : (1 : Int32).toInt = 1 := (by decide); have q0 := rl_pos hlen (by omega) et51; have q1 := here_pos hlen (by omega) et54; have q2 := word_pos hlen (by omega) et58; omega)) okV_X7_readLocation k_ml_X7_157 rfl rfl ⟨Nat.le_of_ble_eq_true rfl, Nat.le_of_ble_eq_true rfl⟩ hN hK hP hD hS hA [0, 1] [2, 3] [2, 3, 0, 1] (by decide) rfl rfl (by decide) (by decide) (by decide) rfl (q0 := 0) rfl rfl rfl rfl hl.1 (Nat.le_of_ble_eq_true rfl) dX7_instruction_92 ⟨Nat.le_refl _, Nat.le_refl _⟩ (fun H locs hP hD hS => ?_)
          generalize et64 : (f_X7_readLocation len t63.1 t63.2.1 t58.2.1 t63.2.2 text) = t64 at hP hD ⊢
          refine lv_istore_n (lv' := [(3, .int t64.1), (2, .int t51.1), (0, .ref m0), (1, .int p0)]) hx hb dX7_instruction_95 rfl hl (by decide) rfl (fun ls hl => ?_)
          refine lv_aload_n hx hb dX7_instruction_96 rfl (lv_at hl 2 rfl) ?_
          refine va_get (D := G.1) (ci := 10) (v := .int t64.2.2.2.2) (C := RX7) (T := TX7) (N := 21) hx hb hts in_X7 hown hK hP 0 rfl rfl 12 (by decide) (hts _ k_fl_X7_109) (fun _ h9 => h9) rfl dX7_instruction_97 ?_
          refine lv_if_ne (tgt := 113) hx hb dX7_instruction_100 (by decide) (fun c_65 => ?_) (fun c_65 => ?_)
          · skip
            have ef : (f_X7_instruction len ec ep pos bg bad plc text draft wri p0) = (t64.2.1, t64.2.2.1, t64.2.2.2.1, t58.2.2, t64.2.2.2.2, plc, draft, wri) := (by subst et64; subst et63; subst et58; subst et54; subst et51; exact ((if_neg c_1).trans ((if_pos c_52).trans ((if_neg c_55).trans ((if_neg c_59).trans (if_neg c_65))))))
            exact gRetV F hr hlocks hK hP hD hS rfl (by rw [ef]) (Nat.le_of_ble_eq_true rfl) (Nat.le_of_ble_eq_true rfl) dX7_instruction_113
          · skip
            refine lv_aload_n hx hb dX7_instruction_103 rfl (lv_at hl 2 rfl) ?_
            refine lv_iload_n hx hb dX7_instruction_104 rfl (lv_at hl 3 rfl) ?_
            refine lv_iload_n hx hb dX7_instruction_105 rfl (lv_at hl 1 rfl) ?_
            refine lv_iload_n hx hb dX7_instruction_106 rfl (lv_at hl 0 rfl) ?_
            refine gS (As := [.int p0, .int t51.1, .int t64.1]) (rest := [.ref m0]) (wr := [(m0, .inr (10, [.int rz, .ref m1, .ref m2, .ref m3, .int hf, .int hs, .ref m6, .int len, .int t64.2.1, .int t64.2.2.1, .int t64.2.2.2.1, .int t58.2.2, .int t64.2.2.2.2, .ref m13, .ref m14, .int plc, .int sta, .ref m17, .ref m18, .ref m19, .int shm])), (m6, .inl (G.2.1.1, 600, .inl text)), (m13, .inl (G.2.1.1, 256, .inl draft)), (m14, .inl (G.2.1.2.1, 256, .inl wri))]) (ws' := [(m0, .inr (10, [.int rz, .ref m1, .ref m2, .ref m3, .int hf, .int hs, .ref m6, .int len, .int t64.2.1, .int t64.2.2.1, .int t64.2.2.2.1, .int t58.2.2, .int t64.2.2.2.2, .ref m13, .ref m14, .int plc, .int sta, .ref m17, .ref m18, .ref m19, .int shm])), (m6, .inl (G.2.1.1, 600, .inl text)), (m13, .inl (G.2.1.1, 256, .inl draft)), (m14, .inl (G.2.1.2.1, 256, .inl wri))]) F (c_X7_coded l G p0 t51.1 t64.1) okS_X7_coded k_ml_X7_166 rfl rfl ⟨Nat.le_of_ble_eq_true rfl, Nat.le_of_ble_eq_true rfl⟩ hN hK hP hD hS hA [] [0, 1, 2, 3] [0, 1, 2, 3] (by decide) rfl rfl (by decide) (by decide) (by decide) rfl rfl rfl hl.1 (Nat.le_of_ble_eq_true rfl) dX7_instruction_107 ⟨Nat.le_refl _, Nat.le_refl _⟩ (fun H locs hP hD hS => ?_)
            refine gV (As := [.int (f_X7_coded p0 t51.1 t64.1)]) (rest := []) (wr := [(m6, .inl (G.2.1.1, 600, .inl text))]) (ws' := [(m0, .inr (10, [.int rz, .ref m1, .ref m2, .ref m3, .int hf, .int hs, .ref m6, .int len, .int t64.2.1, .int t64.2.2.1, .int t64.2.2.2.1, .int t58.2.2, .int t64.2.2.2.2, .ref m13, .ref m14, .int ((f_X7_writes plc draft wri (f_X7_coded p0 t51.1 t64.1)).1), .int sta, .ref m17, .ref m18, .ref m19, .int shm])), (m6, .inl (G.2.1.1, 600, .inl text)), (m13, .inl (G.2.1.1, 256, .inl ((f_X7_writes plc draft wri (f_X7_coded p0 t51.1 t64.1)).2.1))), (m14, .inl (G.2.1.2.1, 256, .inl ((f_X7_writes plc draft wri (f_X7_coded p0 t51.1 t64.1)).2.2)))]) F (c_X7_writes l G m0 m1 m2 m3 m6 m13 m14 m17 m18 m19 rz hf hs len t64.2.1 t64.2.2.1 t64.2.2.2.1 t58.2.2 t64.2.2.2.2 plc sta shm draft wri (f_X7_coded p0 t51.1 t64.1) hplc) okV_X7_writes k_ml_X7_170 rfl rfl ⟨Nat.le_of_ble_eq_true rfl, Nat.le_of_ble_eq_true rfl⟩ hN hK hP hD hS hA [0, 2, 3] [1] [1, 0, 2, 3] (by decide) rfl rfl (by decide) (by decide) (by decide) rfl (q0 := 0) rfl rfl rfl rfl hl.1 (Nat.le_of_ble_eq_true rfl) dX7_instruction_110 ⟨Nat.le_refl _, Nat.le_refl _⟩ (fun H locs hP hD hS => ?_)
            generalize et66 : (f_X7_writes plc draft wri (f_X7_coded p0 t51.1 t64.1)) = t66 at hP hD ⊢
            have ef : (f_X7_instruction len ec ep pos bg bad plc text draft wri p0) = (t64.2.1, t64.2.2.1, t64.2.2.2.1, t58.2.2, t64.2.2.2.2, t66.1, t66.2.1, t66.2.2) := (by subst et66; subst et64; subst et63; subst et58; subst et54; subst et51; exact ((if_neg c_1).trans ((if_pos c_52).trans ((if_neg c_55).trans ((if_neg c_59).trans (if_pos c_65))))))
            exact gRetV F hr hlocks hK hP hD hS rfl (by rw [ef]) (Nat.le_of_ble_eq_true rfl) (Nat.le_of_ble_eq_true rfl) dX7_instruction_113
theorem okV_X7_instruction : gOkV yX7_instruction cX7_instruction 4 none 1 := ⟨⟨k_im_X7_instruction, k_se_X7_instruction, k_in_X7, k_cd_X7_instruction⟩, by decide, by decide, by decide +kernel⟩
