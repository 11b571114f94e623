def digW (len : Int32) (text : Nat → Int32) (fr : Int32) : Nat → Int32 → Int32 → Int32 × Int32
  | 0, y, x => (y, x)
  | n + 1, y, x =>
    if len ≤ y then (y, x)
    else
      if (f_X7_in (Int32.toInt64 (text (Int32.toNatClampNeg y))) 48 57) = 0 then (y, x)
      else digW len text fr n (y + 1) (if 6 ≤ (y - fr) then x else (((10 * x) + (text (Int32.toNatClampNeg y))) - 48))
def numF (p0 p1 p2 ec ep fr : Int32) (r : Int32 × Int32) : Int32 × Int32 × Int32 × Int32 × Int32 :=
  if (r.1 - fr) ≤ 6 then
    if (f_X7_in (Int32.toInt64 (if p2 = 0 then r.2 else -r.2)) (Int32.toInt64 p0) (Int32.toInt64 p1)) = 0 then (0, 2, fr, r.1, 1)
    else ((if p2 = 0 then r.2 else -r.2), ec, ep, r.1, 0)
  else (0, 1, fr, r.1, 1)
theorem wrong_0 (ec ep a b : Int32) : f_X7_wrong ec ep 0 a b = (a, b, 1) := rfl
theorem wrong_1 {bad : Int32} (h : ¬ bad = 0) (ec ep a b : Int32) : f_X7_wrong ec ep bad a b = (ec, ep, bad) := if_neg h
theorem num_leaf {ec ep p0 p1 p2 y x fr : Int32} : (if p2 = 0 then
          if (y - fr) ≤ 6 then
            if (f_X7_in (Int32.toInt64 x) (Int32.toInt64 p0) (Int32.toInt64 p1)) = 0 then
              if (f_X7_wrong ec ep 0 2 fr).2.2 = 0 then
                (x, (f_X7_wrong ec ep 0 2 fr).1, (f_X7_wrong ec ep 0 2 fr).2.1, y, (f_X7_wrong ec ep 0 2 fr).2.2)
              else
                (0, (f_X7_wrong ec ep 0 2 fr).1, (f_X7_wrong ec ep 0 2 fr).2.1, y, (f_X7_wrong ec ep 0 2 fr).2.2)
            else
              (x, ec, ep, y, 0)
          else
            if (f_X7_wrong ec ep 0 1 fr).2.2 = 0 then
              (x, (f_X7_wrong ec ep 0 1 fr).1, (f_X7_wrong ec ep 0 1 fr).2.1, y, (f_X7_wrong ec ep 0 1 fr).2.2)
            else
              (0, (f_X7_wrong ec ep 0 1 fr).1, (f_X7_wrong ec ep 0 1 fr).2.1, y, (f_X7_wrong ec ep 0 1 fr).2.2)
        else
          if (y - fr) ≤ 6 then
            if (f_X7_in (Int32.toInt64 (-x)) (Int32.toInt64 p0) (Int32.toInt64 p1)) = 0 then
              if (f_X7_wrong ec ep 0 2 fr).2.2 = 0 then
                ((-x), (f_X7_wrong ec ep 0 2 fr).1, (f_X7_wrong ec ep 0 2 fr).2.1, y, (f_X7_wrong ec ep 0 2 fr).2.2)
              else
                (0, (f_X7_wrong ec ep 0 2 fr).1, (f_X7_wrong ec ep 0 2 fr).2.1, y, (f_X7_wrong ec ep 0 2 fr).2.2)
            else
              ((-x), ec, ep, y, 0)
          else
            if (f_X7_wrong ec ep 0 1 fr).2.2 = 0 then
              ((-x), (f_X7_wrong ec ep 0 1 fr).1, (f_X7_wrong ec ep 0 1 fr).2.1, y, (f_X7_wrong ec ep 0 1 fr).2.2)
            else
              (0, (f_X7_wrong ec ep 0 1 fr).1, (f_X7_wrong ec ep 0 1 fr).2.1, y, (f_X7_wrong ec ep 0 1 fr).2.2)) = numF p0 p1 p2 ec ep fr (y, x) := by
  have h10 : ¬ (1 : Int32) = 0 := by decide
  unfold numF
  rw [wrong_0, wrong_0]
  dsimp only
  by_cases c1 : p2 = 0
  · rw [if_pos c1, if_pos c1]
    by_cases c2 : (y - fr) ≤ 6
    · rw [if_pos c2, if_pos c2]
      by_cases c3 : (f_X7_in (Int32.toInt64 x) (Int32.toInt64 p0) (Int32.toInt64 p1)) = 0
      · rw [if_pos c3, if_pos c3, if_neg h10]
      · rw [if_neg c3, if_neg c3]
    · rw [if_neg c2, if_neg c2, if_neg h10]
  · rw [if_neg c1, if_neg c1]
    by_cases c2 : (y - fr) ≤ 6
    · rw [if_pos c2, if_pos c2]
      by_cases c3 : (f_X7_in (Int32.toInt64 (-x)) (Int32.toInt64 p0) (Int32.toInt64 p1)) = 0
      · rw [if_pos c3, if_pos c3, if_neg h10]
      · rw [if_neg c3, if_neg c3]
    · rw [if_neg c2, if_neg c2, if_neg h10]
theorem number_it {len ec ep pos p0 p1 p2 : Int32} {text : Nat → Int32} (hd : ¬ (f_X7_in (Int32.toInt64 ((f_X7_here len pos text).1)) 48 57) = 0) : ∀ (n : Nat) (y x : Int32), 0 ≤ y.toInt → (len.toInt - y.toInt).toNat < n → wl_X7_number len ec ep pos 0 text p0 p1 p2 n y x = numF p0 p1 p2 ec ep (f_X7_here len pos text).2 (digW len text (f_X7_here len pos text).2 n y x) := by
  intro n
  induction n with
  | zero => intro y x _ h; omega
  | succ n ih =>
    intro y x h0 h
    unfold wl_X7_number digW
    rw [if_neg hd]
    by_cases c1 : len ≤ y
    · rw [if_pos c1, if_pos c1]
      exact num_leaf
    · rw [if_neg c1, if_neg c1]
      by_cases c2 : (f_X7_in (Int32.toInt64 (text (Int32.toNatClampNeg y))) 48 57) = 0
      · rw [if_pos c2, if_pos c2]
        exact num_leaf
      · rw [if_neg c2, if_neg c2]
        by_cases c3 : 6 ≤ (y - (f_X7_here len pos text).2)
        · rw [if_pos c3, if_pos c3]
          exact ih (y + 1) _ (nxt_pos c1 h0) (tok_mu c1 h)
        · rw [if_neg c3, if_neg c3]
          exact ih (y + 1) _ (nxt_pos c1 h0) (tok_mu c1 h)
/-- number, where nothing was wrong before -/
theorem number_eq {len ec ep pos p0 p1 p2 : Int32} {text : Nat → Int32} (hlen : 0 ≤ len.toInt ∧ len.toInt ≤ 600) (hpos : 0 ≤ pos.toInt ∧ pos.toInt ≤ 700) :
    f_X7_number len ec ep pos 0 text p0 p1 p2 = if (f_X7_in (Int32.toInt64 ((f_X7_here len pos text).1)) 48 57) = 0 then (0, 1, (f_X7_here len pos text).2, (f_X7_here len pos text).2, 1) else numF p0 p1 p2 ec ep (f_X7_here len pos text).2 (digW len text (f_X7_here len pos text).2 701 (f_X7_here len pos text).2 0) := by
  have q := here_rng (text := text) hlen hpos
  have h10 : ¬ (1 : Int32) = 0 := by decide
  unfold f_X7_number
  rw [if_pos rfl]
  by_cases hd : (f_X7_in (Int32.toInt64 ((f_X7_here len pos text).1)) 48 57) = 0
  · rw [if_pos hd]
    show wl_X7_number len ec ep pos 0 text p0 p1 p2 (700 + 1) (f_X7_here len pos text).2 0 = _
    unfold wl_X7_number
    rw [if_pos hd, wrong_0]
    dsimp only
    rw [if_neg h10, if_neg h10]
    split <;> rfl
  · rw [if_neg hd]
    exact number_it hd 701 _ 0 q.1 (by omega)
theorem dig_rng {len fr : Int32} {text : Nat → Int32} : ∀ (n : Nat) (y x : Int32), 0 ≤ y.toInt → 0 ≤ (digW len text fr n y x).1.toInt ∧ y.toInt ≤ (digW len text fr n y x).1.toInt ∧ ((digW len text fr n y x).1.toInt ≤ len.toInt ∨ (digW len text fr n y x).1 = y) := by
  intro n
  induction n with
  | zero => intro y x h; exact ⟨h, Int.le_refl _, Or.inr rfl⟩
  | succ n ih =>
    intro y x h
    unfold digW
    by_cases c1 : len ≤ y
    · rw [if_pos c1]; exact ⟨h, Int.le_refl _, Or.inr rfl⟩
    · rw [if_neg c1]
      split
      · exact ⟨h, Int.le_refl _, Or.inr rfl⟩
      · have h1 := nxt_pos c1 h
        have r1 := Int32.toInt_lt len
        have o1 : (1 : Int32).toInt = 1 := by decide
        obtain ⟨g1, g2, g3⟩ := ih (y + 1) (if 6 ≤ (y - fr) then x else (((10 * x) + (text (Int32.toNatClampNeg y))) - 48)) h1
        rw [gI_le] at c1
        have ea := gI_add (x := y) (y := 1) (by omega) (by omega)
        refine ⟨g1, by omega, ?_⟩
        rcases g3 with g3 | g3
        · exact Or.inl g3
        · rw [g3]; exact Or.inl (by omega)
theorem r0_rng {a b : Int} (h : a ≤ 0) (h2 : 0 ≤ b) : a ≤ (0 : Int32).toInt ∧ (0 : Int32).toInt ≤ b := by
  have e0 : (0 : Int32).toInt = 0 := by decide
  omega
theorem number_rng {len ec ep pos bad p0 p1 p2 : Int32} {text : Nat → Int32} (hlen : 0 ≤ len.toInt ∧ len.toInt ≤ 600) (hpos : 0 ≤ pos.toInt ∧ pos.toInt ≤ 700) :
    (pos.toInt ≤ (f_X7_number len ec ep pos bad text p0 p1 p2).2.2.2.1.toInt ∧ ((f_X7_number len ec ep pos bad text p0 p1 p2).2.2.2.1.toInt ≤ len.toInt ∨ (f_X7_number len ec ep pos bad text p0 p1 p2).2.2.2.1.toInt ≤ pos.toInt)) ∧ (p0.toInt ≤ 0 → 0 ≤ p1.toInt → p0.toInt ≤ (f_X7_number len ec ep pos bad text p0 p1 p2).1.toInt ∧ (f_X7_number len ec ep pos bad text p0 p1 p2).1.toInt ≤ p1.toInt) ∧ (¬ bad = 0 → ¬ (f_X7_number len ec ep pos bad text p0 p1 p2).2.2.2.2 = 0) := by
  have e0 : (0 : Int32).toInt = 0 := by decide
  by_cases hb : bad = 0
  · subst hb
    have q := here_rng (text := text) hlen hpos
    rw [number_eq hlen hpos]
    by_cases hd : (f_X7_in (Int32.toInt64 ((f_X7_here len pos text).1)) 48 57) = 0
    · rw [if_pos hd]
      refine ⟨⟨q.2.1, ?_⟩, fun u v => r0_rng u v, fun z => absurd rfl z⟩
      rcases q.2.2.1 with z | z
      · exact Or.inl z
      · rw [z]; exact Or.inr (Int.le_refl _)
    · rw [if_neg hd]
      have d := dig_rng (len := len) (text := text) (fr := (f_X7_here len pos text).2) 701 (f_X7_here len pos text).2 0 q.1
      generalize digW len text (f_X7_here len pos text).2 701 (f_X7_here len pos text).2 0 = r at *
      generalize (f_X7_here len pos text).2 = fr at *
      have hpp : pos.toInt ≤ r.1.toInt ∧ (r.1.toInt ≤ len.toInt ∨ r.1.toInt ≤ pos.toInt) := by
        refine ⟨by omega, ?_⟩
        rcases d.2.2 with z | z
        · exact Or.inl z
        · rw [z]
          rcases q.2.2.1 with y | y
          · exact Or.inl y
          · rw [y]; exact Or.inr (Int.le_refl _)
      unfold numF
      by_cases c2 : (r.1 - fr) ≤ 6
      · rw [if_pos c2]
        by_cases c3 : (f_X7_in (Int32.toInt64 (if p2 = 0 then r.2 else -r.2)) (Int32.toInt64 p0) (Int32.toInt64 p1)) = 0
        · rw [if_pos c3]
          exact ⟨hpp, fun u v => r0_rng u v, fun z => absurd rfl z⟩
        · rw [if_neg c3]
          have z := in_of c3
          rw [gI_l, gI_l, gI_l] at z
          exact ⟨hpp, fun _ _ => z, fun z => absurd rfl z⟩
      · rw [if_neg c2]
        exact ⟨hpp, fun u v => r0_rng u v, fun z => absurd rfl z⟩
  · have e : f_X7_number len ec ep pos bad text p0 p1 p2 = (0, ec, ep, pos, bad) := if_neg hb
    rw [e]
    exact ⟨⟨Int.le_refl _, Or.inr (Int.le_refl _)⟩, fun u v => r0_rng u v, fun _ => hb⟩
def f_X7_sign (len : Int32) (ec : Int32) (ep : Int32) (pos : Int32) (bad : Int32) (text : Nat → Int32) (p0 : Int32) : Int32 × Int32 × Int32 × Int32 :=
  if bad = 0 then
    if (f_X7_here len pos text).1 = p0 then
      (ec, ep, ((f_X7_here len pos text).2 + 1), bad)
    else
      ((f_X7_wrong ec ep bad 1 ((f_X7_here len pos text).2)).1, (f_X7_wrong ec ep bad 1 ((f_X7_here len pos text).2)).2.1, (((f_X7_here len pos text).2) + 1), (f_X7_wrong ec ep bad 1 ((f_X7_here len pos text).2)).2.2)
  else
    (ec, ep, pos, bad)
set_option maxRecDepth 100000 in
set_option maxHeartbeats 4000000 in
theorem c_X7_sign (l : Launch) (G : gG) (m0 : Nat) (m1 : Nat) (m2 : Nat) (m3 : Nat) (m6 : Nat) (m13 : Nat) (m14 : Nat) (m17 : Nat) (m18 : Nat) (m19 : Nat) (rz : Int32) (hf : Int32) (hs : Int32) (len : Int32) (ec : Int32) (ep : Int32) (pos : Int32) (bg : Int32) (bad : Int32) (plc : Int32) (sta : Int32) (shm : Int32) (text : Nat → Int32) (p0 : Int32) (hlen : 0 ≤ len.toInt ∧ len.toInt ≤ 600) (hpos : 0 ≤ pos.toInt ∧ pos.toInt ≤ 700) : gM l G yX7_sign cX7_sign 2 none { frames := 1, cells := 0, slots := 0, locals := 22 } [.ref m0, .int p0] [(m0, .inr (10, [.int rz, .ref m1, .ref m2, .ref m3, .int hf, .int hs, .ref m6, .int len, .int ec, .int ep, .int pos, .int bg, .int bad, .ref m13, .ref m14, .int plc, .int sta, .ref m17, .ref m18, .ref m19, .int shm])), (m6, .inl (G.2.1.1, 600, .inl text))] none [(m0, .inr (10, [.int rz, .ref m1, .ref m2, .ref m3, .int hf, .int hs, .ref m6, .int len, .int ((f_X7_sign len ec ep pos bad text p0).1), .int ((f_X7_sign len ec ep pos bad text p0).2.1), .int ((f_X7_sign len ec ep pos bad text p0).2.2.1), .int bg, .int ((f_X7_sign len ec ep pos bad text p0).2.2.2), .ref m13, .ref m14, .int plc, .int sta, .ref m17, .ref m18, .ref m19, .int shm])), (m6, .inl (G.2.1.1, 600, .inl text))] 0 0 := by
  refine gBegin (by decide +kernel) (Nat.le_of_ble_eq_true rfl) (fun p e s m args below meth c A F hr hlocks hname hN hK hP hD hA hS ls hl => ?_)
  obtain ⟨hx, hb, hml, hown, hts⟩ := id F
  replace hP : va_P G.1 vwCl [(m0, .inr (10, [.int rz, .ref m1, .ref m2, .ref m3, .int hf, .int hs, .ref m6, .int len, .int ec, .int ep, .int pos, .int bg, .int bad, .ref m13, .ref m14, .int plc, .int sta, .ref m17, .ref m18, .ref m19, .int shm])), (m6, .inl (G.2.1.1, 600, .inl text))] s.heap := hP
  replace hl : lv_has ls 2 [(0, .ref m0), (1, .int p0)] := hl
  refine lv_aload_n hx hb dX7_sign_0 rfl (lv_at hl 0 rfl) ?_
  refine va_get (D := G.1) (ci := 10) (v := .int bad) (C := RX7) (T := TX7) (N := 21) hx hb hts in_X7 hown hK hP 0 rfl rfl 12 (by decide) (hts _ k_fl_X7_109) (fun _ h9 => h9) rfl dX7_sign_1 ?_
  refine lv_if_eq (tgt := 8) hx hb dX7_sign_4 (by decide) (fun c_1 => ?_) (fun c_1 => ?_)
  · skip
    refine lv_aload_n hx hb dX7_sign_8 rfl (lv_at hl 0 rfl) ?_
    refine gV (As := []) (rest := []) (wr := []) (ws' := [(m0, .inr (10, [.int rz, .ref m1, .ref m2, .ref m3, .int hf, .int hs, .ref m6, .int len, .int ec, .int ep, .int ((f_X7_here len pos text).2), .int bg, .int bad, .ref m13, .ref m14, .int plc, .int sta, .ref m17, .ref m18, .ref m19, .int shm])), (m6, .inl (G.2.1.1, 600, .inl text))]) F (c_X7_here l G m0 m1 m2 m3 m6 m13 m14 m17 m18 m19 rz hf hs len ec ep pos bg bad plc sta shm text (by omega) (by omega)) okV_X7_here k_ml_X7_116 rfl rfl ⟨Nat.le_of_ble_eq_true rfl, Nat.le_of_ble_eq_true rfl⟩ hN hK hP hD hS hA [0, 1] [] [0, 1] (by decide) rfl rfl (by decide) (by decide) (by decide) rfl (q0 := 0) rfl rfl rfl rfl hl.1 (Nat.le_of_ble_eq_true rfl) dX7_sign_9 ⟨Nat.le_refl _, Nat.le_refl _⟩ (fun H locs hP hD hS => ?_)
    refine lv_iload_n hx hb dX7_sign_12 rfl (lv_at hl 1 rfl) ?_
    refine lv_icmp_eq (tgt := 25) hx hb dX7_sign_13 (by decide) (fun c_2 => ?_) (fun c_2 => ?_)
    · skip
      refine lv_aload_n hx hb dX7_sign_25 rfl (lv_at hl 0 rfl) ?_
      refine lv_dup hx hb dX7_sign_26 rfl ?_
      refine va_get (D := G.1) (ci := 10) (v := .int ((f_X7_here len pos text).2)) (C := RX7) (T := TX7) (N := 21) hx hb hts in_X7 hown hK hP 0 rfl rfl 10 (by decide) (hts _ k_fl_X7_106) (fun _ h9 => h9) rfl dX7_sign_27 ?_
      refine lv_iconst (v := 1) hx hb dX7_sign_30 (by decide) ?_
      refine lv_iadd hx hb dX7_sign_31 ?_
      refine va_put (D := G.1) (ci := 10) (v := .int ((f_X7_here len pos text).2 + 1)) (ty := .int) (C := RX7) (T := TX7) (N := 21) hx hb hts in_X7 tyX7 tyX7_ok nmX7 hown hK hP hD hS 0 rfl rfl 10 (by decide) (hts _ k_fl_X7_106) (fun _ h9 => h9) rfl (by decide +kernel) rfl rfl (Nat.le_of_ble_eq_true rfl) dX7_sign_32 (fun H locs hP hD hS => ?_)
      replace hP : va_P G.1 vwCl [(m0, .inr (10, [.int rz, .ref m1, .ref m2, .ref m3, .int hf, .int hs, .ref m6, .int len, .int ec, .int ep, .int ((f_X7_here len pos text).2 + 1), .int bg, .int bad, .ref m13, .ref m14, .int plc, .int sta, .ref m17, .ref m18, .ref m19, .int shm])), (m6, .inl (G.2.1.1, 600, .inl text))] H := hP
      replace hD : va_D A [(m0, .inr (10, [.int rz, .ref m1, .ref m2, .ref m3, .int hf, .int hs, .ref m6, .int len, .int ec, .int ep, .int ((f_X7_here len pos text).2 + 1), .int bg, .int bad, .ref m13, .ref m14, .int plc, .int sta, .ref m17, .ref m18, .ref m19, .int shm])), (m6, .inl (G.2.1.1, 600, .inl text))] := hD
      have ef : (f_X7_sign len ec ep pos bad text p0) = (ec, ep, ((f_X7_here len pos text).2 + 1), bad) := ((if_pos c_1).trans (if_pos c_2))
      exact gRetV F hr hlocks hK hP hD hS rfl (by rw [ef]) (Nat.le_of_ble_eq_true rfl) (Nat.le_of_ble_eq_true rfl) dX7_sign_35
    · skip
      refine lv_aload_n hx hb dX7_sign_16 rfl (lv_at hl 0 rfl) ?_
      refine lv_iconst (v := 1) hx hb dX7_sign_17 (by decide) ?_
      refine lv_aload_n hx hb dX7_sign_18 rfl (lv_at hl 0 rfl) ?_
      refine va_get (D := G.1) (ci := 10) (v := .int ((f_X7_here len pos text).2)) (C := RX7) (T := TX7) (N := 21) hx hb hts in_X7 hown hK hP 0 rfl rfl 10 (by decide) (hts _ k_fl_X7_106) (fun _ h9 => h9) rfl dX7_sign_19 ?_
      refine gV (As := [.int 1, .int ((f_X7_here len pos text).2)]) (rest := []) (wr := [(m6, .inl (G.2.1.1, 600, .inl text))]) (ws' := [(m0, .inr (10, [.int rz, .ref m1, .ref m2, .ref m3, .int hf, .int hs, .ref m6, .int len, .int ((f_X7_wrong ec ep bad 1 ((f_X7_here len pos text).2)).1), .int ((f_X7_wrong ec ep bad 1 ((f_X7_here len pos text).2)).2.1), .int ((f_X7_here len pos text).2), .int bg, .int ((f_X7_wrong ec ep bad 1 ((f_X7_here len pos text).2)).2.2), .ref m13, .ref m14, .int plc, .int sta, .ref m17, .ref m18, .ref m19, .int shm])), (m6, .inl (G.2.1.1, 600, .inl text))]) F (c_X7_wrong l G m0 m1 m2 m3 m6 m13 m14 m17 m18 m19 rz hf hs len ec ep ((f_X7_here len pos text).2) bg bad plc sta shm 1 ((f_X7_here len pos text).2)) okV_X7_wrong k_ml_X7_137 rfl rfl ⟨Nat.le_of_ble_eq_true rfl, Nat.le_of_ble_eq_true rfl⟩ hN hK hP hD hS hA [0] [1] [1, 0] (by decide) rfl rfl (by decide) (by decide) (by decide) rfl (q0 := 0) rfl rfl rfl rfl hl.1 (Nat.le_of_ble_eq_true rfl) dX7_sign_22 ⟨Nat.le_refl _, Nat.le_refl _⟩ (fun H locs hP hD hS => ?_)
      refine lv_aload_n hx hb dX7_sign_25 rfl (lv_at hl 0 rfl) ?_
      refine lv_dup hx hb dX7_sign_26 rfl ?_
      refine va_get (D := G.1) (ci := 10) (v := .int ((f_X7_here len pos text).2)) (C := RX7) (T := TX7) (N := 21) hx hb hts in_X7 hown hK hP 0 rfl rfl 10 (by decide) (hts _ k_fl_X7_106) (fun _ h9 => h9) rfl dX7_sign_27 ?_
      refine lv_iconst (v := 1) hx hb dX7_sign_30 (by decide) ?_
      refine lv_iadd hx hb dX7_sign_31 ?_
      refine va_put (D := G.1) (ci := 10) (v := .int (((f_X7_here len pos text).2) + 1)) (ty := .int) (C := RX7) (T := TX7) (N := 21) hx hb hts in_X7 tyX7 tyX7_ok nmX7 hown hK hP hD hS 0 rfl rfl 10 (by decide) (hts _ k_fl_X7_106) (fun _ h9 => h9) rfl (by decide +kernel) rfl rfl (Nat.le_of_ble_eq_true rfl) dX7_sign_32 (fun H locs hP hD hS => ?_)
      replace hP : va_P G.1 vwCl [(m0, .inr (10, [.int rz, .ref m1, .ref m2, .ref m3, .int hf, .int hs, .ref m6, .int len, .int ((f_X7_wrong ec ep bad 1 ((f_X7_here len pos text).2)).1), .int ((f_X7_wrong ec ep bad 1 ((f_X7_here len pos text).2)).2.1), .int (((f_X7_here len pos text).2) + 1), .int bg, .int ((f_X7_wrong ec ep bad 1 ((f_X7_here len pos text).2)).2.2), .ref m13, .ref m14, .int plc, .int sta, .ref m17, .ref m18, .ref m19, .int shm])), (m6, .inl (G.2.1.1, 600, .inl text))] H := hP
      replace hD : va_D A [(m0, .inr (10, [.int rz, .ref m1, .ref m2, .ref m3, .int hf, .int hs, .ref m6, .int len, .int ((f_X7_wrong ec ep bad 1 ((f_X7_here len pos text).2)).1), .int ((f_X7_wrong ec ep bad 1 ((f_X7_here len pos text).2)).2.1), .int (((f_X7_here len pos text).2) + 1), .int bg, .int ((f_X7_wrong ec ep bad 1 ((f_X7_here len pos text).2)).2.2), .ref m13, .ref m14, .int plc, .int sta, .ref m17, .ref m18, .ref m19, .int shm])), (m6, .inl (G.2.1.1, 600, .inl text))] := hD
      have ef : (f_X7_sign len ec ep pos bad text p0) = ((f_X7_wrong ec ep bad 1 ((f_X7_here len pos text).2)).1, (f_X7_wrong ec ep bad 1 ((f_X7_here len pos text).2)).2.1, (((f_X7_here len pos text).2) + 1), (f_X7_wrong ec ep bad 1 ((f_X7_here len pos text).2)).2.2) := ((if_pos c_1).trans (if_neg c_2))
      exact gRetV F hr hlocks hK hP hD hS rfl (by rw [ef]) (Nat.le_of_ble_eq_true rfl) (Nat.le_of_ble_eq_true rfl) dX7_sign_35
  · skip
    have ef : (f_X7_sign len ec ep pos bad text p0) = (ec, ep, pos, bad) := (if_neg c_1)
    exact gRetV F hr hlocks hK hP hD hS rfl (by rw [ef]) (Nat.le_of_ble_eq_true rfl) (Nat.le_of_ble_eq_true rfl) dX7_sign_7
theorem okV_X7_sign : gOkV yX7_sign cX7_sign 2 none 1 := ⟨⟨k_im_X7_sign, k_se_X7_sign, k_in_X7, k_cd_X7_sign⟩, by decide, by decide, by decide +kernel⟩
theorem sign_rng {len ec ep pos bad p0 : Int32} {text : Nat → Int32} (hlen : 0 ≤ len.toInt ∧ len.toInt ≤ 600) (hpos : 0 ≤ pos.toInt ∧ pos.toInt ≤ 700) :
    (pos.toInt ≤ (f_X7_sign len ec ep pos bad text p0).2.2.1.toInt ∧ ((f_X7_sign len ec ep pos bad text p0).2.2.1.toInt ≤ len.toInt + 1 ∨ (f_X7_sign len ec ep pos bad text p0).2.2.1.toInt ≤ pos.toInt + 1)) ∧ (¬ bad = 0 → ¬ (f_X7_sign len ec ep pos bad text p0).2.2.2 = 0) ∧ ((f_X7_sign len ec ep pos bad text p0).2.2.2 = 0 → pos.toInt < (f_X7_sign len ec ep pos bad text p0).2.2.1.toInt) := by
  have e1 : (1 : Int32).toInt = 1 := by decide
  have q := here_rng (text := text) hlen hpos
  have ea := gI_add (x := (f_X7_here len pos text).2) (y := 1) (by omega) (by omega)
  have hq : (f_X7_here len pos text).2.toInt ≤ len.toInt ∨ (f_X7_here len pos text).2.toInt ≤ pos.toInt := by
    rcases q.2.2.1 with z | z
    · exact Or.inl z
    · rw [z]; exact Or.inr (Int.le_refl _)
  unfold f_X7_sign
  by_cases hb : bad = 0
  · rw [if_pos hb]
    split
    · exact ⟨⟨by show _ ≤ ((f_X7_here len pos text).2 + 1).toInt; omega, by show ((f_X7_here len pos text).2 + 1).toInt ≤ _ ∨ ((f_X7_here len pos text).2 + 1).toInt ≤ _; omega⟩, fun z => absurd hb z, fun _ => by show _ < ((f_X7_here len pos text).2 + 1).toInt; omega⟩
    · subst hb
      exact ⟨⟨by show _ ≤ ((f_X7_here len pos text).2 + 1).toInt; omega, by show ((f_X7_here len pos text).2 + 1).toInt ≤ _ ∨ ((f_X7_here len pos text).2 + 1).toInt ≤ _; omega⟩, fun z => absurd rfl z, fun _ => by show _ < ((f_X7_here len pos text).2 + 1).toInt; omega⟩
  · rw [if_neg hb]
    exact ⟨⟨Int.le_refl _, Or.inr (by show pos.toInt ≤ _; omega)⟩, fun _ => hb, fun z => absurd z hb⟩
