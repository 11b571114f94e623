abbrev gU : Type := (Nat → Nat) × (Nat → Nat → Int32) × (Nat → Int32) × (Nat → Int32) × Int32 × Int32 × Int32 × va_W
/-- what stays: the words of tank 0, and what is known of the temperatures and the clock; what is new: E rows -/
def gUp (G : gG) (b0 : Nat → Int32) (E T : Nat) (Mov Mfx Mip : Int32) (z : Cz) (v : gU) : Prop := (∀ i : Nat, i < 640 → g01 (b0 i) → v.2.1 0 i = b0 i) ∧ v.2.2.2.2.2.2.2.length = 8 * E ∧ gGb G v.2.2.2.2.2.2.2 ∧ z = (T, Mov, v.2.2.2.2.2.1, Mfx, Mip, v.2.2.1 0)
theorem gUp.join {G : gG} {b0 : Nat → Int32} {E1 E2 T1 T2 : Nat} {Mov Mfx Mip : Int32} {z1 z2 : Cz} {v w : gU} (h1 : gUp G b0 E1 T1 Mov Mfx Mip z1 v) (h2 : gUp G (v.2.1 0) E2 T2 Mov Mfx Mip z2 w) {E : Nat} (hE : E1 + E2 = E) {ex : va_W} (hex : ex = w.2.2.2.2.2.2.2 ++ v.2.2.2.2.2.2.2) : gUp G b0 E T2 Mov Mfx Mip z2 (w.1, w.2.1, w.2.2.1, w.2.2.2.1, w.2.2.2.2.1, w.2.2.2.2.2.1, w.2.2.2.2.2.2.1, ex) := by
  subst hex hE
  refine ⟨fun i hi hg => ?_, ?_, h2.2.2.1.app h1.2.2.1, h2.2.2.2⟩
  · have e := h1.1 i hi hg
    exact (h2.1 i hi (by rw [e]; exact hg)).trans e
  · show (w.2.2.2.2.2.2.2 ++ v.2.2.2.2.2.2.2).length = 8 * (E1 + E2)
    rw [List.length_append, h1.2.1, h2.2.1]
    omega
theorem okV_X8_passes : gOkV yX8_passes cX8_passes 9 none 1 := ⟨⟨k_im_X8_passes, k_se_X8_passes, k_in_X8, k_cd_X8_passes⟩, by decide, by decide, by decide +kernel⟩
set_option maxRecDepth 100000 in
set_option maxHeartbeats 4000000 in
theorem c_X8_passes (l : Launch) (G : gG) (m0 : Nat) (bb : Nat) (wm : Nat) (sl : Nat) (cq : Nat) (ii : Nat) (oo : Nat) (Mac : Int32) (Mtk : Int32) (Mcy : Int32) (Msta : Int32) (Mdn : Int32) (Mwt : Int32) (Mdr : Int32) (Mov : Int32) (Mpi : Int32) (Mfx : Int32) (Mip : Int32) (Mio : Int32) (ra : Nat → Nat) (rb : Nat → Nat → Int32) (warm slp : Nat → Int32) (T N : Nat) (z : Cz) (hN31 : N < 2 ^ 31) (hT : T + N < 200000000) (hz : pz N (T, Mov, Mpi, Mfx, Mip, warm 0) = some z) : gE l G yX8_passes cX8_passes 9 none { frames := 10, cells := 8 * ((T + N) / 32 - T / 32), slots := 5120 * ((T + N) / 32 - T / 32), locals := 400 } [.ref m0, .int (nI N)] [(m0, .inr (10, [.ref bb, .ref wm, .ref sl, .ref cq, .ref ii, .ref oo, .int (nI T), .int Mac, .int Mtk, .int Mcy, .int Msta, .int Mdn, .int Mwt, .int Mdr, .int Mov, .int Mpi, .int Mfx, .int Mip, .int Mio])), (bb, .inl (G.2.1.2.2.2.1, 8, .inr (.inr (.inr (.inr (gR [(ra 0), (ra 1), (ra 2), (ra 3), (ra 4), (ra 5), (ra 6), (ra 7)])))))), (wm, .inl (G.2.1.1, 8, .inl warm)), (sl, .inl (G.2.1.1, 8, .inl slp)), ((ra 0), .inl (G.2.1.2.1, 640, .inl (rb 0))), ((ra 1), .inl (G.2.1.2.1, 640, .inl (rb 1))), ((ra 2), .inl (G.2.1.2.1, 640, .inl (rb 2))), ((ra 3), .inl (G.2.1.2.1, 640, .inl (rb 3))), ((ra 4), .inl (G.2.1.2.1, 640, .inl (rb 4))), ((ra 5), .inl (G.2.1.2.1, 640, .inl (rb 5))), ((ra 6), .inl (G.2.1.2.1, 640, .inl (rb 6))), ((ra 7), .inl (G.2.1.2.1, 640, .inl (rb 7)))] (S := gU) (gUp G (rb 0) ((T + N) / 32 - T / 32) (T + N) Mov Mfx Mip z) (fun _ => none) (fun v => [(m0, .inr (10, [.ref bb, .ref wm, .ref sl, .ref cq, .ref ii, .ref oo, .int (nI (T + N)), .int Mac, .int Mtk, .int Mcy, .int Msta, .int Mdn, .int v.2.2.2.2.2.2.1, .int v.2.2.2.2.1, .int Mov, .int v.2.2.2.2.2.1, .int Mfx, .int Mip, .int Mio])), (bb, .inl (G.2.1.2.2.2.1, 8, .inr (.inr (.inr (.inr (gR [(v.1 0), (v.1 1), (v.1 2), (v.1 3), (v.1 4), (v.1 5), (v.1 6), (v.1 7)])))))), (wm, .inl (G.2.1.1, 8, .inl v.2.2.1)), (sl, .inl (G.2.1.1, 8, .inl v.2.2.2.1)), ((v.1 0), .inl (G.2.1.2.1, 640, .inl (v.2.1 0))), ((v.1 1), .inl (G.2.1.2.1, 640, .inl (v.2.1 1))), ((v.1 2), .inl (G.2.1.2.1, 640, .inl (v.2.1 2))), ((v.1 3), .inl (G.2.1.2.1, 640, .inl (v.2.1 3))), ((v.1 4), .inl (G.2.1.2.1, 640, .inl (v.2.1 4))), ((v.1 5), .inl (G.2.1.2.1, 640, .inl (v.2.1 5))), ((v.1 6), .inl (G.2.1.2.1, 640, .inl (v.2.1 6))), ((v.1 7), .inl (G.2.1.2.1, 640, .inl (v.2.1 7)))] ++ v.2.2.2.2.2.2.2) (8 * ((T + N) / 32 - T / 32)) (5120 * ((T + N) / 32 - T / 32)) := by
  refine gEBegin (by decide +kernel) (Nat.le_of_ble_eq_true rfl) (fun p e s m args below meth c A F hr hlocks hname hN hK hP hD hA hS ls hl => ?_)
  obtain ⟨hx, hb, hml, hown, hts⟩ := id F
  refine lv_iconst (v := 0) hx hb dX8_passes_0 (by decide) ?_
  refine W.eq (congrArg (fun z => F0 m _ ls (.int z :: _)) (nI_0.symm : (0 : Int32) = nI 0)) ?_
  refine lv_istore_n (lv' := [(2, .int (nI 0)), (0, .ref m0), (1, .int (nI N))]) hx hb dX8_passes_1 rfl hl (by decide) rfl (fun ls hl => ?_)
  refine passes_loop (tl := []) F ⟨Nat.le_of_ble_eq_true rfl, Nat.le_of_ble_eq_true rfl⟩ hN hK hA hN31 N 0 T 0 0 ra rb warm slp Mdr Mpi z (by omega) hT hz (by show 0 + 8 * _ ≤ 8 * _; omega) (by show 0 + 5120 * _ ≤ 5120 * _; omega) ?_ s.heap [] hP hD hS ls (lv_sub hl [1, 2, 0] rfl)
  intro ra1 rb1 warm1 slp1 dr1 pi1 ex C1 S1 f1 f2 f3 f4 f5 f6 H locs hP hD hS ls hl
  rw [List.append_nil] at hP hD
  refine lv_iload_n hx hb dX8_passes_2 rfl (lv_at hl 2 rfl) ?_
  refine lv_iload_n hx hb dX8_passes_3 rfl (lv_at hl 1 rfl) ?_
  refine lv_icmp_ge (tgt := 231) hx hb dX8_passes_4 (by decide) (fun _ => ?_) (fun h9 => absurd (Int32.le_refl _) h9)
  exact gEOf ((ra1, rb1, warm1, slp1, dr1, pi1, Mwt, ex) : gU) ⟨f1, f2, f3, f4⟩ rfl rfl (gRetV F hr hlocks hK hP hD hS rfl rfl (by omega) (by omega) dX8_passes_231)
