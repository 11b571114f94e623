theorem nI_mod {a d : Nat} (ha : a < 2 ^ 31) (h0 : 0 < d) (hd : d < 2 ^ 31) : nI a % nI d = nI (a % d) := by
  have e := nI_toInt ha
  have e1 := nI_toInt hd
  have hm := Nat.mod_lt a h0
  have e2 := nI_toInt (n := a % d) (by omega)
  apply gI_ext
  rw [e2, Int32.toInt_mod, e, e1]
  rw [Int.tmod_eq_emod_of_nonneg (by omega)]
  rfl
theorem nI_mod32 {a : Nat} (ha : a < 2 ^ 31) : nI a % 32 = nI (a % 32) := nI_mod (d := 32) ha (by decide) (by decide)
theorem nI_z {a : Nat} (h : nI (a % 32) = 0) : a % 32 = 0 := (nI_eq (Nat.lt_trans (Nat.mod_lt _ (by decide)) (by decide)) (by decide)).mp (h.trans nI_0.symm)
theorem warms0 (ov : Int32) (w : Nat → Int32) : it_X8_warms_2 ov w 8 0 = w 0 + ((ov - w 0) / 8) := by
  simp only [it_X8_warms_2, st_X8_warms_2, upd]
  rfl
/-- what the temperatures and the clock do in one minor cycle, as long as tank 0 is safe at each end of a major cycle: time, oven, pilot, fixed period, is the pilot on, tank 0 -/
abbrev Cz : Type := Nat × Int32 × Int32 × Int32 × Int32 × Int32
def pzSafe (pi fx ip w : Int32) : Prop := ¬ f_X8_period pi fx ip = 0 ∧ f_J9_floorDiv_7cf53 (f_X8_mismatch pi fx ip w + (f_X8_period pi fx ip / 2)) (f_X8_period pi fx ip) = 0 ∧ f_J9_abs_0f7a4 (f_X8_mismatch pi fx ip w - (f_J9_floorDiv_7cf53 (f_X8_mismatch pi fx ip w + (f_X8_period pi fx ip / 2)) (f_X8_period pi fx ip) * f_X8_period pi fx ip)) ≤ f_X8_period pi fx ip / 4
def pz1 (z : Cz) : Option Cz :=
  if (z.1 + 1) % 32 = 0 then
    if ¬ f_X8_period z.2.2.1 z.2.2.2.1 z.2.2.2.2.1 = 0 then
      if f_J9_floorDiv_7cf53 (f_X8_mismatch z.2.2.1 z.2.2.2.1 z.2.2.2.2.1 z.2.2.2.2.2 + (f_X8_period z.2.2.1 z.2.2.2.1 z.2.2.2.2.1 / 2)) (f_X8_period z.2.2.1 z.2.2.2.1 z.2.2.2.2.1) = 0 then
        if f_J9_abs_0f7a4 (f_X8_mismatch z.2.2.1 z.2.2.2.1 z.2.2.2.2.1 z.2.2.2.2.2 - (f_J9_floorDiv_7cf53 (f_X8_mismatch z.2.2.1 z.2.2.2.1 z.2.2.2.2.1 z.2.2.2.2.2 + (f_X8_period z.2.2.1 z.2.2.2.1 z.2.2.2.2.1 / 2)) (f_X8_period z.2.2.1 z.2.2.2.1 z.2.2.2.2.1) * f_X8_period z.2.2.1 z.2.2.2.1 z.2.2.2.2.1)) ≤ f_X8_period z.2.2.1 z.2.2.2.1 z.2.2.2.2.1 / 4 then
          some (z.1 + 1, z.2.1, z.2.2.1 + ((z.2.1 - z.2.2.1) / 8), z.2.2.2.1, z.2.2.2.2.1, z.2.2.2.2.2 + ((z.2.1 - z.2.2.2.2.2) / 8))
        else none
      else none
    else none
  else some (z.1 + 1, z.2)
def pz : Nat → Cz → Option Cz
  | 0, z => some z
  | n + 1, z => (pz1 z).bind (pz n)
theorem pz1_no {T : Nat} {ov pi fx ip w : Int32} (h : ¬ (T + 1) % 32 = 0) : pz1 (T, ov, pi, fx, ip, w) = some (T + 1, ov, pi, fx, ip, w) := by
  unfold pz1
  rw [if_neg h]
theorem pz1_end {T : Nat} {ov pi fx ip w : Int32} {z : Cz} (h : (T + 1) % 32 = 0) (hz : pz1 (T, ov, pi, fx, ip, w) = some z) : pzSafe pi fx ip w ∧ z = (T + 1, ov, pi + ((ov - pi) / 8), fx, ip, w + ((ov - w) / 8)) := by
  unfold pz1 at hz
  rw [if_pos h] at hz
  dsimp only at hz
  split at hz
  · next h1 =>
    split at hz
    · next h2 =>
      split at hz
      · next h3 => exact ⟨⟨h1, h2, h3⟩, (Option.some.inj hz).symm⟩
      · cases hz
    · cases hz
  · cases hz
def gGb (G : gG) (tl : va_W) : Prop := ∀ q ∈ tl, ∃ b : Nat → Int32, q.2 = .inl (G.2.1.2.1, 640, .inl b)
theorem gGb.nil {G : gG} : gGb G [] := fun _ h => by cases h
theorem gGb.cons {G : gG} {tl : va_W} {a : Nat} {b : Nat → Int32} (h : gGb G tl) : gGb G ((a, .inl (G.2.1.2.1, 640, .inl b)) :: tl) := fun q hq => by
  rcases List.mem_cons.mp hq with rfl | h1
  · exact ⟨b, rfl⟩
  · exact h q h1
theorem gGb.app {G : gG} {a b : va_W} (h1 : gGb G a) (h2 : gGb G b) : gGb G (a ++ b) := fun q hq => (List.mem_append.mp hq).elim (h1 q) (h2 q)
theorem nI_nle9 {a b : Nat} (h : a < b) (hb : b < 2 ^ 31) : ¬ nI b ≤ nI a := fun q => by
  have := (Int32.le_iff_toInt_le).mp q
  rw [nI_toInt hb, nI_toInt (by omega)] at this
  omega
set_option maxRecDepth 100000 in
set_option maxHeartbeats 4000000 in
theorem seg_pH {p : Program} {l : Launch} {e : Env} {R : Room} {s : State} {m : MethodId} {args : Array Value} {below : List Frame} {meth : Method} {c : Code} {Q : State → Prop} {G : gG} {A : Nat → Prop} {tl : va_W} (F : CallFix p m c cX8_passes 9 s args gT  RX8) (hRR : 9 ≤ R.frames ∧ 300 ≤ R.locals) (hN : gEnv G s) (hK : va_K G.1 vwCl (gTy G) s) (hA : ∀ q, s.heap.size ≤ q → A q) {m0 : Nat} {bb : Nat} {wm : Nat} {sl : Nat} {cq : Nat} {ii : Nat} {oo : Nat} {Mac : Int32} {Mtk : Int32} {Mcy : Int32} {Msta : Int32} {Mdn : Int32} {Mwt : Int32} {Mdr : Int32} {Mov : Int32} {Mpi : Int32} {Mfx : Int32} {Mip : Int32} {Mio : Int32} {r0 : Nat} {r1 : Nat} {r2 : Nat} {r3 : Nat} {r4 : Nat} {r5 : Nat} {r6 : Nat} {r7 : Nat} {b0 : Nat → Int32} {b1 : Nat → Int32} {b2 : Nat → Int32} {b3 : Nat → Int32} {b4 : Nat → Int32} {b5 : Nat → Int32} {b6 : Nat → Int32} {b7 : Nat → Int32} {warm : Nat → Int32} {slp : Nat → Int32} {T : Nat} {N : Nat} {J : Nat} (hJ : J < N) (hN31 : N < 2 ^ 31) (hT : T < 200000000) {C0 S0 : Nat} (hc : C0 ≤ R.cells ∧ S0 ≤ R.slots)
    (kN : (¬ (T + 1) % 32 = 0) → ∀ (H : Heap) (locs : List Loc), va_P G.1 vwCl ([(m0, .inr (10, [.ref bb, .ref wm, .ref sl, .ref cq, .ref ii, .ref oo, .int (nI (T + 1)), .int Mac, .int Mtk, .int Mcy, .int Msta, .int Mdn, .int Mwt, .int Mdr, .int Mov, .int Mpi, .int Mfx, .int Mip, .int Mio])), (bb, .inl (G.2.1.2.2.2.1, 8, .inr (.inr (.inr (.inr (gR [r0, r1, r2, r3, r4, r5, r6, r7])))))), (wm, .inl (G.2.1.1, 8, .inl warm)), (sl, .inl (G.2.1.1, 8, .inl slp)), (r0, .inl (G.2.1.2.1, 640, .inl b0)), (r1, .inl (G.2.1.2.1, 640, .inl b1)), (r2, .inl (G.2.1.2.1, 640, .inl b2)), (r3, .inl (G.2.1.2.1, 640, .inl b3)), (r4, .inl (G.2.1.2.1, 640, .inl b4)), (r5, .inl (G.2.1.2.1, 640, .inl b5)), (r6, .inl (G.2.1.2.1, 640, .inl b6)), (r7, .inl (G.2.1.2.1, 640, .inl b7))] ++ tl) H → va_D A ([(m0, .inr (10, [.ref bb, .ref wm, .ref sl, .ref cq, .ref ii, .ref oo, .int (nI (T + 1)), .int Mac, .int Mtk, .int Mcy, .int Msta, .int Mdn, .int Mwt, .int Mdr, .int Mov, .int Mpi, .int Mfx, .int Mip, .int Mio])), (bb, .inl (G.2.1.2.2.2.1, 8, .inr (.inr (.inr (.inr (gR [r0, r1, r2, r3, r4, r5, r6, r7])))))), (wm, .inl (G.2.1.1, 8, .inl warm)), (sl, .inl (G.2.1.1, 8, .inl slp)), (r0, .inl (G.2.1.2.1, 640, .inl b0)), (r1, .inl (G.2.1.2.1, 640, .inl b1)), (r2, .inl (G.2.1.2.1, 640, .inl b2)), (r3, .inl (G.2.1.2.1, 640, .inl b3)), (r4, .inl (G.2.1.2.1, 640, .inl b4)), (r5, .inl (G.2.1.2.1, 640, .inl b5)), (r6, .inl (G.2.1.2.1, 640, .inl b6)), (r7, .inl (G.2.1.2.1, 640, .inl b7))] ++ tl) → va_S A s.heap H locs → ∀ ls, lv_has ls 9 [(0, .ref m0), (1, .int (nI N)), (2, .int (nI (J + 1)))] → W p l e R s m args below meth c H locs (C0) (S0) Q (F0 m 2 ls []))
    (kE : ((T + 1) % 32 = 0) → ∀ (H : Heap) (locs : List Loc), va_P G.1 vwCl ([(m0, .inr (10, [.ref bb, .ref wm, .ref sl, .ref cq, .ref ii, .ref oo, .int (nI (T + 1)), .int Mac, .int Mtk, .int Mcy, .int Msta, .int Mdn, .int Mwt, .int Mdr, .int Mov, .int Mpi, .int Mfx, .int Mip, .int Mio])), (bb, .inl (G.2.1.2.2.2.1, 8, .inr (.inr (.inr (.inr (gR [r0, r1, r2, r3, r4, r5, r6, r7])))))), (wm, .inl (G.2.1.1, 8, .inl warm)), (sl, .inl (G.2.1.1, 8, .inl slp)), (r0, .inl (G.2.1.2.1, 640, .inl b0)), (r1, .inl (G.2.1.2.1, 640, .inl b1)), (r2, .inl (G.2.1.2.1, 640, .inl b2)), (r3, .inl (G.2.1.2.1, 640, .inl b3)), (r4, .inl (G.2.1.2.1, 640, .inl b4)), (r5, .inl (G.2.1.2.1, 640, .inl b5)), (r6, .inl (G.2.1.2.1, 640, .inl b6)), (r7, .inl (G.2.1.2.1, 640, .inl b7))] ++ tl) H → va_D A ([(m0, .inr (10, [.ref bb, .ref wm, .ref sl, .ref cq, .ref ii, .ref oo, .int (nI (T + 1)), .int Mac, .int Mtk, .int Mcy, .int Msta, .int Mdn, .int Mwt, .int Mdr, .int Mov, .int Mpi, .int Mfx, .int Mip, .int Mio])), (bb, .inl (G.2.1.2.2.2.1, 8, .inr (.inr (.inr (.inr (gR [r0, r1, r2, r3, r4, r5, r6, r7])))))), (wm, .inl (G.2.1.1, 8, .inl warm)), (sl, .inl (G.2.1.1, 8, .inl slp)), (r0, .inl (G.2.1.2.1, 640, .inl b0)), (r1, .inl (G.2.1.2.1, 640, .inl b1)), (r2, .inl (G.2.1.2.1, 640, .inl b2)), (r3, .inl (G.2.1.2.1, 640, .inl b3)), (r4, .inl (G.2.1.2.1, 640, .inl b4)), (r5, .inl (G.2.1.2.1, 640, .inl b5)), (r6, .inl (G.2.1.2.1, 640, .inl b6)), (r7, .inl (G.2.1.2.1, 640, .inl b7))] ++ tl) → va_S A s.heap H locs → ∀ ls, lv_has ls 9 [(0, .ref m0), (1, .int (nI N)), (2, .int (nI J)), (3, .int (f_X8_period Mpi Mfx Mip)), (4, .int 0)] → W p l e R s m args below meth c H locs (C0) (S0) Q (F0 m 38 ls []))
    : ∀ (H : Heap) (locs : List Loc), va_P G.1 vwCl ([(m0, .inr (10, [.ref bb, .ref wm, .ref sl, .ref cq, .ref ii, .ref oo, .int (nI T), .int Mac, .int Mtk, .int Mcy, .int Msta, .int Mdn, .int Mwt, .int Mdr, .int Mov, .int Mpi, .int Mfx, .int Mip, .int Mio])), (bb, .inl (G.2.1.2.2.2.1, 8, .inr (.inr (.inr (.inr (gR [r0, r1, r2, r3, r4, r5, r6, r7])))))), (wm, .inl (G.2.1.1, 8, .inl warm)), (sl, .inl (G.2.1.1, 8, .inl slp)), (r0, .inl (G.2.1.2.1, 640, .inl b0)), (r1, .inl (G.2.1.2.1, 640, .inl b1)), (r2, .inl (G.2.1.2.1, 640, .inl b2)), (r3, .inl (G.2.1.2.1, 640, .inl b3)), (r4, .inl (G.2.1.2.1, 640, .inl b4)), (r5, .inl (G.2.1.2.1, 640, .inl b5)), (r6, .inl (G.2.1.2.1, 640, .inl b6)), (r7, .inl (G.2.1.2.1, 640, .inl b7))] ++ tl) H → va_D A ([(m0, .inr (10, [.ref bb, .ref wm, .ref sl, .ref cq, .ref ii, .ref oo, .int (nI T), .int Mac, .int Mtk, .int Mcy, .int Msta, .int Mdn, .int Mwt, .int Mdr, .int Mov, .int Mpi, .int Mfx, .int Mip, .int Mio])), (bb, .inl (G.2.1.2.2.2.1, 8, .inr (.inr (.inr (.inr (gR [r0, r1, r2, r3, r4, r5, r6, r7])))))), (wm, .inl (G.2.1.1, 8, .inl warm)), (sl, .inl (G.2.1.1, 8, .inl slp)), (r0, .inl (G.2.1.2.1, 640, .inl b0)), (r1, .inl (G.2.1.2.1, 640, .inl b1)), (r2, .inl (G.2.1.2.1, 640, .inl b2)), (r3, .inl (G.2.1.2.1, 640, .inl b3)), (r4, .inl (G.2.1.2.1, 640, .inl b4)), (r5, .inl (G.2.1.2.1, 640, .inl b5)), (r6, .inl (G.2.1.2.1, 640, .inl b6)), (r7, .inl (G.2.1.2.1, 640, .inl b7))] ++ tl) → va_S A s.heap H locs → ∀ ls, lv_has ls 9 [(0, .ref m0), (1, .int (nI N)), (2, .int (nI J))] → W p l e R s m args below meth c H locs (C0) (S0) Q (F0 m 2 ls []) := by
  intro H locs hP hD hS ls hl
  obtain ⟨hx, hb, hml, hown, hts⟩ := id F
  refine lv_iload_n hx hb dX8_passes_2 rfl (lv_at hl 2 rfl) ?_
  refine lv_iload_n hx hb dX8_passes_3 rfl (lv_at hl 1 rfl) ?_
  refine lv_icmp_ge (tgt := 231) hx hb dX8_passes_4 (by decide) (fun c_1 => ?_) (fun c_1 => ?_)
  · exact absurd c_1 (nI_nle9 hJ hN31)
  · skip
    refine lv_aload_n hx hb dX8_passes_7 rfl (lv_at hl 0 rfl) ?_
    refine lv_dup hx hb dX8_passes_8 rfl ?_
    refine va_get (D := G.1) (ci := 10) (v := .int (nI T)) (C := RX8) (T := TX8) (N := 19) hx hb hts in_X8 hown hK hP 0 rfl rfl 6 (by decide) (hts _ k_fl_X8_63) (fun _ h9 => h9) rfl dX8_passes_9 ?_
    refine lv_iconst (v := 1) hx hb dX8_passes_12 (by decide) ?_
    refine lv_iadd hx hb dX8_passes_13 ?_
    refine W.eq (congrArg (fun z => F0 m _ ls (.int z :: _)) (nI_1 T : (((nI T) + 1) : Int32) = (nI (T + 1)))) ?_
    refine va_put (D := G.1) (ci := 10) (v := .int (nI (T + 1))) (ty := .int) (C := RX8) (T := TX8) (N := 19) hx hb hts in_X8 tyX8 tyX8_ok nmX8 hown hK hP hD hS 0 rfl rfl 6 (by decide) (hts _ k_fl_X8_63) (fun _ h9 => h9) rfl (by decide +kernel) rfl rfl (Nat.le_of_ble_eq_true rfl) dX8_passes_14 (fun H locs hP hD hS => ?_)
    replace hP : va_P G.1 vwCl ([(m0, .inr (10, [.ref bb, .ref wm, .ref sl, .ref cq, .ref ii, .ref oo, .int (nI (T + 1)), .int Mac, .int Mtk, .int Mcy, .int Msta, .int Mdn, .int Mwt, .int Mdr, .int Mov, .int Mpi, .int Mfx, .int Mip, .int Mio])), (bb, .inl (G.2.1.2.2.2.1, 8, .inr (.inr (.inr (.inr (gR [r0, r1, r2, r3, r4, r5, r6, r7])))))), (wm, .inl (G.2.1.1, 8, .inl warm)), (sl, .inl (G.2.1.1, 8, .inl slp)), (r0, .inl (G.2.1.2.1, 640, .inl b0)), (r1, .inl (G.2.1.2.1, 640, .inl b1)), (r2, .inl (G.2.1.2.1, 640, .inl b2)), (r3, .inl (G.2.1.2.1, 640, .inl b3)), (r4, .inl (G.2.1.2.1, 640, .inl b4)), (r5, .inl (G.2.1.2.1, 640, .inl b5)), (r6, .inl (G.2.1.2.1, 640, .inl b6)), (r7, .inl (G.2.1.2.1, 640, .inl b7))] ++ tl) H := hP
    replace hD : va_D A ([(m0, .inr (10, [.ref bb, .ref wm, .ref sl, .ref cq, .ref ii, .ref oo, .int (nI (T + 1)), .int Mac, .int Mtk, .int Mcy, .int Msta, .int Mdn, .int Mwt, .int Mdr, .int Mov, .int Mpi, .int Mfx, .int Mip, .int Mio])), (bb, .inl (G.2.1.2.2.2.1, 8, .inr (.inr (.inr (.inr (gR [r0, r1, r2, r3, r4, r5, r6, r7])))))), (wm, .inl (G.2.1.1, 8, .inl warm)), (sl, .inl (G.2.1.1, 8, .inl slp)), (r0, .inl (G.2.1.2.1, 640, .inl b0)), (r1, .inl (G.2.1.2.1, 640, .inl b1)), (r2, .inl (G.2.1.2.1, 640, .inl b2)), (r3, .inl (G.2.1.2.1, 640, .inl b3)), (r4, .inl (G.2.1.2.1, 640, .inl b4)), (r5, .inl (G.2.1.2.1, 640, .inl b5)), (r6, .inl (G.2.1.2.1, 640, .inl b6)), (r7, .inl (G.2.1.2.1, 640, .inl b7))] ++ tl) := hD
    refine lv_aload_n hx hb dX8_passes_17 rfl (lv_at hl 0 rfl) ?_
    refine va_get (D := G.1) (ci := 10) (v := .int (nI (T + 1))) (C := RX8) (T := TX8) (N := 19) hx hb hts in_X8 hown hK hP 0 rfl rfl 6 (by decide) (hts _ k_fl_X8_63) (fun _ h9 => h9) rfl dX8_passes_18 ?_
    refine lv_bipush (v := 32) hx hb dX8_passes_21 (by decide) ?_
    refine gIrem hx hb dX8_passes_23 (by decide) ?_
    refine W.eq (congrArg (fun z => F0 m _ ls (.int z :: _)) (nI_mod32 (by omega) : (((nI (T + 1)) % 32) : Int32) = (nI ((T + 1) % 32)))) ?_
    refine lv_if_eq (tgt := 30) hx hb dX8_passes_24 (by decide) (fun c_2 => ?_) (fun c_2 => ?_)
    · skip
      refine lv_aload_n hx hb dX8_passes_30 rfl (lv_at hl 0 rfl) ?_
      refine gVt (As := []) (rest := []) (wr := [(bb, .inl (G.2.1.2.2.2.1, 8, .inr (.inr (.inr (.inr (gR [r0, r1, r2, r3, r4, r5, r6, r7])))))), (wm, .inl (G.2.1.1, 8, .inl warm)), (sl, .inl (G.2.1.1, 8, .inl slp)), (r0, .inl (G.2.1.2.1, 640, .inl b0)), (r1, .inl (G.2.1.2.1, 640, .inl b1)), (r2, .inl (G.2.1.2.1, 640, .inl b2)), (r3, .inl (G.2.1.2.1, 640, .inl b3)), (r4, .inl (G.2.1.2.1, 640, .inl b4)), (r5, .inl (G.2.1.2.1, 640, .inl b5)), (r6, .inl (G.2.1.2.1, 640, .inl b6)), (r7, .inl (G.2.1.2.1, 640, .inl b7))]) (ws' := [(m0, .inr (10, [.ref bb, .ref wm, .ref sl, .ref cq, .ref ii, .ref oo, .int (nI (T + 1)), .int Mac, .int Mtk, .int Mcy, .int Msta, .int Mdn, .int Mwt, .int Mdr, .int Mov, .int Mpi, .int Mfx, .int Mip, .int Mio])), (bb, .inl (G.2.1.2.2.2.1, 8, .inr (.inr (.inr (.inr (gR [r0, r1, r2, r3, r4, r5, r6, r7])))))), (wm, .inl (G.2.1.1, 8, .inl warm)), (sl, .inl (G.2.1.1, 8, .inl slp)), (r0, .inl (G.2.1.2.1, 640, .inl b0)), (r1, .inl (G.2.1.2.1, 640, .inl b1)), (r2, .inl (G.2.1.2.1, 640, .inl b2)), (r3, .inl (G.2.1.2.1, 640, .inl b3)), (r4, .inl (G.2.1.2.1, 640, .inl b4)), (r5, .inl (G.2.1.2.1, 640, .inl b5)), (r6, .inl (G.2.1.2.1, 640, .inl b6)), (r7, .inl (G.2.1.2.1, 640, .inl b7))]) F (c_X8_period l G m0 bb wm sl cq ii oo (nI (T + 1)) Mac Mtk Mcy Msta Mdn Mwt Mdr Mov Mpi Mfx Mip Mio) okV_X8_period k_ml_X8_92 rfl rfl ⟨Nat.le_trans (Nat.le_of_ble_eq_true rfl) hRR.1, Nat.le_trans (Nat.le_of_ble_eq_true rfl) hRR.2⟩ hN hK hP hD hS hA [0] [1, 2, 3, 4, 5, 6, 7, 8, 9, 10, 11] [11, 0, 1, 2, 3, 4, 5, 6, 7, 8, 9, 10] (by decide) rfl rfl (by decide) (by decide) (by decide) rfl (q0 := 0) rfl rfl rfl rfl hl.1 (Nat.le_of_ble_eq_true rfl) dX8_passes_31 ⟨by omega, by omega⟩ (fun H locs hP hD hS => ?_)
      refine lv_istore_n (lv' := [(3, .int (f_X8_period Mpi Mfx Mip)), (0, .ref m0), (1, .int (nI N)), (2, .int (nI J))]) hx hb dX8_passes_34 rfl hl (by decide) rfl (fun ls hl => ?_)
      refine lv_iconst (v := 0) hx hb dX8_passes_35 (by decide) ?_
      refine lv_istore (lv' := [(4, .int 0), (3, .int (f_X8_period Mpi Mfx Mip)), (0, .ref m0), (1, .int (nI N)), (2, .int (nI J))]) hx hb dX8_passes_36 hl (by decide) rfl (fun ls hl => ?_)
      exact kE (nI_z c_2) _ _ hP hD hS ls (lv_sub hl [2, 3, 4, 1, 0] rfl)
    · skip
      refine lv_goto (tgt := 225) hx hb dX8_passes_27 (by decide) ?_
      refine lv_iinc (v := (nI (J + 1))) (lv' := [(2, .int (nI (J + 1))), (0, .ref m0), (1, .int (nI N))]) hx hb dX8_passes_225 hl (k := 2) rfl (nI_1 J) (by decide) rfl (fun ls hl => ?_)
      refine lv_goto (tgt := 2) hx hb dX8_passes_228 (by decide) ?_
      exact kN (fun h9 => c_2 (by rw [h9]; exact nI_0)) _ _ hP hD hS ls (lv_sub hl [1, 2, 0] rfl)
set_option maxRecDepth 100000 in
set_option maxHeartbeats 4000000 in
theorem seg_pW {p : Program} {l : Launch} {e : Env} {R : Room} {s : State} {m : MethodId} {args : Array Value} {below : List Frame} {meth : Method} {c : Code} {Q : State → Prop} {G : gG} {A : Nat → Prop} {tl : va_W} (F : CallFix p m c cX8_passes 9 s args gT  RX8) (hRR : 9 ≤ R.frames ∧ 300 ≤ R.locals) (hN : gEnv G s) (hK : va_K G.1 vwCl (gTy G) s) (hA : ∀ q, s.heap.size ≤ q → A q) {m0 : Nat} {bb : Nat} {wm : Nat} {sl : Nat} {cq : Nat} {ii : Nat} {oo : Nat} {Mac : Int32} {Mtk : Int32} {Mcy : Int32} {Msta : Int32} {Mdn : Int32} {Mwt : Int32} {Mdr : Int32} {Mov : Int32} {Mpi : Int32} {Mfx : Int32} {Mip : Int32} {Mio : Int32} {r0 : Nat} {r1 : Nat} {r2 : Nat} {r3 : Nat} {r4 : Nat} {r5 : Nat} {r6 : Nat} {r7 : Nat} {b0 : Nat → Int32} {b1 : Nat → Int32} {b2 : Nat → Int32} {b3 : Nat → Int32} {b4 : Nat → Int32} {b5 : Nat → Int32} {b6 : Nat → Int32} {b7 : Nat → Int32} {warm : Nat → Int32} {slp : Nat → Int32} {T : Nat} {N : Nat} {J : Nat} {pp : Int32} {C0 S0 : Nat} (hc : C0 ≤ R.cells ∧ S0 ≤ R.slots)
    (kW : ∀ (H : Heap) (locs : List Loc), va_P G.1 vwCl ([(m0, .inr (10, [.ref bb, .ref wm, .ref sl, .ref cq, .ref ii, .ref oo, .int (nI T), .int Mac, .int Mtk, .int Mcy, .int Msta, .int Mdn, .int Mwt, .int Mdr, .int Mov, .int ((f_X8_warms Mov Mpi warm).1), .int Mfx, .int Mip, .int Mio])), (bb, .inl (G.2.1.2.2.2.1, 8, .inr (.inr (.inr (.inr (gR [r0, r1, r2, r3, r4, r5, r6, r7])))))), (wm, .inl (G.2.1.1, 8, .inl ((f_X8_warms Mov Mpi warm).2))), (sl, .inl (G.2.1.1, 8, .inl slp)), (r0, .inl (G.2.1.2.1, 640, .inl b0)), (r1, .inl (G.2.1.2.1, 640, .inl b1)), (r2, .inl (G.2.1.2.1, 640, .inl b2)), (r3, .inl (G.2.1.2.1, 640, .inl b3)), (r4, .inl (G.2.1.2.1, 640, .inl b4)), (r5, .inl (G.2.1.2.1, 640, .inl b5)), (r6, .inl (G.2.1.2.1, 640, .inl b6)), (r7, .inl (G.2.1.2.1, 640, .inl b7))] ++ tl) H → va_D A ([(m0, .inr (10, [.ref bb, .ref wm, .ref sl, .ref cq, .ref ii, .ref oo, .int (nI T), .int Mac, .int Mtk, .int Mcy, .int Msta, .int Mdn, .int Mwt, .int Mdr, .int Mov, .int ((f_X8_warms Mov Mpi warm).1), .int Mfx, .int Mip, .int Mio])), (bb, .inl (G.2.1.2.2.2.1, 8, .inr (.inr (.inr (.inr (gR [r0, r1, r2, r3, r4, r5, r6, r7])))))), (wm, .inl (G.2.1.1, 8, .inl ((f_X8_warms Mov Mpi warm).2))), (sl, .inl (G.2.1.1, 8, .inl slp)), (r0, .inl (G.2.1.2.1, 640, .inl b0)), (r1, .inl (G.2.1.2.1, 640, .inl b1)), (r2, .inl (G.2.1.2.1, 640, .inl b2)), (r3, .inl (G.2.1.2.1, 640, .inl b3)), (r4, .inl (G.2.1.2.1, 640, .inl b4)), (r5, .inl (G.2.1.2.1, 640, .inl b5)), (r6, .inl (G.2.1.2.1, 640, .inl b6)), (r7, .inl (G.2.1.2.1, 640, .inl b7))] ++ tl) → va_S A s.heap H locs → ∀ ls, lv_has ls 9 [(0, .ref m0), (1, .int (nI N)), (2, .int (nI (J + 1)))] → W p l e R s m args below meth c H locs (C0) (S0) Q (F0 m 2 ls []))
    : ∀ (H : Heap) (locs : List Loc), va_P G.1 vwCl ([(m0, .inr (10, [.ref bb, .ref wm, .ref sl, .ref cq, .ref ii, .ref oo, .int (nI T), .int Mac, .int Mtk, .int Mcy, .int Msta, .int Mdn, .int Mwt, .int Mdr, .int Mov, .int Mpi, .int Mfx, .int Mip, .int Mio])), (bb, .inl (G.2.1.2.2.2.1, 8, .inr (.inr (.inr (.inr (gR [r0, r1, r2, r3, r4, r5, r6, r7])))))), (wm, .inl (G.2.1.1, 8, .inl warm)), (sl, .inl (G.2.1.1, 8, .inl slp)), (r0, .inl (G.2.1.2.1, 640, .inl b0)), (r1, .inl (G.2.1.2.1, 640, .inl b1)), (r2, .inl (G.2.1.2.1, 640, .inl b2)), (r3, .inl (G.2.1.2.1, 640, .inl b3)), (r4, .inl (G.2.1.2.1, 640, .inl b4)), (r5, .inl (G.2.1.2.1, 640, .inl b5)), (r6, .inl (G.2.1.2.1, 640, .inl b6)), (r7, .inl (G.2.1.2.1, 640, .inl b7))] ++ tl) H → va_D A ([(m0, .inr (10, [.ref bb, .ref wm, .ref sl, .ref cq, .ref ii, .ref oo, .int (nI T), .int Mac, .int Mtk, .int Mcy, .int Msta, .int Mdn, .int Mwt, .int Mdr, .int Mov, .int Mpi, .int Mfx, .int Mip, .int Mio])), (bb, .inl (G.2.1.2.2.2.1, 8, .inr (.inr (.inr (.inr (gR [r0, r1, r2, r3, r4, r5, r6, r7])))))), (wm, .inl (G.2.1.1, 8, .inl warm)), (sl, .inl (G.2.1.1, 8, .inl slp)), (r0, .inl (G.2.1.2.1, 640, .inl b0)), (r1, .inl (G.2.1.2.1, 640, .inl b1)), (r2, .inl (G.2.1.2.1, 640, .inl b2)), (r3, .inl (G.2.1.2.1, 640, .inl b3)), (r4, .inl (G.2.1.2.1, 640, .inl b4)), (r5, .inl (G.2.1.2.1, 640, .inl b5)), (r6, .inl (G.2.1.2.1, 640, .inl b6)), (r7, .inl (G.2.1.2.1, 640, .inl b7))] ++ tl) → va_S A s.heap H locs → ∀ ls, lv_has ls 9 [(0, .ref m0), (1, .int (nI N)), (2, .int (nI J)), (3, .int pp), (4, .int 8)] → W p l e R s m args below meth c H locs (C0) (S0) Q (F0 m 38 ls []) := by
  intro H locs hP hD hS ls hl
  obtain ⟨hx, hb, hml, hown, hts⟩ := id F
  refine lv_iload hx hb dX8_passes_38 (lv_at hl 4 rfl) ?_
  refine lv_bipush (v := 8) hx hb dX8_passes_40 (by decide) ?_
  refine lv_icmp_ge (tgt := 221) hx hb dX8_passes_42 (by decide) (fun c_1 => ?_) (fun c_1 => ?_)
  · skip
    refine lv_aload_n hx hb dX8_passes_221 rfl (lv_at hl 0 rfl) ?_
    refine gVt (As := []) (rest := []) (wr := [(bb, .inl (G.2.1.2.2.2.1, 8, .inr (.inr (.inr (.inr (gR [r0, r1, r2, r3, r4, r5, r6, r7])))))), (sl, .inl (G.2.1.1, 8, .inl slp)), (r0, .inl (G.2.1.2.1, 640, .inl b0)), (r1, .inl (G.2.1.2.1, 640, .inl b1)), (r2, .inl (G.2.1.2.1, 640, .inl b2)), (r3, .inl (G.2.1.2.1, 640, .inl b3)), (r4, .inl (G.2.1.2.1, 640, .inl b4)), (r5, .inl (G.2.1.2.1, 640, .inl b5)), (r6, .inl (G.2.1.2.1, 640, .inl b6)), (r7, .inl (G.2.1.2.1, 640, .inl b7))]) (ws' := [(m0, .inr (10, [.ref bb, .ref wm, .ref sl, .ref cq, .ref ii, .ref oo, .int (nI T), .int Mac, .int Mtk, .int Mcy, .int Msta, .int Mdn, .int Mwt, .int Mdr, .int Mov, .int ((f_X8_warms Mov Mpi warm).1), .int Mfx, .int Mip, .int Mio])), (bb, .inl (G.2.1.2.2.2.1, 8, .inr (.inr (.inr (.inr (gR [r0, r1, r2, r3, r4, r5, r6, r7])))))), (wm, .inl (G.2.1.1, 8, .inl ((f_X8_warms Mov Mpi warm).2))), (sl, .inl (G.2.1.1, 8, .inl slp)), (r0, .inl (G.2.1.2.1, 640, .inl b0)), (r1, .inl (G.2.1.2.1, 640, .inl b1)), (r2, .inl (G.2.1.2.1, 640, .inl b2)), (r3, .inl (G.2.1.2.1, 640, .inl b3)), (r4, .inl (G.2.1.2.1, 640, .inl b4)), (r5, .inl (G.2.1.2.1, 640, .inl b5)), (r6, .inl (G.2.1.2.1, 640, .inl b6)), (r7, .inl (G.2.1.2.1, 640, .inl b7))]) F (c_X8_warms l G m0 bb wm sl cq ii oo (nI T) Mac Mtk Mcy Msta Mdn Mwt Mdr Mov Mpi Mfx Mip Mio warm) okV_X8_warms k_ml_X8_116 rfl rfl ⟨Nat.le_trans (Nat.le_of_ble_eq_true rfl) hRR.1, Nat.le_trans (Nat.le_of_ble_eq_true rfl) hRR.2⟩ hN hK hP hD hS hA [0, 2] [1, 3, 4, 5, 6, 7, 8, 9, 10, 11] [10, 0, 11, 1, 2, 3, 4, 5, 6, 7, 8, 9] (by decide) rfl rfl (by decide) (by decide) (by decide) rfl (q0 := 0) rfl rfl rfl rfl hl.1 (Nat.le_of_ble_eq_true rfl) dX8_passes_222 ⟨by omega, by omega⟩ (fun H locs hP hD hS => ?_)
    refine lv_iinc (v := (nI (J + 1))) (lv' := [(2, .int (nI (J + 1))), (0, .ref m0), (1, .int (nI N)), (3, .int pp), (4, .int 8)]) hx hb dX8_passes_225 hl (k := 2) rfl (nI_1 J) (by decide) rfl (fun ls hl => ?_)
    refine lv_goto (tgt := 2) hx hb dX8_passes_228 (by decide) ?_
    exact kW _ _ hP hD hS ls (lv_sub hl [1, 2, 0] rfl)
  · exact absurd c_1 (by decide)
set_option maxRecDepth 100000 in
set_option maxHeartbeats 4000000 in
/-- r more minor cycles -/
theorem passes_loop {p : Program} {l : Launch} {e : Env} {R : Room} {s : State} {m : MethodId} {args : Array Value} {below : List Frame} {meth : Method} {c : Code} {Q : State → Prop} {G : gG} {A : Nat → Prop} (F : CallFix p m c cX8_passes 9 s args gT RX8) (hRR : 9 ≤ R.frames ∧ 300 ≤ R.locals) (hN : gEnv G s) (hK : va_K G.1 vwCl (gTy G) s) (hA : ∀ q, s.heap.size ≤ q → A q) {m0 bb wm sl cq ii oo : Nat} {Mac Mtk Mcy Msta Mdn Mwt Mov Mfx Mip Mio : Int32} {N : Nat} (hN31 : N < 2 ^ 31) :
    ∀ (r J T C0 S0 : Nat) (ra : Nat → Nat) (rb : Nat → Nat → Int32) (warm slp : Nat → Int32) (Mdr Mpi : Int32) (tl : va_W) (z : Cz), J + r = N → T + r < 200000000 → pz r (T, Mov, Mpi, Mfx, Mip, warm 0) = some z → C0 + 8 * ((T + r) / 32 - T / 32) ≤ R.cells → S0 + 5120 * ((T + r) / 32 - T / 32) ≤ R.slots →
    (∀ (ra1 : Nat → Nat) (rb1 : Nat → Nat → Int32) (warm1 slp1 : Nat → Int32) (dr1 pi1 : Int32) (ex : va_W) (C1 S1 : Nat), (∀ i : Nat, i < 640 → g01 (rb 0 i) → rb1 0 i = rb 0 i) → ex.length = 8 * ((T + r) / 32 - T / 32) → gGb G ex → z = (T + r, Mov, pi1, Mfx, Mip, warm1 0) → C1 = C0 + 8 * ((T + r) / 32 - T / 32) → S1 = S0 + 5120 * ((T + r) / 32 - T / 32) →
      ∀ (H : Heap) (locs : List Loc), va_P G.1 vwCl ([(m0, .inr (10, [.ref bb, .ref wm, .ref sl, .ref cq, .ref ii, .ref oo, .int (nI (T + r)), .int Mac, .int Mtk, .int Mcy, .int Msta, .int Mdn, .int Mwt, .int dr1, .int Mov, .int pi1, .int Mfx, .int Mip, .int Mio])), (bb, .inl (G.2.1.2.2.2.1, 8, .inr (.inr (.inr (.inr (gR [(ra1 0), (ra1 1), (ra1 2), (ra1 3), (ra1 4), (ra1 5), (ra1 6), (ra1 7)])))))), (wm, .inl (G.2.1.1, 8, .inl warm1)), (sl, .inl (G.2.1.1, 8, .inl slp1)), ((ra1 0), .inl (G.2.1.2.1, 640, .inl (rb1 0))), ((ra1 1), .inl (G.2.1.2.1, 640, .inl (rb1 1))), ((ra1 2), .inl (G.2.1.2.1, 640, .inl (rb1 2))), ((ra1 3), .inl (G.2.1.2.1, 640, .inl (rb1 3))), ((ra1 4), .inl (G.2.1.2.1, 640, .inl (rb1 4))), ((ra1 5), .inl (G.2.1.2.1, 640, .inl (rb1 5))), ((ra1 6), .inl (G.2.1.2.1, 640, .inl (rb1 6))), ((ra1 7), .inl (G.2.1.2.1, 640, .inl (rb1 7)))] ++ (ex ++ tl)) H → va_D A ([(m0, .inr (10, [.ref bb, .ref wm, .ref sl, .ref cq, .ref ii, .ref oo, .int (nI (T + r)), .int Mac, .int Mtk, .int Mcy, .int Msta, .int Mdn, .int Mwt, .int dr1, .int Mov, .int pi1, .int Mfx, .int Mip, .int Mio])), (bb, .inl (G.2.1.2.2.2.1, 8, .inr (.inr (.inr (.inr (gR [(ra1 0), (ra1 1), (ra1 2), (ra1 3), (ra1 4), (ra1 5), (ra1 6), (ra1 7)])))))), (wm, .inl (G.2.1.1, 8, .inl warm1)), (sl, .inl (G.2.1.1, 8, .inl slp1)), ((ra1 0), .inl (G.2.1.2.1, 640, .inl (rb1 0))), ((ra1 1), .inl (G.2.1.2.1, 640, .inl (rb1 1))), ((ra1 2), .inl (G.2.1.2.1, 640, .inl (rb1 2))), ((ra1 3), .inl (G.2.1.2.1, 640, .inl (rb1 3))), ((ra1 4), .inl (G.2.1.2.1, 640, .inl (rb1 4))), ((ra1 5), .inl (G.2.1.2.1, 640, .inl (rb1 5))), ((ra1 6), .inl (G.2.1.2.1, 640, .inl (rb1 6))), ((ra1 7), .inl (G.2.1.2.1, 640, .inl (rb1 7)))] ++ (ex ++ tl)) → va_S A s.heap H locs → ∀ ls, lv_has ls 9 [(0, .ref m0), (1, .int (nI N)), (2, .int (nI N))] → W p l e R s m args below meth c H locs C1 S1 Q (F0 m 2 ls [])) →
    ∀ (H : Heap) (locs : List Loc), va_P G.1 vwCl ([(m0, .inr (10, [.ref bb, .ref wm, .ref sl, .ref cq, .ref ii, .ref oo, .int (nI T), .int Mac, .int Mtk, .int Mcy, .int Msta, .int Mdn, .int Mwt, .int Mdr, .int Mov, .int Mpi, .int Mfx, .int Mip, .int Mio])), (bb, .inl (G.2.1.2.2.2.1, 8, .inr (.inr (.inr (.inr (gR [(ra 0), (ra 1), (ra 2), (ra 3), (ra 4), (ra 5), (ra 6), (ra 7)])))))), (wm, .inl (G.2.1.1, 8, .inl warm)), (sl, .inl (G.2.1.1, 8, .inl slp)), ((ra 0), .inl (G.2.1.2.1, 640, .inl (rb 0))), ((ra 1), .inl (G.2.1.2.1, 640, .inl (rb 1))), ((ra 2), .inl (G.2.1.2.1, 640, .inl (rb 2))), ((ra 3), .inl (G.2.1.2.1, 640, .inl (rb 3))), ((ra 4), .inl (G.2.1.2.1, 640, .inl (rb 4))), ((ra 5), .inl (G.2.1.2.1, 640, .inl (rb 5))), ((ra 6), .inl (G.2.1.2.1, 640, .inl (rb 6))), ((ra 7), .inl (G.2.1.2.1, 640, .inl (rb 7)))] ++ tl) H → va_D A ([(m0, .inr (10, [.ref bb, .ref wm, .ref sl, .ref cq, .ref ii, .ref oo, .int (nI T), .int Mac, .int Mtk, .int Mcy, .int Msta, .int Mdn, .int Mwt, .int Mdr, .int Mov, .int Mpi, .int Mfx, .int Mip, .int Mio])), (bb, .inl (G.2.1.2.2.2.1, 8, .inr (.inr (.inr (.inr (gR [(ra 0), (ra 1), (ra 2), (ra 3), (ra 4), (ra 5), (ra 6), (ra 7)])))))), (wm, .inl (G.2.1.1, 8, .inl warm)), (sl, .inl (G.2.1.1, 8, .inl slp)), ((ra 0), .inl (G.2.1.2.1, 640, .inl (rb 0))), ((ra 1), .inl (G.2.1.2.1, 640, .inl (rb 1))), ((ra 2), .inl (G.2.1.2.1, 640, .inl (rb 2))), ((ra 3), .inl (G.2.1.2.1, 640, .inl (rb 3))), ((ra 4), .inl (G.2.1.2.1, 640, .inl (rb 4))), ((ra 5), .inl (G.2.1.2.1, 640, .inl (rb 5))), ((ra 6), .inl (G.2.1.2.1, 640, .inl (rb 6))), ((ra 7), .inl (G.2.1.2.1, 640, .inl (rb 7)))] ++ tl) → va_S A s.heap H locs → ∀ ls, lv_has ls 9 [(0, .ref m0), (1, .int (nI N)), (2, .int (nI J))] → W p l e R s m args below meth c H locs C0 S0 Q (F0 m 2 ls [])
  | 0, J, T, C0, S0, ra, rb, warm, slp, Mdr, Mpi, tl, z, hJ, hT, hz, hc, hs, kk => by
    intro H locs hP hD hS ls hl
    have eJ : J = N := by omega
    subst eJ
    exact kk ra rb warm slp Mdr Mpi [] C0 S0 (fun _ _ _ => rfl) (by simp) gGb.nil (Option.some.inj hz).symm (by omega) (by omega) H locs hP hD hS ls hl
  | r + 1, J, T, C0, S0, ra, rb, warm, slp, Mdr, Mpi, tl, z, hJ, hT, hz, hc, hs, kk => by
    intro H locs hP hD hS ls hl
    have hz' : (pz1 (T, Mov, Mpi, Mfx, Mip, warm 0)).bind (pz r) = some z := hz
    obtain ⟨z1, h1, h2⟩ := Option.bind_eq_some_iff.mp hz'
    refine seg_pH F hRR hN hK hA (J := J) (N := N) (T := T) (by omega) hN31 (by omega) ⟨by omega, by omega⟩ ?_ ?_ H locs hP hD hS ls hl
    · intro hne H locs hP hD hS ls hl
      rw [pz1_no hne] at h1
      have e1 := Option.some.inj h1
      subst e1
      have eE : (T + 1 + r) / 32 - (T + 1) / 32 = (T + (r + 1)) / 32 - T / 32 := by omega
      refine passes_loop F hRR hN hK hA hN31 r (J + 1) (T + 1) C0 S0 ra rb warm slp Mdr Mpi tl z (by omega) (by omega) h2 (by rw [eE]; exact hc) (by rw [eE]; exact hs) ?_ H locs hP hD hS ls hl
      intro ra1 rb1 warm1 slp1 dr1 pi1 ex C1 S1 f1 f2 f3 f4 f5 f6
      rw [eE] at f2 f5 f6
      have eT : T + 1 + r = T + (r + 1) := by omega
      rw [eT] at f4 ⊢
      exact kk ra1 rb1 warm1 slp1 dr1 pi1 ex C1 S1 f1 f2 f3 f4 f5 f6
    · intro heq H locs hP hD hS ls hl
      obtain ⟨⟨p1, p2, p3⟩, e1⟩ := pz1_end heq h1
      subst e1
      have eE : (T + 1 + r) / 32 - (T + 1) / 32 + 1 = (T + (r + 1)) / 32 - T / 32 := by omega
      refine seg_t0 F hRR hN hK hA (T := T + 1) p1 (by omega) p2 p3 ⟨by omega, by omega⟩ ?_ H locs hP hD hS ls hl
      intro q0 c0 s0 d0 f0 H locs hP hD hS ls hl
      refine seg_t1 F hRR hN hK hA (T := T + 1) p1 (by omega) ⟨by omega, by omega⟩ ?_ H locs hP hD hS ls hl
      intro q1 c1 s1 d1 H locs hP hD hS ls hl
      refine seg_t2 F hRR hN hK hA (T := T + 1) p1 (by omega) ⟨by omega, by omega⟩ ?_ H locs hP hD hS ls hl
      intro q2 c2 s2 d2 H locs hP hD hS ls hl
      refine seg_t3 F hRR hN hK hA (T := T + 1) p1 (by omega) ⟨by omega, by omega⟩ ?_ H locs hP hD hS ls hl
      intro q3 c3 s3 d3 H locs hP hD hS ls hl
      refine seg_t4 F hRR hN hK hA (T := T + 1) p1 (by omega) ⟨by omega, by omega⟩ ?_ H locs hP hD hS ls hl
      intro q4 c4 s4 d4 H locs hP hD hS ls hl
      refine seg_t5 F hRR hN hK hA (T := T + 1) p1 (by omega) ⟨by omega, by omega⟩ ?_ H locs hP hD hS ls hl
      intro q5 c5 s5 d5 H locs hP hD hS ls hl
      refine seg_t6 F hRR hN hK hA (T := T + 1) p1 (by omega) ⟨by omega, by omega⟩ ?_ H locs hP hD hS ls hl
      intro q6 c6 s6 d6 H locs hP hD hS ls hl
      refine seg_t7 F hRR hN hK hA (T := T + 1) p1 (by omega) ⟨by omega, by omega⟩ ?_ H locs hP hD hS ls hl
      intro q7 c7 s7 d7 H locs hP hD hS ls hl
      refine seg_pW F hRR hN hK hA (T := T + 1) (J := J) (N := N) (pp := f_X8_period Mpi Mfx Mip) ⟨by omega, by omega⟩ ?_ H locs hP hD hS ls hl
      intro H locs hP hD hS ls hl
      refine passes_loop F hRR hN hK hA hN31 r (J + 1) (T + 1) _ _ (fun i => ([q0, q1, q2, q3, q4, q5, q6, q7] : List Nat).getD i 0) (fun i => ([c0, c1, c2, c3, c4, c5, c6, c7] : List (Nat → Int32)).getD i (fun _ => 0)) _ s7 d7 _ ([((ra 7), .inl (G.2.1.2.1, 640, .inl (rb 7))), ((ra 6), .inl (G.2.1.2.1, 640, .inl (rb 6))), ((ra 5), .inl (G.2.1.2.1, 640, .inl (rb 5))), ((ra 4), .inl (G.2.1.2.1, 640, .inl (rb 4))), ((ra 3), .inl (G.2.1.2.1, 640, .inl (rb 3))), ((ra 2), .inl (G.2.1.2.1, 640, .inl (rb 2))), ((ra 1), .inl (G.2.1.2.1, 640, .inl (rb 1))), ((ra 0), .inl (G.2.1.2.1, 640, .inl (rb 0)))] ++ tl) z (by omega) (by omega) (by rw [show ((f_X8_warms Mov Mpi warm).2) 0 = warm 0 + ((Mov - warm 0) / 8) from warms0 Mov warm]; exact h2) (by omega) (by omega) ?_ H locs hP hD hS ls hl
      intro ra1 rb1 warm1 slp1 dr1 pi1 ex C1 S1 g1 g2 g3 g4 g5 g6
      have eT : T + 1 + r = T + (r + 1) := by omega
      rw [eT] at g4 g2 g5 g6 ⊢
      rw [← List.append_assoc ex]
      refine kk ra1 rb1 warm1 slp1 dr1 pi1 (ex ++ [((ra 7), .inl (G.2.1.2.1, 640, .inl (rb 7))), ((ra 6), .inl (G.2.1.2.1, 640, .inl (rb 6))), ((ra 5), .inl (G.2.1.2.1, 640, .inl (rb 5))), ((ra 4), .inl (G.2.1.2.1, 640, .inl (rb 4))), ((ra 3), .inl (G.2.1.2.1, 640, .inl (rb 3))), ((ra 2), .inl (G.2.1.2.1, 640, .inl (rb 2))), ((ra 1), .inl (G.2.1.2.1, 640, .inl (rb 1))), ((ra 0), .inl (G.2.1.2.1, 640, .inl (rb 0)))]) C1 S1 (fun i hi hg => ?_) ?_ (g3.app ?_) g4 (by omega) (by omega)
      · have e := f0 i hi hg
        exact (g1 i hi (by show g01 (c0 i); rw [e]; exact hg)).trans e
      · rw [List.length_append, g2]
        show 8 * _ + 8 = 8 * _
        omega
      · exact (gGb.cons (gGb.cons (gGb.cons (gGb.cons (gGb.cons (gGb.cons (gGb.cons (gGb.cons gGb.nil))))))))

