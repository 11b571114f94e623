/-- the first stretch and the 39 behind it, from the numbers behind the fill -/
def kq (dd : Int32) (w9 : Int32 × Cz) : Prop := (f_X7_next dd 8).1 = 0 ∧ (f_X7_next (f_X7_next dd 8).2 32).1 = 1 ∧ 10 < (f_X7_next (f_X7_next (f_X7_next (f_X7_next (f_X7_next dd 8).2 32).2 65536).2 16).2 13).1.toInt ∧ ∃ (x2 : Int32) (z1 : Cz), ((runz (nxp (f_X7_next (f_X7_next (f_X7_next (f_X7_next (f_X7_next dd 8).2 32).2 65536).2 16).2 13).2).1.toNatClampNeg (0, 400, 400, 1000000, 0, 400)).map (fun z => ((nxp (f_X7_next (f_X7_next (f_X7_next (f_X7_next (f_X7_next dd 8).2 32).2 65536).2 16).2 13).2).2, z))) = some (x2, z1) ∧ itzN 39 (x2, z1) = some w9
theorem W_cells {p : Program} {l : Launch} {e : Env} {R : Room} {s : State} {m : MethodId} {args : Array Value} {below : List Frame} {meth : Method} {c : Code} {H : Heap} {locs : List Loc} {c1 c2 s1 s2 : Nat} {Q : State → Prop} {f : JFrame} (hc : c1 = c2) (hs : s1 = s2) (h : W p l e R s m args below meth c H locs c1 s1 Q f) : W p l e R s m args below meth c H locs c2 s2 Q f := by
  subst hc hs
  exact h
set_option maxRecDepth 100000 in
set_option maxHeartbeats 40000000 in
theorem law_k {p : Program} {l : Launch} {e : Env} {R : Room} {s : State} {m : MethodId} {args : Array Value} {below : List Frame} {meth : Method} {c : Code} {Q : State → Prop} {G : gG} {A : Nat → Prop} {tl : va_W} (F : CallFix p m c cL_law 11 s args gT RL) (hRR : 20 ≤ R.frames ∧ 900 ≤ R.locals) (hN : gEnv G s) (hK : va_K G.1 vwCl (gTy G) s) (hA : ∀ q, s.heap.size ≤ q → A q) {aa k : Nat} {scr : Nat → Int32} {C0 S0 : Nat} (hk : k < 3) (hfl : l.stackTraces = false) (hSt : gSt G A s) {w9 : Int32 × Cz} (hw : (fz1 (fz1 (scr k)).2).1 = 35628) (hq : ∀ dd, dd = gIter fz1 64 (scr k) → kq dd w9) (hc : C0 + 79 + 8 * (w9.2.1 / 32) ≤ R.cells ∧ S0 + 9447 + 5120 * (w9.2.1 / 32) ≤ R.slots)
    (kz : ∀ (q C1 S1 : Nat), decode cL_law q = .ok (.ireturn, 1) → C1 ≤ R.cells → S1 ≤ R.slots → ∀ (H : Heap) (locs : List Loc), va_S A s.heap H locs → ∀ ls, lv_has ls 11 [] → W p l e R s m args below meth c H locs C1 S1 Q (F0 m q ls [.int 0]))
    (kk : ∀ (ex : va_W), gGb G ex → ex.length = 8 * (w9.2.1 / 32) → ∀ (H : Heap) (locs : List Loc), va_P G.1 vwCl ([(aa, .inl (G.2.1.1, 3, .inl scr))] ++ (ex ++ tl)) H → va_D A ([(aa, .inl (G.2.1.1, 3, .inl scr))] ++ (ex ++ tl)) → va_S A s.heap H locs → ∀ ls, lv_has ls 11 [(0, .ref aa), (1, .int (nI k))] → W p l e R s m args below meth c H locs (C0 + 79 + 8 * (w9.2.1 / 32)) (S0 + 9447 + 5120 * (w9.2.1 / 32)) Q (F0 m 382 ls [])) :
    ∀ (H : Heap) (locs : List Loc), va_P G.1 vwCl ([(aa, .inl (G.2.1.1, 3, .inl scr))] ++ tl) H → va_D A ([(aa, .inl (G.2.1.1, 3, .inl scr))] ++ tl) → va_S A s.heap H locs → ∀ ls, lv_has ls 11 [(0, .ref aa), (1, .int (nI k))] → W p l e R s m args below meth c H locs C0 S0 Q (F0 m 7 ls []) := by
  intro H locs hP hD hS ls hl
  obtain ⟨hx, hb, hml, hown, hts⟩ := id F
  refine seg_k0 F hRR hN hK hA hk hfl hSt ⟨by omega, by omega⟩ ?_ H locs hP hD hS ls hl
  intro d0 H locs hP hD hS ls hl
  refine seg_k1 F hRR hN hK hA hfl hSt ⟨by omega, by omega⟩ ?_ H locs hP hD hS ls hl
  intro z0 c0 c0q c0u c0v a0 b0 s0 k0 i0 o0 x0 s1 s2 s3 k1 i1 o1 s0q k0q i0q o0q x0q s1q s2q s3q k1q i1q o1q H locs hP hD hS ls hl
  refine seg_k2 F hRR hN hK hA hfl hSt ⟨by omega, by omega⟩ ?_ H locs hP hD hS ls hl
  intro m0 bb wm sl cq ii oo ra j0 j1 j2 j3 j4 j5 j6 j7 warm hwarm H locs hP hD hS ls hl
  refine seg_k3 (T := 0) (i := 0) (rb := fun _ _ => 0) F hRR hN hK hA rfl hw ⟨by omega, by omega⟩ kz ?_ H locs hP hD hS ls hl
  intro rb bits1 dd hdd hW htm hov H locs hP hD hS ls hl
  obtain ⟨g1, g2, g3, x2, z1, hz0, hz⟩ := hq dd hdd
  have t2 : z1.1 ≤ w9.2.1 := itzN_time 39 hz
  refine lv_iload hx hb dL_law_69 (lv_at hl 5 rfl) ?_
  refine lv_bipush (v := 40) hx hb dL_law_71 (by decide) ?_
  refine lv_icmp_ge (tgt := 382) hx hb dL_law_73 (by decide) (fun h9 => absurd h9 (nI_nle9 (a := 0) (b := 40) (by omega) (by decide))) (fun _ => ?_)
  refine seg_l0 (T := 0) (k := k) (i := 0) (rb := rb) (v9 := _) (a9 := _) F hRR hN hK hA g1 g2 rfl rfl g3 ⟨by omega, by omega⟩ kz ?_ H locs hP hD hS ls hl
  intro x9 sta1 he1 hx9 hs9 H locs hP hD hS ls hl
  rw [← hx9] at hz0
  refine law_rest (T := 0) (i := 0) (z1 := z1) (x2 := x2) (rb := rb) F hRR hN hK hA kz (Nat.zero_le _) (by rw [hwarm]; exact hz0) htm hs9 hov g01_0 hW ⟨by omega, by omega⟩ ?_ H locs hP hD hS ls hl
  intro et_ wt_ tm_ sta_ he_ ac_ ov_ dr_ bits_ ring_ slips_ pt_ temps_ fi_ li_ lo_ rout_ cnt_ etq1 wtq1 tmq1 staq1 heq1 acq1 ovq1 drq1 bitsq1 ringq1 slipsq1 ptq1 otq1 fpq1 onq1 tempsq1 fiq1 liq1 rinq1 foq1 loq1 routq1 cntq1 v hv k1_ k2_ k3_ H locs hP hD hS ls hl
  have ez := hv.2.2.2
  refine law_loop F hRR hN hK hA kz 39 1 z1.1 _ _ _ _ _ _ _ _ _ _ _ _ _ _ _ _ _ _ _ _ _ _ _ _ _ _ _ _ _ _ _ _ _ _ _ _ _ _ _ _ _ _ _ _ _ _ _ _ _ _ _ _ _ _ _ _ _ _ _ (v.1.2.2.2.2.2.2.2 ++ tl) w9 rfl ?_ k1_ k2_ k3_ g01_0 g01_0 (hW.next hv.1) (by omega) (by omega) ?_ H locs hP hD hS ls hl
  · rw [← ez]
    exact hz
  · intro ex g5 g6 H locs hP hD hS ls hl
    rw [← List.append_assoc ex] at hP hD
    have q := kk (ex ++ v.1.2.2.2.2.2.2.2) (g5.app hv.2.2.1) (by rw [List.length_append, g6, hv.2.1]; omega) H locs hP hD hS ls hl
    exact W_cells (by omega) (by omega) q
set_option maxRecDepth 100000 in
set_option maxHeartbeats 40000000 in
theorem law_ks {p : Program} {l : Launch} {e : Env} {R : Room} {s : State} {m : MethodId} {args : Array Value} {below : List Frame} {meth : Method} {c : Code} {Q : State → Prop} {G : gG} {A : Nat → Prop} (F : CallFix p m c cL_law 11 s args gT RL) (hRR : 20 ≤ R.frames ∧ 900 ≤ R.locals) (hN : gEnv G s) (hK : va_K G.1 vwCl (gTy G) s) (hA : ∀ q, s.heap.size ≤ q → A q) {aa : Nat} {scr : Nat → Int32} (hfl : l.stackTraces = false) (hSt : gSt G A s) {w9 : Int32 × Cz} (he : w9.2.1 / 32 = 589) (hw : ∀ k, k < 3 → (fz1 (fz1 (scr k)).2).1 = 35628) (hq : ∀ k, k < 3 → ∀ dd, dd = gIter fz1 64 (scr k) → kq dd w9)
    (kz : ∀ (q C1 S1 : Nat), decode cL_law q = .ok (.ireturn, 1) → C1 ≤ R.cells → S1 ≤ R.slots → ∀ (H : Heap) (locs : List Loc), va_S A s.heap H locs → ∀ ls, lv_has ls 11 [] → W p l e R s m args below meth c H locs C1 S1 Q (F0 m q ls [.int 0]))
    (kk : ∀ (tl : va_W) (C1 S1 : Nat), C1 ≤ R.cells → S1 ≤ R.slots → gGb G tl → tl.length = 14136 → ∀ (H : Heap) (locs : List Loc), va_P G.1 vwCl ([(aa, .inl (G.2.1.1, 3, .inl scr))] ++ tl) H → va_D A ([(aa, .inl (G.2.1.1, 3, .inl scr))] ++ tl) → va_S A s.heap H locs → ∀ ls, W p l e R s m args below meth c H locs C1 S1 Q (F0 m 389 ls [.int 1])) :
    ∀ (r k C0 S0 : Nat) (tl : va_W), k + r = 3 → C0 + 4791 * r ≤ R.cells → S0 + 3025127 * r ≤ R.slots → gGb G tl → tl.length = 4712 * k → ∀ (H : Heap) (locs : List Loc), va_P G.1 vwCl ([(aa, .inl (G.2.1.1, 3, .inl scr))] ++ tl) H → va_D A ([(aa, .inl (G.2.1.1, 3, .inl scr))] ++ tl) → va_S A s.heap H locs → ∀ ls, lv_has ls 11 [(0, .ref aa), (1, .int (nI k))] → W p l e R s m args below meth c H locs C0 S0 Q (F0 m 2 ls []) := by
  obtain ⟨hx, hb, hml, hown, hts⟩ := id F
  intro r
  induction r with
  | zero =>
    intro k C0 S0 tl hk hc hs hg hn H locs hP hD hS ls hl
    have e : k = 3 := by omega
    subst e
    refine lv_iload_n hx hb dL_law_2 rfl (lv_at hl 1 rfl) ?_
    refine lv_iconst (v := 3) hx hb dL_law_3 (by decide) ?_
    refine lv_icmp_ge (tgt := 388) hx hb dL_law_4 (by decide) (fun _ => ?_) (fun h9 => absurd (Int32.le_refl _) h9)
    refine lv_iconst (v := 1) hx hb dL_law_388 (by decide) ?_
    exact kk tl C0 S0 (by omega) (by omega) hg (by omega) H locs hP hD hS ls
  | succ r ih =>
    intro k C0 S0 tl hk hc hs hg hn H locs hP hD hS ls hl
    refine lv_iload_n hx hb dL_law_2 rfl (lv_at hl 1 rfl) ?_
    refine lv_iconst (v := 3) hx hb dL_law_3 (by decide) ?_
    refine lv_icmp_ge (tgt := 388) hx hb dL_law_4 (by decide) (fun h9 => absurd h9 (nI_nle9 (a := k) (b := 3) (by omega) (by decide))) (fun _ => ?_)
    refine law_k (w9 := w9) F hRR hN hK hA (by omega) hfl hSt (hw k (by omega)) (hq k (by omega)) ⟨by omega, by omega⟩ kz ?_ H locs hP hD hS ls hl
    intro ex g5 g6 H locs hP hD hS ls hl
    refine lv_iinc (v := (nI (k + 1))) (lv' := [(1, .int (nI (k + 1))), (0, .ref aa)]) hx hb dL_law_382 hl (k := 1) rfl (nI_1 k) (by decide) rfl (fun ls hl => ?_)
    refine lv_goto (tgt := 2) hx hb dL_law_385 (by decide) ?_
    exact ih (k + 1) _ _ (ex ++ tl) (by omega) (by omega) (by omega) (g5.app hg) (by rw [List.length_append, g6]; omega) H locs hP hD hS ls (lv_sub hl [1, 0] rfl)
