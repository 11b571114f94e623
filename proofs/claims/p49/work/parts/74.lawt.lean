section gcTail
variable {p : Program} {l : Launch} {e : Env} {R : Room} {s : State} {m : MethodId} {args : Array Value} {below : List Frame} {meth : Method} {c : Code} {H : Heap} {locs : List Loc} {cells slots : Nat} {Q : State → Prop} {G : gG}
variable {y : MethodName} {bytes cc : ByteArray} {n nL k mc ms idx pc : Nat} {rm : Room} {as As rest st0 : List Value} {X tl wc wr : va_W} {w1 ws' : (Nat → Nat) → va_W} {own : String} {A : Nat → Prop} {ls : Array Slot}
theorem gcContT (hr : va_Run p l e R s m args below meth c H locs cells slots mc ms (F0 m pc ls st0) rest (fun st oc t => gCQ G w1 (va_A wc H.size) As.toArray st oc t) (va_A wc H.size)) (hP : va_P G.1 vwCl (X ++ tl) H) (hD : va_D A (X ++ tl)) (hS : va_S A s.heap H locs) (hA : ∀ q, s.heap.size ≤ q → A q)
    (isC isR perm : List Nat) (hC : isC.map (fun i => X[i]?) = wc.map some) (hRr : isR.map (fun i => X[i]?) = wr.map some) (hn : va_nd isR = true) (hdis : ∀ i ∈ isR, i ∉ isC) (hnp : va_nd perm = true) (hperm : ∀ v : Nat → Nat, perm.map (fun i => (wr ++ w1 v)[i]?) = (ws' v).map some)
    (kk : ∀ (v : Nat → Nat) (H : Heap) (locs : List Loc), va_P G.1 vwCl (ws' v ++ tl) H → va_D A (ws' v ++ tl) → va_S A s.heap H locs → W p l e R s m args below meth c H locs (cells + mc) (slots + ms) Q (F0 m (pc + 3) ls rest)) : W p l e R s m args below meth c H locs cells slots Q (F0 m pc ls st0) := by
  intro T hT X9
  have hF := va_free (wc := wc) hD hS hA isC (gMapApp hC)
  obtain ⟨v, st₀, t, T', L, h0, X', hL, e1, e2, ⟨v9, ⟨hv, hP1, -, hD1⟩, hF1⟩, st⟩ := hr T hT X9
  cases hv
  obtain ⟨k1, k2, k3⟩ := vx_keep h0 e1 hS (fun q _ h => hF q h) hF hL hF1
  rw [← e1] at hP1
  obtain ⟨hP2, hD2⟩ := va_joinQ (wr := wr) (w1 := w1 v9) hP hD isC isR hC hRr hn hdis k2 hF hP1 hD1
  obtain ⟨t2, a1, b1⟩ := kk v9 T'.heap (locs ++ L) (hP2.part perm (hperm v9)) (hD2.part perm hnp (hperm v9)) k3 T' rfl X'
  exact ⟨t2, st t2 a1, b1⟩
theorem gcIt {b : Nat} (F : CallFix p m c cc nL s args gT own) (hM : gC l G y bytes n rm (.ref b :: As) wc w1 mc ms) (ok : gOkI y bytes n k) (hL : Cond.methodLink own idx y ∈ gT)
    (hrc : rm.cells = mc) (hrs : rm.slots = ms) (hR : rm.frames + 1 ≤ R.frames ∧ 8 + (n + 11) + rm.locals ≤ R.locals)
    (hN : gEnv G s) (hSt : gSt G A s) (hK : va_K G.1 vwCl (gTy G) s) (hP : va_P G.1 vwCl (X ++ tl) H) (hD : va_D A (X ++ tl)) (hS : va_S A s.heap H locs) (hA : ∀ q, s.heap.size ≤ q → A q)
    (isC isR perm : List Nat) (hnC : va_nd isC = true) (hC : isC.map (fun i => X[i]?) = wc.map some) (hRr : isR.map (fun i => X[i]?) = wr.map some) (hn : va_nd isR = true) (hdis : ∀ i ∈ isR, i ∉ isC) (hnp : va_nd perm = true) (hperm : ∀ v : Nat → Nat, perm.map (fun i => (wr ++ w1 v)[i]?) = (ws' v).map some)
    (hlen : As.length = k) (hst : st0 = As.reverse ++ .ref b :: rest) (hls : ls.size = nL) (hW : (rest.map fun v => v.category).sum ≤ 8) (hdg : decode cc pc = .ok (.invokespecial idx, 3)) (hcs : cells + mc ≤ R.cells ∧ slots + ms ≤ R.slots)
    (kk : ∀ (v : Nat → Nat) (H : Heap) (locs : List Loc), va_P G.1 vwCl (ws' v ++ tl) H → va_D A (ws' v ++ tl) → va_S A s.heap H locs → W p l e R s m args below meth c H locs (cells + mc) (slots + ms) Q (F0 m (pc + 3) ls rest)) : W p l e R s m args below meth c H locs cells slots Q (F0 m pc ls st0) := by
  obtain ⟨⟨o1, o3, o4⟩, o5, o6⟩ := ok
  have hts := F.2.2.2.2
  have hPc := hP.sub (ws' := wc) isC (gFm (gMapApp hC))
  have hDc := hD.sub (ws' := wc) isC hnC (gMapApp hC)
  exact gcContT (As := .ref b :: As) (va_runI (As := As) (rest := rest) F (hM H.size) ⟨callB_of k hts (gG_code o4) rfl hrc hrs (hts _ o3) (hts _ hL) o6 hR, o5, hts _ o1⟩ ⟨gPx_blind, fun U hU hW9 => ⟨rfl, by rw [hU], by rw [hU]; exact hPc, va_K.moved hW9.alike hK, hDc.weaken (fun _ _ _ _ => trivial), hN.warm hW9, hSt.at hD hS hA isC (gMapApp hC) hU hW9.alike⟩⟩ rfl hlen hls hst (lv_room hW) hdg hcs) hP hD hS hA isC isR perm hC hRr hn hdis hnp hperm kk
theorem gcINt {b : Nat} {host : String} (F : CallFix p m c cc nL s args gT own) (hM : gC l G y bytes n rm (.ref b :: As) wc w1 mc ms) (ok : gOkI y bytes n k) (hL : (own, idx, y, host) ∈ gNest)
    (hrc : rm.cells = mc) (hrs : rm.slots = ms) (hR : rm.frames + 1 ≤ R.frames ∧ 8 + (n + 11) + rm.locals ≤ R.locals)
    (hN : gEnv G s) (hSt : gSt G A s) (hK : va_K G.1 vwCl (gTy G) s) (hP : va_P G.1 vwCl (X ++ tl) H) (hD : va_D A (X ++ tl)) (hS : va_S A s.heap H locs) (hA : ∀ q, s.heap.size ≤ q → A q)
    (isC isR perm : List Nat) (hnC : va_nd isC = true) (hC : isC.map (fun i => X[i]?) = wc.map some) (hRr : isR.map (fun i => X[i]?) = wr.map some) (hn : va_nd isR = true) (hdis : ∀ i ∈ isR, i ∉ isC) (hnp : va_nd perm = true) (hperm : ∀ v : Nat → Nat, perm.map (fun i => (wr ++ w1 v)[i]?) = (ws' v).map some)
    (hlen : As.length = k) (hst : st0 = As.reverse ++ .ref b :: rest) (hls : ls.size = nL) (hW : (rest.map fun v => v.category).sum ≤ 8) (hdg : decode cc pc = .ok (.invokespecial idx, 3)) (hcs : cells + mc ≤ R.cells ∧ slots + ms ≤ R.slots)
    (kk : ∀ (v : Nat → Nat) (H : Heap) (locs : List Loc), va_P G.1 vwCl (ws' v ++ tl) H → va_D A (ws' v ++ tl) → va_S A s.heap H locs → W p l e R s m args below meth c H locs (cells + mc) (slots + ms) Q (F0 m (pc + 3) ls rest)) : W p l e R s m args below meth c H locs cells slots Q (F0 m pc ls st0) := by
  obtain ⟨⟨o1, o3, o4⟩, o5, o6⟩ := ok
  have hts := F.2.2.2.2
  have hPc := hP.sub (ws' := wc) isC (gFm (gMapApp hC))
  have hDc := hD.sub (ws' := wc) isC hnC (gMapApp hC)
  exact gcContT (As := .ref b :: As) (va_runIN (As := As) (rest := rest) (host := host) F (hM H.size) ⟨va_cnB k hts (gG_code o4) rfl hrc hrs (hN.1 _ hL) (hts _ o3) o6 hR, o5, hts _ o1⟩ ⟨gPx_blind, fun U hU hW9 => ⟨rfl, by rw [hU], by rw [hU]; exact hPc, va_K.moved hW9.alike hK, hDc.weaken (fun _ _ _ _ => trivial), hN.warm hW9, hSt.at hD hS hA isC (gMapApp hC) hU hW9.alike⟩⟩ rfl hlen hls hst (lv_room hW) hdg hcs) hP hD hS hA isC isR perm hC hRr hn hdis hnp hperm kk
end gcTail
theorem rgP {x n : Int32} {d : Nat} (hn : n.toInt = d) (hd : 0 < d) (h5 : d < 500) : 1 ≤ (1 + (f_X7_next x n).1).toInt ∧ (1 + (f_X7_next x n).1).toInt ≤ 500 := by
  have h := rgN (x := x) hn hd
  have o : (1 : Int32).toInt = 1 := (by decide)
  have e := gI_add (x := 1) (y := (f_X7_next x n).1) (by omega) (by omega)
  omega
/-- how many minor cycles of instructions the law asks for -/
def nxp (x : Int32) : Int32 × Int32 :=
  if (f_X7_next x 3).1 = 0 then
    (1 + (f_X7_next (f_X7_next x 3).2 60).1, (f_X7_next (f_X7_next x 3).2 60).2)
  else
    (1 + (f_X7_next (f_X7_next x 3).2 4).1, (f_X7_next (f_X7_next x 3).2 4).2)
theorem nxp_rg (x : Int32) : 1 ≤ (nxp x).1.toInt ∧ (nxp x).1.toInt ≤ 500 := by
  unfold nxp
  split
  · exact rgP (d := 60) (by decide) (by decide) (by decide)
  · exact rgP (d := 4) (by decide) (by decide) (by decide)
theorem tmR {tm : Int32} {T : Nat} (h : tm = nI T) (hT : T < 190000000) : 0 ≤ tm.toInt ∧ tm.toInt < 190000000 := by
  have e : (nI T).toInt = T := nI_toInt (by omega)
  rw [h]
  omega
theorem upto_ov {et ot fp on fo : Int32} {rin : Nat → Int32} : ∀ (n k : Nat) (z2 z3 z4 z6 z10 z11 : Nat → Int32) (y5 y6 y7 y8 y9 y10 y11 y13 y51 y71 y72 y92 : Int32), g01 y11 → 0 ≤ y7.toInt → y7.toInt + 100 * n < 198000000 → g01 (wl_X2_executeUpTo et ot fp on rin fo n k z2 z3 z4 z6 z10 z11 y5 y6 y7 y8 y9 y10 y11 y13 y51 y71 y72 y92).2.2.2.2.2.2.2.1
  | 0, k, z2, z3, z4, z6, z10, z11, y5, y6, y7, y8, y9, y10, y11, y13, y51, y71, y72, y92, h, _, _ => h
  | n + 1, k, z2, z3, z4, z6, z10, z11, y5, y6, y7, y8, y9, y10, y11, y13, y51, y71, y72, y92, h, h0, hT => by
    have e := gI_clamp (x := y7) h0
    unfold wl_X2_executeUpTo
    by_cases c : y8 = 0
    · rw [if_pos c]
      dsimp only
      have q := exec_inv h (T := y7.toNatClampNeg) (by omega) _ (rfl : f_X2_executeNext y5 y6 y8 y9 y10 y11 (Int32.toNatClampNeg y7) y13 z2 z3 z4 y51 ot fp on z6 y71 y72 rin fo y92 z10 z11 = _)
      exact upto_ov n (k + 1) _ _ _ _ _ _ _ _ _ _ _ _ _ _ _ _ _ _ q.2 (by have := q.1; omega) (by have := q.1; omega)
    · rw [if_neg c]
      exact h
theorem run_ov {et : Int32} {wt : Int32} {tm : Int32} {sta : Int32} {he : Int32} {ac : Int32} {ov : Int32} {dr : Int32} {bits : Nat → Int32} {ring : Nat → Int32} {slips : Nat → Int32} {pt : Int32} {ot : Int32} {fp : Int32} {on : Int32} {temps : Nat → Int32} {fi : Int32} {li : Int32} {rin : Nat → Int32} {fo : Int32} {lo : Int32} {rout : Nat → Int32} {cnt : Nat → Int32} {p0 : Int32} (h : g01 ov) (hT : 0 ≤ tm.toInt ∧ tm.toInt < 190000000) (hp : 1 ≤ p0.toInt ∧ p0.toInt ≤ 500) : g01 (f_X6_run et wt tm sta he ac ov dr bits ring slips pt ot fp on temps fi li rin fo lo rout cnt p0).2.2.2.2.2.2.2.1 :=
  upto_ov p0.toNatClampNeg 0 bits ring slips temps rout cnt et wt tm sta he ac ov dr pt fi li lo h hT.1 (by have e := gI_clamp (x := p0) (by omega); omega)

