/-! Strings: receivers that are constants, returns of a char, throws behind changed cells -/
theorem gLn_le : ∀ i : Nat, i < 21 → gLn i ≤ 6 := by decide +kernel
theorem gLn_b {i : Nat} (h : i < 21) : gLn i < 2 ^ 31 := Nat.lt_of_le_of_lt (gLn_le i h) (by decide)
theorem gBy_c0 : ∀ i : Nat, i < 21 → ∀ j : Nat, j < 6 → UInt32.toInt32 (Int32.toUInt32 (gBy i j &&& 255) % 65536) = gBy i j := by decide +kernel
theorem gBy_n0 : ∀ i : Nat, i < 21 → ∀ j : Nat, j < 6 → narrow .char (.int (gBy i j)) = .int (gBy i j) := by decide +kernel
theorem gBy_c {i j : Nat} (hi : i < 21) (hj : j < gLn i) : UInt32.toInt32 (Int32.toUInt32 (gBy i j &&& 255) % 65536) = gBy i j := gBy_c0 i hi j (Nat.lt_of_lt_of_le hj (gLn_le i hi))
theorem gBy_n {i j : Nat} (hi : i < 21) (hj : j < gLn i) : narrow .char (.int (gBy i j)) = .int (gBy i j) := gBy_n0 i hi j (Nat.lt_of_lt_of_le hj (gLn_le i hi))
theorem gshr0 (x : Int32) : x >>> ((0 : Int32) &&& 31) = x := by
  have e : ((0 : Int32) &&& 31) = 0 := by decide
  rw [e]
  first
    | exact Int32.shiftRight_zero
    | simp
    | (apply Int32.toBitVec_inj.mp; simp)
def gXw (l : Launch) (G : gG) (y : MethodName) (bytes : ByteArray) (n : Nat) (ret : Option FieldType) (rm : Room) (as : List Value) (ws : va_W) (th : Option String) (rv : Option Value) (w1 wx : va_W) (mc ms : Nat) : Prop :=
  ∀ sz : Nat, vx_Met l y (Cond.code y bytes n ret :: gT) rm (gPx G as ws sz) (gQx G th rv w1 (va_A ws sz)) (gXc G th wx (va_A ws sz)) mc ms (va_A ws sz)
section gStrRows
variable {p : Program} {l : Launch} {e : Env} {R : Room} {s : State} {m : MethodId} {args : Array Value} {below : List Frame} {meth : Method} {c : Code} {H : Heap} {locs : List Loc} {cells slots : Nat} {Q : State → Prop} {G : gG}
variable {y : MethodName} {bytes cc : ByteArray} {n nL k mc ms idx pc : Nat} {ret : Option FieldType} {rm : Room} {as As rest st0 : List Value} {ws wc wr w1 wx ws' : va_W} {rv : Option Value} {own : String} {A : Nat → Prop} {ls : Array Slot} {th : Option String}
theorem gxwBegin (hy : plainName y.cls = true) (hn : (lg_sl as).length ≤ n)
    (body : ∀ (p : Program) (e : Env) (s : State) (m : MethodId) (args : Array Value) (below : List Frame) (meth : Method) (c : Code) (A : Nat → Prop), CallFix p m c bytes n s args gT y.cls → meth.sig.returnType = ret → meth.locks = false → (∀ x ∈ c.exceptionTable.toList, False) → gEnv G s → gSt G A s → va_K G.1 vwCl (gTy G) s → va_P G.1 vwCl ws s.heap → va_D A ws → (∀ q : Nat, s.heap.size ≤ q → A q) → va_S A s.heap s.heap [] → ∀ ls, lv_has ls n (lv_args 0 as) →
      W p l e rm s m args below meth c s.heap [] 0 0 (vx_MQ below (gQx G th rv w1 A) (gXc G th wx A) args s mc ms A) (F0 m 0 ls [])) : gXw l G y bytes n ret rm as ws th rv w1 wx mc ms := by
  intro sz
  refine vx_ofW (cc := bytes) (maxL := n) (ret := ret) hy rfl ?_
  intro p e s m args below meth c s₁ B hml htab hv
  obtain ⟨rfl, hsz, hP, hK, hD0, hN, hSt⟩ := hv
  have hts0 := atoms_spec (ws := Cond.code y bytes n ret :: gT) B.pre
  subst hsz
  have hD := hD0.self (sz := s.heap.size)
  have hl := lv_entry as (n := n) hn
  rw [lg_entry_eq]
  exact body p e s m _ below meth c _ ⟨B.exec, B.bytes, hml, findClass_of_methodNamed B.named, fun w h => hts0 w (List.mem_cons_of_mem _ h)⟩ B.returns B.notSynchronized htab hN hSt hK hP hD (fun q h => Or.inr h) va_S.rf _ hl
theorem gRecvS {i : Nat} (hSt : gSt G A s) (hS : va_S A s.heap H locs) (hi : i < 21) : ∃ cell : Cell, H[gK G i]? = some cell ∧ cell.vm.isStatics = false ∧ s.vm.findClass "java/lang/String" = some cell.cls := by
  obtain ⟨cell, h1, h2, h3, -⟩ := (hSt.2.2.1 i hi).1.kept hS.2.1
  exact ⟨cell, h1, h2, h3⟩
theorem gRetT {v : Int32} {rt : FieldType} {w0 : va_W} (F : CallFix p m c cc nL s args gT own) (hr : meth.sig.returnType = some rt) (hlocks : meth.locks = false) (hK : va_K G.1 vwCl (gTy G) s) (hP : va_P G.1 vwCl w0 H) (hD : va_D A w0) (hS : va_S A s.heap H locs) (hn : narrow rt (.int v) = .int v) (hv : some (.int v) = rv) (hw : w0 = w1) (hc : cells ≤ mc) (hs : slots ≤ ms) (hdg : decode cc pc = .ok (.ireturn, 1)) :
    W p l e R s m args below meth c H locs cells slots (MQ below (gQ G rv w1 A) args s mc ms A) (F0 m pc ls [.int v]) := by
  subst hv hw
  exact W.widen hc hs (W.zret F.1 F.2.1 hr hn (fun t ht hW => ⟨⟨rfl, by rw [ht]; exact hP, va_K.moved hW.alike hK, hD⟩, hS.F ht⟩) hS.2.2 hdg hlocks)
theorem gxVR {b : Nat} (F : CallFix p m c cc nL s args gT own) (hM : gX l G y bytes n ret rm (.ref b :: As) wc th rv w1 mc ms) (ok : gOkV y bytes n ret k) (hL : Cond.methodLink own idx y ∈ gT)
    (hrc : rm.cells = mc) (hrs : rm.slots = ms) (hR : rm.frames + 1 ≤ R.frames ∧ 8 + (n + 11) + rm.locals ≤ R.locals)
    (hN : gEnv G s) (hSt : gSt G A s) (hK : va_K G.1 vwCl (gTy G) s) (hP : va_P G.1 vwCl ws H) (hD : va_D A ws) (hS : va_S A s.heap H locs) (hA : ∀ q, s.heap.size ≤ q → A q)
    (isC isR perm : List Nat) (hnC : va_nd isC = true) (hC : isC.map (fun i => ws[i]?) = wc.map some) (hRr : isR.map (fun i => ws[i]?) = wr.map some) (hn : va_nd isR = true) (hdis : ∀ i ∈ isR, i ∉ isC) (hnp : va_nd perm = true) (hperm : perm.map (fun i => (wr ++ w1)[i]?) = ws'.map some) (hperm0 : perm.map (fun i => (wr ++ wc)[i]?) = ws.map some)
    (hrecv : ∃ cell : Cell, H[b]? = some cell ∧ cell.vm.isStatics = false ∧ s.vm.findClass y.cls = some cell.cls) (hlen : As.length = k) (hst : st0 = As.reverse ++ .ref b :: rest) (hls : ls.size = nL) (hW : (rest.map fun v => v.category).sum ≤ 8) (hdg : decode cc pc = .ok (.invokevirtual idx, 3)) (hcs : cells + mc ≤ R.cells ∧ slots + ms ≤ R.slots)
    (kk : th = none → ∀ (H : Heap) (locs : List Loc), va_P G.1 vwCl ws' H → va_D A ws' → va_S A s.heap H locs → W p l e R s m args below meth c H locs (cells + mc) (slots + ms) Q (F0 m (pc + 3) ls (rv.toList ++ rest)))
    (kx : ∀ (E : String) (ce : Cell) (q : Addr) (H : Heap) (locs : List Loc), th = some E → va_P G.1 vwCl ws H → va_D A ws → va_S A s.heap H locs → H[q]? = some ce → ce.vm = .none → s.vm.findClass E = some ce.cls → vx_W p l e R s m args below meth c H locs (cells + mc) (slots + ms) Q (F0 m pc ls rest) q) : W p l e R s m args below meth c H locs cells slots Q (F0 m pc ls st0) := by
  obtain ⟨⟨o1, o2, o3, o4⟩, o5⟩ := ok
  have hts := F.2.2.2.2
  have hPc := hP.sub (ws' := wc) isC (gFm hC)
  have hDc := hD.sub (ws' := wc) isC hnC hC
  refine gxCont (As := .ref b :: As) (vx_runV (C := y.cls) (As := As) (rest := rest) F (hM H.size) (cwV k hts (gG_in (ws := wsV own idx y.cls y (Cond.code y bytes n ret :: gT)) ?_) rfl hrc hrs ⟨rfl, o5⟩ hR) ⟨gPx_blind, hrecv, fun U hU hW9 => ⟨rfl, by rw [hU], by rw [hU]; exact hPc, va_K.moved hW9.alike hK, hDc.weaken (fun _ _ _ _ => trivial), hN.warm hW9, hSt.at hD hS hA isC hC hU hW9.alike⟩⟩ rfl hlen hls hst (lv_room hW) hdg hcs) hP hD hS hA isC isR perm hC hRr hn hdis hnp hperm hperm0 kk kx
  intro w hw
  simp only [wsV, List.mem_append, List.mem_cons, List.not_mem_nil, or_false] at hw
  rcases hw with (h | h | h | h) | h | h
  · rw [h]; exact hL
  · rw [h]; exact o1
  · rw [h]; exact o2
  · rw [h]; exact o3
  · rw [h]; exact o4
  · exact h
end gStrRows
def f_J0_coder_7d493  : Int32 :=
  0
set_option maxRecDepth 100000 in
set_option maxHeartbeats 4000000 in
theorem c_J0_coder_7d493 (l : Launch) (hfl : l.stackTraces = false) (G : gG) (i0 : Nat) (hi0 : i0 < 21) : gX l G yJ0_coder_7d493 cJ0_coder_7d493 1 (some .byte) { frames := 0, cells := 0, slots := 0, locals := 0 } [.ref (gK G i0)] [] none (some (.int f_J0_coder_7d493)) [] 0 0 := by
  refine gxBegin (by decide +kernel) (Nat.le_of_ble_eq_true rfl) (fun p e s m args below meth c A F hr hlocks htab hN hSt hK hP hD hA hS ls hl => ?_)
  obtain ⟨hx, hb, hml, hown, hts⟩ := id F
  replace hP : va_P G.1 vwCl [] s.heap := hP
  replace hl : lv_has ls 1 [(0, .ref (gK G i0))] := hl
  refine va_gets (v := .int 1) hx hb hSt.2.2.2.1 hS hown (hts _ k_fl_J0_38) (fun _ h9 => h9) dJ0_coder_7d493_0 ?_
  refine lv_if_eq (tgt := 13) hx hb dJ0_coder_7d493_3 (by decide) (fun c_1 => ?_) (fun c_1 => ?_)
  · exact absurd c_1 (by decide)
  · skip
    refine lv_aload_n hx hb dJ0_coder_7d493_6 rfl (lv_at hl 0 rfl) ?_
    refine vk_getf (v := .int 0) hx hb (hSt.2.2.1 i0 hi0).2.1 hS hown (hts _ k_fl_J0_15) (fun _ h9 => h9) dJ0_coder_7d493_7 ?_
    refine lv_goto (tgt := 14) hx hb dJ0_coder_7d493_10 (by decide) ?_
    refine gxOf (rfl) ?_
    exact gRetT (rt := .byte) F hr hlocks hK hP hD hS rfl rfl rfl (Nat.le_of_ble_eq_true rfl) (Nat.le_of_ble_eq_true rfl) dJ0_coder_7d493_14
theorem okV_J0_coder_7d493 : gOkV yJ0_coder_7d493 cJ0_coder_7d493 1 (some .byte) 0 := ⟨⟨k_im_J0_coder_7d493, k_se_J0_coder_7d493, k_in_J0, k_cd_J0_coder_7d493⟩, by decide, by decide, by decide +kernel⟩
def f_J0_isLatin1_aae02  : Int32 :=
  1
set_option maxRecDepth 100000 in
set_option maxHeartbeats 4000000 in
theorem c_J0_isLatin1_aae02 (l : Launch) (hfl : l.stackTraces = false) (G : gG) (i0 : Nat) (hi0 : i0 < 21) : gX l G yJ0_isLatin1_aae02 cJ0_isLatin1_aae02 1 (some .boolean) { frames := 0, cells := 0, slots := 0, locals := 0 } [.ref (gK G i0)] [] none (some (.int f_J0_isLatin1_aae02)) [] 0 0 := by
  refine gxBegin (by decide +kernel) (Nat.le_of_ble_eq_true rfl) (fun p e s m args below meth c A F hr hlocks htab hN hSt hK hP hD hA hS ls hl => ?_)
  obtain ⟨hx, hb, hml, hown, hts⟩ := id F
  replace hP : va_P G.1 vwCl [] s.heap := hP
  replace hl : lv_has ls 1 [(0, .ref (gK G i0))] := hl
  refine va_gets (v := .int 1) hx hb hSt.2.2.2.1 hS hown (hts _ k_fl_J0_38) (fun _ h9 => h9) dJ0_isLatin1_aae02_0 ?_
  refine lv_if_eq (tgt := 17) hx hb dJ0_isLatin1_aae02_3 (by decide) (fun c_1 => ?_) (fun c_1 => ?_)
  · exact absurd c_1 (by decide)
  · skip
    refine lv_aload_n hx hb dJ0_isLatin1_aae02_6 rfl (lv_at hl 0 rfl) ?_
    refine vk_getf (v := .int 0) hx hb (hSt.2.2.1 i0 hi0).2.1 hS hown (hts _ k_fl_J0_15) (fun _ h9 => h9) dJ0_isLatin1_aae02_7 ?_
    refine lv_if_ne (tgt := 17) hx hb dJ0_isLatin1_aae02_10 (by decide) (fun c_2 => ?_) (fun c_2 => ?_)
    · exact absurd c_2 (by decide)
    · skip
      refine lv_iconst (v := 1) hx hb dJ0_isLatin1_aae02_13 (by decide) ?_
      refine lv_goto (tgt := 18) hx hb dJ0_isLatin1_aae02_14 (by decide) ?_
      refine gxOf (rfl) ?_
      exact gRetZ F hr hlocks hK hP hD hS rfl rfl rfl (Nat.le_of_ble_eq_true rfl) (Nat.le_of_ble_eq_true rfl) dJ0_isLatin1_aae02_18
theorem okV_J0_isLatin1_aae02 : gOkV yJ0_isLatin1_aae02 cJ0_isLatin1_aae02 1 (some .boolean) 0 := ⟨⟨k_im_J0_isLatin1_aae02, k_se_J0_isLatin1_aae02, k_in_J0, k_cd_J0_isLatin1_aae02⟩, by decide, by decide, by decide +kernel⟩
def f_J0_length_8abf5 (i0 : Nat) : Int32 :=
  (nI (gLn i0))
set_option maxRecDepth 100000 in
set_option maxHeartbeats 4000000 in
theorem c_J0_length_8abf5 (l : Launch) (hfl : l.stackTraces = false) (G : gG) (i0 : Nat) (hi0 : i0 < 21) : gX l G yJ0_length_8abf5 cJ0_length_8abf5 1 (some .int) { frames := 1, cells := 0, slots := 0, locals := 20 } [.ref (gK G i0)] [] none (some (.int (f_J0_length_8abf5 i0))) [] 0 0 := by
  refine gxBegin (by decide +kernel) (Nat.le_of_ble_eq_true rfl) (fun p e s m args below meth c A F hr hlocks htab hN hSt hK hP hD hA hS ls hl => ?_)
  obtain ⟨hx, hb, hml, hown, hts⟩ := id F
  replace hP : va_P G.1 vwCl [] s.heap := hP
  replace hl : lv_has ls 1 [(0, .ref (gK G i0))] := hl
  refine lv_aload_n hx hb dJ0_length_8abf5_0 rfl (lv_at hl 0 rfl) ?_
  refine vk_getf (v := .ref (gVa G i0)) hx hb (hSt.2.2.1 i0 hi0).2.2.1 hS hown (hts _ k_fl_J0_9) (fun _ h9 => h9) dJ0_length_8abf5_1 ?_
  refine va_tlen (v := (nI (gLn i0))) hx hb (hSt.2.2.1 i0 hi0).2.2.2 hS rfl dJ0_length_8abf5_4 ?_
  refine lv_aload_n hx hb dJ0_length_8abf5_5 rfl (lv_at hl 0 rfl) ?_
  refine gxVR (As := []) (rest := [.int (nI (gLn i0))]) (wr := []) (ws' := []) F (c_J0_coder_7d493 l hfl G i0 (by omega)) okV_J0_coder_7d493 k_ml_J0_335 rfl rfl ⟨Nat.le_of_ble_eq_true rfl, Nat.le_of_ble_eq_true rfl⟩ hN hSt hK hP hD hS hA [] [] [] (by decide) rfl rfl (by decide) (by decide) (by decide) rfl rfl (gRecvS (i := i0) hSt hS hi0) rfl rfl hl.1 (Nat.le_of_ble_eq_true rfl) dJ0_length_8abf5_6 ⟨Nat.le_of_ble_eq_true rfl, Nat.le_of_ble_eq_true rfl⟩ (fun _ H locs hP hD hS => ?_) (fun E9 ce9 q9 H locs x9 hP hD hS h91 h92 h93 => (Option.some_ne_none _ x9.symm).elim)
  refine W.eq (congrArg (fun z => F0 m _ ls (.int z :: _)) (rfl : (f_J0_coder_7d493 : Int32) = 0)) ?_
  refine lv_ishr hx hb dJ0_length_8abf5_9 ?_
  refine W.eq (congrArg (fun z => F0 m _ ls (.int z :: _)) (gshr0 _ : ((((nI (gLn i0)) >>> ((0 : Int32) &&& 31)) : Int32) : Int32) = (nI (gLn i0)))) ?_
  refine gxOf (rfl) ?_
  exact gRetI F hr hlocks hK hP hD hS rfl rfl (Nat.le_of_ble_eq_true rfl) (Nat.le_of_ble_eq_true rfl) dJ0_length_8abf5_10
theorem okV_J0_length_8abf5 : gOkV yJ0_length_8abf5 cJ0_length_8abf5 1 (some .int) 0 := ⟨⟨k_im_J0_length_8abf5, k_se_J0_length_8abf5, k_in_J0, k_cd_J0_length_8abf5⟩, by decide, by decide, by decide +kernel⟩
set_option maxRecDepth 100000 in
set_option maxHeartbeats 4000000 in
theorem c_J3_checkIndex_n (l : Launch) (hfl : l.stackTraces = false) (G : gG) (j : Nat) (n : Nat) (hj : j < n) (hn : n < 2 ^ 31) : gX l G yJ3_checkIndex_8e157 cJ3_checkIndex_8e157 3 (some .int) { frames := 0, cells := 0, slots := 0, locals := 0 } [.int (nI j), .int (nI n), .null] [] none (some (.int (nI j))) [] 0 0 := by
  refine gxBegin (by decide +kernel) (Nat.le_of_ble_eq_true rfl) (fun p e s m args below meth c A F hr hlocks htab hN hSt hK hP hD hA hS ls hl => ?_)
  obtain ⟨hx, hb, hml, hown, hts⟩ := id F
  replace hP : va_P G.1 vwCl [] s.heap := hP
  replace hl : lv_has ls 3 [(0, .int (nI j)), (1, .int (nI n)), (2, .null)] := hl
  refine lv_iload_n hx hb dJ3_checkIndex_8e157_0 rfl (lv_at hl 0 rfl) ?_
  refine lv_if_lt (tgt := 9) hx hb dJ3_checkIndex_8e157_1 (by decide) (fun c_1 => ?_) (fun c_1 => ?_)
  · exact absurd c_1 (nI_pos (by omega))
  · skip
    refine lv_iload_n hx hb dJ3_checkIndex_8e157_4 rfl (lv_at hl 0 rfl) ?_
    refine lv_iload_n hx hb dJ3_checkIndex_8e157_5 rfl (lv_at hl 1 rfl) ?_
    refine lv_icmp_lt (tgt := 16) hx hb dJ3_checkIndex_8e157_6 (by decide) (fun c_2 => ?_) (fun c_2 => ?_)
    · skip
      refine lv_iload_n hx hb dJ3_checkIndex_8e157_16 rfl (lv_at hl 0 rfl) ?_
      refine gxOf (rfl) ?_
      exact gRetI F hr hlocks hK hP hD hS rfl rfl (Nat.le_of_ble_eq_true rfl) (Nat.le_of_ble_eq_true rfl) dJ3_checkIndex_8e157_17
    · exact absurd (nI_lt hj hn) c_2
theorem okS_J3_checkIndex_8e157 : gOkS yJ3_checkIndex_8e157 cJ3_checkIndex_8e157 3 (some .int) 3 := ⟨⟨k_st_J3_checkIndex_8e157, k_in_J3, k_cd_J3_checkIndex_8e157⟩, by decide, by decide, by decide +kernel⟩
set_option maxRecDepth 100000 in
set_option maxHeartbeats 4000000 in
theorem c_J3_checkIndex_r (l : Launch) (hfl : l.stackTraces = false) (G : gG) (j : Nat) (n : Nat) (bf : Nat) (hj : j < n) (hn : n < 2 ^ 31) : gX l G yJ3_checkIndex_8e157 cJ3_checkIndex_8e157 3 (some .int) { frames := 0, cells := 0, slots := 0, locals := 0 } [.int (nI j), .int (nI n), .ref bf] [] none (some (.int (nI j))) [] 0 0 := by
  refine gxBegin (by decide +kernel) (Nat.le_of_ble_eq_true rfl) (fun p e s m args below meth c A F hr hlocks htab hN hSt hK hP hD hA hS ls hl => ?_)
  obtain ⟨hx, hb, hml, hown, hts⟩ := id F
  replace hP : va_P G.1 vwCl [] s.heap := hP
  replace hl : lv_has ls 3 [(0, .int (nI j)), (1, .int (nI n)), (2, .ref bf)] := hl
  refine lv_iload_n hx hb dJ3_checkIndex_8e157_0 rfl (lv_at hl 0 rfl) ?_
  refine lv_if_lt (tgt := 9) hx hb dJ3_checkIndex_8e157_1 (by decide) (fun c_1 => ?_) (fun c_1 => ?_)
  · exact absurd c_1 (nI_pos (by omega))
  · skip
    refine lv_iload_n hx hb dJ3_checkIndex_8e157_4 rfl (lv_at hl 0 rfl) ?_
    refine lv_iload_n hx hb dJ3_checkIndex_8e157_5 rfl (lv_at hl 1 rfl) ?_
    refine lv_icmp_lt (tgt := 16) hx hb dJ3_checkIndex_8e157_6 (by decide) (fun c_2 => ?_) (fun c_2 => ?_)
    · skip
      refine lv_iload_n hx hb dJ3_checkIndex_8e157_16 rfl (lv_at hl 0 rfl) ?_
      refine gxOf (rfl) ?_
      exact gRetI F hr hlocks hK hP hD hS rfl rfl (Nat.le_of_ble_eq_true rfl) (Nat.le_of_ble_eq_true rfl) dJ3_checkIndex_8e157_17
    · exact absurd (nI_lt hj hn) c_2
set_option maxRecDepth 100000 in
set_option maxHeartbeats 4000000 in
theorem c_J0_checkIndex_df160 (l : Launch) (hfl : l.stackTraces = false) (G : gG) (j : Nat) (n : Nat) (hj : j < n) (hn : n < 2 ^ 31) : gX l G yJ0_checkIndex_df160 cJ0_checkIndex_df160 2 none { frames := 1, cells := 0, slots := 0, locals := 22 } [.int (nI j), .int (nI n)] [] none none [] 0 0 := by
  refine gxBegin (by decide +kernel) (Nat.le_of_ble_eq_true rfl) (fun p e s m args below meth c A F hr hlocks htab hN hSt hK hP hD hA hS ls hl => ?_)
  obtain ⟨hx, hb, hml, hown, hts⟩ := id F
  replace hP : va_P G.1 vwCl [] s.heap := hP
  replace hl : lv_has ls 2 [(0, .int (nI j)), (1, .int (nI n))] := hl
  refine lv_iload_n hx hb dJ0_checkIndex_df160_0 rfl (lv_at hl 0 rfl) ?_
  refine lv_iload_n hx hb dJ0_checkIndex_df160_1 rfl (lv_at hl 1 rfl) ?_
  rcases hSt.2.2.2.2.1 with hZ0 | ⟨zt, hZ0⟩
  · skip
    refine va_gets (v := .null) hx hb hZ0 hS hown (hts _ k_fl_J0_1053) (fun _ h9 => h9) dJ0_checkIndex_df160_2 ?_
    refine gxS (As := [.int (nI j), .int (nI n), .null]) (rest := []) (wr := []) (ws' := []) F (c_J3_checkIndex_n l hfl G j n hj hn) okS_J3_checkIndex_8e157 k_ml_J0_1059 rfl rfl ⟨Nat.le_of_ble_eq_true rfl, Nat.le_of_ble_eq_true rfl⟩ hN hSt hK hP hD hS hA [] [] [] (by decide) rfl rfl (by decide) (by decide) (by decide) rfl rfl rfl rfl hl.1 (Nat.le_of_ble_eq_true rfl) dJ0_checkIndex_df160_5 ⟨Nat.le_of_ble_eq_true rfl, Nat.le_of_ble_eq_true rfl⟩ (fun _ H locs hP hD hS => ?_) (fun E9 ce9 q9 H locs x9 hP hD hS h91 h92 h93 => (Option.some_ne_none _ x9.symm).elim)
    refine lv_pop hx hb dJ0_checkIndex_df160_8 rfl ?_
    refine gxOf (rfl) ?_
    exact gRetV F hr hlocks hK hP hD hS rfl rfl (Nat.le_of_ble_eq_true rfl) (Nat.le_of_ble_eq_true rfl) dJ0_checkIndex_df160_9
  · skip
    refine va_gets (v := .ref zt) hx hb hZ0 hS hown (hts _ k_fl_J0_1053) (fun _ h9 => h9) dJ0_checkIndex_df160_2 ?_
    refine gxS (As := [.int (nI j), .int (nI n), .ref zt]) (rest := []) (wr := []) (ws' := []) F (c_J3_checkIndex_r l hfl G j n zt hj hn) okS_J3_checkIndex_8e157 k_ml_J0_1059 rfl rfl ⟨Nat.le_of_ble_eq_true rfl, Nat.le_of_ble_eq_true rfl⟩ hN hSt hK hP hD hS hA [] [] [] (by decide) rfl rfl (by decide) (by decide) (by decide) rfl rfl rfl rfl hl.1 (Nat.le_of_ble_eq_true rfl) dJ0_checkIndex_df160_5 ⟨Nat.le_of_ble_eq_true rfl, Nat.le_of_ble_eq_true rfl⟩ (fun _ H locs hP hD hS => ?_) (fun E9 ce9 q9 H locs x9 hP hD hS h91 h92 h93 => (Option.some_ne_none _ x9.symm).elim)
    refine lv_pop hx hb dJ0_checkIndex_df160_8 rfl ?_
    refine gxOf (rfl) ?_
    exact gRetV F hr hlocks hK hP hD hS rfl rfl (Nat.le_of_ble_eq_true rfl) (Nat.le_of_ble_eq_true rfl) dJ0_checkIndex_df160_9
theorem okS_J0_checkIndex_df160 : gOkS yJ0_checkIndex_df160 cJ0_checkIndex_df160 2 none 2 := ⟨⟨k_st_J0_checkIndex_df160, k_in_J0, k_cd_J0_checkIndex_df160⟩, by decide, by decide, by decide +kernel⟩
def f_J1_charAt_3b067 (i0 : Nat) (j : Nat) : Int32 :=
  (gBy i0 j)
set_option maxRecDepth 100000 in
set_option maxHeartbeats 4000000 in
theorem c_J1_charAt_3b067 (l : Launch) (hfl : l.stackTraces = false) (G : gG) (i0 : Nat) (j : Nat) (hi0 : i0 < 21) (hj : j < gLn i0) : gX l G yJ1_charAt_3b067 cJ1_charAt_3b067 2 (some .char) { frames := 2, cells := 0, slots := 0, locals := 43 } [.ref (gVa G i0), .int (nI j)] [] none (some (.int (f_J1_charAt_3b067 i0 j))) [] 0 0 := by
  refine gxBegin (by decide +kernel) (Nat.le_of_ble_eq_true rfl) (fun p e s m args below meth c A F hr hlocks htab hN hSt hK hP hD hA hS ls hl => ?_)
  obtain ⟨hx, hb, hml, hown, hts⟩ := id F
  replace hP : va_P G.1 vwCl [] s.heap := hP
  replace hl : lv_has ls 2 [(0, .ref (gVa G i0)), (1, .int (nI j))] := hl
  refine lv_iload_n hx hb dJ1_charAt_3b067_0 rfl (lv_at hl 1 rfl) ?_
  refine lv_aload_n hx hb dJ1_charAt_3b067_1 rfl (lv_at hl 0 rfl) ?_
  refine va_tlen (v := (nI (gLn i0))) hx hb (hSt.2.2.1 i0 hi0).2.2.2 hS rfl dJ1_charAt_3b067_2 ?_
  refine gxS (As := [.int (nI j), .int (nI (gLn i0))]) (rest := []) (wr := []) (ws' := []) F (c_J0_checkIndex_df160 l hfl G j (gLn i0) hj (gLn_b hi0)) okS_J0_checkIndex_df160 k_ml_J1_9 rfl rfl ⟨Nat.le_of_ble_eq_true rfl, Nat.le_of_ble_eq_true rfl⟩ hN hSt hK hP hD hS hA [] [] [] (by decide) rfl rfl (by decide) (by decide) (by decide) rfl rfl rfl rfl hl.1 (Nat.le_of_ble_eq_true rfl) dJ1_charAt_3b067_3 ⟨Nat.le_of_ble_eq_true rfl, Nat.le_of_ble_eq_true rfl⟩ (fun _ H locs hP hD hS => ?_) (fun E9 ce9 q9 H locs x9 hP hD hS h91 h92 h93 => (Option.some_ne_none _ x9.symm).elim)
  refine lv_aload_n hx hb dJ1_charAt_3b067_6 rfl (lv_at hl 0 rfl) ?_
  refine lv_iload_n hx hb dJ1_charAt_3b067_7 rfl (lv_at hl 1 rfl) ?_
  refine va_tb (i := (nI j)) (v := .int (gBy i0 (Int32.toNatClampNeg (nI j)))) hx hb (hSt.2.2.1 i0 hi0).2.2.2 hS (nI_in hj (gLn_b hi0)) rfl dJ1_charAt_3b067_8 ?_
  refine W.eq (congrArg (fun z => F0 m _ ls (.int z :: _)) (congrArg (gBy i0) (nI_clamp (Nat.lt_trans hj (gLn_b hi0))) : ((gBy i0 (Int32.toNatClampNeg (nI j))) : Int32) = (gBy i0 j))) ?_
  refine lv_sipush (v := 255) hx hb dJ1_charAt_3b067_9 (by decide) ?_
  refine lv_iand hx hb dJ1_charAt_3b067_12 ?_
  refine lv_i2c (v := (UInt32.toInt32 (Int32.toUInt32 ((gBy i0 j) &&& 255) % 65536))) hx hb dJ1_charAt_3b067_13 rfl ?_
  refine W.eq (congrArg (fun z => F0 m _ ls (.int z :: _)) (gBy_c hi0 hj : ((UInt32.toInt32 (Int32.toUInt32 ((gBy i0 j) &&& 255) % 65536)) : Int32) = (gBy i0 j))) ?_
  refine gxOf (rfl) ?_
  exact gRetT (rt := .char) F hr hlocks hK hP hD hS (gBy_n hi0 hj) rfl rfl (Nat.le_of_ble_eq_true rfl) (Nat.le_of_ble_eq_true rfl) dJ1_charAt_3b067_14
theorem okS_J1_charAt_3b067 : gOkS yJ1_charAt_3b067 cJ1_charAt_3b067 2 (some .char) 2 := ⟨⟨k_st_J1_charAt_3b067, k_in_J1, k_cd_J1_charAt_3b067⟩, by decide, by decide, by decide +kernel⟩
def f_J0_charAt_5068e (i0 : Nat) (j : Nat) : Int32 :=
  (f_J1_charAt_3b067 i0 j)
set_option maxRecDepth 100000 in
set_option maxHeartbeats 4000000 in
theorem c_J0_charAt_5068e (l : Launch) (hfl : l.stackTraces = false) (G : gG) (i0 : Nat) (j : Nat) (hi0 : i0 < 21) (hj : j < gLn i0) : gX l G yJ0_charAt_5068e cJ0_charAt_5068e 2 (some .char) { frames := 3, cells := 0, slots := 0, locals := 64 } [.ref (gK G i0), .int (nI j)] [] none (some (.int (f_J0_charAt_5068e i0 j))) [] 0 0 := by
  refine gxBegin (by decide +kernel) (Nat.le_of_ble_eq_true rfl) (fun p e s m args below meth c A F hr hlocks htab hN hSt hK hP hD hA hS ls hl => ?_)
  obtain ⟨hx, hb, hml, hown, hts⟩ := id F
  replace hP : va_P G.1 vwCl [] s.heap := hP
  replace hl : lv_has ls 2 [(0, .ref (gK G i0)), (1, .int (nI j))] := hl
  refine lv_aload_n hx hb dJ0_charAt_5068e_0 rfl (lv_at hl 0 rfl) ?_
  refine gxVR (As := []) (rest := []) (wr := []) (ws' := []) F (c_J0_isLatin1_aae02 l hfl G i0 (by omega)) okV_J0_isLatin1_aae02 k_ml_J0_492 rfl rfl ⟨Nat.le_of_ble_eq_true rfl, Nat.le_of_ble_eq_true rfl⟩ hN hSt hK hP hD hS hA [] [] [] (by decide) rfl rfl (by decide) (by decide) (by decide) rfl rfl (gRecvS (i := i0) hSt hS hi0) rfl rfl hl.1 (Nat.le_of_ble_eq_true rfl) dJ0_charAt_5068e_1 ⟨Nat.le_of_ble_eq_true rfl, Nat.le_of_ble_eq_true rfl⟩ (fun _ H locs hP hD hS => ?_) (fun E9 ce9 q9 H locs x9 hP hD hS h91 h92 h93 => (Option.some_ne_none _ x9.symm).elim)
  refine W.eq (congrArg (fun z => F0 m _ ls (.int z :: _)) (rfl : (f_J0_isLatin1_aae02 : Int32) = 1)) ?_
  refine lv_if_eq (tgt := 16) hx hb dJ0_charAt_5068e_4 (by decide) (fun c_2 => ?_) (fun c_2 => ?_)
  · exact absurd c_2 (by decide)
  · skip
    refine lv_aload_n hx hb dJ0_charAt_5068e_7 rfl (lv_at hl 0 rfl) ?_
    refine vk_getf (v := .ref (gVa G i0)) hx hb (hSt.2.2.1 i0 hi0).2.2.1 hS hown (hts _ k_fl_J0_9) (fun _ h9 => h9) dJ0_charAt_5068e_8 ?_
    refine lv_iload_n hx hb dJ0_charAt_5068e_11 rfl (lv_at hl 1 rfl) ?_
    refine gxS (As := [.ref (gVa G i0), .int (nI j)]) (rest := []) (wr := []) (ws' := []) F (c_J1_charAt_3b067 l hfl G i0 j hi0 hj) okS_J1_charAt_3b067 k_ml_J0_495 rfl rfl ⟨Nat.le_of_ble_eq_true rfl, Nat.le_of_ble_eq_true rfl⟩ hN hSt hK hP hD hS hA [] [] [] (by decide) rfl rfl (by decide) (by decide) (by decide) rfl rfl rfl rfl hl.1 (Nat.le_of_ble_eq_true rfl) dJ0_charAt_5068e_12 ⟨Nat.le_of_ble_eq_true rfl, Nat.le_of_ble_eq_true rfl⟩ (fun _ H locs hP hD hS => ?_) (fun E9 ce9 q9 H locs x9 hP hD hS h91 h92 h93 => (Option.some_ne_none _ x9.symm).elim)
    refine gxOf (rfl) ?_
    exact gRetT (rt := .char) F hr hlocks hK hP hD hS (gBy_n hi0 hj) rfl rfl (Nat.le_of_ble_eq_true rfl) (Nat.le_of_ble_eq_true rfl) dJ0_charAt_5068e_15
theorem okV_J0_charAt_5068e : gOkV yJ0_charAt_5068e cJ0_charAt_5068e 2 (some .char) 1 := ⟨⟨k_im_J0_charAt_5068e, k_se_J0_charAt_5068e, k_in_J0, k_cd_J0_charAt_5068e⟩, by decide, by decide, by decide +kernel⟩
set_option maxRecDepth 100000 in
set_option maxHeartbeats 4000000 in
theorem c_X3_mnemonic (l : Launch) (hfl : l.stackTraces = false) (G : gG) (k : Nat) (hk : k < 16) : gX l G yX3_mnemonic cX3_mnemonic 1 (some (.object "java/lang/String")) { frames := 0, cells := 0, slots := 0, locals := 0 } [.int (nI k)] [] none (some (.ref (gK G k))) [] 0 0 := by
  refine gxBegin (by decide +kernel) (Nat.le_of_ble_eq_true rfl) (fun p e s m args below meth c A F hr hlocks htab hN hSt hK hP hD hA hS ls hl => ?_)
  obtain ⟨hx, hb, hml, hown, hts⟩ := id F
  replace hP : va_P G.1 vwCl [] s.heap := hP
  replace hl : lv_has ls 1 [(0, .int (nI k))] := hl
  refine lv_iload_n hx hb dX3_mnemonic_0 rfl (lv_at hl 0 rfl) ?_
  rcases (Decidable.em ((nI k) = 1)) with c_1 | c_1
  · skip
    refine lv_tableIn (off := 75) (tgt := 76) hx hb dX3_mnemonic_1 (by rw [c_1]; decide) (by rw [c_1]; decide) (by rw [c_1]; decide) (by decide) ?_
    refine va_ldcS (tx := "load") (q := gK G 1) hx hb hown (hN.2.1 (RX3, 26, "load") (by decide +kernel)) dX3_mnemonic_76 ?_
    refine gxOf (rfl) ?_
    exact gRetA F hr (Or.inl ⟨_, rfl⟩) hlocks hK hP hD hS (by have e : k = 1 := (nI_eq (by omega) (by decide)).mp c_1; subst e; rfl) rfl (Nat.le_of_ble_eq_true rfl) (Nat.le_of_ble_eq_true rfl) dX3_mnemonic_78
  · skip
    rcases (Decidable.em ((nI k) = 2)) with c_2 | c_2
    · skip
      refine lv_tableIn (off := 78) (tgt := 79) hx hb dX3_mnemonic_1 (by rw [c_2]; decide) (by rw [c_2]; decide) (by rw [c_2]; decide) (by decide) ?_
      refine va_ldcS (tx := "store") (q := gK G 2) hx hb hown (hN.2.1 (RX3, 28, "store") (by decide +kernel)) dX3_mnemonic_79 ?_
      refine gxOf (rfl) ?_
      exact gRetA F hr (Or.inl ⟨_, rfl⟩) hlocks hK hP hD hS (by have e : k = 2 := (nI_eq (by omega) (by decide)).mp c_2; subst e; rfl) rfl (Nat.le_of_ble_eq_true rfl) (Nat.le_of_ble_eq_true rfl) dX3_mnemonic_81
    · skip
      rcases (Decidable.em ((nI k) = 3)) with c_3 | c_3
      · skip
        refine lv_tableIn (off := 81) (tgt := 82) hx hb dX3_mnemonic_1 (by rw [c_3]; decide) (by rw [c_3]; decide) (by rw [c_3]; decide) (by decide) ?_
        refine va_ldcS (tx := "add") (q := gK G 3) hx hb hown (hN.2.1 (RX3, 30, "add") (by decide +kernel)) dX3_mnemonic_82 ?_
        refine gxOf (rfl) ?_
        exact gRetA F hr (Or.inl ⟨_, rfl⟩) hlocks hK hP hD hS (by have e : k = 3 := (nI_eq (by omega) (by decide)).mp c_3; subst e; rfl) rfl (Nat.le_of_ble_eq_true rfl) (Nat.le_of_ble_eq_true rfl) dX3_mnemonic_84
      · skip
        rcases (Decidable.em ((nI k) = 4)) with c_4 | c_4
        · skip
          refine lv_tableIn (off := 84) (tgt := 85) hx hb dX3_mnemonic_1 (by rw [c_4]; decide) (by rw [c_4]; decide) (by rw [c_4]; decide) (by decide) ?_
          refine va_ldcS (tx := "sub") (q := gK G 4) hx hb hown (hN.2.1 (RX3, 32, "sub") (by decide +kernel)) dX3_mnemonic_85 ?_
          refine gxOf (rfl) ?_
          exact gRetA F hr (Or.inl ⟨_, rfl⟩) hlocks hK hP hD hS (by have e : k = 4 := (nI_eq (by omega) (by decide)).mp c_4; subst e; rfl) rfl (Nat.le_of_ble_eq_true rfl) (Nat.le_of_ble_eq_true rfl) dX3_mnemonic_87
        · skip
          rcases (Decidable.em ((nI k) = 5)) with c_5 | c_5
          · skip
            refine lv_tableIn (off := 87) (tgt := 88) hx hb dX3_mnemonic_1 (by rw [c_5]; decide) (by rw [c_5]; decide) (by rw [c_5]; decide) (by decide) ?_
            refine va_ldcS (tx := "and") (q := gK G 5) hx hb hown (hN.2.1 (RX3, 34, "and") (by decide +kernel)) dX3_mnemonic_88 ?_
            refine gxOf (rfl) ?_
            exact gRetA F hr (Or.inl ⟨_, rfl⟩) hlocks hK hP hD hS (by have e : k = 5 := (nI_eq (by omega) (by decide)).mp c_5; subst e; rfl) rfl (Nat.le_of_ble_eq_true rfl) (Nat.le_of_ble_eq_true rfl) dX3_mnemonic_90
          · skip
            rcases (Decidable.em ((nI k) = 6)) with c_6 | c_6
            · skip
              refine lv_tableIn (off := 90) (tgt := 91) hx hb dX3_mnemonic_1 (by rw [c_6]; decide) (by rw [c_6]; decide) (by rw [c_6]; decide) (by decide) ?_
              refine va_ldcS (tx := "xor") (q := gK G 6) hx hb hown (hN.2.1 (RX3, 36, "xor") (by decide +kernel)) dX3_mnemonic_91 ?_
              refine gxOf (rfl) ?_
              exact gRetA F hr (Or.inl ⟨_, rfl⟩) hlocks hK hP hD hS (by have e : k = 6 := (nI_eq (by omega) (by decide)).mp c_6; subst e; rfl) rfl (Nat.le_of_ble_eq_true rfl) (Nat.le_of_ble_eq_true rfl) dX3_mnemonic_93
            · skip
              rcases (Decidable.em ((nI k) = 7)) with c_7 | c_7
              · skip
                refine lv_tableIn (off := 93) (tgt := 94) hx hb dX3_mnemonic_1 (by rw [c_7]; decide) (by rw [c_7]; decide) (by rw [c_7]; decide) (by decide) ?_
                refine va_ldcS (tx := "mul") (q := gK G 7) hx hb hown (hN.2.1 (RX3, 38, "mul") (by decide +kernel)) dX3_mnemonic_94 ?_
                refine gxOf (rfl) ?_
                exact gRetA F hr (Or.inl ⟨_, rfl⟩) hlocks hK hP hD hS (by have e : k = 7 := (nI_eq (by omega) (by decide)).mp c_7; subst e; rfl) rfl (Nat.le_of_ble_eq_true rfl) (Nat.le_of_ble_eq_true rfl) dX3_mnemonic_96
              · skip
                rcases (Decidable.em ((nI k) = 8)) with c_8 | c_8
                · skip
                  refine lv_tableIn (off := 96) (tgt := 97) hx hb dX3_mnemonic_1 (by rw [c_8]; decide) (by rw [c_8]; decide) (by rw [c_8]; decide) (by decide) ?_
                  refine va_ldcS (tx := "shl") (q := gK G 8) hx hb hown (hN.2.1 (RX3, 40, "shl") (by decide +kernel)) dX3_mnemonic_97 ?_
                  refine gxOf (rfl) ?_
                  exact gRetA F hr (Or.inl ⟨_, rfl⟩) hlocks hK hP hD hS (by have e : k = 8 := (nI_eq (by omega) (by decide)).mp c_8; subst e; rfl) rfl (Nat.le_of_ble_eq_true rfl) (Nat.le_of_ble_eq_true rfl) dX3_mnemonic_99
                · skip
                  rcases (Decidable.em ((nI k) = 9)) with c_9 | c_9
                  · skip
                    refine lv_tableIn (off := 99) (tgt := 100) hx hb dX3_mnemonic_1 (by rw [c_9]; decide) (by rw [c_9]; decide) (by rw [c_9]; decide) (by decide) ?_
                    refine va_ldcS (tx := "shr") (q := gK G 9) hx hb hown (hN.2.1 (RX3, 42, "shr") (by decide +kernel)) dX3_mnemonic_100 ?_
                    refine gxOf (rfl) ?_
                    exact gRetA F hr (Or.inl ⟨_, rfl⟩) hlocks hK hP hD hS (by have e : k = 9 := (nI_eq (by omega) (by decide)).mp c_9; subst e; rfl) rfl (Nat.le_of_ble_eq_true rfl) (Nat.le_of_ble_eq_true rfl) dX3_mnemonic_102
                  · skip
                    rcases (Decidable.em ((nI k) = 10)) with c_10 | c_10
                    · skip
                      refine lv_tableIn (off := 102) (tgt := 103) hx hb dX3_mnemonic_1 (by rw [c_10]; decide) (by rw [c_10]; decide) (by rw [c_10]; decide) (by decide) ?_
                      refine va_ldcS (tx := "jneg") (q := gK G 10) hx hb hown (hN.2.1 (RX3, 44, "jneg") (by decide +kernel)) dX3_mnemonic_103 ?_
                      refine gxOf (rfl) ?_
                      exact gRetA F hr (Or.inl ⟨_, rfl⟩) hlocks hK hP hD hS (by have e : k = 10 := (nI_eq (by omega) (by decide)).mp c_10; subst e; rfl) rfl (Nat.le_of_ble_eq_true rfl) (Nat.le_of_ble_eq_true rfl) dX3_mnemonic_105
                    · skip
                      rcases (Decidable.em ((nI k) = 11)) with c_11 | c_11
                      · skip
                        refine lv_tableIn (off := 105) (tgt := 106) hx hb dX3_mnemonic_1 (by rw [c_11]; decide) (by rw [c_11]; decide) (by rw [c_11]; decide) (by decide) ?_
                        refine va_ldcS (tx := "jzero") (q := gK G 11) hx hb hown (hN.2.1 (RX3, 46, "jzero") (by decide +kernel)) dX3_mnemonic_106 ?_
                        refine gxOf (rfl) ?_
                        exact gRetA F hr (Or.inl ⟨_, rfl⟩) hlocks hK hP hD hS (by have e : k = 11 := (nI_eq (by omega) (by decide)).mp c_11; subst e; rfl) rfl (Nat.le_of_ble_eq_true rfl) (Nat.le_of_ble_eq_true rfl) dX3_mnemonic_108
                      · skip
                        rcases (Decidable.em ((nI k) = 12)) with c_12 | c_12
                        · skip
                          refine lv_tableIn (off := 108) (tgt := 109) hx hb dX3_mnemonic_1 (by rw [c_12]; decide) (by rw [c_12]; decide) (by rw [c_12]; decide) (by decide) ?_
                          refine va_ldcS (tx := "jover") (q := gK G 12) hx hb hown (hN.2.1 (RX3, 48, "jover") (by decide +kernel)) dX3_mnemonic_109 ?_
                          refine gxOf (rfl) ?_
                          exact gRetA F hr (Or.inl ⟨_, rfl⟩) hlocks hK hP hD hS (by have e : k = 12 := (nI_eq (by omega) (by decide)).mp c_12; subst e; rfl) rfl (Nat.le_of_ble_eq_true rfl) (Nat.le_of_ble_eq_true rfl) dX3_mnemonic_111
                        · skip
                          rcases (Decidable.em ((nI k) = 13)) with c_13 | c_13
                          · skip
                            refine lv_tableIn (off := 111) (tgt := 112) hx hb dX3_mnemonic_1 (by rw [c_13]; decide) (by rw [c_13]; decide) (by rw [c_13]; decide) (by decide) ?_
                            refine va_ldcS (tx := "in") (q := gK G 13) hx hb hown (hN.2.1 (RX3, 50, "in") (by decide +kernel)) dX3_mnemonic_112 ?_
                            refine gxOf (rfl) ?_
                            exact gRetA F hr (Or.inl ⟨_, rfl⟩) hlocks hK hP hD hS (by have e : k = 13 := (nI_eq (by omega) (by decide)).mp c_13; subst e; rfl) rfl (Nat.le_of_ble_eq_true rfl) (Nat.le_of_ble_eq_true rfl) dX3_mnemonic_114
                          · skip
                            rcases (Decidable.em ((nI k) = 14)) with c_14 | c_14
                            · skip
                              refine lv_tableIn (off := 114) (tgt := 115) hx hb dX3_mnemonic_1 (by rw [c_14]; decide) (by rw [c_14]; decide) (by rw [c_14]; decide) (by decide) ?_
                              refine va_ldcS (tx := "out") (q := gK G 14) hx hb hown (hN.2.1 (RX3, 52, "out") (by decide +kernel)) dX3_mnemonic_115 ?_
                              refine gxOf (rfl) ?_
                              exact gRetA F hr (Or.inl ⟨_, rfl⟩) hlocks hK hP hD hS (by have e : k = 14 := (nI_eq (by omega) (by decide)).mp c_14; subst e; rfl) rfl (Nat.le_of_ble_eq_true rfl) (Nat.le_of_ble_eq_true rfl) dX3_mnemonic_117
                            · skip
                              rcases (Decidable.em ((nI k) = 15)) with c_15 | c_15
                              · skip
                                refine lv_tableIn (off := 117) (tgt := 118) hx hb dX3_mnemonic_1 (by rw [c_15]; decide) (by rw [c_15]; decide) (by rw [c_15]; decide) (by decide) ?_
                                refine va_ldcS (tx := "count") (q := gK G 15) hx hb hown (hN.2.1 (RX3, 54, "count") (by decide +kernel)) dX3_mnemonic_118 ?_
                                refine gxOf (rfl) ?_
                                exact gRetA F hr (Or.inl ⟨_, rfl⟩) hlocks hK hP hD hS (by have e : k = 15 := (nI_eq (by omega) (by decide)).mp c_15; subst e; rfl) rfl (Nat.le_of_ble_eq_true rfl) (Nat.le_of_ble_eq_true rfl) dX3_mnemonic_120
                              · skip
                                have qc_1 : ¬ (nI k).toInt = 1 := lv_neT c_1 (by decide)
                                have qc_2 : ¬ (nI k).toInt = 2 := lv_neT c_2 (by decide)
                                have qc_3 : ¬ (nI k).toInt = 3 := lv_neT c_3 (by decide)
                                have qc_4 : ¬ (nI k).toInt = 4 := lv_neT c_4 (by decide)
                                have qc_5 : ¬ (nI k).toInt = 5 := lv_neT c_5 (by decide)
                                have qc_6 : ¬ (nI k).toInt = 6 := lv_neT c_6 (by decide)
                                have qc_7 : ¬ (nI k).toInt = 7 := lv_neT c_7 (by decide)
                                have qc_8 : ¬ (nI k).toInt = 8 := lv_neT c_8 (by decide)
                                have qc_9 : ¬ (nI k).toInt = 9 := lv_neT c_9 (by decide)
                                have qc_10 : ¬ (nI k).toInt = 10 := lv_neT c_10 (by decide)
                                have qc_11 : ¬ (nI k).toInt = 11 := lv_neT c_11 (by decide)
                                have qc_12 : ¬ (nI k).toInt = 12 := lv_neT c_12 (by decide)
                                have qc_13 : ¬ (nI k).toInt = 13 := lv_neT c_13 (by decide)
                                have qc_14 : ¬ (nI k).toInt = 14 := lv_neT c_14 (by decide)
                                have qc_15 : ¬ (nI k).toInt = 15 := lv_neT c_15 (by decide)
                                refine lv_tableOut (tgt := 121) hx hb dX3_mnemonic_1 (by omega) (by decide) ?_
                                refine va_ldcS (tx := "stop") (q := gK G 0) hx hb hown (hN.2.1 (RX3, 56, "stop") (by decide +kernel)) dX3_mnemonic_121 ?_
                                refine gxOf (rfl) ?_
                                exact gRetA F hr (Or.inl ⟨_, rfl⟩) hlocks hK hP hD hS (by have n1 : k ≠ 1 := (fun e => c_1 (by subst e; rfl)); have n2 : k ≠ 2 := (fun e => c_2 (by subst e; rfl)); have n3 : k ≠ 3 := (fun e => c_3 (by subst e; rfl)); have n4 : k ≠ 4 := (fun e => c_4 (by subst e; rfl)); have n5 : k ≠ 5 := (fun e => c_5 (by subst e; rfl)); have n6 : k ≠ 6 := (fun e => c_6 (by subst e; rfl)); have n7 : k ≠ 7 := (fun e => c_7 (by subst e; rfl)); have n8 : k ≠ 8 := (fun e => c_8 (by subst e; rfl)); have n9 : k ≠ 9 := (fun e => c_9 (by subst e; rfl)); have n10 : k ≠ 10 := (fun e => c_10 (by subst e; rfl)); have n11 : k ≠ 11 := (fun e => c_11 (by subst e; rfl)); have n12 : k ≠ 12 := (fun e => c_12 (by subst e; rfl)); have n13 : k ≠ 13 := (fun e => c_13 (by subst e; rfl)); have n14 : k ≠ 14 := (fun e => c_14 (by subst e; rfl)); have n15 : k ≠ 15 := (fun e => c_15 (by subst e; rfl)); have e : k = 0 := (by omega); subst e; rfl) rfl (Nat.le_of_ble_eq_true rfl) (Nat.le_of_ble_eq_true rfl) dX3_mnemonic_123
theorem okS_X3_mnemonic : gOkS yX3_mnemonic cX3_mnemonic 1 (some (.object "java/lang/String")) 1 := ⟨⟨k_st_X3_mnemonic, k_in_X3, k_cd_X3_mnemonic⟩, by decide, by decide, by decide +kernel⟩
def wl_X0_tokenIs (len : Int32) (ts : Int32) (text : Nat → Int32) (i0 : Nat) : Nat → Nat → Int32
  | 0, _ =>
    1
  | n + 1, k =>
    if (f_X0_byteAt len text (ts + (nI k))) = (f_J0_charAt_5068e i0 k) then
      wl_X0_tokenIs len ts text i0 n (k + 1)
    else
      0
def f_X0_tokenIs (len : Int32) (ki : Int32) (ts : Int32) (te : Int32) (text : Nat → Int32) (i0 : Nat) : Int32 :=
  if ki = 1 then
    if (te - ts) = (f_J0_length_8abf5 i0) then
      (wl_X0_tokenIs len ts text i0 (gLn i0) 0)
    else
      0
  else
    0
set_option maxRecDepth 100000 in
set_option maxHeartbeats 4000000 in
theorem c_X0_tokenIs (l : Launch) (hfl : l.stackTraces = false) (G : gG) (a0 : Nat) (a1 : Nat) (a2 : Nat) (a3 : Nat) (len : Int32) (ec : Int32) (ep : Int32) (wc : Int32) (sl : Int32) (pl : Int32) (ki : Int32) (ts : Int32) (te : Int32) (nu : Int32) (text : Nat → Int32) (i0 : Nat) (hi0 : i0 < 21) : gX l G yX0_tokenIs cX0_tokenIs 3 (some .boolean) { frames := 4, cells := 0, slots := 0, locals := 85 } [.ref a0, .ref (gK G i0)] [(a0, .inr (4, [.ref a1, .int len, .int ec, .int ep, .ref a2, .ref a3, .int wc, .int sl, .int pl, .int ki, .int ts, .int te, .int nu])), (a1, .inl (G.2.1.1, 600, .inl text))] none (some (.int (f_X0_tokenIs len ki ts te text i0))) [(a0, .inr (4, [.ref a1, .int len, .int ec, .int ep, .ref a2, .ref a3, .int wc, .int sl, .int pl, .int ki, .int ts, .int te, .int nu])), (a1, .inl (G.2.1.1, 600, .inl text))] 0 0 := by
  refine gxBegin (by decide +kernel) (Nat.le_of_ble_eq_true rfl) (fun p e s m args below meth c A F hr hlocks htab hN hSt hK hP hD hA hS ls hl => ?_)
  obtain ⟨hx, hb, hml, hown, hts⟩ := id F
  replace hP : va_P G.1 vwCl [(a0, .inr (4, [.ref a1, .int len, .int ec, .int ep, .ref a2, .ref a3, .int wc, .int sl, .int pl, .int ki, .int ts, .int te, .int nu])), (a1, .inl (G.2.1.1, 600, .inl text))] s.heap := hP
  replace hl : lv_has ls 3 [(0, .ref a0), (1, .ref (gK G i0))] := hl
  refine lv_aload_n hx hb dX0_tokenIs_0 rfl (lv_at hl 0 rfl) ?_
  refine va_get (D := G.1) (ci := 4) (v := .int ki) (C := RX0) (T := TX0) (N := 13) hx hb hts in_X0 hown hK hP 0 rfl rfl 9 (by decide) (hts _ k_fl_X0_38) (fun _ h9 => h9) rfl dX0_tokenIs_1 ?_
  refine lv_iconst (v := 1) hx hb dX0_tokenIs_4 (by decide) ?_
  refine lv_icmp_ne (tgt := 24) hx hb dX0_tokenIs_5 (by decide) (fun c_1 => ?_) (fun c_1 => ?_)
  · skip
    refine lv_iconst (v := 0) hx hb dX0_tokenIs_24 (by decide) ?_
    have ef : (f_X0_tokenIs len ki ts te text i0) = 0 := (if_neg c_1)
    refine gxOf (rfl) ?_
    exact gRetZ F hr hlocks hK hP hD hS rfl (by rw [ef]) rfl (Nat.le_of_ble_eq_true rfl) (Nat.le_of_ble_eq_true rfl) dX0_tokenIs_25
  · skip
    refine lv_aload_n hx hb dX0_tokenIs_8 rfl (lv_at hl 0 rfl) ?_
    refine va_get (D := G.1) (ci := 4) (v := .int te) (C := RX0) (T := TX0) (N := 13) hx hb hts in_X0 hown hK hP 0 rfl rfl 11 (by decide) (hts _ k_fl_X0_80) (fun _ h9 => h9) rfl dX0_tokenIs_9 ?_
    refine lv_aload_n hx hb dX0_tokenIs_12 rfl (lv_at hl 0 rfl) ?_
    refine va_get (D := G.1) (ci := 4) (v := .int ts) (C := RX0) (T := TX0) (N := 13) hx hb hts in_X0 hown hK hP 0 rfl rfl 10 (by decide) (hts _ k_fl_X0_123) (fun _ h9 => h9) rfl dX0_tokenIs_13 ?_
    refine lv_isub hx hb dX0_tokenIs_16 ?_
    refine lv_aload_n hx hb dX0_tokenIs_17 rfl (lv_at hl 1 rfl) ?_
    refine gxVR (As := []) (rest := [.int (te - ts)]) (wr := [(a0, .inr (4, [.ref a1, .int len, .int ec, .int ep, .ref a2, .ref a3, .int wc, .int sl, .int pl, .int ki, .int ts, .int te, .int nu])), (a1, .inl (G.2.1.1, 600, .inl text))]) (ws' := [(a0, .inr (4, [.ref a1, .int len, .int ec, .int ep, .ref a2, .ref a3, .int wc, .int sl, .int pl, .int ki, .int ts, .int te, .int nu])), (a1, .inl (G.2.1.1, 600, .inl text))]) F (c_J0_length_8abf5 l hfl G i0 (by omega)) okV_J0_length_8abf5 k_ml_X0_130 rfl rfl ⟨Nat.le_of_ble_eq_true rfl, Nat.le_of_ble_eq_true rfl⟩ hN hSt hK hP hD hS hA [] [0, 1] [0, 1] (by decide) rfl rfl (by decide) (by decide) (by decide) rfl rfl (gRecvS (i := i0) hSt hS hi0) rfl rfl hl.1 (Nat.le_of_ble_eq_true rfl) dX0_tokenIs_18 ⟨Nat.le_of_ble_eq_true rfl, Nat.le_of_ble_eq_true rfl⟩ (fun _ H locs hP hD hS => ?_) (fun E9 ce9 q9 H locs x9 hP hD hS h91 h92 h93 => (Option.some_ne_none _ x9.symm).elim)
    refine lv_icmp_eq (tgt := 26) hx hb dX0_tokenIs_21 (by decide) (fun c_3 => ?_) (fun c_3 => ?_)
    · skip
      refine lv_iconst (v := 0) hx hb dX0_tokenIs_26 (by decide) ?_
      refine lv_istore_n (lv' := [(2, .int 0), (0, .ref a0), (1, .ref (gK G i0))]) hx hb dX0_tokenIs_27 rfl hl (by decide) rfl (fun ls hl => ?_)
      refine gxOf (rfl) ?_
      have loop_28 : ∀ (fu k : Nat), k + fu = (gLn i0) → (f_X0_tokenIs len ki ts te text i0) = wl_X0_tokenIs len ts text i0 fu k → ∀ (H : Heap) (locs : List Loc), va_P G.1 vwCl [(a0, .inr (4, [.ref a1, .int len, .int ec, .int ep, .ref a2, .ref a3, .int wc, .int sl, .int pl, .int ki, .int ts, .int te, .int nu])), (a1, .inl (G.2.1.1, 600, .inl text))] H → va_D A [(a0, .inr (4, [.ref a1, .int len, .int ec, .int ep, .ref a2, .ref a3, .int wc, .int sl, .int pl, .int ki, .int ts, .int te, .int nu])), (a1, .inl (G.2.1.1, 600, .inl text))] → va_S A s.heap H locs → ∀ ls : Array Slot, lv_has ls 3 [(2, .int (nI k)), (0, .ref a0), (1, .ref (gK G i0))] → W p l e { frames := 4, cells := 0, slots := 0, locals := 85 } s m args below meth c H locs 0 0 (MQ below (gQ G (some (.int (f_X0_tokenIs len ki ts te text i0))) [(a0, .inr (4, [.ref a1, .int len, .int ec, .int ep, .ref a2, .ref a3, .int wc, .int sl, .int pl, .int ki, .int ts, .int te, .int nu])), (a1, .inl (G.2.1.1, 600, .inl text))] A) args s 0 0 A) (F0 m 28 ls []) := by
        intro fu
        induction fu with
        | zero =>
          intro k hk hO H locs hP hD hS ls hl
          have ek : (gLn i0) = k := by omega
          subst ek
          refine lv_iload_n hx hb dX0_tokenIs_28 rfl (lv_at hl 0 rfl) ?_
          refine lv_aload_n hx hb dX0_tokenIs_29 rfl (lv_at hl 2 rfl) ?_
          refine gxVR (As := []) (rest := [.int (nI (gLn i0))]) (wr := [(a0, .inr (4, [.ref a1, .int len, .int ec, .int ep, .ref a2, .ref a3, .int wc, .int sl, .int pl, .int ki, .int ts, .int te, .int nu])), (a1, .inl (G.2.1.1, 600, .inl text))]) (ws' := [(a0, .inr (4, [.ref a1, .int len, .int ec, .int ep, .ref a2, .ref a3, .int wc, .int sl, .int pl, .int ki, .int ts, .int te, .int nu])), (a1, .inl (G.2.1.1, 600, .inl text))]) F (c_J0_length_8abf5 l hfl G i0 (by omega)) okV_J0_length_8abf5 k_ml_X0_130 rfl rfl ⟨Nat.le_of_ble_eq_true rfl, Nat.le_of_ble_eq_true rfl⟩ hN hSt hK hP hD hS hA [] [0, 1] [0, 1] (by decide) rfl rfl (by decide) (by decide) (by decide) rfl rfl (gRecvS (i := i0) hSt hS hi0) rfl rfl hl.1 (Nat.le_of_ble_eq_true rfl) dX0_tokenIs_30 ⟨Nat.le_of_ble_eq_true rfl, Nat.le_of_ble_eq_true rfl⟩ (fun _ H locs hP hD hS => ?_) (fun E9 ce9 q9 H locs x9 hP hD hS h91 h92 h93 => (Option.some_ne_none _ x9.symm).elim)
          refine lv_icmp_ge (tgt := 62) hx hb dX0_tokenIs_33 (by decide) (fun c_5 => ?_) (fun c_5 => ?_)
          · skip
            refine lv_iconst (v := 1) hx hb dX0_tokenIs_62 (by decide) ?_
            have ef : (f_X0_tokenIs len ki ts te text i0) = 1 := hO
            exact gRetZ F hr hlocks hK hP hD hS rfl (by rw [ef]) rfl (Nat.le_of_ble_eq_true rfl) (Nat.le_of_ble_eq_true rfl) dX0_tokenIs_63
          · exact absurd (Int32.le_refl _) c_5
        | succ fu ih =>
          intro k hk hO H locs hP hD hS ls hl
          have hlt_k : k < (gLn i0) := by omega
          refine lv_iload_n hx hb dX0_tokenIs_28 rfl (lv_at hl 0 rfl) ?_
          refine lv_aload_n hx hb dX0_tokenIs_29 rfl (lv_at hl 2 rfl) ?_
          refine gxVR (As := []) (rest := [.int (nI k)]) (wr := [(a0, .inr (4, [.ref a1, .int len, .int ec, .int ep, .ref a2, .ref a3, .int wc, .int sl, .int pl, .int ki, .int ts, .int te, .int nu])), (a1, .inl (G.2.1.1, 600, .inl text))]) (ws' := [(a0, .inr (4, [.ref a1, .int len, .int ec, .int ep, .ref a2, .ref a3, .int wc, .int sl, .int pl, .int ki, .int ts, .int te, .int nu])), (a1, .inl (G.2.1.1, 600, .inl text))]) F (c_J0_length_8abf5 l hfl G i0 (by omega)) okV_J0_length_8abf5 k_ml_X0_130 rfl rfl ⟨Nat.le_of_ble_eq_true rfl, Nat.le_of_ble_eq_true rfl⟩ hN hSt hK hP hD hS hA [] [0, 1] [0, 1] (by decide) rfl rfl (by decide) (by decide) (by decide) rfl rfl (gRecvS (i := i0) hSt hS hi0) rfl rfl hl.1 (Nat.le_of_ble_eq_true rfl) dX0_tokenIs_30 ⟨Nat.le_of_ble_eq_true rfl, Nat.le_of_ble_eq_true rfl⟩ (fun _ H locs hP hD hS => ?_) (fun E9 ce9 q9 H locs x9 hP hD hS h91 h92 h93 => (Option.some_ne_none _ x9.symm).elim)
          refine lv_icmp_ge (tgt := 62) hx hb dX0_tokenIs_33 (by decide) (fun c_7 => ?_) (fun c_7 => ?_)
          · exact absurd c_7 (nI_ge hlt_k (gLn_b hi0))
          · skip
            refine lv_aload_n hx hb dX0_tokenIs_36 rfl (lv_at hl 1 rfl) ?_
            refine lv_aload_n hx hb dX0_tokenIs_37 rfl (lv_at hl 1 rfl) ?_
            refine va_get (D := G.1) (ci := 4) (v := .int ts) (C := RX0) (T := TX0) (N := 13) hx hb hts in_X0 hown hK hP 0 rfl rfl 10 (by decide) (hts _ k_fl_X0_123) (fun _ h9 => h9) rfl dX0_tokenIs_38 ?_
            refine lv_iload_n hx hb dX0_tokenIs_41 rfl (lv_at hl 0 rfl) ?_
            refine lv_iadd hx hb dX0_tokenIs_42 ?_
            refine gV (As := [.int (ts + (nI k))]) (rest := []) (wr := []) (ws' := [(a0, .inr (4, [.ref a1, .int len, .int ec, .int ep, .ref a2, .ref a3, .int wc, .int sl, .int pl, .int ki, .int ts, .int te, .int nu])), (a1, .inl (G.2.1.1, 600, .inl text))]) F (c_X0_byteAt l G a0 a1 a2 a3 len ec ep wc sl pl ki ts te nu text (ts + (nI k))) okV_X0_byteAt k_ml_X0_134 rfl rfl ⟨Nat.le_of_ble_eq_true rfl, Nat.le_of_ble_eq_true rfl⟩ hN hK hP hD hS hA [0, 1] [] [0, 1] (by decide) rfl rfl (by decide) (by decide) (by decide) rfl (q0 := 0) rfl rfl rfl rfl hl.1 (Nat.le_of_ble_eq_true rfl) dX0_tokenIs_43 ⟨Nat.le_of_ble_eq_true rfl, Nat.le_of_ble_eq_true rfl⟩ (fun H locs hP hD hS => ?_)
            refine lv_aload_n hx hb dX0_tokenIs_46 rfl (lv_at hl 2 rfl) ?_
            refine lv_iload_n hx hb dX0_tokenIs_47 rfl (lv_at hl 0 rfl) ?_
            refine gxVR (As := [.int (nI k)]) (rest := [.int (f_X0_byteAt len text (ts + (nI k)))]) (wr := [(a0, .inr (4, [.ref a1, .int len, .int ec, .int ep, .ref a2, .ref a3, .int wc, .int sl, .int pl, .int ki, .int ts, .int te, .int nu])), (a1, .inl (G.2.1.1, 600, .inl text))]) (ws' := [(a0, .inr (4, [.ref a1, .int len, .int ec, .int ep, .ref a2, .ref a3, .int wc, .int sl, .int pl, .int ki, .int ts, .int te, .int nu])), (a1, .inl (G.2.1.1, 600, .inl text))]) F (c_J0_charAt_5068e l hfl G i0 k hi0 hlt_k) okV_J0_charAt_5068e k_ml_X0_137 rfl rfl ⟨Nat.le_of_ble_eq_true rfl, Nat.le_of_ble_eq_true rfl⟩ hN hSt hK hP hD hS hA [] [0, 1] [0, 1] (by decide) rfl rfl (by decide) (by decide) (by decide) rfl rfl (gRecvS (i := i0) hSt hS hi0) rfl rfl hl.1 (Nat.le_of_ble_eq_true rfl) dX0_tokenIs_48 ⟨Nat.le_of_ble_eq_true rfl, Nat.le_of_ble_eq_true rfl⟩ (fun _ H locs hP hD hS => ?_) (fun E9 ce9 q9 H locs x9 hP hD hS h91 h92 h93 => (Option.some_ne_none _ x9.symm).elim)
            refine lv_icmp_eq (tgt := 56) hx hb dX0_tokenIs_51 (by decide) (fun c_9 => ?_) (fun c_9 => ?_)
            · skip
              refine lv_iinc (v := (nI (k + 1))) (lv' := [(2, .int (nI (k + 1))), (0, .ref a0), (1, .ref (gK G i0))]) hx hb dX0_tokenIs_56 hl (k := 0) rfl (nI_1 k) (by decide) rfl (fun ls hl => ?_)
              refine lv_goto (tgt := 28) hx hb dX0_tokenIs_59 (by decide) ?_
              exact ih (k + 1) (by omega) (hO.trans (if_pos c_9)) _ _ hP hD hS ls (lv_sub hl [0, 1, 2] rfl)
            · skip
              refine lv_iconst (v := 0) hx hb dX0_tokenIs_54 (by decide) ?_
              have ef : (f_X0_tokenIs len ki ts te text i0) = 0 := (hO.trans (if_neg c_9))
              exact gRetZ F hr hlocks hK hP hD hS rfl (by rw [ef]) rfl (Nat.le_of_ble_eq_true rfl) (Nat.le_of_ble_eq_true rfl) dX0_tokenIs_55
      exact loop_28 (gLn i0) 0 (by omega) (((if_pos c_1).trans (if_pos c_3))) _ _ hP hD hS ls (lv_sub hl [0, 1, 2] rfl)
    · skip
      refine lv_iconst (v := 0) hx hb dX0_tokenIs_24 (by decide) ?_
      have ef : (f_X0_tokenIs len ki ts te text i0) = 0 := ((if_pos c_1).trans (if_neg c_3))
      refine gxOf (rfl) ?_
      exact gRetZ F hr hlocks hK hP hD hS rfl (by rw [ef]) rfl (Nat.le_of_ble_eq_true rfl) (Nat.le_of_ble_eq_true rfl) dX0_tokenIs_25
theorem okV_X0_tokenIs : gOkV yX0_tokenIs cX0_tokenIs 3 (some .boolean) 1 := ⟨⟨k_im_X0_tokenIs, k_se_X0_tokenIs, k_in_X0, k_cd_X0_tokenIs⟩, by decide, by decide, by decide +kernel⟩
