/-! OWN BASE 6: worlds with a tail of cells that nobody looks at any more; contracts with values that are found at the end -/
theorem gMapApp {X tl wc : va_W} {is : List Nat} (h : is.map (fun i => X[i]?) = wc.map some) : is.map (fun i => (X ++ tl)[i]?) = wc.map some := by
  rw [← h]
  refine List.map_congr_left (fun i hi => ?_)
  have h1 : (is.map (fun i => X[i]?)).all (fun x => x.isSome) = true := by
    rw [h]; simp
  have h2 : X[i]?.isSome = true := by
    have := List.all_eq_true.mp h1 (X[i]?) (List.mem_map.mpr ⟨i, hi, rfl⟩)
    exact this
  obtain ⟨v, hv⟩ := Option.isSome_iff_exists.mp h2
  rw [List.getElem?_append_left (List.getElem?_eq_some_iff.mp hv).1]
theorem gAsg (vm : Vm) (c : ClassId) : vm.assignable c c = true := by
  show Vm.assignableAux vm (255 + 1) c c = true
  rw [Vm.assignableAux]
  simp only [beq_self_eq_true, Bool.true_or]
def gEQ (G : gG) {S : Type} (post : S → Prop) (rv : S → Option Value) (w1 : S → va_W) (A : Nat → Prop) : Array Value → State → Outcome → State → Prop := fun _ st oc t => (∃ u : S, post u ∧ oc = .returned (rv u) ∧ va_P G.1 vwCl (w1 u) t.heap ∧ va_K G.1 vwCl (gTy G) t ∧ va_D A (w1 u)) ∧ va_F A st t
/-- method y: from the cells ws it returns rv u and leaves the cells w1 u, for some u with post u -/
def gE (l : Launch) (G : gG) (y : MethodName) (bytes : ByteArray) (n : Nat) (ret : Option FieldType) (rm : Room) (as : List Value) (ws : va_W) {S : Type} (post : S → Prop) (rv : S → Option Value) (w1 : S → va_W) (mc ms : Nat) : Prop :=
  ∀ sz : Nat, Met l y (Cond.code y bytes n ret :: gT) rm (gPc G as ws sz) (gEQ G post rv w1 (va_A ws sz)) mc ms (va_A ws sz)
section gTail
variable {p : Program} {l : Launch} {e : Env} {R : Room} {s : State} {m : MethodId} {args : Array Value} {below : List Frame} {meth : Method} {c : Code} {H : Heap} {locs : List Loc} {cells slots : Nat} {Q : State → Prop} {G : gG}
variable {y : MethodName} {bytes cc : ByteArray} {n nL k mc ms idx pc : Nat} {ret : Option FieldType} {rm : Room} {as As rest st0 : List Value} {X tl wc wr w1 ws ws' : va_W} {rv : Option Value} {own : String} {A : Nat → Prop} {ls : Array Slot}
theorem gContQ (hr : va_Run p l e R s m args below meth c H locs cells slots mc ms (F0 m pc ls st0) rest (fun st oc t => gQ G rv w1 (va_A wc H.size) As.toArray st oc t) (va_A wc H.size)) (hP : va_P G.1 vwCl (X ++ tl) H) (hD : va_D A (X ++ tl)) (hS : va_S A s.heap H locs) (hA : ∀ q, s.heap.size ≤ q → A q)
    (isC isR perm : List Nat) (hC : isC.map (fun i => X[i]?) = wc.map some) (hRr : isR.map (fun i => X[i]?) = wr.map some) (hn : va_nd isR = true) (hdis : ∀ i ∈ isR, i ∉ isC) (hnp : va_nd perm = true) (hperm : perm.map (fun i => (wr ++ w1)[i]?) = ws'.map some)
    (kk : ∀ (H : Heap) (locs : List Loc), va_P G.1 vwCl (ws' ++ tl) H → va_D A (ws' ++ tl) → va_S A s.heap H locs → W p l e R s m args below meth c H locs (cells + mc) (slots + ms) Q (F0 m (pc + 3) ls (rv.toList ++ rest))) : W p l e R s m args below meth c H locs cells slots Q (F0 m pc ls st0) := by
  intro T hT X9
  have hF := va_free (wc := wc) hD hS hA isC (gMapApp hC)
  obtain ⟨v, st₀, t, T', L, h0, X', hL, e1, e2, ⟨⟨hv, hP1, -, hD1⟩, hF1⟩, st⟩ := hr T hT X9
  cases hv
  obtain ⟨k1, k2, k3⟩ := vx_keep h0 e1 hS (fun q _ h => hF q h) hF hL hF1
  rw [← e1] at hP1
  obtain ⟨hP2, hD2⟩ := va_joinQ (wr := wr) (w1 := w1) hP hD isC isR hC hRr hn hdis k2 hF hP1 hD1
  obtain ⟨t2, a1, b1⟩ := kk T'.heap (locs ++ L) (hP2.part perm hperm) (hD2.part perm hnp hperm) k3 T' rfl X'
  exact ⟨t2, st t2 a1, b1⟩
theorem gVt {b q0 ci : Nat} {fs : List Value} {T : u_T} {N : Nat} (F : CallFix p m c cc nL s args gT own) (hM : gM l G y bytes n ret rm (.ref b :: As) wc rv w1 mc ms) (ok : gOkV y bytes n ret k) (hL : Cond.methodLink own idx y ∈ gT)
    (hrc : rm.cells = mc) (hrs : rm.slots = ms) (hR : rm.frames + 1 ≤ R.frames ∧ 8 + (n + 11) + rm.locals ≤ R.locals)
    (hN : gEnv G s) (hK : va_K G.1 vwCl (gTy G) s) (hP : va_P G.1 vwCl (X ++ tl) H) (hD : va_D A (X ++ tl)) (hS : va_S A s.heap H locs) (hA : ∀ q, s.heap.size ≤ q → A q)
    (isC isR perm : List Nat) (hnC : va_nd isC = true) (hC : isC.map (fun i => X[i]?) = wc.map some) (hRr : isR.map (fun i => X[i]?) = wr.map some) (hn : va_nd isR = true) (hdis : ∀ i ∈ isR, i ∉ isC) (hnp : va_nd perm = true) (hperm : perm.map (fun i => (wr ++ w1)[i]?) = ws'.map some)
    (hq : X[q0]? = some (b, .inr (ci, fs))) (hci : vwCl[ci]? = some (y.cls, T, N)) (hlen : As.length = k) (hst : st0 = As.reverse ++ .ref b :: rest) (hls : ls.size = nL) (hW : (rest.map fun v => v.category).sum ≤ 8) (hdg : decode cc pc = .ok (.invokevirtual idx, 3)) (hcs : cells + mc ≤ R.cells ∧ slots + ms ≤ R.slots)
    (kk : ∀ (H : Heap) (locs : List Loc), va_P G.1 vwCl (ws' ++ tl) H → va_D A (ws' ++ tl) → va_S A s.heap H locs → W p l e R s m args below meth c H locs (cells + mc) (slots + ms) Q (F0 m (pc + 3) ls (rv.toList ++ rest))) : W p l e R s m args below meth c H locs cells slots Q (F0 m pc ls st0) := by
  obtain ⟨⟨o1, o2, o3, o4⟩, o5⟩ := ok
  have hts := F.2.2.2.2
  have hPc := hP.sub (ws' := wc) isC (gFm (gMapApp hC))
  have hDc := hD.sub (ws' := wc) isC hnC (gMapApp hC)
  have hq' : (X ++ tl)[q0]? = some (b, .inr (ci, fs)) := by rw [List.getElem?_append_left (List.getElem?_eq_some_iff.mp hq).1]; exact hq
  refine gContQ (As := .ref b :: As) (rv := rv) (va_runV (C := y.cls) (As := As) (rest := rest) F (hM H.size) (cwV k hts (gG_in (ws := wsV own idx y.cls y (Cond.code y bytes n ret :: gT)) ?_) rfl hrc hrs ⟨rfl, o5⟩ hR) ⟨gPc_blind, va_recv hK hP hci hq', fun U hU hW9 => ⟨rfl, by rw [hU], by rw [hU]; exact hPc, va_K.moved hW9.alike hK, hDc.weaken (fun _ _ _ _ => trivial), hN.warm hW9⟩⟩ rfl hlen hls hst (lv_room hW) hdg hcs) hP hD hS hA isC isR perm hC hRr hn hdis hnp hperm kk
  intro w hw
  simp only [wsV, List.mem_append, List.mem_cons, List.not_mem_nil, or_false] at hw
  rcases hw with (h | h | h | h) | h | h
  · rw [h]; exact hL
  · rw [h]; exact o1
  · rw [h]; exact o2
  · rw [h]; exact o3
  · rw [h]; exact o4
  · exact h
theorem gSt_ (F : CallFix p m c cc nL s args gT own) (hM : gM l G y bytes n ret rm As wc rv w1 mc ms) (ok : gOkS y bytes n ret k) (hL : Cond.methodLink own idx y ∈ gT)
    (hrc : rm.cells = mc) (hrs : rm.slots = ms) (hR : rm.frames + 1 ≤ R.frames ∧ 8 + (n + 11) + rm.locals ≤ R.locals)
    (hN : gEnv G s) (hK : va_K G.1 vwCl (gTy G) s) (hP : va_P G.1 vwCl (X ++ tl) H) (hD : va_D A (X ++ tl)) (hS : va_S A s.heap H locs) (hA : ∀ q, s.heap.size ≤ q → A q)
    (isC isR perm : List Nat) (hnC : va_nd isC = true) (hC : isC.map (fun i => X[i]?) = wc.map some) (hRr : isR.map (fun i => X[i]?) = wr.map some) (hn : va_nd isR = true) (hdis : ∀ i ∈ isR, i ∉ isC) (hnp : va_nd perm = true) (hperm : perm.map (fun i => (wr ++ w1)[i]?) = ws'.map some)
    (hlen : As.length = k) (hst : st0 = As.reverse ++ rest) (hls : ls.size = nL) (hW : (rest.map fun v => v.category).sum ≤ 8) (hdg : decode cc pc = .ok (.invokestatic idx, 3)) (hcs : cells + mc ≤ R.cells ∧ slots + ms ≤ R.slots)
    (kk : ∀ (H : Heap) (locs : List Loc), va_P G.1 vwCl (ws' ++ tl) H → va_D A (ws' ++ tl) → va_S A s.heap H locs → W p l e R s m args below meth c H locs (cells + mc) (slots + ms) Q (F0 m (pc + 3) ls (rv.toList ++ rest))) : W p l e R s m args below meth c H locs cells slots Q (F0 m pc ls st0) := by
  obtain ⟨⟨o1, o3, o4⟩, o5⟩ := ok
  have hts := F.2.2.2.2
  have hPc := hP.sub (ws' := wc) isC (gFm (gMapApp hC))
  have hDc := hD.sub (ws' := wc) isC hnC (gMapApp hC)
  refine gContQ (As := As) (rv := rv) (va_runS (As := As) (rest := rest) F (hM H.size) (va_cwS k hts (gG_in (ws := va_wsS own idx y (Cond.code y bytes n ret :: gT)) ?_) rfl hrc hrs o5 hR) ⟨gPc_blind, fun U hU hW9 => ⟨rfl, by rw [hU], by rw [hU]; exact hPc, va_K.moved hW9.alike hK, hDc.weaken (fun _ _ _ _ => trivial), hN.warm hW9⟩⟩ rfl hlen hls hst (lv_room hW) hdg hcs) hP hD hS hA isC isR perm hC hRr hn hdis hnp hperm kk
  intro w hw
  simp only [va_wsS, List.mem_append, List.mem_cons, List.not_mem_nil, or_false] at hw
  rcases hw with (h | h | h) | h | h
  · rw [h]; exact hL
  · rw [h]; exact o1
  · rw [h]; exact o3
  · rw [h]; exact o4
  · exact h
/-- a call of a method with found values: its cells are wx u, and behind them ex u, which nobody looks at any more -/
theorem gEContQ {S : Type} {post : S → Prop} {rf : S → Option Value} {wx ex wz : S → va_W} (hr : va_Run p l e R s m args below meth c H locs cells slots mc ms (F0 m pc ls st0) rest (fun st oc t => gEQ G post rf (fun u => wx u ++ ex u) (va_A wc H.size) As.toArray st oc t) (va_A wc H.size)) (hP : va_P G.1 vwCl (X ++ tl) H) (hD : va_D A (X ++ tl)) (hS : va_S A s.heap H locs) (hA : ∀ q, s.heap.size ≤ q → A q)
    (isC isR perm : List Nat) (hC : isC.map (fun i => X[i]?) = wc.map some) (hRr : isR.map (fun i => X[i]?) = wr.map some) (hn : va_nd isR = true) (hdis : ∀ i ∈ isR, i ∉ isC) (hnp : va_nd perm = true) (hperm : ∀ u, perm.map (fun i => (wr ++ wx u)[i]?) = (wz u).map some)
    (kk : ∀ (u : S) (H : Heap) (locs : List Loc), post u → va_P G.1 vwCl (wz u ++ (ex u ++ tl)) H → va_D A (wz u ++ (ex u ++ tl)) → va_S A s.heap H locs → W p l e R s m args below meth c H locs (cells + mc) (slots + ms) Q (F0 m (pc + 3) ls ((rf u).toList ++ rest))) : W p l e R s m args below meth c H locs cells slots Q (F0 m pc ls st0) := by
  intro T hT X9
  have hF := va_free (wc := wc) hD hS hA isC (gMapApp hC)
  obtain ⟨v, st₀, t, T', L, h0, X', hL, e1, e2, ⟨⟨u, hu, hv, hP1, -, hD1⟩, hF1⟩, st⟩ := hr T hT X9
  cases hv
  obtain ⟨k1, k2, k3⟩ := vx_keep h0 e1 hS (fun q _ h => hF q h) hF hL hF1
  rw [← e1] at hP1
  obtain ⟨hP2, hD2⟩ := va_joinQ (wr := wr) (w1 := wx u ++ ex u) hP hD isC isR hC hRr hn hdis k2 hF hP1 hD1
  have ea : (wr ++ (wx u ++ ex u)) ++ tl = (wr ++ wx u) ++ (ex u ++ tl) := by rw [← List.append_assoc, List.append_assoc]
  rw [ea] at hP2 hD2
  obtain ⟨t2, a1, b1⟩ := kk u T'.heap (locs ++ L) hu (hP2.part perm (hperm u)) (hD2.part perm hnp (hperm u)) k3 T' rfl X'
  exact ⟨t2, st t2 a1, b1⟩
theorem gEVt {S : Type} {post : S → Prop} {rf : S → Option Value} {wx ex wz : S → va_W} {b q0 ci : Nat} {fs : List Value} {T : u_T} {N : Nat} (F : CallFix p m c cc nL s args gT own) (hM : gE l G y bytes n ret rm (.ref b :: As) wc post rf (fun u => wx u ++ ex u) mc ms) (ok : gOkV y bytes n ret k) (hL : Cond.methodLink own idx y ∈ gT)
    (hrc : rm.cells = mc) (hrs : rm.slots = ms) (hR : rm.frames + 1 ≤ R.frames ∧ 8 + (n + 11) + rm.locals ≤ R.locals)
    (hN : gEnv G s) (hK : va_K G.1 vwCl (gTy G) s) (hP : va_P G.1 vwCl (X ++ tl) H) (hD : va_D A (X ++ tl)) (hS : va_S A s.heap H locs) (hA : ∀ q, s.heap.size ≤ q → A q)
    (isC isR perm : List Nat) (hnC : va_nd isC = true) (hC : isC.map (fun i => X[i]?) = wc.map some) (hRr : isR.map (fun i => X[i]?) = wr.map some) (hn : va_nd isR = true) (hdis : ∀ i ∈ isR, i ∉ isC) (hnp : va_nd perm = true) (hperm : ∀ u, perm.map (fun i => (wr ++ wx u)[i]?) = (wz u).map some)
    (hq : X[q0]? = some (b, .inr (ci, fs))) (hci : vwCl[ci]? = some (y.cls, T, N)) (hlen : As.length = k) (hst : st0 = As.reverse ++ .ref b :: rest) (hls : ls.size = nL) (hW : (rest.map fun v => v.category).sum ≤ 8) (hdg : decode cc pc = .ok (.invokevirtual idx, 3)) (hcs : cells + mc ≤ R.cells ∧ slots + ms ≤ R.slots)
    (kk : ∀ (u : S) (H : Heap) (locs : List Loc), post u → va_P G.1 vwCl (wz u ++ (ex u ++ tl)) H → va_D A (wz u ++ (ex u ++ tl)) → va_S A s.heap H locs → W p l e R s m args below meth c H locs (cells + mc) (slots + ms) Q (F0 m (pc + 3) ls ((rf u).toList ++ rest))) : W p l e R s m args below meth c H locs cells slots Q (F0 m pc ls st0) := by
  obtain ⟨⟨o1, o2, o3, o4⟩, o5⟩ := ok
  have hts := F.2.2.2.2
  have hPc := hP.sub (ws' := wc) isC (gFm (gMapApp hC))
  have hDc := hD.sub (ws' := wc) isC hnC (gMapApp hC)
  have hq' : (X ++ tl)[q0]? = some (b, .inr (ci, fs)) := by rw [List.getElem?_append_left (List.getElem?_eq_some_iff.mp hq).1]; exact hq
  refine gEContQ (As := .ref b :: As) (rf := rf) (wx := wx) (ex := ex) (va_runV (C := y.cls) (As := As) (rest := rest) F (hM H.size) (cwV k hts (gG_in (ws := wsV own idx y.cls y (Cond.code y bytes n ret :: gT)) ?_) rfl hrc hrs ⟨rfl, o5⟩ hR) ⟨gPc_blind, va_recv hK hP hci hq', fun U hU hW9 => ⟨rfl, by rw [hU], by rw [hU]; exact hPc, va_K.moved hW9.alike hK, hDc.weaken (fun _ _ _ _ => trivial), hN.warm hW9⟩⟩ rfl hlen hls hst (lv_room hW) hdg hcs) hP hD hS hA isC isR perm hC hRr hn hdis hnp hperm kk
  intro w hw
  simp only [wsV, List.mem_append, List.mem_cons, List.not_mem_nil, or_false] at hw
  rcases hw with (h | h | h | h) | h | h
  · rw [h]; exact hL
  · rw [h]; exact o1
  · rw [h]; exact o2
  · rw [h]; exact o3
  · rw [h]; exact o4
  · exact h
theorem gESt {S : Type} {post : S → Prop} {rf : S → Option Value} {wx ex wz : S → va_W} (F : CallFix p m c cc nL s args gT own) (hM : gE l G y bytes n ret rm As wc post rf (fun u => wx u ++ ex u) mc ms) (ok : gOkS y bytes n ret k) (hL : Cond.methodLink own idx y ∈ gT)
    (hrc : rm.cells = mc) (hrs : rm.slots = ms) (hR : rm.frames + 1 ≤ R.frames ∧ 8 + (n + 11) + rm.locals ≤ R.locals)
    (hN : gEnv G s) (hK : va_K G.1 vwCl (gTy G) s) (hP : va_P G.1 vwCl (X ++ tl) H) (hD : va_D A (X ++ tl)) (hS : va_S A s.heap H locs) (hA : ∀ q, s.heap.size ≤ q → A q)
    (isC isR perm : List Nat) (hnC : va_nd isC = true) (hC : isC.map (fun i => X[i]?) = wc.map some) (hRr : isR.map (fun i => X[i]?) = wr.map some) (hn : va_nd isR = true) (hdis : ∀ i ∈ isR, i ∉ isC) (hnp : va_nd perm = true) (hperm : ∀ u, perm.map (fun i => (wr ++ wx u)[i]?) = (wz u).map some)
    (hlen : As.length = k) (hst : st0 = As.reverse ++ rest) (hls : ls.size = nL) (hW : (rest.map fun v => v.category).sum ≤ 8) (hdg : decode cc pc = .ok (.invokestatic idx, 3)) (hcs : cells + mc ≤ R.cells ∧ slots + ms ≤ R.slots)
    (kk : ∀ (u : S) (H : Heap) (locs : List Loc), post u → va_P G.1 vwCl (wz u ++ (ex u ++ tl)) H → va_D A (wz u ++ (ex u ++ tl)) → va_S A s.heap H locs → W p l e R s m args below meth c H locs (cells + mc) (slots + ms) Q (F0 m (pc + 3) ls ((rf u).toList ++ rest))) : W p l e R s m args below meth c H locs cells slots Q (F0 m pc ls st0) := by
  obtain ⟨⟨o1, o3, o4⟩, o5⟩ := ok
  have hts := F.2.2.2.2
  have hPc := hP.sub (ws' := wc) isC (gFm (gMapApp hC))
  have hDc := hD.sub (ws' := wc) isC hnC (gMapApp hC)
  refine gEContQ (As := As) (rf := rf) (wx := wx) (ex := ex) (va_runS (As := As) (rest := rest) F (hM H.size) (va_cwS k hts (gG_in (ws := va_wsS own idx y (Cond.code y bytes n ret :: gT)) ?_) rfl hrc hrs o5 hR) ⟨gPc_blind, fun U hU hW9 => ⟨rfl, by rw [hU], by rw [hU]; exact hPc, va_K.moved hW9.alike hK, hDc.weaken (fun _ _ _ _ => trivial), hN.warm hW9⟩⟩ rfl hlen hls hst (lv_room hW) hdg hcs) hP hD hS hA isC isR perm hC hRr hn hdis hnp hperm kk
  intro w hw
  simp only [va_wsS, List.mem_append, List.mem_cons, List.not_mem_nil, or_false] at hw
  rcases hw with (h | h | h) | h | h
  · rw [h]; exact hL
  · rw [h]; exact o1
  · rw [h]; exact o3
  · rw [h]; exact o4
  · exact h
theorem gEBegin {S : Type} {post : S → Prop} {rf : S → Option Value} {wf : S → va_W} (hy : plainFor y = true) (hn : (lg_sl as).length ≤ n)
    (body : ∀ (p : Program) (e : Env) (s : State) (m : MethodId) (args : Array Value) (below : List Frame) (meth : Method) (c : Code) (A : Nat → Prop), CallFix p m c bytes n s args gT y.cls → meth.sig.returnType = ret → meth.locks = false → meth.name = y.name → gEnv G s → va_K G.1 vwCl (gTy G) s → va_P G.1 vwCl ws s.heap → va_D A ws → (∀ q : Nat, s.heap.size ≤ q → A q) → va_S A s.heap s.heap [] → ∀ ls, lv_has ls n (lv_args 0 as) →
      W p l e rm s m args below meth c s.heap [] 0 0 (MQ below (gEQ G post rf wf A) args s mc ms A) (F0 m 0 ls [])) : gE l G y bytes n ret rm as ws post rf wf mc ms := by
  intro sz
  refine gOfW (cc := bytes) (maxL := n) (ret := ret) hy rfl ?_
  intro p e s m args below meth c s₁ B hml hv
  obtain ⟨rfl, hsz, hP, hK, hD0, hN⟩ := hv
  have hts0 := atoms_spec (ws := Cond.code y bytes n ret :: gT) B.pre
  subst hsz
  have hD := hD0.self (sz := s.heap.size)
  have hl := lv_entry as (n := n) hn
  rw [lg_entry_eq]
  exact body p e s m _ below meth c _ ⟨B.exec, B.bytes, hml, findClass_of_methodNamed B.named, fun w h => hts0 w (List.mem_cons_of_mem _ h)⟩ B.returns B.notSynchronized (name_of_methodNamed B.named B.method).1 hN hK hP hD (fun q h => Or.inr h) va_S.rf _ hl
/-- at the end: these values -/
theorem gEOf {S : Type} {post : S → Prop} {rf : S → Option Value} {wf : S → va_W} {r1 : Option Value} {u1 : va_W} {f : JFrame} (u : S) (hu : post u) (hr : rf u = r1) (hw : wf u = u1) (kk : W p l e R s m args below meth c H locs cells slots (MQ below (gQ G r1 u1 A) args s mc ms A) f) : W p l e R s m args below meth c H locs cells slots (MQ below (gEQ G post rf wf A) args s mc ms A) f := by
  subst hr hw
  intro T hT X9
  obtain ⟨t, a1, o, b1, b2, ⟨⟨b3, b4, b5, b6⟩, b7⟩, b8⟩ := kk T hT X9
  exact ⟨t, a1, o, b1, b2, ⟨⟨u, hu, b3, b4, b5, b6⟩, b7⟩, b8⟩
/-- a reference out of an array of arrays -/
theorem gAald {a r : Nat} {ty : FieldType} (hx : p.tables.exec = Jvm.exec) (hb : c.code = cc) (hK : va_K G.1 vwCl (gTy G) s) (hP : va_P G.1 vwCl ws H) (q0 t0 : Nat) {cA : ClassId} {f : Nat → Option Nat} (ha : ws[q0]? = some (a, .inl (cA, n, .inr (.inr (.inr (.inr f)))))) (ht : (gTy G)[t0]? = some (cA, ty)) (hty : ty.isReference = true) {i : Int32} (hf : f i.toNatClampNeg = some r) (hin : vp_in i n) (hdg : decode cc pc = .ok (.aaload, 1))
    (kk : W p l e R s m args below meth c H locs cells slots Q (F0 m (pc + 1) ls (.ref r :: rest))) : W p l e R s m args below meth c H locs cells slots Q (F0 m pc ls (.int i :: .ref a :: rest)) := by
  have hlt : i.toNatClampNeg < n := Nat.not_le.mp fun q => hin (Or.inr q)
  exact W.aald (v := .ref r) (ty := ty) hx hb (hP q0 _ ha) ((hK.2 t0 _ ht).1 n (fun j => va_rf (f j))) hty (fun q => by cases q) (by show ¬ (i < 0 ∨ (arrV _ _ _).slots.size ≤ _); rw [arrV_size]; exact hin) (by show (arrV _ _ _).slots[_]? = _; rw [arrV_read _ _ hlt, hf]; rfl) rfl rfl hdg kk
/-- a row of booleans into the array of rows -/
theorem gAast {a v : Nat} (hx : p.tables.exec = Jvm.exec) (hb : c.code = cc) (hN : gEnv G s) (hK : va_K G.1 vwCl (gTy G) s) (hP : va_P G.1 vwCl ws H) (hD : va_D A ws) (hS : va_S A s.heap H locs) (q0 qk : Nat) {f : Nat → Option Nat} {n2 : Nat} {b : Nat → Int32} (ha : ws[q0]? = some (a, .inl (G.2.1.2.2.2.1, n, .inr (.inr (.inr (.inr f)))))) (hv : ws[qk]? = some (v, .inl (G.2.1.2.1, n2, .inl b))) {i : Int32} (hin : vp_in i n) (hdg : decode cc pc = .ok (.aastore, 1))
    (kk : ∀ (H1 : Heap) (locs1 : List Loc), va_P G.1 vwCl (ws.set q0 (a, .inl (G.2.1.2.2.2.1, n, .inr (.inr (.inr (.inr (va_up f i.toNatClampNeg (some v)))))))) H1 → va_D A (ws.set q0 (a, .inl (G.2.1.2.2.2.1, n, .inr (.inr (.inr (.inr (va_up f i.toNatClampNeg (some v)))))))) → va_S A s.heap H1 locs1 → W p l e R s m args below meth c H1 locs1 cells slots Q (F0 m (pc + 1) ls rest)) : W p l e R s m args below meth c H locs cells slots Q (F0 m pc ls (.ref v :: .int i :: .ref a :: rest)) := by
  have hlt : i.toNatClampNeg < n := Nat.not_le.mp fun q => hin (Or.inr q)
  have h0 : ¬ i < 0 := fun q => hin (Or.inl q)
  have g1 := hP qk _ hv
  obtain ⟨kA, k1, k2⟩ := hN.2.2.1
  obtain ⟨-, kV, hkV, -⟩ := (hK.2 1 _ rfl).1 n2 (fun j => .int (b j))
  refine W.aast hx hb (hP q0 _ ha) (fun q h => by cases h) (fun h => by cases h) k1 k2 rfl hkV ⟨h0, by show _ < (arrV _ _ _).slots.size; rw [arrV_size]; exact hlt⟩ g1 (fun q h => by cases h) hkV (gAsg _ _) rfl rfl hdg fun H1 e1 z oq => ?_
  refine kk H1 _ (hP.set hD ha ?_ oq) (hD.set ha) (hS.put z oq (hD.2 q0 _ ha))
  show H1[a]? = some (vp_cell _ _)
  rw [e1]
  rw [vp_cell_q, vp_cell_q, arrV_store]
  congr 2
  funext q
  by_cases hq : q = i.toNatClampNeg
  · subst hq
    simp [updV, va_up, va_rf]
  · simp [updV, va_up, hq]
end gTail
