/-! OWN BASE 6: the law's own helpers: they call a method that may throw, and answer a code -/
def gNcs : List (String × String) := [("java/lang/IllegalArgumentException", "java/lang/IndexOutOfBoundsException"), ("java/lang/IllegalStateException", "java/lang/IllegalArgumentException"), ("java/lang/IllegalStateException", "java/lang/IndexOutOfBoundsException")]
def gNc (U : State) : Prop := ∀ q ∈ gNcs, va_Nc q.1 q.2 U
def gPh (G : gG) (as : List Value) (ws : va_W) (sz : Nat) : Array Value → State → Prop := va_Pc as (fun U => U.heap.size = sz ∧ va_P G.1 vwCl ws U.heap ∧ va_K G.1 vwCl (gTy G) U ∧ va_D (fun _ => True) ws ∧ gEnv G U ∧ gSt G (va_A ws sz) U ∧ gNc U)
/-- a helper: it answers rv and leaves the cells w1, and nothing is thrown -/
def gH (l : Launch) (G : gG) (y : MethodName) (bytes : ByteArray) (n : Nat) (hh : List (Nat × Nat × Nat × Nat)) (rm : Room) (as : List Value) (ws : va_W) (rv : Int32) (w1 : Nat → va_W) (mc ms : Nat) : Prop :=
  ∀ sz : Nat, vx_Met l y (Cond.codeWith y bytes n (some .int) hh :: gT) rm (gPh G as ws sz) (gYQ G (fun _ => some (.int rv)) w1 (va_A ws sz)) (fun _ _ _ => False) mc ms (va_A ws sz)
def gOkH (y : MethodName) (b : ByteArray) (n : Nat) (hh : List (Nat × Nat × Nat × Nat)) (k : Nat) : Prop := (Cond.static y ∈ gT ∧ Cond.initialized y.cls ∈ gT ∧ Cond.codeWith y b n (some .int) hh ∈ gT) ∧ (y.cls ≠ "java/lang/invoke/MethodHandle" ∧ y.cls ≠ "java/lang/invoke/VarHandle" ∧ (parseMethodDescriptor y.desc).map (fun d => d.parameters.length) = some k)
theorem gNc.moved {u U : State} (hvm : u.vm.Alike U.vm) (h : gNc u) : gNc U := fun q hq => va_Nc.moved hvm (h q hq)
theorem gPh_blind {G : gG} {as : List Value} {ws : va_W} {sz : Nat} : FrameBlind (gPh G as ws sz) := fun a U g mk q => by
  obtain ⟨q0, q1, qP, qK, qD, qN, qS, qC⟩ := q
  exact ⟨q0, q1, qP, va_K.moved (u := U) (U := U.calling g mk a) (Vm.Alike.refl U.vm) qK, qD, gEnv.same (s := U) (U := U.calling g mk a) rfl qN, ⟨vx_Zq.moved (u := U) (U := U.calling g mk a) (Vm.Alike.refl U.vm) qS.1, vx_Zq.moved (u := U) (U := U.calling g mk a) (Vm.Alike.refl U.vm) qS.2.1, gZ.moved (u := U) (U := U.calling g mk a) (Vm.Alike.refl U.vm) qS.2.2⟩, gNc.moved (u := U) (U := U.calling g mk a) (Vm.Alike.refl U.vm) qC⟩
theorem gG_codeW {y : MethodName} {b : ByteArray} {n : Nat} {r : Option FieldType} {hh : List (Nat × Nat × Nat × Nat)} (h : Cond.codeWith y b n r hh ∈ gT) : GoodIn gT (Cond.codeWith y b n r hh :: gT) := fun w hw => (List.mem_cons.mp hw).elim (fun e => ⟨by rw [e]; exact h, good_of_word (gT_good _ (by rw [e]; exact h))⟩) (fun q => ⟨q, good_of_word (gT_good _ q)⟩)
section ghRows
variable {p : Program} {l : Launch} {e : Env} {R : Room} {s : State} {m : MethodId} {args : Array Value} {below : List Frame} {meth : Method} {c : Code} {H : Heap} {locs : List Loc} {cells slots : Nat} {Q : State → Prop} {G : gG}
variable {y : MethodName} {bytes cc : ByteArray} {n nL k mc ms idx pc : Nat} {ret : Option FieldType} {rm : Room} {as As rest st0 : List Value} {ws wc wr wx wsx : va_W} {w1 ws' : Nat → va_W} {rvi : Int32} {rv : Nat → Option Value} {own : String} {A : Nat → Prop} {ls : Array Slot} {th : Option String} {hh : List (Nat × Nat × Nat × Nat)}
theorem ghBegin (hy : plainName y.cls = true) (hn : (lg_sl as).length ≤ n)
    (body : ∀ (p : Program) (e : Env) (s : State) (m : MethodId) (args : Array Value) (below : List Frame) (meth : Method) (c : Code) (A : Nat → Prop), CallFix p m c bytes n s args gT y.cls → meth.sig.returnType = some .int → meth.locks = false → c.exceptionTable.toList = tableOf hh → gEnv G s → gSt G A s → gNc s → va_K G.1 vwCl (gTy G) s → va_P G.1 vwCl ws s.heap → va_D A ws → (∀ q : Nat, s.heap.size ≤ q → A q) → va_S A s.heap s.heap [] → ∀ ls, lv_has ls n (lv_args 0 as) →
      W p l e rm s m args below meth c s.heap [] 0 0 (MQ below (gYQ G (fun _ => some (.int rvi)) w1 A) args s mc ms A) (F0 m 0 ls [])) : gH l G y bytes n hh rm as ws rvi w1 mc ms := by
  intro sz
  refine vx_ofWH (cc := bytes) (maxL := n) (ret := some .int) (hh := hh) hy rfl ?_
  intro p e s m args below meth c s₁ B hml hv
  obtain ⟨rfl, hsz, hP, hK, hD0, hN, hSt, hNc⟩ := hv
  have hts0 := atoms_spec (ws := Cond.codeWith y bytes n (some .int) hh :: gT) B.pre
  have htab := vx_table (x := y) B (hts0 _ List.mem_cons_self)
  subst hsz
  have hD := hD0.self (sz := s.heap.size)
  have hl := lv_entry as (n := n) hn
  rw [lg_entry_eq]
  exact vx_ret (body p e s m _ below meth c _ ⟨B.exec, B.bytes, hml, findClass_of_methodNamed B.named, fun w h => hts0 w (List.mem_cons_of_mem _ h)⟩ B.returns B.notSynchronized htab hN hSt hNc hK hP hD (fun q h => Or.inr h) va_S.rf _ hl)
/-- a callee that may throw, with one found address, and cells of its own where it throws -/
theorem gzCont (hr : vx_Run p l e R s m args below meth c H locs cells slots mc ms (F0 m pc ls st0) rest (fun st oc t => th = none ∧ gYQ G rv w1 (va_A wc H.size) As.toArray st oc t) (gXc G th wx (va_A wc H.size)) (va_A wc H.size)) (hP : va_P G.1 vwCl ws H) (hD : va_D A ws) (hS : va_S A s.heap H locs) (hA : ∀ q, s.heap.size ≤ q → A q)
    (isC isR perm : List Nat) (hC : isC.map (fun i => ws[i]?) = wc.map some) (hRr : isR.map (fun i => ws[i]?) = wr.map some) (hn : va_nd isR = true) (hdis : ∀ i ∈ isR, i ∉ isC) (hnp : va_nd perm = true) (hperm : ∀ v : Nat, perm.map (fun i => (wr ++ w1 v)[i]?) = (ws' v).map some) (hperm0 : perm.map (fun i => (wr ++ wx)[i]?) = wsx.map some)
    (kk : th = none → ∀ (v : Nat) (H : Heap) (locs : List Loc), va_P G.1 vwCl (ws' v) H → va_D A (ws' v) → va_S A s.heap H locs → W p l e R s m args below meth c H locs (cells + mc) (slots + ms) Q (F0 m (pc + 3) ls ((rv v).toList ++ rest)))
    (kx : ∀ (E : String) (ce : Cell) (q : Addr) (H : Heap) (locs : List Loc), th = some E → va_P G.1 vwCl wsx H → va_D A wsx → va_S A s.heap H locs → H[q]? = some ce → ce.vm = .none → s.vm.findClass E = some ce.cls → vx_W p l e R s m args below meth c H locs (cells + mc) (slots + ms) Q (F0 m pc ls rest) q) : W p l e R s m args below meth c H locs cells slots Q (F0 m pc ls st0) := by
  intro T hT X
  have hF := va_free (wc := wc) hD hS hA isC hC
  rcases hr T hT X with ⟨v, st₀, t, T', L, h0, X', hL, e1, e2, ⟨hth, v9, ⟨hv, hP1, -, hD1⟩, hF1⟩, st⟩ | ⟨q, st₀, t, T', L, E, ce, h0, X', hL, e1, e2, ⟨hth, ⟨hP1, -, hD1⟩, hF1⟩, hce, hcv, hcl, st⟩
  · cases hv
    obtain ⟨k1, k2, k3⟩ := vx_keep h0 e1 hS (fun q _ h => hF q h) hF hL hF1
    rw [← e1] at hP1
    obtain ⟨hP2, hD2⟩ := va_join (wr := wr) (w1 := w1 v9) hP hD isC isR hC hRr hn hdis k2 hF hP1 hD1
    obtain ⟨t2, a1, b1⟩ := kk hth v9 T'.heap (locs ++ L) (hP2.sub perm (gFm (hperm v9))) (hD2.sub perm hnp (hperm v9)) k3 T' rfl X'
    exact ⟨t2, st t2 a1, b1⟩
  · obtain ⟨k1, k2, k3⟩ := vx_keep h0 e1 hS (fun q _ h => hF q h) hF hL hF1
    rw [← e1] at hP1
    obtain ⟨hP2, hD2⟩ := va_join (wr := wr) (w1 := wx) hP hD isC isR hC hRr hn hdis k2 hF hP1 hD1
    obtain ⟨t2, a1, b1⟩ := kx E ce q T'.heap (locs ++ L) hth (hP2.sub perm (gFm hperm0)) (hD2.sub perm hnp hperm0) k3 (by rw [e1]; exact hce) hcv hcl T' rfl X'
    exact ⟨t2, st.trans a1, b1⟩
theorem gRunMono {g : JFrame} {Qa Qb : State → Outcome → State → Prop} {XC : String → State → State → Prop} {free : Addr → Prop} (h : ∀ st oc t, Qa st oc t → Qb st oc t) (hr : vx_Run p l e R s m args below meth c H locs cells slots mc ms g rest Qa XC free) : vx_Run p l e R s m args below meth c H locs cells slots mc ms g rest Qb XC free := by
  intro T hT X
  rcases hr T hT X with ⟨v, st₀, t, T', L, h0, X', hL, e1, e2, hq, st⟩ | ⟨q, st₀, t, T', L, E, ce, h0, X', hL, e1, e2, hq, hce, hcv, hcl, st⟩
  · exact Or.inl ⟨v, st₀, t, T', L, h0, X', hL, e1, e2, h _ _ _ hq, st⟩
  · exact Or.inr ⟨q, st₀, t, T', L, E, ce, h0, X', hL, e1, e2, hq, hce, hcv, hcl, st⟩
/-- a call by invokevirtual of a method that may throw, the contract told as what vx_runV takes -/
theorem gzV {b q0 ci : Nat} {fs : List Value} {T : u_T} {N : Nat} {Qc : Array Value → State → Outcome → State → Prop} (F : CallFix p m c cc nL s args gT own) (hM : vx_Met l y (Cond.code y bytes n ret :: gT) rm (gPx G (.ref b :: As) wc H.size) Qc (gXc G th wx (va_A wc H.size)) mc ms (va_A wc H.size)) (hQ : ∀ a st oc t, Qc a st oc t → th = none ∧ gYQ G rv w1 (va_A wc H.size) a st oc t) (ok : gOkV y bytes n ret k) (hL : Cond.methodLink own idx y ∈ gT)
    (hrc : rm.cells = mc) (hrs : rm.slots = ms) (hR : rm.frames + 1 ≤ R.frames ∧ 8 + (n + 11) + rm.locals ≤ R.locals)
    (hN : gEnv G s) (hSt : gSt G A s) (hK : va_K G.1 vwCl (gTy G) s) (hP : va_P G.1 vwCl ws H) (hD : va_D A ws) (hS : va_S A s.heap H locs) (hA : ∀ q, s.heap.size ≤ q → A q)
    (isC isR perm : List Nat) (hnC : va_nd isC = true) (hC : isC.map (fun i => ws[i]?) = wc.map some) (hRr : isR.map (fun i => ws[i]?) = wr.map some) (hn : va_nd isR = true) (hdis : ∀ i ∈ isR, i ∉ isC) (hnp : va_nd perm = true) (hperm : ∀ v : Nat, perm.map (fun i => (wr ++ w1 v)[i]?) = (ws' v).map some) (hperm0 : perm.map (fun i => (wr ++ wx)[i]?) = wsx.map some)
    (hq : ws[q0]? = some (b, .inr (ci, fs))) (hci : vwCl[ci]? = some (y.cls, T, N)) (hlen : As.length = k) (hst : st0 = As.reverse ++ .ref b :: rest) (hls : ls.size = nL) (hW : (rest.map fun v => v.category).sum ≤ 8) (hdg : decode cc pc = .ok (.invokevirtual idx, 3)) (hcs : cells + mc ≤ R.cells ∧ slots + ms ≤ R.slots)
    (kk : th = none → ∀ (v : Nat) (H : Heap) (locs : List Loc), va_P G.1 vwCl (ws' v) H → va_D A (ws' v) → va_S A s.heap H locs → W p l e R s m args below meth c H locs (cells + mc) (slots + ms) Q (F0 m (pc + 3) ls ((rv v).toList ++ rest)))
    (kx : ∀ (E : String) (ce : Cell) (q : Addr) (H : Heap) (locs : List Loc), th = some E → va_P G.1 vwCl wsx H → va_D A wsx → va_S A s.heap H locs → H[q]? = some ce → ce.vm = .none → s.vm.findClass E = some ce.cls → vx_W p l e R s m args below meth c H locs (cells + mc) (slots + ms) Q (F0 m pc ls rest) q) : W p l e R s m args below meth c H locs cells slots Q (F0 m pc ls st0) := by
  obtain ⟨⟨o1, o2, o3, o4⟩, o5⟩ := ok
  have hts := F.2.2.2.2
  have hPc := hP.sub (ws' := wc) isC (gFm hC)
  have hDc := hD.sub (ws' := wc) isC hnC hC
  refine gzCont (As := .ref b :: As) (gRunMono (fun st oc t h => hQ _ st oc t h) (vx_runV (C := y.cls) (As := As) (rest := rest) F hM (cwV k hts (gG_in (ws := wsV own idx y.cls y (Cond.code y bytes n ret :: gT)) ?_) rfl hrc hrs ⟨rfl, o5⟩ hR) ⟨gPx_blind, va_recv hK hP hci hq, fun U hU hW9 => ⟨rfl, by rw [hU], by rw [hU]; exact hPc, va_K.moved hW9.alike hK, hDc.weaken (fun _ _ _ _ => trivial), hN.warm hW9, hSt.at hD hS hA isC hC hU hW9.alike⟩⟩ rfl hlen hls hst (lv_room hW) hdg hcs)) hP hD hS hA isC isR perm hC hRr hn hdis hnp hperm hperm0 kk kx
  intro w hw
  simp only [wsV, List.mem_append, List.mem_cons, List.not_mem_nil, or_false] at hw
  rcases hw with (h | h | h | h) | h | h
  · rw [h]; exact hL
  · rw [h]; exact o1
  · rw [h]; exact o2
  · rw [h]; exact o3
  · rw [h]; exact o4
  · exact h
/-- the law's call of a helper -/
theorem ghS (F : CallFix p m c cc nL s args gT own) (hM : gH l G y bytes n hh rm As wc rvi w1 mc ms) (ok : gOkH y bytes n hh k) (hL : Cond.methodLink own idx y ∈ gT)
    (hrc : rm.cells = mc) (hrs : rm.slots = ms) (hR : rm.frames + 1 ≤ R.frames ∧ 8 + (n + 11) + rm.locals ≤ R.locals)
    (hN : gEnv G s) (hSt : gSt G A s) (hNc : gNc s) (hK : va_K G.1 vwCl (gTy G) s) (hP : va_P G.1 vwCl ws H) (hD : va_D A ws) (hS : va_S A s.heap H locs) (hA : ∀ q, s.heap.size ≤ q → A q)
    (isC isR perm : List Nat) (hnC : va_nd isC = true) (hC : isC.map (fun i => ws[i]?) = wc.map some) (hRr : isR.map (fun i => ws[i]?) = wr.map some) (hn : va_nd isR = true) (hdis : ∀ i ∈ isR, i ∉ isC) (hnp : va_nd perm = true) (hperm : ∀ v : Nat, perm.map (fun i => (wr ++ w1 v)[i]?) = (ws' v).map some)
    (hlen : As.length = k) (hst : st0 = As.reverse ++ rest) (hls : ls.size = nL) (hW : (rest.map fun v => v.category).sum ≤ 8) (hdg : decode cc pc = .ok (.invokestatic idx, 3)) (hcs : cells + mc ≤ R.cells ∧ slots + ms ≤ R.slots)
    (kk : ∀ (v : Nat) (H : Heap) (locs : List Loc), va_P G.1 vwCl (ws' v) H → va_D A (ws' v) → va_S A s.heap H locs → W p l e R s m args below meth c H locs (cells + mc) (slots + ms) Q (F0 m (pc + 3) ls (.int rvi :: rest))) : W p l e R s m args below meth c H locs cells slots Q (F0 m pc ls st0) := by
  obtain ⟨⟨o1, o3, o4⟩, o5⟩ := ok
  have hts := F.2.2.2.2
  have hPc := hP.sub (ws' := wc) isC (gFm hC)
  have hDc := hD.sub (ws' := wc) isC hnC hC
  have hr := vx_runSX (e := e) (below := below) (meth := meth) (locs := locs) (cells := cells) (slots := slots) (As := As) (rest := rest) (hh := hh) F (hM H.size) (vx_cwSW k hts (gG_in (ws := va_wsS own idx y (Cond.codeWith y bytes n (some .int) hh :: gT)) (by
    intro w hw
    simp only [va_wsS, List.mem_append, List.mem_cons, List.not_mem_nil, or_false] at hw
    rcases hw with (h | h | h) | h | h
    · rw [h]; exact hL
    · rw [h]; exact o1
    · rw [h]; exact o3
    · rw [h]; exact o4
    · exact h)) rfl hrc hrs o5 hR) ⟨gPh_blind, fun U hU hW9 => ⟨rfl, by rw [hU], by rw [hU]; exact hPc, va_K.moved hW9.alike hK, hDc.weaken (fun _ _ _ _ => trivial), hN.warm hW9, hSt.at hD hS hA isC hC hU hW9.alike, gNc.moved hW9.alike hNc⟩⟩ (g := F0 m pc ls st0) rfl hlen hls hst (lv_room hW) hdg hcs
  intro T hT X
  have hF := va_free (wc := wc) hD hS hA isC hC
  rcases hr T hT X with ⟨v, st₀, t, T', L, h0, X', hL, e1, e2, ⟨v9, ⟨hv, hP1, -, hD1⟩, hF1⟩, st⟩ | ⟨q, st₀, t, T', L, E, ce, h0, X', hL, e1, e2, hq, -⟩
  · cases hv
    obtain ⟨k1, k2, k3⟩ := vx_keep h0 e1 hS (fun q _ h => hF q h) hF hL hF1
    rw [← e1] at hP1
    obtain ⟨hP2, hD2⟩ := va_join (wr := wr) (w1 := w1 v9) hP hD isC isR hC hRr hn hdis k2 hF hP1 hD1
    obtain ⟨t2, a1, b1⟩ := kk v9 T'.heap (locs ++ L) (hP2.sub perm (gFm (hperm v9))) (hD2.sub perm hnp (hperm v9)) k3 T' rfl X'
    exact ⟨t2, st t2 a1, b1⟩
  · exact hq.elim
end ghRows
theorem gzX {G : gG} {w1 : va_W} {th : Option String} {rv : Option Value} {A : Nat → Prop} : ∀ a st oc t, gQx G th rv w1 A a st oc t → th = none ∧ gYQ G (fun _ => rv) (fun _ => w1) A a st oc t := fun _ _ _ _ h => ⟨h.1, 0, h.2⟩
def oF (th : Option String) (r : Int64) (o : Nat → Int64) : Nat → Int64 := if th = none then vp_updL o (Int32.toNatClampNeg 0) r else o
theorem oF_n {th : Option String} {r : Int64} {o : Nat → Int64} (h : th = none) : oF th r o = vp_updL o (Int32.toNatClampNeg 0) r := if_pos h
theorem oF_x {th : Option String} {r : Int64} {o : Nat → Int64} {E : String} (h : th = some E) : oF th r o = o := if_neg (by rw [h]; exact Option.some_ne_none _)
theorem k1_0 {th : Option String} (h : th = none) : (0 : Int32) = k1 th := by rw [h]; rfl
theorem k1_1 {th : Option String} {E : String} (h : th = some E) : (1 : Int32) = k1 th := by rw [h]; rfl
theorem k2_0 {c : String} {th : Option String} (h : th = none) : (0 : Int32) = k2 c th := by rw [h]; rfl
theorem k2_e1 {c : String} {th : Option String} (h : th = some c) : (1 : Int32) = k2 c th := by rw [h, k2_1]
theorem k2_e2 {c d : String} {th : Option String} (h : th = some d) (hd : ¬ d = c) : (2 : Int32) = k2 c th := by rw [h, k2_2 hd]
abbrev kodA (th : Option String) : Int32 := k1 th
abbrev kodB (c : String) (th : Option String) : Int32 := k2 c th
