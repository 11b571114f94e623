/-! OWN BASE: a contract in one form (the answer and the world behind it are told as values), its begin, its calls, its ends -/
abbrev gG : Type := va_G × (ClassId × ClassId × ClassId × ClassId × ClassId) × Nat
abbrev gTy (G : gG) : List (ClassId × FieldType) := [(G.2.1.1, .int), (G.2.1.2.1, .boolean), (G.2.1.2.2.1, .byte), (G.2.1.2.2.2.1, .array .boolean), (G.2.1.2.2.2.2, .array .int)]
/-- the links to private members of nest mates, and the String constants, which every method may use -/
def gNest : List (String × Nat × MethodName × String) := [("DelayLineStore", 11, yX2_init, "DelayLineStore"), ("DelayLineStore$Computer", 11, yX5_init, "DelayLineStore"), ("DelayLineStore$Computer", 27, yX4_init, "DelayLineStore"), ("DelayLineStore", 27, yX0_init, "DelayLineStore"), ("DelayLineStore$Store", 21, yX6_wrap, "DelayLineStore"), ("DelayLineStore$Computer", 129, yX6_waitingUntil, "DelayLineStore"), ("DelayLineStore$Climate", 38, yX6_delayOf, "DelayLineStore"), ("DelayLineStore$Computer", 145, yX6_mismatchOf, "DelayLineStore"), ("DelayLineStore$Store", 26, yX6_locationOf, "DelayLineStore"), ("DelayLineStore$Store", 51, yX6_cycleOf, "DelayLineStore"), ("DelayLineStore$Instruction", 9, yX6_locationOf, "DelayLineStore"), ("DelayLineStore$Computer", 105, yX6_cycleOf, "DelayLineStore"), ("DelayLineStore$Computer", 108, yX6_wrap, "DelayLineStore"), ("DelayLineStore$Instruction", 13, yX6_cycleOf, "DelayLineStore"), ("DelayLineStore$Store", 61, yX6_copyRow, "DelayLineStore"), ("DelayLineStore$Climate", 49, yX6_copyRow, "DelayLineStore"), ("DelayLineStore$NumberQueue", 22, yX6_copyRow, "DelayLineStore"), ("DelayLineStore$Computer", 175, yX6_copyRow, "DelayLineStore"), ("DelayLineStoreLaw", 229, yX8_init, "DelayLineStoreLaw")]
def gNestF : List (String × Nat × String × String × String × String) := [("DelayLineStoreLaw", 182, "DelayLineStoreLaw$Machine", "bits", "[[Z", "DelayLineStoreLaw"), ("DelayLineStoreLaw", 104, "DelayLineStoreLaw$Machine", "warm", "[I", "DelayLineStoreLaw"), ("DelayLineStoreLaw", 111, "DelayLineStoreLaw$Machine", "slips", "[I", "DelayLineStoreLaw"), ("DelayLineStoreLaw", 133, "DelayLineStoreLaw$Machine", "counts", "[[I", "DelayLineStoreLaw"), ("DelayLineStoreLaw", 193, "DelayLineStoreLaw$Machine", "in", "Ljava/util/ArrayList;", "DelayLineStoreLaw"), ("DelayLineStoreLaw", 88, "DelayLineStoreLaw$Machine", "out", "Ljava/util/ArrayList;", "DelayLineStoreLaw"), ("DelayLineStoreLaw", 36, "DelayLineStoreLaw$Machine", "time", "I", "DelayLineStoreLaw"), ("DelayLineStoreLaw", 44, "DelayLineStoreLaw$Machine", "acc", "I", "DelayLineStoreLaw"), ("DelayLineStoreLaw", 55, "DelayLineStoreLaw$Machine", "tank", "I", "DelayLineStoreLaw"), ("DelayLineStoreLaw", 58, "DelayLineStoreLaw$Machine", "cycle", "I", "DelayLineStoreLaw"), ("DelayLineStoreLaw", 50, "DelayLineStoreLaw$Machine", "state", "I", "DelayLineStoreLaw"), ("DelayLineStoreLaw", 64, "DelayLineStoreLaw$Machine", "done", "I", "DelayLineStoreLaw"), ("DelayLineStoreLaw", 70, "DelayLineStoreLaw$Machine", "waited", "I", "DelayLineStoreLaw"), ("DelayLineStoreLaw", 75, "DelayLineStoreLaw$Machine", "dropouts", "I", "DelayLineStoreLaw"), ("DelayLineStoreLaw", 155, "DelayLineStoreLaw$Machine", "oven", "I", "DelayLineStoreLaw"), ("DelayLineStoreLaw", 161, "DelayLineStoreLaw$Machine", "pilot", "I", "DelayLineStoreLaw"), ("DelayLineStoreLaw", 174, "DelayLineStoreLaw$Machine", "fixed", "I", "DelayLineStoreLaw"), ("DelayLineStoreLaw", 167, "DelayLineStoreLaw$Machine", "isPilot", "Z", "DelayLineStoreLaw"), ("DelayLineStoreLaw", 81, "DelayLineStoreLaw$Machine", "isOver", "Z", "DelayLineStoreLaw")]
def gAZ (G : gG) (U : State) : Prop := ∃ k : Class, U.vm.classes[G.2.1.2.2.2.1]? = some k ∧ k.kind = .array G.2.1.2.1 (.array .boolean)
theorem gAZ.moved {G : gG} {u U : State} (hvm : u.vm.Alike U.vm) (h : gAZ G u) : gAZ G U := by
  obtain ⟨k, h1, h2⟩ := h
  obtain ⟨k', hk', he⟩ := hvm.2.2 _ _ h1
  exact ⟨k', hk', by rw [he]; exact h2⟩
def gAO (G : gG) (U : State) : Prop := gAZ G U ∧ va_AOA .boolean U ∧ va_AOA .int U
theorem gAO.moved {G : gG} {u U : State} (hvm : u.vm.Alike U.vm) (h : gAO G u) : gAO G U := ⟨h.1.moved hvm, arrayOver_alikeB hvm h.2.1, arrayOver_alikeB hvm h.2.2⟩
def gEnv (G : gG) (U : State) : Prop := (∀ q ∈ gNest, va_Nw (.methodLinkNest q.1 q.2.1 q.2.2.1 q.2.2.2) U) ∧ (∀ q ∈ gNestF, va_Nw (.fieldLinkNest q.1 q.2.1 q.2.2.1 q.2.2.2.1 q.2.2.2.2.1 q.2.2.2.2.2) U) ∧ gAO G U
theorem gEnv.warm {G : gG} {s U : State} (hW : s.WarmedH U.vm) (h : gEnv G s) : gEnv G U := ⟨fun q hq => va_Nw.warmM hW (h.1 q hq), fun q hq => va_Nw.warmF hW (h.2.1 q hq), h.2.2.moved hW.alike⟩
theorem gEnv.same {G : gG} {s U : State} (hv : s.vm = U.vm) (h : gEnv G s) : gEnv G U := ⟨fun q hq => va_Nw.same rfl hv (h.1 q hq), fun q hq => va_Nw.same rfl hv (h.2.1 q hq), h.2.2.moved (by rw [hv]; exact Vm.Alike.refl _)⟩
def gPc (G : gG) (as : List Value) (ws : va_W) (sz : Nat) : Array Value → State → Prop := va_Pc as (fun U => U.heap.size = sz ∧ va_P G.1 vwCl ws U.heap ∧ va_K G.1 vwCl (gTy G) U ∧ va_D (fun _ => True) ws ∧ gEnv G U)
def gQ (G : gG) (rv : Option Value) (w1 : va_W) (A : Nat → Prop) : Array Value → State → Outcome → State → Prop := fun _ st oc t => (oc = .returned rv ∧ va_P G.1 vwCl w1 t.heap ∧ va_K G.1 vwCl (gTy G) t ∧ va_D A w1) ∧ va_F A st t
/-- method y: from the cells ws it returns rv, and leaves the cells w1 -/
def gM (l : Launch) (G : gG) (y : MethodName) (bytes : ByteArray) (n : Nat) (ret : Option FieldType) (rm : Room) (as : List Value) (ws : va_W) (rv : Option Value) (w1 : va_W) (mc ms : Nat) : Prop :=
  ∀ sz : Nat, Met l y (Cond.code y bytes n ret :: gT) rm (gPc G as ws sz) (gQ G rv w1 (va_A ws sz)) mc ms (va_A ws sz)
theorem gG_code {y : MethodName} {b : ByteArray} {n : Nat} {r : Option FieldType} (h : Cond.code y b n r ∈ gT) : GoodIn gT (Cond.code y b n r :: gT) := fun w hw => (List.mem_cons.mp hw).elim (fun e => ⟨by rw [e]; exact h, good_of_word (gT_good _ (by rw [e]; exact h))⟩) (fun q => ⟨q, good_of_word (gT_good _ q)⟩)
theorem gG_in {ws : List Cond} (h : ∀ w ∈ ws, w ∈ gT) : GoodIn gT ws := fun w hw => ⟨h w hw, good_of_word (gT_good _ (h w hw))⟩
/-- what a caller needs of a method that it calls by invokevirtual -/
def gOkV (y : MethodName) (b : ByteArray) (n : Nat) (r : Option FieldType) (k : Nat) : Prop := (Cond.instanceMethod y ∈ gT ∧ Cond.selects y.cls y y ∈ gT ∧ Cond.initialized y.cls ∈ gT ∧ Cond.code y b n r ∈ gT) ∧ (y.cls ≠ "java/lang/invoke/MethodHandle" ∧ y.cls ≠ "java/lang/invoke/VarHandle" ∧ (parseMethodDescriptor y.desc).map (fun d => d.parameters.length) = some k)
def gOkS (y : MethodName) (b : ByteArray) (n : Nat) (r : Option FieldType) (k : Nat) : Prop := (Cond.static y ∈ gT ∧ Cond.initialized y.cls ∈ gT ∧ Cond.code y b n r ∈ gT) ∧ (y.cls ≠ "java/lang/invoke/MethodHandle" ∧ y.cls ≠ "java/lang/invoke/VarHandle" ∧ (parseMethodDescriptor y.desc).map (fun d => d.parameters.length) = some k)
theorem gFm {α β : Type} {ps : List α} {f : α → Option β} {l : List β} (h : ps.map f = l.map some) : ps.filterMap f = l := by
  have h1 : ps.filterMap f = (ps.map f).filterMap id := by rw [List.filterMap_map]; rfl
  rw [h1, h]
  clear h h1
  induction l with
  | nil => rfl
  | cons a l ih => simp
theorem gPc_blind {G : gG} {as : List Value} {ws : va_W} {sz : Nat} : FrameBlind (gPc G as ws sz) := fun a U g mk q => by
  obtain ⟨q0, q1, qP, qK, qD, qN⟩ := q
  exact ⟨q0, q1, qP, va_K.moved (u := U) (U := U.calling g mk a) (Vm.Alike.refl U.vm) qK, qD, gEnv.same (s := U) (U := U.calling g mk a) rfl qN⟩
theorem gOfW {l : Launch} {y : MethodName} {ws ws' : List Cond} {rm : Room} {Pc : Array Value → State → Prop} {Qc : Array Value → State → Outcome → State → Prop} {mc ms : Nat} {free : Addr → Prop} {cc : ByteArray} {maxL : Nat} {ret : Option FieldType}
    (hy : plainFor y = true) (hw : ws = Cond.code y cc maxL ret :: ws')
    (body : ∀ p e s m args below meth c s₁, BodyLoose p l y (headSpec ws rm) cc maxL ret e s m args below meth c s₁ → c.maxLocals = maxL → Pc args s →
      W p l e (headSpec ws rm).room s m args below meth c s.heap [] 0 0 (MQ below Qc args s mc ms free) (entryFrame m args maxL)) : Met l y ws rm Pc Qc mc ms free := by
  refine MetFree.of_bodySF (code := cc) (maxLocals := maxL) (ret := ret) hy ?_ ?_
  · intro args s m h hn
    obtain ⟨meth, c, h1, h2, h3, h4, h5, h6, -, -⟩ := Cond.code_spec hn (atoms_spec (ws := ws) h _ (by rw [hw]; exact List.mem_cons_self))
    exact ⟨meth, c, h1, h2, h3, h4, h5, h6⟩
  · intro p e s m args below meth c s₁ B hml hP _
    have hh0 : s₁.heap = s.heap := by rw [B.state]; rfl
    obtain ⟨t, a1, o, b1, b2, b3⟩ := body p e s m args below meth c s₁ B hml hP s₁ hh0 (Stand.of_body B)
    exact ⟨t, o, a1, b1, b2, ⟨b3.1, b3.2⟩⟩
section gBase
variable {p : Program} {l : Launch} {e : Env} {R : Room} {s : State} {m : MethodId} {args : Array Value} {below : List Frame} {meth : Method} {c : Code} {H : Heap} {locs : List Loc} {cells slots : Nat} {Q : State → Prop} {G : gG}
variable {y : MethodName} {bytes cc : ByteArray} {n nL k mc ms idx pc : Nat} {ret : Option FieldType} {rm : Room} {as As rest st0 : List Value} {ws wc wr w1 ws' : va_W} {rv : Option Value} {own : String} {A : Nat → Prop} {ls : Array Slot}
theorem gBegin (hy : plainFor y = true) (hn : (lg_sl as).length ≤ n)
    (body : ∀ (p : Program) (e : Env) (s : State) (m : MethodId) (args : Array Value) (below : List Frame) (meth : Method) (c : Code) (A : Nat → Prop), CallFix p m c bytes n s args gT y.cls → meth.sig.returnType = ret → meth.locks = false → meth.name = y.name → gEnv G s → va_K G.1 vwCl (gTy G) s → va_P G.1 vwCl ws s.heap → va_D A ws → (∀ q : Nat, s.heap.size ≤ q → A q) → va_S A s.heap s.heap [] → ∀ ls, lv_has ls n (lv_args 0 as) →
      W p l e rm s m args below meth c s.heap [] 0 0 (MQ below (gQ G rv w1 A) args s mc ms A) (F0 m 0 ls [])) : gM l G y bytes n ret rm as ws rv w1 mc ms := by
  intro sz
  refine gOfW (cc := bytes) (maxL := n) (ret := ret) hy rfl ?_
  intro p e s m args below meth c s₁ B hml hv
  obtain ⟨rfl, hsz, hP, hK, hD0, hN⟩ := hv
  have hts0 := atoms_spec (ws := Cond.code y bytes n ret :: gT) B.pre
  subst hsz
  have hD := hD0.self (sz := s.heap.size)
  have hl := lv_entry as (n := n) hn
  rw [lg_entry_eq]
  exact body p e s m _ below meth c _ ⟨B.exec, B.bytes, hml, findClass_of_methodNamed B.named, fun w h => hts0 w (List.mem_cons_of_mem _ h)⟩ B.returns B.notSynchronized (name_of_methodNamed B.named B.method).1 hN hK hP hD (fun q h => Or.inr h) va_S.rf _ hl
theorem gCont (hr : va_Run p l e R s m args below meth c H locs cells slots mc ms (F0 m pc ls st0) rest (fun st oc t => gQ G rv w1 (va_A wc H.size) As.toArray st oc t) (va_A wc H.size)) (hP : va_P G.1 vwCl ws H) (hD : va_D A ws) (hS : va_S A s.heap H locs) (hA : ∀ q, s.heap.size ≤ q → A q)
    (isC isR perm : List Nat) (hC : isC.map (fun i => ws[i]?) = wc.map some) (hRr : isR.map (fun i => ws[i]?) = wr.map some) (hn : va_nd isR = true) (hdis : ∀ i ∈ isR, i ∉ isC) (hnp : va_nd perm = true) (hperm : perm.map (fun i => (wr ++ w1)[i]?) = ws'.map some)
    (kk : ∀ (H : Heap) (locs : List Loc), va_P G.1 vwCl ws' H → va_D A ws' → va_S A s.heap H locs → W p l e R s m args below meth c H locs (cells + mc) (slots + ms) Q (F0 m (pc + 3) ls (rv.toList ++ rest))) : W p l e R s m args below meth c H locs cells slots Q (F0 m pc ls st0) := by
  intro T hT X
  have hF := va_free (wc := wc) hD hS hA isC hC
  obtain ⟨v, st₀, t, T', L, h0, X', hL, e1, e2, ⟨⟨hv, hP1, -, hD1⟩, hF1⟩, st⟩ := hr T hT X
  cases hv
  obtain ⟨k1, k2, k3⟩ := vx_keep h0 e1 hS (fun q _ h => hF q h) hF hL hF1
  rw [← e1] at hP1
  obtain ⟨hP2, hD2⟩ := va_join (wr := wr) (w1 := w1) hP hD isC isR hC hRr hn hdis k2 hF hP1 hD1
  obtain ⟨t2, a1, b1⟩ := kk T'.heap (locs ++ L) (hP2.sub perm (gFm hperm)) (hD2.sub perm hnp hperm) k3 T' rfl X'
  exact ⟨t2, st t2 a1, b1⟩
theorem gV {b q0 ci : Nat} {fs : List Value} {T : u_T} {N : Nat} (F : CallFix p m c cc nL s args gT own) (hM : gM l G y bytes n ret rm (.ref b :: As) wc rv w1 mc ms) (ok : gOkV y bytes n ret k) (hL : Cond.methodLink own idx y ∈ gT)
    (hrc : rm.cells = mc) (hrs : rm.slots = ms) (hR : rm.frames + 1 ≤ R.frames ∧ 8 + (n + 11) + rm.locals ≤ R.locals)
    (hN : gEnv G s) (hK : va_K G.1 vwCl (gTy G) s) (hP : va_P G.1 vwCl ws H) (hD : va_D A ws) (hS : va_S A s.heap H locs) (hA : ∀ q, s.heap.size ≤ q → A q)
    (isC isR perm : List Nat) (hnC : va_nd isC = true) (hC : isC.map (fun i => ws[i]?) = wc.map some) (hRr : isR.map (fun i => ws[i]?) = wr.map some) (hn : va_nd isR = true) (hdis : ∀ i ∈ isR, i ∉ isC) (hnp : va_nd perm = true) (hperm : perm.map (fun i => (wr ++ w1)[i]?) = ws'.map some)
    (hq : ws[q0]? = some (b, .inr (ci, fs))) (hci : vwCl[ci]? = some (y.cls, T, N)) (hlen : As.length = k) (hst : st0 = As.reverse ++ .ref b :: rest) (hls : ls.size = nL) (hW : (rest.map fun v => v.category).sum ≤ 8) (hdg : decode cc pc = .ok (.invokevirtual idx, 3)) (hcs : cells + mc ≤ R.cells ∧ slots + ms ≤ R.slots)
    (kk : ∀ (H : Heap) (locs : List Loc), va_P G.1 vwCl ws' H → va_D A ws' → va_S A s.heap H locs → W p l e R s m args below meth c H locs (cells + mc) (slots + ms) Q (F0 m (pc + 3) ls (rv.toList ++ rest))) : W p l e R s m args below meth c H locs cells slots Q (F0 m pc ls st0) := by
  obtain ⟨⟨o1, o2, o3, o4⟩, o5⟩ := ok
  have hts := F.2.2.2.2
  have hPc := hP.sub (ws' := wc) isC (gFm hC)
  have hDc := hD.sub (ws' := wc) isC hnC hC
  refine gCont (As := .ref b :: As) (rv := rv) (va_runV (C := y.cls) (As := As) (rest := rest) F (hM H.size) (cwV k hts (gG_in (ws := wsV own idx y.cls y (Cond.code y bytes n ret :: gT)) ?_) rfl hrc hrs ⟨rfl, o5⟩ hR) ⟨gPc_blind, va_recv hK hP hci hq, fun U hU hW9 => ⟨rfl, by rw [hU], by rw [hU]; exact hPc, va_K.moved hW9.alike hK, hDc.weaken (fun _ _ _ _ => trivial), hN.warm hW9⟩⟩ rfl hlen hls hst (lv_room hW) hdg hcs) hP hD hS hA isC isR perm hC hRr hn hdis hnp hperm kk
  intro w hw
  simp only [wsV, List.mem_append, List.mem_cons, List.not_mem_nil, or_false] at hw
  rcases hw with (h | h | h | h) | h | h
  · rw [h]; exact hL
  · rw [h]; exact o1
  · rw [h]; exact o2
  · rw [h]; exact o3
  · rw [h]; exact o4
  · exact h
theorem gS (F : CallFix p m c cc nL s args gT own) (hM : gM l G y bytes n ret rm As wc rv w1 mc ms) (ok : gOkS y bytes n ret k) (hL : Cond.methodLink own idx y ∈ gT)
    (hrc : rm.cells = mc) (hrs : rm.slots = ms) (hR : rm.frames + 1 ≤ R.frames ∧ 8 + (n + 11) + rm.locals ≤ R.locals)
    (hN : gEnv G s) (hK : va_K G.1 vwCl (gTy G) s) (hP : va_P G.1 vwCl ws H) (hD : va_D A ws) (hS : va_S A s.heap H locs) (hA : ∀ q, s.heap.size ≤ q → A q)
    (isC isR perm : List Nat) (hnC : va_nd isC = true) (hC : isC.map (fun i => ws[i]?) = wc.map some) (hRr : isR.map (fun i => ws[i]?) = wr.map some) (hn : va_nd isR = true) (hdis : ∀ i ∈ isR, i ∉ isC) (hnp : va_nd perm = true) (hperm : perm.map (fun i => (wr ++ w1)[i]?) = ws'.map some)
    (hlen : As.length = k) (hst : st0 = As.reverse ++ rest) (hls : ls.size = nL) (hW : (rest.map fun v => v.category).sum ≤ 8) (hdg : decode cc pc = .ok (.invokestatic idx, 3)) (hcs : cells + mc ≤ R.cells ∧ slots + ms ≤ R.slots)
    (kk : ∀ (H : Heap) (locs : List Loc), va_P G.1 vwCl ws' H → va_D A ws' → va_S A s.heap H locs → W p l e R s m args below meth c H locs (cells + mc) (slots + ms) Q (F0 m (pc + 3) ls (rv.toList ++ rest))) : W p l e R s m args below meth c H locs cells slots Q (F0 m pc ls st0) := by
  obtain ⟨⟨o1, o3, o4⟩, o5⟩ := ok
  have hts := F.2.2.2.2
  have hPc := hP.sub (ws' := wc) isC (gFm hC)
  have hDc := hD.sub (ws' := wc) isC hnC hC
  refine gCont (As := As) (rv := rv) (va_runS (As := As) (rest := rest) F (hM H.size) (va_cwS k hts (gG_in (ws := va_wsS own idx y (Cond.code y bytes n ret :: gT)) ?_) rfl hrc hrs o5 hR) ⟨gPc_blind, fun U hU hW9 => ⟨rfl, by rw [hU], by rw [hU]; exact hPc, va_K.moved hW9.alike hK, hDc.weaken (fun _ _ _ _ => trivial), hN.warm hW9⟩⟩ rfl hlen hls hst (lv_room hW) hdg hcs) hP hD hS hA isC isR perm hC hRr hn hdis hnp hperm kk
  intro w hw
  simp only [va_wsS, List.mem_append, List.mem_cons, List.not_mem_nil, or_false] at hw
  rcases hw with (h | h | h) | h | h
  · rw [h]; exact hL
  · rw [h]; exact o1
  · rw [h]; exact o3
  · rw [h]; exact o4
  · exact h
theorem gSN {host : String} (F : CallFix p m c cc nL s args gT own) (hM : gM l G y bytes n ret rm As wc rv w1 mc ms) (ok : gOkS y bytes n ret k) (hL : (own, idx, y, host) ∈ gNest)
    (hrc : rm.cells = mc) (hrs : rm.slots = ms) (hR : rm.frames + 1 ≤ R.frames ∧ 8 + (n + 11) + rm.locals ≤ R.locals)
    (hN : gEnv G s) (hK : va_K G.1 vwCl (gTy G) s) (hP : va_P G.1 vwCl ws H) (hD : va_D A ws) (hS : va_S A s.heap H locs) (hA : ∀ q, s.heap.size ≤ q → A q)
    (isC isR perm : List Nat) (hnC : va_nd isC = true) (hC : isC.map (fun i => ws[i]?) = wc.map some) (hRr : isR.map (fun i => ws[i]?) = wr.map some) (hn : va_nd isR = true) (hdis : ∀ i ∈ isR, i ∉ isC) (hnp : va_nd perm = true) (hperm : perm.map (fun i => (wr ++ w1)[i]?) = ws'.map some)
    (hlen : As.length = k) (hst : st0 = As.reverse ++ rest) (hls : ls.size = nL) (hW : (rest.map fun v => v.category).sum ≤ 8) (hdg : decode cc pc = .ok (.invokestatic idx, 3)) (hcs : cells + mc ≤ R.cells ∧ slots + ms ≤ R.slots)
    (kk : ∀ (H : Heap) (locs : List Loc), va_P G.1 vwCl ws' H → va_D A ws' → va_S A s.heap H locs → W p l e R s m args below meth c H locs (cells + mc) (slots + ms) Q (F0 m (pc + 3) ls (rv.toList ++ rest))) : W p l e R s m args below meth c H locs cells slots Q (F0 m pc ls st0) := by
  obtain ⟨⟨o1, o3, o4⟩, o5⟩ := ok
  have hts := F.2.2.2.2
  have hPc := hP.sub (ws' := wc) isC (gFm hC)
  have hDc := hD.sub (ws' := wc) isC hnC hC
  exact gCont (As := As) (rv := rv) (va_runSN (As := As) (rest := rest) (host := host) F (hM H.size) ⟨va_cnB k hts (gG_code o4) rfl hrc hrs (hN.1 _ hL) (hts _ o3) o5 hR, hts _ o1, trivial⟩ ⟨gPc_blind, fun U hU hW9 => ⟨rfl, by rw [hU], by rw [hU]; exact hPc, va_K.moved hW9.alike hK, hDc.weaken (fun _ _ _ _ => trivial), hN.warm hW9⟩⟩ rfl hlen hls hst (lv_room hW) hdg hcs) hP hD hS hA isC isR perm hC hRr hn hdis hnp hperm kk
theorem gRetI {v : Int32} {w0 : va_W} (F : CallFix p m c cc nL s args gT own) (hr : meth.sig.returnType = some .int) (hlocks : meth.locks = false) (hK : va_K G.1 vwCl (gTy G) s) (hP : va_P G.1 vwCl w0 H) (hD : va_D A w0) (hS : va_S A s.heap H locs) (hv : some (.int v) = rv) (hw : w0 = w1) (hc : cells ≤ mc) (hs : slots ≤ ms) (hdg : decode cc pc = .ok (.ireturn, 1)) :
    W p l e R s m args below meth c H locs cells slots (MQ below (gQ G rv w1 A) args s mc ms A) (F0 m pc ls [.int v]) := by
  subst hv hw
  exact W.widen hc hs (W.iret F.1 F.2.1 hr (fun t ht hW => ⟨⟨rfl, by rw [ht]; exact hP, va_K.moved hW.alike hK, hD⟩, hS.F ht⟩) hS.2.2 hdg hlocks)
theorem gRetZ {v : Int32} {w0 : va_W} (F : CallFix p m c cc nL s args gT own) (hr : meth.sig.returnType = some .boolean) (hlocks : meth.locks = false) (hK : va_K G.1 vwCl (gTy G) s) (hP : va_P G.1 vwCl w0 H) (hD : va_D A w0) (hS : va_S A s.heap H locs) (hn : narrow .boolean (.int v) = .int v) (hv : some (.int v) = rv) (hw : w0 = w1) (hc : cells ≤ mc) (hs : slots ≤ ms) (hdg : decode cc pc = .ok (.ireturn, 1)) :
    W p l e R s m args below meth c H locs cells slots (MQ below (gQ G rv w1 A) args s mc ms A) (F0 m pc ls [.int v]) := by
  subst hv hw
  exact W.widen hc hs (W.zret F.1 F.2.1 hr hn (fun t ht hW => ⟨⟨rfl, by rw [ht]; exact hP, va_K.moved hW.alike hK, hD⟩, hS.F ht⟩) hS.2.2 hdg hlocks)
theorem gRetL {v : Int64} {w0 : va_W} (F : CallFix p m c cc nL s args gT own) (hr : meth.sig.returnType = some .long) (hlocks : meth.locks = false) (hK : va_K G.1 vwCl (gTy G) s) (hP : va_P G.1 vwCl w0 H) (hD : va_D A w0) (hS : va_S A s.heap H locs) (hv : some (.long v) = rv) (hw : w0 = w1) (hc : cells ≤ mc) (hs : slots ≤ ms) (hdg : decode cc pc = .ok (.lreturn, 1)) :
    W p l e R s m args below meth c H locs cells slots (MQ below (gQ G rv w1 A) args s mc ms A) (F0 m pc ls [.long v]) := by
  subst hv hw
  exact W.widen hc hs (W.lret F.1 F.2.1 hr (fun t ht hW => ⟨⟨rfl, by rw [ht]; exact hP, va_K.moved hW.alike hK, hD⟩, hS.F ht⟩) hS.2.2 hdg hlocks)
theorem gRetV {w0 : va_W} (F : CallFix p m c cc nL s args gT own) (hr : meth.sig.returnType = none) (hlocks : meth.locks = false) (hK : va_K G.1 vwCl (gTy G) s) (hP : va_P G.1 vwCl w0 H) (hD : va_D A w0) (hS : va_S A s.heap H locs) (hv : none = rv) (hw : w0 = w1) (hc : cells ≤ mc) (hs : slots ≤ ms) (hdg : decode cc pc = .ok (.return_, 1)) :
    W p l e R s m args below meth c H locs cells slots (MQ below (gQ G rv w1 A) args s mc ms A) (F0 m pc ls []) := by
  subst hv hw
  exact W.widen hc hs (W.vret F.1 F.2.1 hr (fun t ht hW => ⟨⟨rfl, by rw [ht]; exact hP, va_K.moved hW.alike hK, hD⟩, hS.F ht⟩) hS.2.2 hdg hlocks)
theorem gRetA {a : Nat} {rt : FieldType} {w0 : va_W} (F : CallFix p m c cc nL s args gT own) (hr : meth.sig.returnType = some rt) (hrt : (∃ n, rt = .object n) ∨ ∃ t, rt = .array t) (hlocks : meth.locks = false) (hK : va_K G.1 vwCl (gTy G) s) (hP : va_P G.1 vwCl w0 H) (hD : va_D A w0) (hS : va_S A s.heap H locs) (hv : some (.ref a) = rv) (hw : w0 = w1) (hc : cells ≤ mc) (hs : slots ≤ ms) (hdg : decode cc pc = .ok (.areturn, 1)) :
    W p l e R s m args below meth c H locs cells slots (MQ below (gQ G rv w1 A) args s mc ms A) (F0 m pc ls [.ref a]) := by
  subst hv hw
  exact W.widen hc hs (W.aret F.1 F.2.1 hr hrt (Or.inr ⟨a, rfl⟩) (fun t ht hW => ⟨⟨rfl, by rw [ht]; exact hP, va_K.moved hW.alike hK, hD⟩, hS.F ht⟩) hS.2.2 hdg hlocks)
end gBase
