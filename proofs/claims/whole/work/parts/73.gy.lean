/-! OWN BASE 4: a contract whose answer and cells hold one address that is found at the call (a new cell); calls of a super class's methods on its heir -/
def gYQ (G : gG) (rv : Nat → Option Value) (w1 : Nat → va_W) (A : Nat → Prop) : Array Value → State → Outcome → State → Prop := fun a st oc t => ∃ v : Nat, gQ G (rv v) (w1 v) A a st oc t
def gY (l : Launch) (G : gG) (y : MethodName) (bytes : ByteArray) (n : Nat) (ret : Option FieldType) (rm : Room) (as : List Value) (ws : va_W) (rv : Nat → Option Value) (w1 : Nat → va_W) (mc ms : Nat) : Prop :=
  ∀ sz : Nat, Met l y (Cond.code y bytes n ret :: gT) rm (gPx G as ws sz) (gYQ G rv w1 (va_A ws sz)) mc ms (va_A ws sz)
/-- the same of a method that may throw, and then leaves its cells as they were -/
def gYx (l : Launch) (G : gG) (y : MethodName) (bytes : ByteArray) (n : Nat) (ret : Option FieldType) (rm : Room) (as : List Value) (ws : va_W) (th : Option String) (rv : Nat → Option Value) (w1 : Nat → va_W) (mc ms : Nat) : Prop :=
  ∀ sz : Nat, vx_Met l y (Cond.code y bytes n ret :: gT) rm (gPx G as ws sz) (fun a st oc t => th = none ∧ gYQ G rv w1 (va_A ws sz) a st oc t) (gXc G th ws (va_A ws sz)) mc ms (va_A ws sz)
/-- what a caller needs of a method of a super class that its heir C doesn't override -/
def gOkU (C : String) (y : MethodName) (b : ByteArray) (n : Nat) (r : Option FieldType) (k : Nat) : Prop := (Cond.sameMethod y.cls y.cls y.name y.desc ∈ gT ∧ Cond.selects C y y ∈ gT ∧ Cond.instanceMethod y ∈ gT ∧ Cond.initialized y.cls ∈ gT ∧ Cond.code y b n r ∈ gT) ∧ (y.cls ≠ "java/lang/invoke/MethodHandle" ∧ y.cls ≠ "java/lang/invoke/VarHandle" ∧ (parseMethodDescriptor y.desc).map (fun d => d.parameters.length) = some k)
def gOkP (y : MethodName) (b : ByteArray) (n : Nat) (r : Option FieldType) (k : Nat) : Prop := (Cond.sameMethod y.cls y.cls y.name y.desc ∈ gT ∧ y ∈ gPriv ∧ Cond.instanceMethod y ∈ gT ∧ Cond.initialized y.cls ∈ gT ∧ Cond.code y b n r ∈ gT) ∧ (y.cls ≠ "java/lang/invoke/MethodHandle" ∧ y.cls ≠ "java/lang/invoke/VarHandle" ∧ (parseMethodDescriptor y.desc).map (fun d => d.parameters.length) = some k)
def gOkSU (own : String) (y : MethodName) (b : ByteArray) (n : Nat) (r : Option FieldType) (k : Nat) : Prop := (Cond.sameMethod y.cls y.cls y.name y.desc ∈ gT ∧ Cond.superclass own y.cls ∈ gT ∧ Cond.instanceMethod y ∈ gT ∧ Cond.initialized y.cls ∈ gT ∧ Cond.code y b n r ∈ gT) ∧ (y.name ≠ "<init>" ∧ (parseMethodDescriptor y.desc).map (fun d => d.parameters.length) = some k)
section gyCalls
variable {p : Program} {l : Launch} {e : Env} {R : Room} {s : State} {m : MethodId} {args : Array Value} {below : List Frame} {meth : Method} {c : Code}
theorem nb_callVP {T : State} {locs : List Loc} {cells slots : Nat} (X : Stand p l e R s m args below meth c T locs cells slots) (hexec : p.tables.exec = Jvm.exec) {own : String} {index : Nat} {y : MethodName} {bytes : ByteArray} {maxL : Nat} {ret : Option FieldType}
    (hown : s.vm.findClass own = some m.cls) (hlink : (Cond.methodLink own index y).before args s = true) (hsame : (Cond.sameMethod y.cls y.cls y.name y.desc).before args s = true)
    (howner : y.cls ≠ "java/lang/invoke/MethodHandle" ∧ y.cls ≠ "java/lang/invoke/VarHandle")
    (hpriv : (Cond.privateMethod y).before args s = true) (hinst : (Cond.instanceMethod y).before args s = true) (hcode : (Cond.code y bytes maxL ret).before args s = true)
    {W : Nat} {Pre : Pt → Array Value → Prop} {Post : Pt → Array Value → Option Value → Pt → Prop} (hK : Back l R p e below s args y 3 W Pre Post)
    {b : Addr} {cellB : Cell} (hcell : T.heap[b]? = some cellB) (hobj : cellB.vm.isStatics = false)
    {g : JFrame} (hg : g.method = m) (hsize : g.locals.size = c.maxLocals) {argsL rest : List Value} (hlen : ∀ sig, parseMethodDescriptor y.desc = some sig → argsL.length = sig.parameters.length)
    (hstack : g.stack = argsL.reverse ++ .ref b :: rest) (hW : 2 * g.monitorRoom + (rest.map fun v => v.category).sum ≤ W) (hdg : decode c.code g.pc = .ok (.invokevirtual index, 3))
    (hpre : ∀ vm₁, s.WarmedH vm₁ → Pre ⟨T.setVm vm₁, locs, cells, slots⟩ (Value.ref b :: argsL).toArray) :
    ∃ (v : Option Value) (vm₁ : Vm) (B : Pt), s.WarmedH vm₁ ∧ Stand p l e R s m args below meth c B.U B.locs B.cells B.slots ∧ Post ⟨T.setVm vm₁, locs, cells, slots⟩ (Value.ref b :: argsL).toArray v B ∧
      ∀ target, Steps p.tables e below (B.U.setTop { g with pc := g.pc + 3, stack := v.toList ++ rest }) target → Steps p.tables e below (T.setTop g) target := by
  obtain ⟨r0, r, hn, hrm, hstR, hsigR⟩ := va_Decl.of hinst hcode
  obtain ⟨cn, ck, r1, hcn, hck, hni, hf, hn1⟩ := Cond.sameMethod_found hsame
  obtain ⟨mk, methM, hnamed, hmethM, -, habM⟩ := Cond.instanceMethod_spec hinst
  cases hn.symm.trans hnamed
  cases hrm.symm.trans hmethM
  have hp : r.isPrivate = true := Cond.privateMethod_at hpriv r0 r hn hrm
  have hselP : selectMethod e.platform s.vm cellB.cls r0 = .method r0 := selectMethod_private hrm hp
  have hc0 : r0.cls = cn := Option.some.inj ((findClass_of_methodNamed hn).symm.trans hcn)
  subst hc0
  obtain ⟨vm₁, X₁, hstep₁⟩ := X.invokevirtualUp hexec hown hlink hsame howner hn hrm hstR (a := b) (cell := cellB) hcell
    (fun z h => by rw [h] at hobj; cases hobj) hselP hrm habM hck hni (g := g) hg (argsL := argsL) (rest := rest) (hlen _ hsigR) hstack hdg
  obtain ⟨v, B, X', hpost, hsteps⟩ := hK m meth c ⟨T.setVm vm₁, locs, cells, slots⟩ { g with stack := rest } (.invokevirtual index) r0 (Value.ref b :: argsL).toArray X₁ hg hsize hdg hW (X₁.named hn) (hpre vm₁ X₁.warmed)
  exact ⟨v, vm₁, B, X₁.warmed, X', hpost, fun target h => hstep₁ _ fun acts => by rw [doInvoke_state]; exact hsteps.trans h⟩
variable {H : Heap} {locs : List Loc} {cells slots : Nat}
theorem nb_runVP {y : MethodName} {bytes cc : ByteArray} {maxL nL mc ms n index : Nat} {ret : Option FieldType} {ws : List Cond} {rm : Room} {Pc : Array Value → State → Prop} {Qc : Array Value → State → Outcome → State → Prop} {free : Addr → Prop} {Ts : List Cond} {own C : String} {b : Addr} {As rest : List Value} {g : JFrame}
    (S : CallFix p m c cc nL s args Ts own) (hM : Met l y ws rm Pc Qc mc ms free) (cw : CallB R s args own index y bytes maxL ret ws rm mc ms n) (hsame : (Cond.sameMethod y.cls y.cls y.name y.desc).before args s = true) (hpriv : (Cond.privateMethod y).before args s = true) (hinst : (Cond.instanceMethod y).before args s = true) (hp : PreV s H C b Pc As)
    (hg : g.method = m) (hn : As.length = n) (hsize : g.locals.size = nL) (hstack : g.stack = As.reverse ++ .ref b :: rest) (hW : 2 * g.monitorRoom + (rest.map fun v => v.category).sum ≤ 8) (hdg : decode cc g.pc = .ok (.invokevirtual index, 3)) (hf : cells + mc ≤ R.cells ∧ slots + ms ≤ R.slots) :
    va_Run p l e R s m args below meth c H locs cells slots mc ms g rest (Qc (Value.ref b :: As).toArray) (free) := by
  have hK : Back l R p e below s args y 3 8 (PreOf R mc ms Pc) (PostOf Qc mc ms free) := callBack cw hM hp.1
  obtain ⟨-, -, -, -, -, -, hcode, hini, hy, hlen, hl⟩ := cw
  obtain ⟨hx, hb, hml, ho, -⟩ := S
  obtain ⟨-, ⟨cellB, hcB, hoB, hclB⟩, hPc⟩ := hp
  intro T hT X
  obtain ⟨v, vm₁, ⟨U', l2, c2, s2⟩, hW₁, X', ⟨g', mk, t, L, e1, e2, hq, h1, hL, h2, h3⟩, st⟩ := nb_callVP X hx (bytes := bytes) (maxL := maxL) (ret := ret) ho hl hsame hy hpriv hinst hcode hK (by rw [hT]; exact hcB) hoB hg (hsize.trans hml.symm) (argsL := As) (rest := rest) (fun sig h => hn.trans (hlen sig h)) hstack hW (by rw [hb]; exact hdg)
    (fun vm₁ hW₁ => ⟨hf.1, hf.2, hPc (T.setVm vm₁) hT hW₁⟩)
  dsimp only [Pt.U, Pt.locs, Pt.cells, Pt.slots] at X' e1 e2 h1 h2 h3 st
  subst h1; subst h2; subst h3
  exact ⟨v, (T.setVm vm₁).calling g' mk (Value.ref b :: As).toArray, t, U', L, hT, X', hL, e1, e2, hq, st⟩
end gyCalls
section gyRows
variable {p : Program} {l : Launch} {e : Env} {R : Room} {s : State} {m : MethodId} {args : Array Value} {below : List Frame} {meth : Method} {c : Code} {H : Heap} {locs : List Loc} {cells slots : Nat} {Q : State → Prop} {G : gG}
variable {y : MethodName} {bytes cc : ByteArray} {n nL k mc ms idx pc : Nat} {ret : Option FieldType} {rm : Room} {as As rest st0 : List Value} {ws wc wr : va_W} {w1 ws' : Nat → va_W} {rv : Nat → Option Value} {own : String} {A : Nat → Prop} {ls : Array Slot} {th : Option String}
theorem gyBegin (hy : plainFor y = true) (hn : (lg_sl as).length ≤ n)
    (body : ∀ (p : Program) (e : Env) (s : State) (m : MethodId) (args : Array Value) (below : List Frame) (meth : Method) (c : Code) (A : Nat → Prop), CallFix p m c bytes n s args gT y.cls → meth.sig.returnType = ret → meth.locks = false → meth.name = y.name → gEnv G s → gSt G A s → va_K G.1 vwCl (gTy G) s → va_P G.1 vwCl ws s.heap → va_D A ws → (∀ q : Nat, s.heap.size ≤ q → A q) → va_S A s.heap s.heap [] → ∀ ls, lv_has ls n (lv_args 0 as) →
      W p l e rm s m args below meth c s.heap [] 0 0 (MQ below (gYQ G rv w1 A) args s mc ms A) (F0 m 0 ls [])) : gY l G y bytes n ret rm as ws rv w1 mc ms := by
  intro sz
  refine gOfW (cc := bytes) (maxL := n) (ret := ret) hy rfl ?_
  intro p e s m args below meth c s₁ B hml hv
  obtain ⟨rfl, hsz, hP, hK, hD0, hN, hSt⟩ := hv
  have hts0 := atoms_spec (ws := Cond.code y bytes n ret :: gT) B.pre
  subst hsz
  have hD := hD0.self (sz := s.heap.size)
  have hl := lv_entry as (n := n) hn
  rw [lg_entry_eq]
  exact body p e s m _ below meth c _ ⟨B.exec, B.bytes, hml, findClass_of_methodNamed B.named, fun w h => hts0 w (List.mem_cons_of_mem _ h)⟩ B.returns B.notSynchronized (name_of_methodNamed B.named B.method).1 hN hSt hK hP hD (fun q h => Or.inr h) va_S.rf _ hl
theorem gyxBegin (hy : plainName y.cls = true) (hn : (lg_sl as).length ≤ n)
    (body : ∀ (p : Program) (e : Env) (s : State) (m : MethodId) (args : Array Value) (below : List Frame) (meth : Method) (c : Code) (A : Nat → Prop), CallFix p m c bytes n s args gT y.cls → meth.sig.returnType = ret → meth.locks = false → (∀ x ∈ c.exceptionTable.toList, False) → gEnv G s → gSt G A s → va_K G.1 vwCl (gTy G) s → va_P G.1 vwCl ws s.heap → va_D A ws → (∀ q : Nat, s.heap.size ≤ q → A q) → va_S A s.heap s.heap [] → ∀ ls, lv_has ls n (lv_args 0 as) →
      W p l e rm s m args below meth c s.heap [] 0 0 (vx_MQ below (fun a st oc t => th = none ∧ gYQ G rv w1 A a st oc t) (gXc G th ws A) args s mc ms A) (F0 m 0 ls [])) : gYx l G y bytes n ret rm as ws th rv w1 mc ms := by
  intro sz
  refine vx_ofW (cc := bytes) (maxL := n) (ret := ret) hy rfl ?_
  intro p e s m args below meth c s₁ B hml htab hv
  obtain ⟨rfl, hsz, hP, hK, hD0, hN, hSt⟩ := hv
  have hts0 := atoms_spec (ws := Cond.code y bytes n ret :: gT) B.pre
  subst hsz
  have hD := hD0.self (sz := s.heap.size)
  have hl := lv_entry as (n := n) hn
  rw [lg_entry_eq]
  exact body p e s m _ below meth c _ ⟨B.exec, B.bytes, hml, findClass_of_methodNamed B.named, fun w h => hts0 w (List.mem_cons_of_mem _ h)⟩ B.returns B.notSynchronized htab hN hSt hK hP hD (fun q h => Or.inr h) va_S.rf _ hl
/-- the end: the address is told -/
theorem gyOf {g : JFrame} {r1 : Option Value} {u1 : va_W} (v : Nat) (hr : rv v = r1) (hw : w1 v = u1) (kk : W p l e R s m args below meth c H locs cells slots (MQ below (gQ G r1 u1 A) args s mc ms A) g) : W p l e R s m args below meth c H locs cells slots (MQ below (gYQ G rv w1 A) args s mc ms A) g := by
  subst hr hw
  intro T hT X
  obtain ⟨t, a1, o, b1, b2, b3, b4⟩ := kk T hT X
  exact ⟨t, a1, o, b1, b2, ⟨v, b3⟩, b4⟩
theorem gyxOf {g : JFrame} {Qc : Array Value → State → Outcome → State → Prop} {XC : String → State → State → Prop} (hth : th = none) (kk : W p l e R s m args below meth c H locs cells slots (MQ below Qc args s mc ms A) g) : W p l e R s m args below meth c H locs cells slots (vx_MQ below (fun a st oc t => th = none ∧ Qc a st oc t) XC args s mc ms A) g := by
  intro T hT X
  obtain ⟨t, a1, o, b1, b2, b3, b4⟩ := kk T hT X
  exact ⟨t, a1, o, b1, b2, Or.inl ⟨⟨hth, b3⟩, b4⟩⟩
theorem gyxOut {E : String} {ce : Cell} {q : Addr} {Qc : Array Value → State → Outcome → State → Prop} (hlocks : meth.locks = false) (htab : ∀ x ∈ c.exceptionTable.toList, False) (hK : va_K G.1 vwCl (gTy G) s) (hP : va_P G.1 vwCl ws H) (hD : va_D A ws) (hS : va_S A s.heap H locs) (hcell : H[q]? = some ce) (hv : ce.vm = .none) (hcl : s.vm.findClass E = some ce.cls) (hth : th = some E) (hc : cells ≤ mc) (hs : slots ≤ ms) :
    vx_W p l e R s m args below meth c H locs cells slots (vx_MQ below Qc (gXc G th ws A) args s mc ms A) (F0 m pc ls rest) q :=
  vx_out (fun x hx => (htab x hx).elim) hlocks hcell hv hcl (fun t ht hvm => ⟨hth, ⟨by rw [ht]; exact hP, va_K.moved hvm hK, hD⟩, hS.F ht⟩) hS.2.2 hc hs
theorem gyCont (hr : va_Run p l e R s m args below meth c H locs cells slots mc ms (F0 m pc ls st0) rest (fun st oc t => gYQ G rv w1 (va_A wc H.size) As.toArray st oc t) (va_A wc H.size)) (hP : va_P G.1 vwCl ws H) (hD : va_D A ws) (hS : va_S A s.heap H locs) (hA : ∀ q, s.heap.size ≤ q → A q)
    (isC isR perm : List Nat) (hC : isC.map (fun i => ws[i]?) = wc.map some) (hRr : isR.map (fun i => ws[i]?) = wr.map some) (hn : va_nd isR = true) (hdis : ∀ i ∈ isR, i ∉ isC) (hnp : va_nd perm = true) (hperm : ∀ v : Nat, perm.map (fun i => (wr ++ w1 v)[i]?) = (ws' v).map some)
    (kk : ∀ (v : Nat) (H : Heap) (locs : List Loc), va_P G.1 vwCl (ws' v) H → va_D A (ws' v) → va_S A s.heap H locs → W p l e R s m args below meth c H locs (cells + mc) (slots + ms) Q (F0 m (pc + 3) ls ((rv v).toList ++ rest))) : W p l e R s m args below meth c H locs cells slots Q (F0 m pc ls st0) := by
  intro T hT X
  have hF := va_free (wc := wc) hD hS hA isC hC
  obtain ⟨v, st₀, t, T', L, h0, X', hL, e1, e2, ⟨v9, ⟨hv, hP1, -, hD1⟩, hF1⟩, st⟩ := hr T hT X
  cases hv
  obtain ⟨k1, k2, k3⟩ := vx_keep h0 e1 hS (fun q _ h => hF q h) hF hL hF1
  rw [← e1] at hP1
  obtain ⟨hP2, hD2⟩ := va_join (wr := wr) (w1 := w1 v9) hP hD isC isR hC hRr hn hdis k2 hF hP1 hD1
  obtain ⟨t2, a1, b1⟩ := kk v9 T'.heap (locs ++ L) (hP2.sub perm (gFm (hperm v9))) (hD2.sub perm hnp (hperm v9)) k3 T' rfl X'
  exact ⟨t2, st t2 a1, b1⟩
theorem gyV {b q0 ci : Nat} {fs : List Value} {T : u_T} {N : Nat} (F : CallFix p m c cc nL s args gT own) (hM : gY l G y bytes n ret rm (.ref b :: As) wc rv w1 mc ms) (ok : gOkV y bytes n ret k) (hL : Cond.methodLink own idx y ∈ gT)
    (hrc : rm.cells = mc) (hrs : rm.slots = ms) (hR : rm.frames + 1 ≤ R.frames ∧ 8 + (n + 11) + rm.locals ≤ R.locals)
    (hN : gEnv G s) (hSt : gSt G A s) (hK : va_K G.1 vwCl (gTy G) s) (hP : va_P G.1 vwCl ws H) (hD : va_D A ws) (hS : va_S A s.heap H locs) (hA : ∀ q, s.heap.size ≤ q → A q)
    (isC isR perm : List Nat) (hnC : va_nd isC = true) (hC : isC.map (fun i => ws[i]?) = wc.map some) (hRr : isR.map (fun i => ws[i]?) = wr.map some) (hn : va_nd isR = true) (hdis : ∀ i ∈ isR, i ∉ isC) (hnp : va_nd perm = true) (hperm : ∀ v : Nat, perm.map (fun i => (wr ++ w1 v)[i]?) = (ws' v).map some)
    (hq : ws[q0]? = some (b, .inr (ci, fs))) (hci : vwCl[ci]? = some (y.cls, T, N)) (hlen : As.length = k) (hst : st0 = As.reverse ++ .ref b :: rest) (hls : ls.size = nL) (hW : (rest.map fun v => v.category).sum ≤ 8) (hdg : decode cc pc = .ok (.invokevirtual idx, 3)) (hcs : cells + mc ≤ R.cells ∧ slots + ms ≤ R.slots)
    (kk : ∀ (v : Nat) (H : Heap) (locs : List Loc), va_P G.1 vwCl (ws' v) H → va_D A (ws' v) → va_S A s.heap H locs → W p l e R s m args below meth c H locs (cells + mc) (slots + ms) Q (F0 m (pc + 3) ls ((rv v).toList ++ rest))) : W p l e R s m args below meth c H locs cells slots Q (F0 m pc ls st0) := by
  obtain ⟨⟨o1, o2, o3, o4⟩, o5⟩ := ok
  have hts := F.2.2.2.2
  have hPc := hP.sub (ws' := wc) isC (gFm hC)
  have hDc := hD.sub (ws' := wc) isC hnC hC
  refine gyCont (As := .ref b :: As) (rv := rv) (va_runV (C := y.cls) (As := As) (rest := rest) F (hM H.size) (cwV k hts (gG_in (ws := wsV own idx y.cls y (Cond.code y bytes n ret :: gT)) ?_) rfl hrc hrs ⟨rfl, o5⟩ hR) ⟨gPx_blind, va_recv hK hP hci hq, fun U hU hW9 => ⟨rfl, by rw [hU], by rw [hU]; exact hPc, va_K.moved hW9.alike hK, hDc.weaken (fun _ _ _ _ => trivial), hN.warm hW9, hSt.at hD hS hA isC hC hU hW9.alike⟩⟩ rfl hlen hls hst (lv_room hW) hdg hcs) hP hD hS hA isC isR perm hC hRr hn hdis hnp hperm kk
  intro w hw
  simp only [wsV, List.mem_append, List.mem_cons, List.not_mem_nil, or_false] at hw
  rcases hw with (h | h | h | h) | h | h
  · rw [h]; exact hL
  · rw [h]; exact o1
  · rw [h]; exact o2
  · rw [h]; exact o3
  · rw [h]; exact o4
  · exact h
theorem gyS (F : CallFix p m c cc nL s args gT own) (hM : gY l G y bytes n ret rm As wc rv w1 mc ms) (ok : gOkS y bytes n ret k) (hL : Cond.methodLink own idx y ∈ gT)
    (hrc : rm.cells = mc) (hrs : rm.slots = ms) (hR : rm.frames + 1 ≤ R.frames ∧ 8 + (n + 11) + rm.locals ≤ R.locals)
    (hN : gEnv G s) (hSt : gSt G A s) (hK : va_K G.1 vwCl (gTy G) s) (hP : va_P G.1 vwCl ws H) (hD : va_D A ws) (hS : va_S A s.heap H locs) (hA : ∀ q, s.heap.size ≤ q → A q)
    (isC isR perm : List Nat) (hnC : va_nd isC = true) (hC : isC.map (fun i => ws[i]?) = wc.map some) (hRr : isR.map (fun i => ws[i]?) = wr.map some) (hn : va_nd isR = true) (hdis : ∀ i ∈ isR, i ∉ isC) (hnp : va_nd perm = true) (hperm : ∀ v : Nat, perm.map (fun i => (wr ++ w1 v)[i]?) = (ws' v).map some)
    (hlen : As.length = k) (hst : st0 = As.reverse ++ rest) (hls : ls.size = nL) (hW : (rest.map fun v => v.category).sum ≤ 8) (hdg : decode cc pc = .ok (.invokestatic idx, 3)) (hcs : cells + mc ≤ R.cells ∧ slots + ms ≤ R.slots)
    (kk : ∀ (v : Nat) (H : Heap) (locs : List Loc), va_P G.1 vwCl (ws' v) H → va_D A (ws' v) → va_S A s.heap H locs → W p l e R s m args below meth c H locs (cells + mc) (slots + ms) Q (F0 m (pc + 3) ls ((rv v).toList ++ rest))) : W p l e R s m args below meth c H locs cells slots Q (F0 m pc ls st0) := by
  obtain ⟨⟨o1, o3, o4⟩, o5⟩ := ok
  have hts := F.2.2.2.2
  have hPc := hP.sub (ws' := wc) isC (gFm hC)
  have hDc := hD.sub (ws' := wc) isC hnC hC
  refine gyCont (As := As) (rv := rv) (va_runS (As := As) (rest := rest) F (hM H.size) (va_cwS k hts (gG_in (ws := va_wsS own idx y (Cond.code y bytes n ret :: gT)) ?_) rfl hrc hrs o5 hR) ⟨gPx_blind, fun U hU hW9 => ⟨rfl, by rw [hU], by rw [hU]; exact hPc, va_K.moved hW9.alike hK, hDc.weaken (fun _ _ _ _ => trivial), hN.warm hW9, hSt.at hD hS hA isC hC hU hW9.alike⟩⟩ rfl hlen hls hst (lv_room hW) hdg hcs) hP hD hS hA isC isR perm hC hRr hn hdis hnp hperm kk
  intro w hw
  simp only [va_wsS, List.mem_append, List.mem_cons, List.not_mem_nil, or_false] at hw
  rcases hw with (h | h | h) | h | h
  · rw [h]; exact hL
  · rw [h]; exact o1
  · rw [h]; exact o3
  · rw [h]; exact o4
  · exact h
/-- by invokevirtual, a method of a super class on its heir -/
theorem gyU {b q0 ci : Nat} {fs : List Value} {T : u_T} {N : Nat} {C : String} (F : CallFix p m c cc nL s args gT own) (hM : gY l G y bytes n ret rm (.ref b :: As) wc rv w1 mc ms) (ok : gOkU C y bytes n ret k) (hL : Cond.methodLink own idx y ∈ gT)
    (hrc : rm.cells = mc) (hrs : rm.slots = ms) (hR : rm.frames + 1 ≤ R.frames ∧ 8 + (n + 11) + rm.locals ≤ R.locals)
    (hN : gEnv G s) (hSt : gSt G A s) (hK : va_K G.1 vwCl (gTy G) s) (hP : va_P G.1 vwCl ws H) (hD : va_D A ws) (hS : va_S A s.heap H locs) (hA : ∀ q, s.heap.size ≤ q → A q)
    (isC isR perm : List Nat) (hnC : va_nd isC = true) (hC : isC.map (fun i => ws[i]?) = wc.map some) (hRr : isR.map (fun i => ws[i]?) = wr.map some) (hn : va_nd isR = true) (hdis : ∀ i ∈ isR, i ∉ isC) (hnp : va_nd perm = true) (hperm : ∀ v : Nat, perm.map (fun i => (wr ++ w1 v)[i]?) = (ws' v).map some)
    (hq : ws[q0]? = some (b, .inr (ci, fs))) (hci : vwCl[ci]? = some (C, T, N)) (hlen : As.length = k) (hst : st0 = As.reverse ++ .ref b :: rest) (hls : ls.size = nL) (hW : (rest.map fun v => v.category).sum ≤ 8) (hdg : decode cc pc = .ok (.invokevirtual idx, 3)) (hcs : cells + mc ≤ R.cells ∧ slots + ms ≤ R.slots)
    (kk : ∀ (v : Nat) (H : Heap) (locs : List Loc), va_P G.1 vwCl (ws' v) H → va_D A (ws' v) → va_S A s.heap H locs → W p l e R s m args below meth c H locs (cells + mc) (slots + ms) Q (F0 m (pc + 3) ls ((rv v).toList ++ rest))) : W p l e R s m args below meth c H locs cells slots Q (F0 m pc ls st0) := by
  obtain ⟨⟨o0, o1, o2, o3, o4⟩, o5⟩ := ok
  have hts := F.2.2.2.2
  have hPc := hP.sub (ws' := wc) isC (gFm hC)
  have hDc := hD.sub (ws' := wc) isC hnC hC
  refine gyCont (As := .ref b :: As) (rv := rv) (va_runU (C := C) (owner := y.cls) (x := y) (As := As) (rest := rest) F (hM H.size) (va_cwU k hts (gG_in (ws := va_wsU own idx C y.cls y y (Cond.code y bytes n ret :: gT)) ?_) rfl hrc hrs rfl o5 hR) ⟨gPx_blind, va_recv hK hP hci hq, fun U hU hW9 => ⟨rfl, by rw [hU], by rw [hU]; exact hPc, va_K.moved hW9.alike hK, hDc.weaken (fun _ _ _ _ => trivial), hN.warm hW9, hSt.at hD hS hA isC hC hU hW9.alike⟩⟩ rfl hlen hls hst (lv_room hW) hdg hcs) hP hD hS hA isC isR perm hC hRr hn hdis hnp hperm kk
  intro w hw
  simp only [va_wsU, List.mem_append, List.mem_cons, List.not_mem_nil, or_false] at hw
  rcases hw with (h | h | h | h | h) | h | h
  · rw [h]; exact hL
  · rw [h]; exact o0
  · rw [h]; exact o1
  · rw [h]; exact o2
  · rw [h]; exact o3
  · rw [h]; exact o4
  · exact h
/-- by invokevirtual, a private method of a super class on its heir -/
theorem gyP {b q0 ci : Nat} {fs : List Value} {T : u_T} {N : Nat} {C : String} (F : CallFix p m c cc nL s args gT own) (hM : gY l G y bytes n ret rm (.ref b :: As) wc rv w1 mc ms) (ok : gOkP y bytes n ret k) (hL : Cond.methodLink own idx y ∈ gT)
    (hrc : rm.cells = mc) (hrs : rm.slots = ms) (hR : rm.frames + 1 ≤ R.frames ∧ 8 + (n + 11) + rm.locals ≤ R.locals)
    (hN : gEnv G s) (hSt : gSt G A s) (hK : va_K G.1 vwCl (gTy G) s) (hP : va_P G.1 vwCl ws H) (hD : va_D A ws) (hS : va_S A s.heap H locs) (hA : ∀ q, s.heap.size ≤ q → A q)
    (isC isR perm : List Nat) (hnC : va_nd isC = true) (hC : isC.map (fun i => ws[i]?) = wc.map some) (hRr : isR.map (fun i => ws[i]?) = wr.map some) (hn : va_nd isR = true) (hdis : ∀ i ∈ isR, i ∉ isC) (hnp : va_nd perm = true) (hperm : ∀ v : Nat, perm.map (fun i => (wr ++ w1 v)[i]?) = (ws' v).map some)
    (hq : ws[q0]? = some (b, .inr (ci, fs))) (hci : vwCl[ci]? = some (C, T, N)) (hlen : As.length = k) (hst : st0 = As.reverse ++ .ref b :: rest) (hls : ls.size = nL) (hW : (rest.map fun v => v.category).sum ≤ 8) (hdg : decode cc pc = .ok (.invokevirtual idx, 3)) (hcs : cells + mc ≤ R.cells ∧ slots + ms ≤ R.slots)
    (kk : ∀ (v : Nat) (H : Heap) (locs : List Loc), va_P G.1 vwCl (ws' v) H → va_D A (ws' v) → va_S A s.heap H locs → W p l e R s m args below meth c H locs (cells + mc) (slots + ms) Q (F0 m (pc + 3) ls ((rv v).toList ++ rest))) : W p l e R s m args below meth c H locs cells slots Q (F0 m pc ls st0) := by
  obtain ⟨⟨o0, o1, o2, o3, o4⟩, o5⟩ := ok
  have hts := F.2.2.2.2
  have hPc := hP.sub (ws' := wc) isC (gFm hC)
  have hDc := hD.sub (ws' := wc) isC hnC hC
  exact gyCont (As := .ref b :: As) (rv := rv) (nb_runVP (C := C) (As := As) (rest := rest) F (hM H.size) (callB_of k hts (gG_code o4) rfl hrc hrs (hts _ o3) (hts _ hL) o5 hR) (hts _ o0) (va_Nw.use rfl (hSt.2.2.2.2.2.2.2 y o1)) (hts _ o2) ⟨gPx_blind, va_recv hK hP hci hq, fun U hU hW9 => ⟨rfl, by rw [hU], by rw [hU]; exact hPc, va_K.moved hW9.alike hK, hDc.weaken (fun _ _ _ _ => trivial), hN.warm hW9, hSt.at hD hS hA isC hC hU hW9.alike⟩⟩ rfl hlen hls hst (lv_room hW) hdg hcs) hP hD hS hA isC isR perm hC hRr hn hdis hnp hperm kk
/-- super.m(..) -/
theorem gySU {b q0 ci : Nat} {fs : List Value} {T : u_T} {N : Nat} {C : String} (F : CallFix p m c cc nL s args gT own) (hM : gY l G y bytes n ret rm (.ref b :: As) wc rv w1 mc ms) (ok : gOkSU own y bytes n ret k) (hL : Cond.methodLink own idx y ∈ gT)
    (hrc : rm.cells = mc) (hrs : rm.slots = ms) (hR : rm.frames + 1 ≤ R.frames ∧ 8 + (n + 11) + rm.locals ≤ R.locals)
    (hN : gEnv G s) (hSt : gSt G A s) (hK : va_K G.1 vwCl (gTy G) s) (hP : va_P G.1 vwCl ws H) (hD : va_D A ws) (hS : va_S A s.heap H locs) (hA : ∀ q, s.heap.size ≤ q → A q)
    (isC isR perm : List Nat) (hnC : va_nd isC = true) (hC : isC.map (fun i => ws[i]?) = wc.map some) (hRr : isR.map (fun i => ws[i]?) = wr.map some) (hn : va_nd isR = true) (hdis : ∀ i ∈ isR, i ∉ isC) (hnp : va_nd perm = true) (hperm : ∀ v : Nat, perm.map (fun i => (wr ++ w1 v)[i]?) = (ws' v).map some)
    (hq : ws[q0]? = some (b, .inr (ci, fs))) (hci : vwCl[ci]? = some (C, T, N))  (hlen : As.length = k) (hst : st0 = As.reverse ++ .ref b :: rest) (hls : ls.size = nL) (hW : (rest.map fun v => v.category).sum ≤ 8) (hdg : decode cc pc = .ok (.invokespecial idx, 3)) (hcs : cells + mc ≤ R.cells ∧ slots + ms ≤ R.slots)
    (kk : ∀ (v : Nat) (H : Heap) (locs : List Loc), va_P G.1 vwCl (ws' v) H → va_D A (ws' v) → va_S A s.heap H locs → W p l e R s m args below meth c H locs (cells + mc) (slots + ms) Q (F0 m (pc + 3) ls ((rv v).toList ++ rest))) : W p l e R s m args below meth c H locs cells slots Q (F0 m pc ls st0) := by
  obtain ⟨⟨o0, o1, o2, o3, o4⟩, o5⟩ := ok
  have hts := F.2.2.2.2
  have hPc := hP.sub (ws' := wc) isC (gFm hC)
  have hDc := hD.sub (ws' := wc) isC hnC hC
  refine gyCont (As := .ref b :: As) (rv := rv) (va_runSU (C := C) (As := As) (rest := rest) (hK.1 ci _ hci).2 F (hM H.size) (va_cwSU k hts (gG_in (ws := va_wsSU own idx y (Cond.code y bytes n ret :: gT)) ?_) rfl hrc hrs o5 hR) ⟨gPx_blind, va_recv hK hP hci hq, fun U hU hW9 => ⟨rfl, by rw [hU], by rw [hU]; exact hPc, va_K.moved hW9.alike hK, hDc.weaken (fun _ _ _ _ => trivial), hN.warm hW9, hSt.at hD hS hA isC hC hU hW9.alike⟩⟩ rfl hlen hls hst (lv_room hW) hdg hcs) hP hD hS hA isC isR perm hC hRr hn hdis hnp hperm kk
  intro w hw
  simp only [va_wsSU, List.mem_append, List.mem_cons, List.not_mem_nil, or_false] at hw
  rcases hw with (h | h | h | h | h) | h | h
  · rw [h]; exact hL
  · rw [h]; exact o0
  · rw [h]; exact o1
  · rw [h]; exact o2
  · rw [h]; exact o3
  · rw [h]; exact o4
  · exact h
theorem gNewa {atype : ArrayType} {ty : FieldType} (hexec : p.tables.exec = Jvm.exec) (hb : c.code = cc) (harr : (Cond.arrayClass (newarray.typeOf atype)).before args s = true) (hty : newarray.typeOf atype = ty) (hK : va_K G.1 vwCl (gTy G) s) (hP : va_P G.1 vwCl ws H) (hD : va_D A ws) (hS : va_S A s.heap H locs) (hA : ∀ q, s.heap.size ≤ q → A q) (t0 : Nat) {cG : ClassId} (ht0 : (gTy G)[t0]? = some (cG, ty))
    {x : Int32} {N' : Nat} {a0 : vp_A} (ha : ∀ cA : ClassId, vp_cell cA a0 = arrV cA N' (fun _ => defaultValue ty)) (hn : ¬ x < 0) (hN : x.toNatClampNeg = N') (hbytes : N' * componentBytes ty ≤ 536870912) (hcells : cells + 1 ≤ R.cells) (hslots : slots + N' ≤ R.slots) (hdg : decode cc pc = .ok (.newarray atype, 2))
    (kk : ∀ (q : Nat) (H1 : Heap), va_P G.1 vwCl (ws ++ [(q, .inl (cG, a0))]) H1 → va_D A (ws ++ [(q, .inl (cG, a0))]) → va_S A s.heap H1 locs →
      W p l e R s m args below meth c H1 locs (cells + 1) (slots + N') Q (F0 m (pc + 2) ls (.ref q :: rest))) : W p l e R s m args below meth c H locs cells slots Q (F0 m pc ls (.int x :: rest)) := by
  refine va_newa hexec hb harr hty hK hP hD hS hA ha hn hN hbytes hcells hslots hdg (fun q cA H1 hK1 hP1 hD1 hS1 => ?_)
  have h1 := (hK1.2 (gTy G).length (cA, ty) (by simp)).2
  have h2 := (hK.2 t0 (cG, ty) ht0).2
  subst hty
  have e : cA = cG := by cases atype <;> exact Option.some.inj (Eq.trans (Eq.symm (show s.vm.findClass _ = some cA from h1)) h2)
  subst e
  exact kk q H1 hP1 hD1 hS1
end gyRows
