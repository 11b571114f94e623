/-! OWN BASE 3: a contract of a method that returns (th = none) or throws a class (th = some E) and then leaves its cells as they were -/
def gStrOwn : List (String × Nat) := [("DelayLineStore$Instruction", 56), ("DelayLineStore$Instruction", 26), ("DelayLineStore$Instruction", 28), ("DelayLineStore$Instruction", 30), ("DelayLineStore$Instruction", 32), ("DelayLineStore$Instruction", 34), ("DelayLineStore$Instruction", 36), ("DelayLineStore$Instruction", 38), ("DelayLineStore$Instruction", 40), ("DelayLineStore$Instruction", 42), ("DelayLineStore$Instruction", 44), ("DelayLineStore$Instruction", 46), ("DelayLineStore$Instruction", 48), ("DelayLineStore$Instruction", 50), ("DelayLineStore$Instruction", 52), ("DelayLineStore$Instruction", 54), ("DelayLineStore$Assembler", 48), ("DelayLineStore$Assembler", 60), ("DelayLineStore$Assembler", 62), ("DelayLineStore$Assembler", 103), ("DelayLineStore", 305)]
/-- the bytes of the constant Strings -/
def gByt : List (List Int32) := ["stop", "load", "store", "add", "sub", "and", "xor", "mul", "shl", "shr", "jneg", "jzero", "jover", "in", "out", "count", "at", "start", "word", "then", " then "].map (fun t => t.toList.map (fun c => Int32.ofNat c.toNat))
def gLn (i : Nat) : Nat := (gByt.getD i []).length
def gBy (i j : Nat) : Int32 := (gByt.getD i []).getD j 0
def gK (G : gG) (i : Nat) : Nat := G.2.2 (gStrOwn.getD i ("", 0)).1 (gStrOwn.getD i ("", 0)).2
def gVa (G : gG) (i : Nat) : Nat := G.2.2 "" i
def gDg (G : gG) (i : Nat) : Nat := G.2.2 "digits" i
def gDgv (i j : Nat) : Int32 := if i = 0 then Int32.ofNat (48 + j % 10) else Int32.ofNat (48 + j / 10)
/-- private methods of AbstractStringBuilder, that an heir calls by invokevirtual -/
def gPriv : List MethodName := [yJ5_ensureCapacityInternal_d00df, yJ5_newCapacity_0f7a4, yJ5_putStringAt_47b60, yJ5_inflateIfNeededFor_a7421]
theorem gPriv_moved {y : MethodName} {u U : State} (hal : u.vm.Alike U.vm) (h : va_Nw (.privateMethod y) u) : va_Nw (.privateMethod y) U := by
  unfold va_Nw at h ⊢
  have e1 : U.methodNamed? y = u.methodNamed? y := by rw [State.methodNamed?_of_vm (show U.vm = (u.setVm U.vm).vm from rfl), State.methodNamed?_setVm hal]
  have e2 : U.vm.method? = u.vm.method? := funext hal.method?
  simp only [Cond.before, Cond.holds, Cond.value] at h ⊢
  rw [e1, e2]; exact h
def gZ (G : gG) (A : Nat → Prop) (U : State) (H : Heap) : Prop := (∀ i : Nat, i < 21 → va_O "java/lang/String" (gK G i) A U H ∧ va_OF "java/lang/String" "coder" "B" (.int 0) (gK G i) A U H ∧ va_OF "java/lang/String" "value" "[B" (.ref (gVa G i)) (gK G i) A U H ∧ va_T .byte (gVa G i) (gLn i) (fun j => .int (gBy i j)) A U H) ∧ va_Z "java/lang/String" "COMPACT_STRINGS" "Z" (.int 1) A U H ∧ va_Zq "jdk/internal/util/Preconditions" "SIOOBE_FORMATTER" "Ljava/util/function/BiFunction;" A U H ∧ (va_Z "java/lang/Integer" "DigitOnes" "[B" (.ref (gDg G 0)) A U H ∧ va_Z "java/lang/Integer" "DigitTens" "[B" (.ref (gDg G 1)) A U H) ∧ (∀ i : Nat, i < 2 → va_T .byte (gDg G i) 100 (fun j => .int (gDgv i j)) A U H) ∧ ∀ y ∈ gPriv, va_Nw (.privateMethod y) U
theorem gZ.moved {G : gG} {A : Nat → Prop} {u U : State} {H : Heap} (hvm : u.vm.Alike U.vm) (h : gZ G A u H) : gZ G A U H :=
  ⟨fun i hi => ⟨va_O.moved hvm (h.1 i hi).1, va_OF.moved hvm (h.1 i hi).2.1, va_OF.moved hvm (h.1 i hi).2.2.1, va_T.moved hvm (h.1 i hi).2.2.2⟩, va_Z.moved hvm h.2.1, va_Zq.moved hvm h.2.2.1, ⟨va_Z.moved hvm h.2.2.2.1.1, va_Z.moved hvm h.2.2.2.1.2⟩, fun i hi => va_T.moved hvm (h.2.2.2.2.1 i hi), fun y hy => gPriv_moved hvm (h.2.2.2.2.2 y hy)⟩
theorem gZ.kept {G : gG} {A : Nat → Prop} {U : State} {H H1 : Heap} (h : gZ G A U H) (hq : ∀ a : Nat, a < H.size → ¬ A a → H1[a]? = H[a]?) : gZ G A U H1 :=
  ⟨fun i hi => ⟨(h.1 i hi).1.kept hq, (h.1 i hi).2.1.kept hq, (h.1 i hi).2.2.1.kept hq, (h.1 i hi).2.2.2.kept hq⟩, h.2.1.kept hq, h.2.2.1.kept hq, ⟨h.2.2.2.1.1.kept hq, h.2.2.2.1.2.kept hq⟩, fun i hi => (h.2.2.2.2.1 i hi).kept hq, h.2.2.2.2.2⟩
theorem gZ.narrow {G : gG} {A B : Nat → Prop} {U : State} {H : Heap} (h : gZ G A U H) (hAB : ∀ q, B q → A q) : gZ G B U H :=
  ⟨fun i hi => ⟨(h.1 i hi).1.narrow hAB, (h.1 i hi).2.1.narrow hAB, (h.1 i hi).2.2.1.narrow hAB, (h.1 i hi).2.2.2.narrow hAB⟩, h.2.1.narrow hAB, h.2.2.1.narrow hAB, ⟨h.2.2.2.1.1.narrow hAB, h.2.2.2.1.2.narrow hAB⟩, fun i hi => (h.2.2.2.2.1 i hi).narrow hAB, h.2.2.2.2.2⟩
def gSt (G : gG) (A : Nat → Prop) (U : State) : Prop := vx_Zq Bundle.tN "UNASSIGNED_STACK" Bundle.steD A U U.heap ∧ vx_Zq Bundle.tN "SUPPRESSED_SENTINEL" Bundle.listD A U U.heap ∧ gZ G A U U.heap
def gPx (G : gG) (as : List Value) (ws : va_W) (sz : Nat) : Array Value → State → Prop := va_Pc as (fun U => U.heap.size = sz ∧ va_P G.1 vwCl ws U.heap ∧ va_K G.1 vwCl (gTy G) U ∧ va_D (fun _ => True) ws ∧ gEnv G U ∧ gSt G (va_A ws sz) U)
def gQx (G : gG) (th : Option String) (rv : Option Value) (w1 : va_W) (A : Nat → Prop) : Array Value → State → Outcome → State → Prop := fun a st oc t => th = none ∧ gQ G rv w1 A a st oc t
def gXc (G : gG) (th : Option String) (ws : va_W) (A : Nat → Prop) : String → State → State → Prop := fun E st t => th = some E ∧ (va_P G.1 vwCl ws t.heap ∧ va_K G.1 vwCl (gTy G) t ∧ va_D A ws) ∧ va_F A st t
def gX (l : Launch) (G : gG) (y : MethodName) (bytes : ByteArray) (n : Nat) (ret : Option FieldType) (rm : Room) (as : List Value) (ws : va_W) (th : Option String) (rv : Option Value) (w1 : va_W) (mc ms : Nat) : Prop :=
  ∀ sz : Nat, vx_Met l y (Cond.code y bytes n ret :: gT) rm (gPx G as ws sz) (gQx G th rv w1 (va_A ws sz)) (gXc G th ws (va_A ws sz)) mc ms (va_A ws sz)
theorem gPx_blind {G : gG} {as : List Value} {ws : va_W} {sz : Nat} : FrameBlind (gPx G as ws sz) := fun a U g mk q => by
  obtain ⟨q0, q1, qP, qK, qD, qN, qS⟩ := q
  exact ⟨q0, q1, qP, va_K.moved (u := U) (U := U.calling g mk a) (Vm.Alike.refl U.vm) qK, qD, gEnv.same (s := U) (U := U.calling g mk a) rfl qN, vx_Zq.moved (u := U) (U := U.calling g mk a) (Vm.Alike.refl U.vm) qS.1, vx_Zq.moved (u := U) (U := U.calling g mk a) (Vm.Alike.refl U.vm) qS.2.1, gZ.moved (u := U) (U := U.calling g mk a) (Vm.Alike.refl U.vm) qS.2.2⟩
section gThrow
variable {p : Program} {l : Launch} {e : Env} {R : Room} {s : State} {m : MethodId} {args : Array Value} {below : List Frame} {meth : Method} {c : Code} {H : Heap} {locs : List Loc} {cells slots : Nat} {Q : State → Prop} {G : gG}
variable {y : MethodName} {bytes cc : ByteArray} {n nL k mc ms idx pc : Nat} {ret : Option FieldType} {rm : Room} {as As rest st0 : List Value} {ws wc wr w1 ws' : va_W} {rv : Option Value} {own : String} {A : Nat → Prop} {ls : Array Slot} {th : Option String}
theorem gxBegin (hy : plainName y.cls = true) (hn : (lg_sl as).length ≤ n)
    (body : ∀ (p : Program) (e : Env) (s : State) (m : MethodId) (args : Array Value) (below : List Frame) (meth : Method) (c : Code) (A : Nat → Prop), CallFix p m c bytes n s args gT y.cls → meth.sig.returnType = ret → meth.locks = false → (∀ x ∈ c.exceptionTable.toList, False) → gEnv G s → gSt G A s → va_K G.1 vwCl (gTy G) s → va_P G.1 vwCl ws s.heap → va_D A ws → (∀ q : Nat, s.heap.size ≤ q → A q) → va_S A s.heap s.heap [] → ∀ ls, lv_has ls n (lv_args 0 as) →
      W p l e rm s m args below meth c s.heap [] 0 0 (vx_MQ below (gQx G th rv w1 A) (gXc G th ws A) args s mc ms A) (F0 m 0 ls [])) : gX l G y bytes n ret rm as ws th rv w1 mc ms := by
  intro sz
  refine vx_ofW (cc := bytes) (maxL := n) (ret := ret) hy rfl ?_
  intro p e s m args below meth c s₁ B hml htab hv
  obtain ⟨rfl, hsz, hP, hK, hD0, hN, hSt⟩ := hv
  have hts0 := atoms_spec (ws := Cond.code y bytes n ret :: gT) B.pre
  subst hsz
  have hD := hD0.self (sz := s.heap.size)
  have hl := lv_entry as (n := n) hn
  rw [lg_entry_eq]
  exact body p e s m _ below meth c _ ⟨B.exec, B.bytes, hml, findClass_of_methodNamed B.named, fun w h => hts0 w (List.mem_cons_of_mem _ h)⟩ B.returns B.notSynchronized htab hN hSt hK hP hD (fun q h => Or.inr h) va_S.rf _ hl
/-- an ordinary end -/
theorem gxOf {g : JFrame} {XC : String → State → State → Prop} (hth : th = none) (k : W p l e R s m args below meth c H locs cells slots (MQ below (gQ G rv w1 A) args s mc ms A) g) : W p l e R s m args below meth c H locs cells slots (vx_MQ below (gQx G th rv w1 A) XC args s mc ms A) g := by
  intro T hT X
  obtain ⟨t, a1, o, b1, b2, b3, b4⟩ := k T hT X
  exact ⟨t, a1, o, b1, b2, Or.inl ⟨⟨hth, b3⟩, b4⟩⟩
/-- new X(text), thrown (the text by ldc_w) -/
theorem gxThrowW {cls text : String} {names : List String} {ik is ic : Nat} (F : CallFix p m c cc nL s args gT own) (hl : l.stackTraces = false) (hN : gEnv G s) (hSt : gSt G A s) (hK : va_K G.1 vwCl (gTy G) s) (hP : va_P G.1 vwCl ws H) (hD : va_D A ws) (hS : va_S A s.heap H locs) (hlocks : meth.locks = false) (htab : ∀ x ∈ c.exceptionTable.toList, False) (hls : ls.size = nL)
    (hcls : Bundle.fit cls = true) (hnames : ∀ n ∈ names, Bundle.fit n = true) (hk : Cond.classLink own ik cls ∈ gT) (hini : Cond.initialized cls ∈ gT) (hstr : (own, is, text) ∈ gStrs)
    (h1 : ∀ w ∈ (vx_atS own ic cls names).filter goodWord, w ∈ tables_1) (h2 : ∀ w ∈ (vx_atS own ic cls names).filter (fun w => !goodWord w), w ∈ gBad) (hgood : ∀ w ∈ Cond.classLink own ik cls :: Cond.initialized cls :: vx_atS own ic cls names, vx_ot w = true)
    (d0 : decode cc pc = .ok (.new ik, 3)) (d3 : decode cc (pc + 3) = .ok (.dup, 1)) (d4 : decode cc (pc + 4) = .ok (.ldc_w is, 3)) (d7 : decode cc (pc + 7) = .ok (.invokespecial ic, 3)) (d10 : decode cc (pc + 10) = .ok (.athrow, 1))
    (hth : th = some cls) (hRframes : names.length + 3 < R.frames) (hRlocals : (rest.map fun v => v.category).sum + (13 * (names.length + 1) + 43) ≤ R.locals) (hRcells : cells + 1 ≤ R.cells) (hRslots : slots + 6 ≤ R.slots) (hc : cells + 1 ≤ mc) (hs : slots + 6 ≤ ms) :
    W p l e R s m args below meth c H locs cells slots (vx_MQ below (gQx G th rv w1 A) (gXc G th ws A) args s mc ms A) (F0 m pc ls rest) := by
  obtain ⟨hx, hb, hml, hown, hts⟩ := F
  refine vx_throwSW hx hb hl (names := names) (text := text) (A := A) hown hcls hnames (hts _ hk) (hts _ hini) (hN.2.1 _ hstr) (gHat hN hts h1 h2) hgood hSt.1 hSt.2.1 hS (hls.trans hml.symm) d0 d3 d4 d7 d10 (fun x hx => (htab x hx).elim) hRframes hRlocals hRcells hRslots hlocks (fun t hvm hz hq => ?_) hS.2.2 hc hs
  refine ⟨hth, ⟨?_, va_K.moved hvm hK, hD⟩, Nat.le_trans hS.1 hz, fun q h3 h4 => by rw [hq q (Nat.lt_of_lt_of_le h3 hS.1)]; exact hS.2.1 q h3 h4⟩
  intro k q hk
  exact (hP k q hk).kept (hq q.1 (hP k q hk).lt)
/-- new X(text), thrown (the text by ldc) -/
theorem gxThrowS {cls text : String} {names : List String} {ik is ic : Nat} (F : CallFix p m c cc nL s args gT own) (hl : l.stackTraces = false) (hN : gEnv G s) (hSt : gSt G A s) (hK : va_K G.1 vwCl (gTy G) s) (hP : va_P G.1 vwCl ws H) (hD : va_D A ws) (hS : va_S A s.heap H locs) (hlocks : meth.locks = false) (htab : ∀ x ∈ c.exceptionTable.toList, False) (hls : ls.size = nL)
    (hcls : Bundle.fit cls = true) (hnames : ∀ n ∈ names, Bundle.fit n = true) (hk : Cond.classLink own ik cls ∈ gT) (hini : Cond.initialized cls ∈ gT) (hstr : (own, is, text) ∈ gStrs)
    (h1 : ∀ w ∈ (vx_atS own ic cls names).filter goodWord, w ∈ tables_1) (h2 : ∀ w ∈ (vx_atS own ic cls names).filter (fun w => !goodWord w), w ∈ gBad) (hgood : ∀ w ∈ Cond.classLink own ik cls :: Cond.initialized cls :: vx_atS own ic cls names, vx_ot w = true)
    (d0 : decode cc pc = .ok (.new ik, 3)) (d3 : decode cc (pc + 3) = .ok (.dup, 1)) (d4 : decode cc (pc + 4) = .ok (.ldc is, 2)) (d7 : decode cc (pc + 6) = .ok (.invokespecial ic, 3)) (d10 : decode cc (pc + 9) = .ok (.athrow, 1))
    (hth : th = some cls) (hRframes : names.length + 3 < R.frames) (hRlocals : (rest.map fun v => v.category).sum + (13 * (names.length + 1) + 43) ≤ R.locals) (hRcells : cells + 1 ≤ R.cells) (hRslots : slots + 6 ≤ R.slots) (hc : cells + 1 ≤ mc) (hs : slots + 6 ≤ ms) :
    W p l e R s m args below meth c H locs cells slots (vx_MQ below (gQx G th rv w1 A) (gXc G th ws A) args s mc ms A) (F0 m pc ls rest) := by
  obtain ⟨hx, hb, hml, hown, hts⟩ := F
  refine vx_throwS hx hb hl (names := names) (text := text) (A := A) hown hcls hnames (hts _ hk) (hts _ hini) (hN.2.1 _ hstr) (gHat hN hts h1 h2) hgood hSt.1 hSt.2.1 hS (hls.trans hml.symm) d0 d3 d4 d7 d10 (fun x hx => (htab x hx).elim) hRframes hRlocals hRcells hRslots hlocks (fun t hvm hz hq => ?_) hS.2.2 hc hs
  refine ⟨hth, ⟨?_, va_K.moved hvm hK, hD⟩, Nat.le_trans hS.1 hz, fun q h3 h4 => by rw [hq q (Nat.lt_of_lt_of_le h3 hS.1)]; exact hS.2.1 q h3 h4⟩
  intro k q hk
  exact (hP k q hk).kept (hq q.1 (hP k q hk).lt)
/-- a class thrown by a callee goes on to the caller -/
theorem gxOut {E : String} {ce : Cell} {q : Addr} (hlocks : meth.locks = false) (htab : ∀ x ∈ c.exceptionTable.toList, False) (hK : va_K G.1 vwCl (gTy G) s) (hP : va_P G.1 vwCl ws H) (hD : va_D A ws) (hS : va_S A s.heap H locs) (hcell : H[q]? = some ce) (hv : ce.vm = .none) (hcl : s.vm.findClass E = some ce.cls) (hth : th = some E) (hc : cells ≤ mc) (hs : slots ≤ ms) :
    vx_W p l e R s m args below meth c H locs cells slots (vx_MQ below (gQx G th rv w1 A) (gXc G th ws A) args s mc ms A) (F0 m pc ls rest) q :=
  vx_out (fun x hx => (htab x hx).elim) hlocks hcell hv hcl (fun t ht hvm => ⟨hth, ⟨by rw [ht]; exact hP, va_K.moved hvm hK, hD⟩, hS.F ht⟩) hS.2.2 hc hs
theorem gxCont (hr : vx_Run p l e R s m args below meth c H locs cells slots mc ms (F0 m pc ls st0) rest (fun st oc t => gQx G th rv w1 (va_A wc H.size) As.toArray st oc t) (gXc G th wc (va_A wc H.size)) (va_A wc H.size)) (hP : va_P G.1 vwCl ws H) (hD : va_D A ws) (hS : va_S A s.heap H locs) (hA : ∀ q, s.heap.size ≤ q → A q)
    (isC isR perm : List Nat) (hC : isC.map (fun i => ws[i]?) = wc.map some) (hRr : isR.map (fun i => ws[i]?) = wr.map some) (hn : va_nd isR = true) (hdis : ∀ i ∈ isR, i ∉ isC) (hnp : va_nd perm = true) (hperm : perm.map (fun i => (wr ++ w1)[i]?) = ws'.map some) (hperm0 : perm.map (fun i => (wr ++ wc)[i]?) = ws.map some)
    (kk : th = none → ∀ (H : Heap) (locs : List Loc), va_P G.1 vwCl ws' H → va_D A ws' → va_S A s.heap H locs → W p l e R s m args below meth c H locs (cells + mc) (slots + ms) Q (F0 m (pc + 3) ls (rv.toList ++ rest)))
    (kx : ∀ (E : String) (ce : Cell) (q : Addr) (H : Heap) (locs : List Loc), th = some E → va_P G.1 vwCl ws H → va_D A ws → va_S A s.heap H locs → H[q]? = some ce → ce.vm = .none → s.vm.findClass E = some ce.cls → vx_W p l e R s m args below meth c H locs (cells + mc) (slots + ms) Q (F0 m pc ls rest) q) : W p l e R s m args below meth c H locs cells slots Q (F0 m pc ls st0) := by
  intro T hT X
  have hF := va_free (wc := wc) hD hS hA isC hC
  rcases hr T hT X with ⟨v, st₀, t, T', L, h0, X', hL, e1, e2, ⟨hth, ⟨hv, hP1, -, hD1⟩, hF1⟩, st⟩ | ⟨q, st₀, t, T', L, E, ce, h0, X', hL, e1, e2, ⟨hth, ⟨hP1, -, hD1⟩, hF1⟩, hce, hcv, hcl, st⟩
  · cases hv
    obtain ⟨k1, k2, k3⟩ := vx_keep h0 e1 hS (fun q _ h => hF q h) hF hL hF1
    rw [← e1] at hP1
    obtain ⟨hP2, hD2⟩ := va_join (wr := wr) (w1 := w1) hP hD isC isR hC hRr hn hdis k2 hF hP1 hD1
    obtain ⟨t2, a1, b1⟩ := kk hth T'.heap (locs ++ L) (hP2.sub perm (gFm hperm)) (hD2.sub perm hnp hperm) k3 T' rfl X'
    exact ⟨t2, st t2 a1, b1⟩
  · obtain ⟨k1, k2, k3⟩ := vx_keep h0 e1 hS (fun q _ h => hF q h) hF hL hF1
    rw [← e1] at hP1
    obtain ⟨hP2, hD2⟩ := va_join (wr := wr) (w1 := wc) hP hD isC isR hC hRr hn hdis k2 hF hP1 hD1
    obtain ⟨t2, a1, b1⟩ := kx E ce q T'.heap (locs ++ L) hth (hP2.sub perm (gFm hperm0)) (hD2.sub perm hnp hperm0) k3 (by rw [e1]; exact hce) hcv hcl T' rfl X'
    exact ⟨t2, st.trans a1, b1⟩
theorem gSt.at {U : State} (hSt : gSt G A s) (hD : va_D A ws) (hS : va_S A s.heap H locs) (hA : ∀ q, s.heap.size ≤ q → A q) (isC : List Nat) (hC : isC.map (fun i => ws[i]?) = wc.map some) (hU : U.heap = H) (hvm : s.vm.Alike U.vm) : gSt G (va_A wc H.size) U := by
  have hF := va_free (wc := wc) hD hS hA isC hC
  refine ⟨?_, ?_, ?_⟩
  · rw [hU]; exact ((hSt.1.kept (fun a h1 h2 => hS.2.1 a h1 h2)).narrow hF).moved hvm
  · rw [hU]; exact ((hSt.2.1.kept (fun a h1 h2 => hS.2.1 a h1 h2)).narrow hF).moved hvm
  · rw [hU]; exact ((hSt.2.2.kept (fun a h1 h2 => hS.2.1 a h1 h2)).narrow hF).moved hvm
theorem gxS (F : CallFix p m c cc nL s args gT own) (hM : gX l G y bytes n ret rm As wc th rv w1 mc ms) (ok : gOkS y bytes n ret k) (hL : Cond.methodLink own idx y ∈ gT)
    (hrc : rm.cells = mc) (hrs : rm.slots = ms) (hR : rm.frames + 1 ≤ R.frames ∧ 8 + (n + 11) + rm.locals ≤ R.locals)
    (hN : gEnv G s) (hSt : gSt G A s) (hK : va_K G.1 vwCl (gTy G) s) (hP : va_P G.1 vwCl ws H) (hD : va_D A ws) (hS : va_S A s.heap H locs) (hA : ∀ q, s.heap.size ≤ q → A q)
    (isC isR perm : List Nat) (hnC : va_nd isC = true) (hC : isC.map (fun i => ws[i]?) = wc.map some) (hRr : isR.map (fun i => ws[i]?) = wr.map some) (hn : va_nd isR = true) (hdis : ∀ i ∈ isR, i ∉ isC) (hnp : va_nd perm = true) (hperm : perm.map (fun i => (wr ++ w1)[i]?) = ws'.map some) (hperm0 : perm.map (fun i => (wr ++ wc)[i]?) = ws.map some)
    (hlen : As.length = k) (hst : st0 = As.reverse ++ rest) (hls : ls.size = nL) (hW : (rest.map fun v => v.category).sum ≤ 8) (hdg : decode cc pc = .ok (.invokestatic idx, 3)) (hcs : cells + mc ≤ R.cells ∧ slots + ms ≤ R.slots)
    (kk : th = none → ∀ (H : Heap) (locs : List Loc), va_P G.1 vwCl ws' H → va_D A ws' → va_S A s.heap H locs → W p l e R s m args below meth c H locs (cells + mc) (slots + ms) Q (F0 m (pc + 3) ls (rv.toList ++ rest)))
    (kx : ∀ (E : String) (ce : Cell) (q : Addr) (H : Heap) (locs : List Loc), th = some E → va_P G.1 vwCl ws H → va_D A ws → va_S A s.heap H locs → H[q]? = some ce → ce.vm = .none → s.vm.findClass E = some ce.cls → vx_W p l e R s m args below meth c H locs (cells + mc) (slots + ms) Q (F0 m pc ls rest) q) : W p l e R s m args below meth c H locs cells slots Q (F0 m pc ls st0) := by
  obtain ⟨⟨o1, o3, o4⟩, o5⟩ := ok
  have hts := F.2.2.2.2
  have hPc := hP.sub (ws' := wc) isC (gFm hC)
  have hDc := hD.sub (ws' := wc) isC hnC hC
  refine gxCont (As := As) (vx_runS (As := As) (rest := rest) F (hM H.size) (va_cwS k hts (gG_in (ws := va_wsS own idx y (Cond.code y bytes n ret :: gT)) ?_) rfl hrc hrs o5 hR) ⟨gPx_blind, fun U hU hW9 => ⟨rfl, by rw [hU], by rw [hU]; exact hPc, va_K.moved hW9.alike hK, hDc.weaken (fun _ _ _ _ => trivial), hN.warm hW9, hSt.at hD hS hA isC hC hU hW9.alike⟩⟩ rfl hlen hls hst (lv_room hW) hdg hcs) hP hD hS hA isC isR perm hC hRr hn hdis hnp hperm hperm0 kk kx
  intro w hw
  simp only [va_wsS, List.mem_append, List.mem_cons, List.not_mem_nil, or_false] at hw
  rcases hw with (h | h | h) | h | h
  · rw [h]; exact hL
  · rw [h]; exact o1
  · rw [h]; exact o3
  · rw [h]; exact o4
  · exact h
theorem gxV {b q0 ci : Nat} {fs : List Value} {T : u_T} {N : Nat} (F : CallFix p m c cc nL s args gT own) (hM : gX l G y bytes n ret rm (.ref b :: As) wc th rv w1 mc ms) (ok : gOkV y bytes n ret k) (hL : Cond.methodLink own idx y ∈ gT)
    (hrc : rm.cells = mc) (hrs : rm.slots = ms) (hR : rm.frames + 1 ≤ R.frames ∧ 8 + (n + 11) + rm.locals ≤ R.locals)
    (hN : gEnv G s) (hSt : gSt G A s) (hK : va_K G.1 vwCl (gTy G) s) (hP : va_P G.1 vwCl ws H) (hD : va_D A ws) (hS : va_S A s.heap H locs) (hA : ∀ q, s.heap.size ≤ q → A q)
    (isC isR perm : List Nat) (hnC : va_nd isC = true) (hC : isC.map (fun i => ws[i]?) = wc.map some) (hRr : isR.map (fun i => ws[i]?) = wr.map some) (hn : va_nd isR = true) (hdis : ∀ i ∈ isR, i ∉ isC) (hnp : va_nd perm = true) (hperm : perm.map (fun i => (wr ++ w1)[i]?) = ws'.map some) (hperm0 : perm.map (fun i => (wr ++ wc)[i]?) = ws.map some)
    (hq : ws[q0]? = some (b, .inr (ci, fs))) (hci : vwCl[ci]? = some (y.cls, T, N)) (hlen : As.length = k) (hst : st0 = As.reverse ++ .ref b :: rest) (hls : ls.size = nL) (hW : (rest.map fun v => v.category).sum ≤ 8) (hdg : decode cc pc = .ok (.invokevirtual idx, 3)) (hcs : cells + mc ≤ R.cells ∧ slots + ms ≤ R.slots)
    (kk : th = none → ∀ (H : Heap) (locs : List Loc), va_P G.1 vwCl ws' H → va_D A ws' → va_S A s.heap H locs → W p l e R s m args below meth c H locs (cells + mc) (slots + ms) Q (F0 m (pc + 3) ls (rv.toList ++ rest)))
    (kx : ∀ (E : String) (ce : Cell) (q : Addr) (H : Heap) (locs : List Loc), th = some E → va_P G.1 vwCl ws H → va_D A ws → va_S A s.heap H locs → H[q]? = some ce → ce.vm = .none → s.vm.findClass E = some ce.cls → vx_W p l e R s m args below meth c H locs (cells + mc) (slots + ms) Q (F0 m pc ls rest) q) : W p l e R s m args below meth c H locs cells slots Q (F0 m pc ls st0) := by
  obtain ⟨⟨o1, o2, o3, o4⟩, o5⟩ := ok
  have hts := F.2.2.2.2
  have hPc := hP.sub (ws' := wc) isC (gFm hC)
  have hDc := hD.sub (ws' := wc) isC hnC hC
  refine gxCont (As := .ref b :: As) (vx_runV (C := y.cls) (As := As) (rest := rest) F (hM H.size) (cwV k hts (gG_in (ws := wsV own idx y.cls y (Cond.code y bytes n ret :: gT)) ?_) rfl hrc hrs ⟨rfl, o5⟩ hR) ⟨gPx_blind, va_recv hK hP hci hq, fun U hU hW9 => ⟨rfl, by rw [hU], by rw [hU]; exact hPc, va_K.moved hW9.alike hK, hDc.weaken (fun _ _ _ _ => trivial), hN.warm hW9, hSt.at hD hS hA isC hC hU hW9.alike⟩⟩ rfl hlen hls hst (lv_room hW) hdg hcs) hP hD hS hA isC isR perm hC hRr hn hdis hnp hperm hperm0 kk kx
  intro w hw
  simp only [wsV, List.mem_append, List.mem_cons, List.not_mem_nil, or_false] at hw
  rcases hw with (h | h | h | h) | h | h
  · rw [h]; exact hL
  · rw [h]; exact o1
  · rw [h]; exact o2
  · rw [h]; exact o3
  · rw [h]; exact o4
  · exact h
end gThrow
