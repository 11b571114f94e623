/-! OWN BASE 5: a constructor: it leaves its cells and new ones, whose addresses are found at the call -/
def gCQ (G : gG) (w1 : (Nat → Nat) → va_W) (A : Nat → Prop) : Array Value → State → Outcome → State → Prop := fun a st oc t => ∃ g : Nat → Nat, gQ G none (w1 g) A a st oc t
def gC (l : Launch) (G : gG) (y : MethodName) (bytes : ByteArray) (n : Nat) (rm : Room) (as : List Value) (ws : va_W) (w1 : (Nat → Nat) → va_W) (mc ms : Nat) : Prop :=
  ∀ sz : Nat, Met l y (Cond.code y bytes n none :: gT) rm (gPx G as ws sz) (gCQ G w1 (va_A ws sz)) mc ms (va_A ws sz)
def gOkI (y : MethodName) (b : ByteArray) (n : Nat) (k : Nat) : Prop := (Cond.instanceMethod y ∈ gT ∧ Cond.initialized y.cls ∈ gT ∧ Cond.code y b n none ∈ gT) ∧ y.name = "<init>" ∧ (y.cls ≠ "java/lang/invoke/MethodHandle" ∧ y.cls ≠ "java/lang/invoke/VarHandle" ∧ (parseMethodDescriptor y.desc).map (fun d => d.parameters.length) = some k)
section gcRows
variable {p : Program} {l : Launch} {e : Env} {R : Room} {s : State} {m : MethodId} {args : Array Value} {below : List Frame} {meth : Method} {c : Code} {H : Heap} {locs : List Loc} {cells slots : Nat} {Q : State → Prop} {G : gG}
variable {y : MethodName} {bytes cc : ByteArray} {n nL k mc ms idx pc : Nat} {rm : Room} {as As rest st0 : List Value} {ws wc wr : va_W} {w1 ws' : (Nat → Nat) → va_W} {own : String} {A : Nat → Prop} {ls : Array Slot}
theorem gcBegin (hy : plainFor y = true) (hn : (lg_sl as).length ≤ n)
    (body : ∀ (p : Program) (e : Env) (s : State) (m : MethodId) (args : Array Value) (below : List Frame) (meth : Method) (c : Code) (A : Nat → Prop), CallFix p m c bytes n s args gT y.cls → meth.sig.returnType = none → meth.locks = false → meth.name = y.name → gEnv G s → gSt G A s → va_K G.1 vwCl (gTy G) s → va_P G.1 vwCl ws s.heap → va_D A ws → (∀ q : Nat, s.heap.size ≤ q → A q) → va_S A s.heap s.heap [] → ∀ ls, lv_has ls n (lv_args 0 as) →
      W p l e rm s m args below meth c s.heap [] 0 0 (MQ below (gCQ G w1 A) args s mc ms A) (F0 m 0 ls [])) : gC l G y bytes n rm as ws w1 mc ms := by
  intro sz
  refine gOfW (cc := bytes) (maxL := n) (ret := none) hy rfl ?_
  intro p e s m args below meth c s₁ B hml hv
  obtain ⟨rfl, hsz, hP, hK, hD0, hN, hSt⟩ := hv
  have hts0 := atoms_spec (ws := Cond.code y bytes n none :: gT) B.pre
  subst hsz
  have hD := hD0.self (sz := s.heap.size)
  have hl := lv_entry as (n := n) hn
  rw [lg_entry_eq]
  exact body p e s m _ below meth c _ ⟨B.exec, B.bytes, hml, findClass_of_methodNamed B.named, fun w h => hts0 w (List.mem_cons_of_mem _ h)⟩ B.returns B.notSynchronized (name_of_methodNamed B.named B.method).1 hN hSt hK hP hD (fun q h => Or.inr h) va_S.rf _ hl
theorem gcOf {f : JFrame} {u1 : va_W} (g : Nat → Nat) (hw : w1 g = u1) (kk : W p l e R s m args below meth c H locs cells slots (MQ below (gQ G none u1 A) args s mc ms A) f) : W p l e R s m args below meth c H locs cells slots (MQ below (gCQ G w1 A) args s mc ms A) f := by
  subst hw
  intro T hT X
  obtain ⟨t, a1, o, b1, b2, b3, b4⟩ := kk T hT X
  exact ⟨t, a1, o, b1, b2, ⟨g, b3⟩, b4⟩
theorem gcCont (hr : va_Run p l e R s m args below meth c H locs cells slots mc ms (F0 m pc ls st0) rest (fun st oc t => gCQ G w1 (va_A wc H.size) As.toArray st oc t) (va_A wc H.size)) (hP : va_P G.1 vwCl ws H) (hD : va_D A ws) (hS : va_S A s.heap H locs) (hA : ∀ q, s.heap.size ≤ q → A q)
    (isC isR perm : List Nat) (hC : isC.map (fun i => ws[i]?) = wc.map some) (hRr : isR.map (fun i => ws[i]?) = wr.map some) (hn : va_nd isR = true) (hdis : ∀ i ∈ isR, i ∉ isC) (hnp : va_nd perm = true) (hperm : ∀ v : Nat → Nat, perm.map (fun i => (wr ++ w1 v)[i]?) = (ws' v).map some)
    (kk : ∀ (v : Nat → Nat) (H : Heap) (locs : List Loc), va_P G.1 vwCl (ws' v) H → va_D A (ws' v) → va_S A s.heap H locs → W p l e R s m args below meth c H locs (cells + mc) (slots + ms) Q (F0 m (pc + 3) ls rest)) : W p l e R s m args below meth c H locs cells slots Q (F0 m pc ls st0) := by
  intro T hT X
  have hF := va_free (wc := wc) hD hS hA isC hC
  obtain ⟨v, st₀, t, T', L, h0, X', hL, e1, e2, ⟨v9, ⟨hv, hP1, -, hD1⟩, hF1⟩, st⟩ := hr T hT X
  cases hv
  obtain ⟨k1, k2, k3⟩ := vx_keep h0 e1 hS (fun q _ h => hF q h) hF hL hF1
  rw [← e1] at hP1
  obtain ⟨hP2, hD2⟩ := va_join (wr := wr) (w1 := w1 v9) hP hD isC isR hC hRr hn hdis k2 hF hP1 hD1
  obtain ⟨t2, a1, b1⟩ := kk v9 T'.heap (locs ++ L) (hP2.sub perm (gFm (hperm v9))) (hD2.sub perm hnp (hperm v9)) k3 T' rfl X'
  exact ⟨t2, st t2 a1, b1⟩
theorem gcI {b : Nat} (F : CallFix p m c cc nL s args gT own) (hM : gC l G y bytes n rm (.ref b :: As) wc w1 mc ms) (ok : gOkI y bytes n k) (hL : Cond.methodLink own idx y ∈ gT)
    (hrc : rm.cells = mc) (hrs : rm.slots = ms) (hR : rm.frames + 1 ≤ R.frames ∧ 8 + (n + 11) + rm.locals ≤ R.locals)
    (hN : gEnv G s) (hSt : gSt G A s) (hK : va_K G.1 vwCl (gTy G) s) (hP : va_P G.1 vwCl ws H) (hD : va_D A ws) (hS : va_S A s.heap H locs) (hA : ∀ q, s.heap.size ≤ q → A q)
    (isC isR perm : List Nat) (hnC : va_nd isC = true) (hC : isC.map (fun i => ws[i]?) = wc.map some) (hRr : isR.map (fun i => ws[i]?) = wr.map some) (hn : va_nd isR = true) (hdis : ∀ i ∈ isR, i ∉ isC) (hnp : va_nd perm = true) (hperm : ∀ v : Nat → Nat, perm.map (fun i => (wr ++ w1 v)[i]?) = (ws' v).map some)
    (hlen : As.length = k) (hst : st0 = As.reverse ++ .ref b :: rest) (hls : ls.size = nL) (hW : (rest.map fun v => v.category).sum ≤ 8) (hdg : decode cc pc = .ok (.invokespecial idx, 3)) (hcs : cells + mc ≤ R.cells ∧ slots + ms ≤ R.slots)
    (kk : ∀ (v : Nat → Nat) (H : Heap) (locs : List Loc), va_P G.1 vwCl (ws' v) H → va_D A (ws' v) → va_S A s.heap H locs → W p l e R s m args below meth c H locs (cells + mc) (slots + ms) Q (F0 m (pc + 3) ls rest)) : W p l e R s m args below meth c H locs cells slots Q (F0 m pc ls st0) := by
  obtain ⟨⟨o1, o3, o4⟩, o5, o6⟩ := ok
  have hts := F.2.2.2.2
  have hPc := hP.sub (ws' := wc) isC (gFm hC)
  have hDc := hD.sub (ws' := wc) isC hnC hC
  exact gcCont (As := .ref b :: As) (va_runI (As := As) (rest := rest) F (hM H.size) ⟨callB_of k hts (gG_code o4) rfl hrc hrs (hts _ o3) (hts _ hL) o6 hR, o5, hts _ o1⟩ ⟨gPx_blind, fun U hU hW9 => ⟨rfl, by rw [hU], by rw [hU]; exact hPc, va_K.moved hW9.alike hK, hDc.weaken (fun _ _ _ _ => trivial), hN.warm hW9, hSt.at hD hS hA isC hC hU hW9.alike⟩⟩ rfl hlen hls hst (lv_room hW) hdg hcs) hP hD hS hA isC isR perm hC hRr hn hdis hnp hperm kk
theorem gcIN {b : Nat} {host : String} (F : CallFix p m c cc nL s args gT own) (hM : gC l G y bytes n rm (.ref b :: As) wc w1 mc ms) (ok : gOkI y bytes n k) (hL : (own, idx, y, host) ∈ gNest)
    (hrc : rm.cells = mc) (hrs : rm.slots = ms) (hR : rm.frames + 1 ≤ R.frames ∧ 8 + (n + 11) + rm.locals ≤ R.locals)
    (hN : gEnv G s) (hSt : gSt G A s) (hK : va_K G.1 vwCl (gTy G) s) (hP : va_P G.1 vwCl ws H) (hD : va_D A ws) (hS : va_S A s.heap H locs) (hA : ∀ q, s.heap.size ≤ q → A q)
    (isC isR perm : List Nat) (hnC : va_nd isC = true) (hC : isC.map (fun i => ws[i]?) = wc.map some) (hRr : isR.map (fun i => ws[i]?) = wr.map some) (hn : va_nd isR = true) (hdis : ∀ i ∈ isR, i ∉ isC) (hnp : va_nd perm = true) (hperm : ∀ v : Nat → Nat, perm.map (fun i => (wr ++ w1 v)[i]?) = (ws' v).map some)
    (hlen : As.length = k) (hst : st0 = As.reverse ++ .ref b :: rest) (hls : ls.size = nL) (hW : (rest.map fun v => v.category).sum ≤ 8) (hdg : decode cc pc = .ok (.invokespecial idx, 3)) (hcs : cells + mc ≤ R.cells ∧ slots + ms ≤ R.slots)
    (kk : ∀ (v : Nat → Nat) (H : Heap) (locs : List Loc), va_P G.1 vwCl (ws' v) H → va_D A (ws' v) → va_S A s.heap H locs → W p l e R s m args below meth c H locs (cells + mc) (slots + ms) Q (F0 m (pc + 3) ls rest)) : W p l e R s m args below meth c H locs cells slots Q (F0 m pc ls st0) := by
  obtain ⟨⟨o1, o3, o4⟩, o5, o6⟩ := ok
  have hts := F.2.2.2.2
  have hPc := hP.sub (ws' := wc) isC (gFm hC)
  have hDc := hD.sub (ws' := wc) isC hnC hC
  exact gcCont (As := .ref b :: As) (va_runIN (As := As) (rest := rest) (host := host) F (hM H.size) ⟨va_cnB k hts (gG_code o4) rfl hrc hrs (hN.1 _ hL) (hts _ o3) o6 hR, o5, hts _ o1⟩ ⟨gPx_blind, fun U hU hW9 => ⟨rfl, by rw [hU], by rw [hU]; exact hPc, va_K.moved hW9.alike hK, hDc.weaken (fun _ _ _ _ => trivial), hN.warm hW9, hSt.at hD hS hA isC hC hU hW9.alike⟩⟩ rfl hlen hls hst (lv_room hW) hdg hcs) hP hD hS hA isC isR perm hC hRr hn hdis hnp hperm kk
end gcRows
