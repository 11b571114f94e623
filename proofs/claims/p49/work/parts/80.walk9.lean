/-! THE REFUTATION -/
/-- the whole of one computer's run, as numbers -/
def kfun (x : Int32) : Option (Int32 × Cz) :=
  if (fz1 (fz1 x).2).1 = 35628 then
    if (f_X7_next (gIter fz1 64 x) 8).1 = 0 ∧ (f_X7_next (f_X7_next (gIter fz1 64 x) 8).2 32).1 = 1 ∧ 10 < (f_X7_next (f_X7_next (f_X7_next (f_X7_next (f_X7_next (gIter fz1 64 x) 8).2 32).2 65536).2 16).2 13).1.toInt then
      ((runz (nxp (f_X7_next (f_X7_next (f_X7_next (f_X7_next (f_X7_next (gIter fz1 64 x) 8).2 32).2 65536).2 16).2 13).2).1.toNatClampNeg (0, 400, 400, 1000000, 0, 400)).map (fun z => ((nxp (f_X7_next (f_X7_next (f_X7_next (f_X7_next (f_X7_next (gIter fz1 64 x) 8).2 32).2 65536).2 16).2 13).2).2, z))).bind (itzN 39)
    else none
  else none
theorem kfun_q {x : Int32} {w9 : Int32 × Cz} (h : kfun x = some w9) : (fz1 (fz1 x).2).1 = 35628 ∧ ∀ dd, dd = gIter fz1 64 x → kq dd w9 := by
  unfold kfun at h
  by_cases c1 : (fz1 (fz1 x).2).1 = 35628
  · rw [if_pos c1] at h
    refine ⟨c1, fun dd hd => ?_⟩
    rw [← hd] at h
    by_cases c2 : (f_X7_next dd 8).1 = 0 ∧ (f_X7_next (f_X7_next dd 8).2 32).1 = 1 ∧ 10 < (f_X7_next (f_X7_next (f_X7_next (f_X7_next (f_X7_next dd 8).2 32).2 65536).2 16).2 13).1.toInt
    · rw [if_pos c2] at h
      obtain ⟨y, h1, h2⟩ := Option.bind_eq_some_iff.mp h
      exact ⟨c2.1, c2.2.1, c2.2.2, y.1, y.2, h1, h2⟩
    · rw [if_neg c2] at h
      cases h
  · rw [if_neg c1] at h
    cases h
set_option maxRecDepth 100000 in
theorem ev1 : (kfun 1821250349).map (fun w => w.2.1 / 32) = some 589 := by decide +kernel
theorem ev9 : ∃ w9 : Int32 × Cz, kfun 1821250349 = some w9 ∧ w9.2.1 / 32 = 589 := Option.map_eq_some_iff.mp ev1
/-! A sum over a list of which n places hold c -/
theorem sum_set0 : ∀ (L : List Nat) (i v : Nat), L[i]? = some v → (L.set i 0).sum + v = L.sum
  | [], i, v, h => by simp at h
  | x :: L, 0, v, h => by
    have e : x = v := by simpa using h
    rw [List.set_cons_zero, List.sum_cons, List.sum_cons, e]
    omega
  | x :: L, i + 1, v, h => by
    have e := sum_set0 L i v (by simpa using h)
    rw [List.set_cons_succ, List.sum_cons, List.sum_cons]
    omega
theorem sum_lb (c : Nat) : ∀ (n : Nat) (L : List Nat) (f : Nat → Nat), (∀ i j, i < n → j < n → f i = f j → i = j) → (∀ i, i < n → L[f i]? = some c) → c * n ≤ L.sum
  | 0, L, f, _, _ => by rw [Nat.mul_zero]; exact Nat.zero_le _
  | n + 1, L, f, hi, hv => by
    have h := sum_set0 L (f n) c (hv n (by omega))
    have ih := sum_lb c n (L.set (f n) 0) f (fun i j a b e => hi i j (by omega) (by omega) e) (fun i a => by
      rw [List.getElem?_set_ne (fun e => by have := hi n i (by omega) (by omega) e; omega)]
      exact hv i (by omega))
    rw [Nat.mul_succ]
    omega
theorem va_at_sz {D : va_G} {cl : List vw_C} {q : Nat × va_E} {c n : Nat} {f : Nat → Int32} {H : Heap} (h : va_at D cl q H) (hq : q.2 = .inl (c, n, .inl f)) : ∃ cell : Cell, H[q.1]? = some cell ∧ cell.slots.size = n := by
  unfold va_at at h
  rw [hq] at h
  exact ⟨_, h, arrV_size c n _⟩
theorem tail_sum {G : gG} {b n : Nat} {e0 : va_E} {s t : State} {tl : va_W} (hg : gGb G tl) (hn : tl.length = n) (hP : va_P G.1 vwCl ([(b, e0)] ++ tl) t.heap) (hD : va_D (fun q => q = b ∨ s.heap.size ≤ q) ([(b, e0)] ++ tl)) : 640 * n ≤ ((t.heap.toList.drop s.heap.size).map (·.slots.size)).sum := by
  have hq : ∀ i, i < n → ∃ q : Nat × va_E, tl[i]? = some q ∧ s.heap.size ≤ q.1 ∧ ∃ cell : Cell, t.heap[q.1]? = some cell ∧ cell.slots.size = 640 := by
    intro i hi
    have hs : i < tl.length := by omega
    refine ⟨tl[i], List.getElem?_eq_getElem hs, ?_, ?_⟩
    · have h1 : ([(b, e0)] ++ tl)[i + 1]? = some tl[i] := by
        rw [List.singleton_append, List.getElem?_cons_succ]
        exact List.getElem?_eq_getElem hs
      rcases hD.2 (i + 1) _ h1 with h | h
      · exact absurd (hD.1 0 (i + 1) (b, e0) _ rfl h1 h.symm) (by omega)
      · exact h
    · have h1 : ([(b, e0)] ++ tl)[i + 1]? = some tl[i] := by
        rw [List.singleton_append, List.getElem?_cons_succ]
        exact List.getElem?_eq_getElem hs
      obtain ⟨bits, hb⟩ := hg _ (List.getElem_mem hs)
      exact va_at_sz (hP (i + 1) _ h1) hb
  have hf : ∀ i, i < n → ∃ a, tl[i]?.map (·.1) = some a ∧ s.heap.size ≤ a ∧ ∃ cell : Cell, t.heap[a]? = some cell ∧ cell.slots.size = 640 := by
    intro i hi
    obtain ⟨q, h1, h2, h3⟩ := hq i hi
    exact ⟨q.1, by rw [h1]; rfl, h2, h3⟩
  refine sum_lb 640 n _ (fun i => (tl[i]?.map (·.1)).getD 0 - s.heap.size) (fun i j hi hj e => ?_) (fun i hi => ?_)
  · obtain ⟨q, h1, h2, -⟩ := hq i hi
    obtain ⟨r, g1, g2, -⟩ := hq j hj
    have e' : q.1 - s.heap.size = r.1 - s.heap.size := by
      have e9 : (tl[i]?.map (·.1)).getD 0 - s.heap.size = (tl[j]?.map (·.1)).getD 0 - s.heap.size := e
      rw [h1, g1] at e9
      exact e9
    have e2 : q.1 = r.1 := by omega
    have k1 : ([(b, e0)] ++ tl)[i + 1]? = some q := by
      rw [List.singleton_append, List.getElem?_cons_succ]
      exact h1
    have k2 : ([(b, e0)] ++ tl)[j + 1]? = some r := by
      rw [List.singleton_append, List.getElem?_cons_succ]
      exact g1
    have := hD.1 (i + 1) (j + 1) q r k1 k2 e2
    omega
  · obtain ⟨a, h1, h2, cell, h3, h4⟩ := hf i hi
    show ((t.heap.toList.drop s.heap.size).map (·.slots.size))[(tl[i]?.map (·.1)).getD 0 - s.heap.size]? = some 640
    rw [h1]
    show ((t.heap.toList.drop s.heap.size).map (·.slots.size))[a - s.heap.size]? = some 640
    rw [List.getElem?_map, List.getElem?_drop, show s.heap.size + (a - s.heap.size) = a by omega, Array.getElem?_toList, h3]
    show some cell.slots.size = some 640
    rw [h4]
/-- a room in which the walk goes to its end -/
def R9 : Room := { frames := 40, cells := 200000, slots := 9400000, locals := 3000 }
/-- the script: three times 1821250349 -/
def lw_P9 (b cI : Nat) (args : Array Value) (s : State) : Prop := args = #[Value.ref b] ∧ (Jvm.Cond.and given_1 narrow_1).before args s = true ∧ s.vm.findClass "[I" = some cI ∧ s.heap[b]? = some (vp_cell cI (3, .inl (fun _ => 1821250349)))
def lw_Q9 (_ : Array Value) (s : State) (o : Outcome) (t : State) : Prop := o = .returned (some (.int 0)) ∨ (o = .returned (some (.int 1)) ∧ 9047040 ≤ ((t.heap.toList.drop s.heap.size).map (·.slots.size)).sum)
set_option maxRecDepth 100000 in
set_option maxHeartbeats 4000000 in
theorem walk9 (l : Launch) (hflags : l.flags = flags0) (b cI : Nat) : MetFree l x (headSpec (Jvm.Cond.code x code maxLocals ret :: tables_1) R9) (lw_P9 b cI) (fun _ _ _ _ _ => True) lw_Q9 := by
  refine MetFree.of_bodyS (code := code) (maxLocals := maxLocals) (ret := ret) (by decide) ?_ ?_
  · intro args s m h hn
    obtain ⟨meth, c, h1, h2, h3, h4, h5, h6, -, -⟩ := Cond.code_spec hn (atoms_spec (ws := Jvm.Cond.code x code maxLocals ret :: tables_1) h _ List.mem_cons_self)
    exact ⟨meth, c, h1, h2, h3, h4, h5, h6⟩
  · intro p e s m args below meth c s₁ B hml0 hP9 _
    obtain ⟨rfl, hgv, hI, hcell⟩ := hP9
    have hfl : l.stackTraces = false := by
      unfold Launch.stackTraces
      rw [hflags]
      decide +kernel
    have hown : s.vm.findClass RL = some m.cls := findClass_of_methodNamed B.named
    have hts0 : ∀ c ∈ (Jvm.Cond.code x code maxLocals ret :: tables_1), c.before #[Value.ref b] s = true := atoms_spec (ws := Jvm.Cond.code x code maxLocals ret :: tables_1) B.pre
    have htl : ∀ w ∈ lw_tbl, w.before #[Value.ref b] s = true := k2_hts_sels lw_privs (fun w hw => hts0 w (List.mem_cons_of_mem _ hw)) lw_privs_ok
    have hts : ∀ w ∈ gT, w.before #[Value.ref b] s = true := fun w h => htl w (List.mem_filter.mp h).1
    have hml : c.maxLocals = 11 := B.maxLocals_eq (hts0 _ List.mem_cons_self)
    have X₀ : Stand p l e R9 s m #[Value.ref b] below meth c s₁ [] 0 0 := Stand.of_body B
    have hh0 : s₁.heap = s.heap := by rw [B.state]; rfl
    have hb : c.code = code := B.bytes
    have hlocks : meth.locks = false := B.notSynchronized
    have hr : meth.sig.returnType = some .boolean := B.returns
    have hstat : ∀ cell, s.heap[b]? = some cell → cell.vm.isStatics = false := fun cell h => by
      rw [hcell] at h
      cases h
      rfl
    obtain ⟨D, cs, hcs, hK0⟩ := k_of hts (htl _ (tb3 (i := 91) (by decide +kernel))) (htl _ (tb3 (i := 93) (by decide +kernel))) hI
    obtain ⟨f, hSt0⟩ := st_of (b := b) htl hgv hstat
    have hN0 := env_of htl (hK0 f).2
    obtain ⟨G, eG⟩ : ∃ G : gG, G = (D, cs, f) := ⟨_, rfl⟩
    have hK : va_K G.1 vwCl (gTy G) s := by
      rw [eG]
      exact (hK0 f).1
    have hN : gEnv G s := by
      rw [eG]
      exact hN0
    have hSt : gSt G (fun q => q = b ∨ s.heap.size ≤ q) s := by
      rw [eG]
      exact hSt0 D cs
    have hG1 : G.2.1.1 = cI := by
      rw [eG]
      exact hcs
    clear eG hSt0 hK0 hN0
    have hF : CallFix p m c cL_law 11 s #[Value.ref b] gT RL := ⟨B.exec, hb, hml, hown, hts⟩
    have hA : ∀ q : Nat, s.heap.size ≤ q → (fun q : Nat => q = b ∨ s.heap.size ≤ q) q := fun _ h => Or.inr h
    have hS : va_S (fun q : Nat => q = b ∨ s.heap.size ≤ q) s.heap s.heap [] := va_S.rf
    have hP : va_P G.1 vwCl [(b, .inl (G.2.1.1, 3, .inl (fun _ => 1821250349)))] s.heap := fun k q h => by
      match k, h with
      | 0, h =>
        cases h
        show s.heap[b]? = some (vp_cell G.2.1.1 (3, .inl (fun _ => 1821250349)))
        rw [hG1]
        exact hcell
      | k + 1, h => simp at h
    have hD : va_D (fun q : Nat => q = b ∨ s.heap.size ≤ q) [(b, .inl (G.2.1.1, 3, .inl (fun _ => 1821250349)))] := ⟨fun i j p q hi hj _ => by
      have a : i = 0 := by
        match i, hi with
        | 0, _ => rfl
        | i + 1, hi => simp at hi
      have b : j = 0 := by
        match j, hj with
        | 0, _ => rfl
        | j + 1, hj => simp at hj
      rw [a, b], fun k q h => by
      match k, h with
      | 0, h =>
        cases h
        exact Or.inl rfl
      | k + 1, h => simp at h⟩
    have K : W p l e R9 s m #[Value.ref b] below meth c s₁.heap [] 0 0 (MQ below lw_Q9 #[Value.ref b] s R9.cells R9.slots (fun q : Nat => q = b ∨ s.heap.size ≤ q)) (entryFrame m ([Value.ref b] : List Value).toArray 11) := by
      rw [hh0]
      have hl := lv_entry ([.ref b]) (n := 11) (Nat.le_of_ble_eq_true rfl)
      rw [lg_entry_eq]
      generalize (lg_sl ([.ref b]) ++ List.replicate (11 - (lg_sl ([.ref b])).length) Slot.unset).toArray = ls at hl ⊢
      replace hl : lv_has ls 11 [(0, .ref b)] := hl
      have hx : p.tables.exec = Jvm.exec := B.exec
      have hb9 : c.code = cL_law := hb
      refine lv_iconst (v := nI 0) hx hb9 dL_law_0 (by decide) ?_
      refine lv_istore_n (lv' := [(1, .int (nI 0)), (0, .ref b)]) hx hb9 dL_law_1 rfl hl (by decide) rfl (fun ls hl => ?_)
      obtain ⟨w9, h1, h2⟩ := ev9
      refine law_ks (w9 := w9) (aa := b) (scr := fun _ => 1821250349) (A := fun q : Nat => q = b ∨ s.heap.size ≤ q) hF ⟨by decide, by decide⟩ hN hK hA hfl hSt h2 (fun _ _ => (kfun_q h1).1) (fun _ _ => (kfun_q h1).2) ?_ ?_ 3 0 0 0 [] rfl (by decide) (by decide) gGb.nil rfl s.heap [] hP hD hS ls (lv_sub hl [1, 0] rfl)
      · intro q C1 S1 hd hc hs H locs hS ls hl
        exact W.widen hc hs (W.zret hx hb9 hr rfl (fun t ht hW => Or.inl rfl) hS.2.2 hd hlocks)
      · intro tl C1 S1 hc hs hg hn H locs hP hD hS ls
        exact W.widen hc hs (W.zret hx hb9 hr rfl (fun t ht hW => Or.inr ⟨rfl, by
          rw [← ht] at hP
          have q := tail_sum (s := s) (t := t) hg hn hP hD
          omega⟩) hS.2.2 dL_law_389 hlocks)
    obtain ⟨t, a1, o, b1, b2, b3, -⟩ := K s₁ rfl X₀
    exact ⟨t, o, a1, b1, b2, b3⟩
set_option maxRecDepth 100000 in
/-- the claim's second limb falls at a start with this script, where there is room enough for the walk: the law answers 0, or it has made more slots than the frame allows -/
theorem p49_refuted_at {p : Program} {e : Env} {s : State} {m : MethodId} {below : List Frame} {b cI : Nat} (hA : AtStart classFile x code maxLocals ret World_1 tables_1 room_1 Calls_1 rest_1 Pre_1 launch0 p e s m #[Value.ref b] below) (hR : s.hasRoom e.platform R9 = true) (hI : s.vm.findClass "[I" = some cI) (hcell : s.heap[b]? = some (vp_cell cI (3, .inl (fun _ => 1821250349)))) : RefutedClaimed_1_2 := by
  have hA0 := hA
  obtain ⟨hL, hW, ha, hle, hc, hk, hf, hfit, hheap, happ, hcl, hre, hpre⟩ := hA
  have hfl : launch0.flags = flags0 := rfl
  have happ9 : (headSpec (Jvm.Cond.code x code maxLocals ret :: tables_1) R9).applies x e.platform s = true := by
    obtain ⟨g1, g2, g3, g4, g5, g6, g7, g8⟩ := (Spec.applies_iff hf).mp happ
    exact (Spec.applies_iff hf).mpr ⟨g1, g2, g3, g4, g5, g6, hR, g8⟩
  obtain ⟨n, o, w, r, e', q⟩ := walk9 launch0 hfl b cI p e ha hc hk s m _ below hf ((Spec.applies_iff_loose hf).mp happ9).1 ⟨rfl, hpre, hI, hcell⟩ trivial
  refine ⟨launch0, p, e, s, m, _, below, hfl, hA0, n, o, w, r, e', ?_⟩
  rintro ⟨q2, f2⟩
  rcases q with q | ⟨q, hs⟩
  · rw [q] at q2
    have h : limb_1_2.after #[Value.ref b] s (.returned (some (.int 0))) (stepsAlone p.tables e n s) = true := q2
    have h0 := Cond.after_iff.mp h
    rw [show limb_1_2 = Cond.eq .result (.int 1) from rfl, Cond.eq_ints (x := 0) (y := 1) rfl rfl] at h0
    exact absurd (Option.some.inj h0) (by decide)
  · obtain ⟨-, -, -, -, -, -, hsum, -⟩ := f2
    have h9 := Nat.le_trans hs hsum
    exact absurd h9 (by decide)
/-- a claim that falls at one start isn't true: an invocation ends once, and in one way -/
theorem falls_not {fl : List String} {file : ClassFile.Facts.File} {x : MethodName} {code : ByteArray} {maxLocals : Nat} {ret : Option ClassFile.FieldType} {World : Launch → Prop} {ts : List Cond} {room : Room} {calls rest Pre : Tables → Env → Array Value → State → Prop} {Post : Tables → Env → Array Value → State → Outcome → State → Prop} (h : FallsFor fl file x code maxLocals ret World ts room calls rest Pre Post) : ¬ ArmFor fl file x code maxLocals ret World ts room calls rest Pre Post := by
  intro c
  obtain ⟨l, p, e, s, m, args, below, hfl, ⟨hL, hW, ha, hle, hc, hk, hf, hfit, hheap, happ, hcl, hre, hpre⟩, n, o, w, r, e', hq⟩ := h
  obtain ⟨n1, o1, w1, r1, e1, q1⟩ := c l hfl hL hW p e ha hc hk s m args below hf hfit hheap happ ⟨hcl, hre, hpre⟩
  have a1 : n1 = n := Nat.le_antisymm (Nat.le_of_not_lt fun h => e'.not_within (w1 n h)) (Nat.le_of_not_lt fun h => e1.not_within (w n1 h))
  subst a1
  have eo : o1 = o := e1.outcome_unique e'
  subst eo
  exact hq q1
