section
-- ===== PART A: goes FIRST, ahead of the names: the tables' words, and 'selects' of the private methods out of them =====
/-- a private method of a class that the tables say can be made, by its rows of tables_1 -/
def lw_okq (q : MethodName × Nat) : Prop := (q.1.cls ≠ "java/lang/invoke/MethodHandle" ∧ q.1.cls ≠ "java/lang/invoke/VarHandle") ∧ Cond.instantiable q.1.cls q.2 ∈ tables_1 ∧ Cond.privateMethod q.1 ∈ tables_1 ∧ Cond.instanceMethod q.1 ∈ tables_1
theorem lw_p0 : lw_okq (⟨"java/lang/Throwable", "fillInStackTrace", "(I)Ljava/lang/Throwable;"⟩, 6) := ⟨⟨by decide +kernel, by decide +kernel⟩, List.mem_of_getElem? (i := 300) (by decide +kernel), List.mem_of_getElem? (i := 298) (by decide +kernel), List.mem_of_getElem? (i := 299) (by decide +kernel)⟩
theorem lw_p1 : lw_okq (⟨"DelayLineStore", "requireReady", "()V"⟩, 8) := ⟨⟨by decide +kernel, by decide +kernel⟩, List.mem_of_getElem? (i := 34) (by decide +kernel), List.mem_of_getElem? (i := 362) (by decide +kernel), List.mem_of_getElem? (i := 363) (by decide +kernel)⟩
theorem lw_p2 : lw_okq (⟨"DelayLineStore$Computer", "executeNext", "()V"⟩, 12) := ⟨⟨by decide +kernel, by decide +kernel⟩, List.mem_of_getElem? (i := 42) (by decide +kernel), List.mem_of_getElem? (i := 386) (by decide +kernel), List.mem_of_getElem? (i := 387) (by decide +kernel)⟩
theorem lw_p3 : lw_okq (⟨"DelayLineStore$Computer", "awaitCycle", "(I)V"⟩, 12) := ⟨⟨by decide +kernel, by decide +kernel⟩, List.mem_of_getElem? (i := 42) (by decide +kernel), List.mem_of_getElem? (i := 390) (by decide +kernel), List.mem_of_getElem? (i := 391) (by decide +kernel)⟩
theorem lw_p4 : lw_okq (⟨"DelayLineStore$Computer", "endMajorCycle", "(I)V"⟩, 12) := ⟨⟨by decide +kernel, by decide +kernel⟩, List.mem_of_getElem? (i := 42) (by decide +kernel), List.mem_of_getElem? (i := 401) (by decide +kernel), List.mem_of_getElem? (i := 402) (by decide +kernel)⟩
theorem lw_p5 : lw_okq (⟨"DelayLineStore$Computer", "isJumpTaken", "(I)Z"⟩, 12) := ⟨⟨by decide +kernel, by decide +kernel⟩, List.mem_of_getElem? (i := 42) (by decide +kernel), List.mem_of_getElem? (i := 474) (by decide +kernel), List.mem_of_getElem? (i := 475) (by decide +kernel)⟩
theorem lw_p6 : lw_okq (⟨"DelayLineStore$Computer", "perform", "(II)V"⟩, 12) := ⟨⟨by decide +kernel, by decide +kernel⟩, List.mem_of_getElem? (i := 42) (by decide +kernel), List.mem_of_getElem? (i := 478) (by decide +kernel), List.mem_of_getElem? (i := 479) (by decide +kernel)⟩
theorem lw_p7 : lw_okq (⟨"DelayLineStore$Computer", "combine", "(II)V"⟩, 12) := ⟨⟨by decide +kernel, by decide +kernel⟩, List.mem_of_getElem? (i := 42) (by decide +kernel), List.mem_of_getElem? (i := 496) (by decide +kernel), List.mem_of_getElem? (i := 497) (by decide +kernel)⟩
theorem lw_p8 : lw_okq (⟨"DelayLineStore$Computer", "putResult", "(J)V"⟩, 12) := ⟨⟨by decide +kernel, by decide +kernel⟩, List.mem_of_getElem? (i := 42) (by decide +kernel), List.mem_of_getElem? (i := 500) (by decide +kernel), List.mem_of_getElem? (i := 501) (by decide +kernel)⟩
theorem lw_p9 : lw_okq (⟨"java/util/ArrayList", "grow", "(I)[Ljava/lang/Object;"⟩, 3) := ⟨⟨by decide +kernel, by decide +kernel⟩, List.mem_of_getElem? (i := 575) (by decide +kernel), List.mem_of_getElem? (i := 741) (by decide +kernel), List.mem_of_getElem? (i := 742) (by decide +kernel)⟩
theorem lw_p10 : lw_okq (⟨"DelayLineStoreLaw$Machine", "result", "(JZ)V"⟩, 19) := ⟨⟨by decide +kernel, by decide +kernel⟩, List.mem_of_getElem? (i := 565) (by decide +kernel), List.mem_of_getElem? (i := 817) (by decide +kernel), List.mem_of_getElem? (i := 818) (by decide +kernel)⟩
theorem lw_p11 : lw_okq (⟨"java/util/ArrayList", "fastRemove", "([Ljava/lang/Object;I)V"⟩, 3) := ⟨⟨by decide +kernel, by decide +kernel⟩, List.mem_of_getElem? (i := 575) (by decide +kernel), List.mem_of_getElem? (i := 837) (by decide +kernel), List.mem_of_getElem? (i := 838) (by decide +kernel)⟩
theorem lw_p12 : lw_okq (⟨"java/util/ArrayList", "add", "(Ljava/lang/Object;[Ljava/lang/Object;I)V"⟩, 3) := ⟨⟨by decide +kernel, by decide +kernel⟩, List.mem_of_getElem? (i := 575) (by decide +kernel), List.mem_of_getElem? (i := 870) (by decide +kernel), List.mem_of_getElem? (i := 871) (by decide +kernel)⟩
theorem lw_p13 : lw_okq (⟨"java/util/ArrayList", "grow", "()[Ljava/lang/Object;"⟩, 3) := ⟨⟨by decide +kernel, by decide +kernel⟩, List.mem_of_getElem? (i := 575) (by decide +kernel), List.mem_of_getElem? (i := 874) (by decide +kernel), List.mem_of_getElem? (i := 875) (by decide +kernel)⟩
def lw_privs_1 : List (MethodName × Nat) := [(⟨"java/lang/Throwable", "fillInStackTrace", "(I)Ljava/lang/Throwable;"⟩, 6), (⟨"DelayLineStore", "requireReady", "()V"⟩, 8), (⟨"DelayLineStore$Computer", "executeNext", "()V"⟩, 12), (⟨"DelayLineStore$Computer", "awaitCycle", "(I)V"⟩, 12), (⟨"DelayLineStore$Computer", "endMajorCycle", "(I)V"⟩, 12), (⟨"DelayLineStore$Computer", "isJumpTaken", "(I)Z"⟩, 12), (⟨"DelayLineStore$Computer", "perform", "(II)V"⟩, 12), (⟨"DelayLineStore$Computer", "combine", "(II)V"⟩, 12), (⟨"DelayLineStore$Computer", "putResult", "(J)V"⟩, 12), (⟨"java/util/ArrayList", "grow", "(I)[Ljava/lang/Object;"⟩, 3), (⟨"DelayLineStoreLaw$Machine", "result", "(JZ)V"⟩, 19), (⟨"java/util/ArrayList", "fastRemove", "([Ljava/lang/Object;I)V"⟩, 3), (⟨"java/util/ArrayList", "add", "(Ljava/lang/Object;[Ljava/lang/Object;I)V"⟩, 3), (⟨"java/util/ArrayList", "grow", "()[Ljava/lang/Object;"⟩, 3)]
theorem lw_r1 : ∀ q ∈ lw_privs_1, lw_okq q := List.forall_mem_cons.mpr ⟨lw_p0, List.forall_mem_cons.mpr ⟨lw_p1, List.forall_mem_cons.mpr ⟨lw_p2, List.forall_mem_cons.mpr ⟨lw_p3, List.forall_mem_cons.mpr ⟨lw_p4, List.forall_mem_cons.mpr ⟨lw_p5, List.forall_mem_cons.mpr ⟨lw_p6, List.forall_mem_cons.mpr ⟨lw_p7, List.forall_mem_cons.mpr ⟨lw_p8, List.forall_mem_cons.mpr ⟨lw_p9, List.forall_mem_cons.mpr ⟨lw_p10, List.forall_mem_cons.mpr ⟨lw_p11, List.forall_mem_cons.mpr ⟨lw_p12, List.forall_mem_cons.mpr ⟨lw_p13, fun _ h => absurd h List.not_mem_nil⟩⟩⟩⟩⟩⟩⟩⟩⟩⟩⟩⟩⟩⟩
def lw_privs : List (MethodName × Nat) := lw_privs_1
def lw_tbl : List Cond := k2_sels lw_privs ++ tables_1
theorem lw_privs_ok : ∀ q ∈ lw_privs, lw_okq q := lw_r1
end
section
/-! OWN: arrays of arrays: what the tables say of them -/
def va_AOA (ty : FieldType) (U : State) : Prop := (Cond.arrayOver (.array ty)).before #[] U = true
theorem va_AOA.of {ty : FieldType} {A : Array Value} {U : State} (h : (Cond.arrayOver (.array ty)).before A U = true) : va_AOA ty U := h
theorem va_AOA.use {ty : FieldType} {A : Array Value} {U : State} (h : va_AOA ty U) : (Cond.arrayOver (.array ty)).before A U = true := h
end
section
/-! ===== BEGIN words of one list among another's, by their places ===== -/
theorem goodIn_r {big : List Cond} (ws : List Cond) (ps : List Nat) (hp : ws = ps.filterMap (fun i => big[i]?)) (h : ws.all goodWord = true) : GoodIn big ws := by
  intro w hw
  have h1 := List.all_eq_true.mp h w hw
  rw [hp] at hw
  obtain ⟨i, -, hi⟩ := List.mem_filterMap.mp hw
  have hm : w ∈ big := by first | exact List.mem_of_getElem? hi | exact List.getElem?_mem hi
  exact ⟨hm, good_of_word h1⟩
theorem goodIn_app {big a b : List Cond} (ha : GoodIn big a) (hb : GoodIn big b) : GoodIn big (a ++ b) := fun w h => (List.mem_append.mp h).elim (ha w) (hb w)
theorem goodIn_ca {big a b : List Cond} {c : Cond} (ha : GoodIn big (c :: a)) (hb : GoodIn big b) : GoodIn big (c :: (a ++ b)) := fun w h => (List.mem_cons.mp h).elim (fun e => ha w (List.mem_cons.mpr (Or.inl e))) (fun h => (List.mem_append.mp h).elim (fun h => ha w (List.mem_cons.mpr (Or.inr h))) (hb w))
theorem goodIn_sub {big ws : List Cond} (hm : ∀ w ∈ ws, w ∈ big) (h : ws.all goodWord = true) : GoodIn big ws := fun w hw => ⟨hm w hw, good_of_word (List.all_eq_true.mp h w hw)⟩
/-! ===== END ===== -/

/-! ===== BEGIN new T[n][m]: the outer array a place, the inner ones among the pooled ===== -/
/-- f, but v at every address of l -/
def vr_up {α : Type} (f : Nat → α) (l : List Nat) (v : α) : Nat → α := fun a => if a ∈ l then v else f a
theorem vr_up_in {α : Type} {f : Nat → α} {l : List Nat} {v : α} {a : Nat} (h : a ∈ l) : vr_up f l v a = v := if_pos h
theorem vr_up_ne {α : Type} {f : Nat → α} {l : List Nat} {v : α} {a : Nat} (h : a ∉ l) : vr_up f l v a = f a := if_neg h
theorem vr_rows {L l : List Nat} {f : Nat → va_E} {e : va_E} (h : ∀ a, a ∈ l → a ∉ L) : va_pl L f ++ l.map (fun a => (a, e)) = va_pl (L ++ l) (vr_up f l e) := by
  unfold va_pl
  rw [List.map_append]
  congr 1
  · apply List.map_congr_left
    intro a ha
    rw [vr_up_ne (fun q => h a q ha)]
  · apply List.map_congr_left
    intro a ha
    rw [vr_up_in ha]
theorem vr_lay {X rows : va_W} {x : Nat × va_E} {pl : va_W} {D : va_G} {cl : List vw_C} {H : Heap} (hP : va_P D cl (((X ++ pl) ++ [x]) ++ rows) H) : va_P D cl ((X ++ [x]) ++ (pl ++ rows)) H := by
  rw [List.append_assoc (X ++ pl)] at hP
  have h := va_P.swap hP
  rw [← List.append_assoc X] at h
  have h2 := va_P.swap h
  rw [List.append_assoc (X ++ [x])] at h2
  exact h2
theorem vr_layD {X rows : va_W} {x : Nat × va_E} {pl : va_W} {A : Nat → Prop} (hD : va_D A (((X ++ pl) ++ [x]) ++ rows)) : va_D A ((X ++ [x]) ++ (pl ++ rows)) := by
  rw [List.append_assoc (X ++ pl)] at hD
  have h := va_D.swap hD
  rw [← List.append_assoc X] at h
  have h2 := va_D.swap h
  rw [List.append_assoc (X ++ [x])] at h2
  exact h2
theorem vr_outer (c : ClassId) (N h0 : Nat) : ∀ i : Nat, Jvm.Free.Multi.outerC c N h0 i = arrV c N (fun j => va_rf (if j < i then some (h0 + 1 + j) else none))
  | 0 => by
    show ({ cls := c, slots := Array.replicate N .null, vm := .none } : Cell) = _
    rw [arrV_new]
    refine congrArg (arrV c N) (funext fun j => ?_)
    simp [va_rf]
  | i + 1 => by
    show (Jvm.Free.Multi.outerC c N h0 i).setSlot i (.ref (h0 + 1 + i)) = _
    rw [vr_outer c N h0 i, arrV_store]
    refine congrArg (arrV c N) (funext fun j => ?_)
    by_cases e : j = i
    · subst e
      simp [updV, va_rf]
    · by_cases h : j < i
      · simp [updV, e, h, Nat.lt_succ_of_lt h]
      · simp [updV, e, h, show ¬ j < i + 1 by omega]
section VGM
variable {p : Program} {l : Launch} {e : Env} {R : Room} {s : State} {m : MethodId} {args : Array Value} {below : List Frame} {meth : Method} {c : Code} {H : Heap} {locs : List Loc} {cells slots : Nat} {Q : State → Prop}
variable {cc : ByteArray} {pc : Nat} {ls : Array Slot} {rest : List Value} {D : va_G} {cl : List vw_C} {A : Nat → Prop} {a : Nat} {tys : List (ClassId × FieldType)} {ws : va_W} {H0 : Heap}
theorem va_mna {X : va_W} {L : List Nat} {f : Nat → va_E} {cc : ByteArray} (hexec : p.tables.exec = Jvm.exec) (hb : c.code = cc) {own : String} {index : Nat} {ty : FieldType} {cy : ClassId} (hown : s.vm.findClass own = some m.cls) (hclink : (Cond.classLink own index ("[" ++ (FieldType.array ty).toString)).before args s = true) (hover : va_AOA ty s) (harr : (Cond.arrayClass ty).before args s = true) (hcy : s.vm.findClass (FieldType.array ty).toString = some cy)
    (hK : va_K D cl tys s) (hP : va_P D cl (X ++ va_pl L f) H) (hD : va_D A (X ++ va_pl L f)) (hS : va_S A H0 H locs) (hA : ∀ q, H0.size ≤ q → A q) {n k : Int32} {N' K' : Nat} {z : vp_A} (hn : ¬ n < 0) (hk : ¬ k < 0) (hN : n.toNatClampNeg = N') (hM : k.toNatClampNeg = K')
    (hb1 : N' * 4 ≤ 536870912) (hb2 : K' * componentBytes ty ≤ 536870912) (hb3 : K' ≤ 536870912) (hdf : fits ty (defaultValue ty) = true) (hdd : (defaultValue ty).isDefault = true) (hcells : cells + (1 + N') ≤ R.cells) (hslots : slots + (N' + N' * K') ≤ R.slots) (hz : ∀ c : ClassId, Jvm.Free.Multi.innerC c K' (defaultValue ty) = vp_cell c z) (hdg : decode cc pc = .ok (.multianewarray index 2, 4))
    (kk : ∀ (q : Nat) (r : Nat → Nat) (cA : ClassId) (H1 : Heap), (∀ i j : Nat, i < N' → j < N' → r i = r j → i = j) → (∀ i : Nat, i < N' → r i ∉ L) → va_K D cl (tys ++ [(cA, .array ty)]) s →
      va_P D cl ((X ++ [(q, .inl (cA, N', .inr (.inr (.inr (.inr (fun i => if i < N' then some (r i) else none))))))]) ++ va_pl (L ++ (List.range N').map r) (vr_up f ((List.range N').map r) (.inl (cy, z)))) H1 → va_D A ((X ++ [(q, .inl (cA, N', .inr (.inr (.inr (.inr (fun i => if i < N' then some (r i) else none))))))]) ++ va_pl (L ++ (List.range N').map r) (vr_up f ((List.range N').map r) (.inl (cy, z)))) → va_S A H0 H1 locs →
      W p l e R s m args below meth c H1 locs (cells + 1 + N') (slots + N' + N' * K') Q (F0 m (pc + 4) ls (.ref q :: rest))) : W p l e R s m args below meth c H locs cells slots Q (F0 m pc ls (.int k :: .int n :: rest)) := by
  subst hN
  subst hM
  intro T hT Xs
  obtain ⟨vm₁, cA, comp, -, fA, fC, hO, -, X', step⟩ := Xs.multianewarray2F hexec hown hclink (va_AOA.use hover) harr (g := F0 m pc ls (.int k :: .int n :: rest)) rfl (by rw [hb]; exact hdg) rfl hn hk hb1 hb2 hb3 hdf hdd hcells hslots
  have ec : some cy = some comp := hcy.symm.trans fC
  cases ec
  generalize hF : Jvm.Free.Multi.fill (T.setVm vm₁) cA cy n.toNatClampNeg k.toNatClampNeg (defaultValue ty) n.toNatClampNeg = F at X' step
  have hTh : (T.setVm vm₁).heap = H := hT
  obtain ⟨f1, f2, -, -⟩ := Jvm.Free.Multi.fill_facts (T.setVm vm₁) cA cy n.toNatClampNeg k.toNatClampNeg (defaultValue ty) n.toNatClampNeg
  rw [hF, hTh] at f1 f2
  have hold : ∀ x : Nat, x < H.size → F.heap[x]? = H[x]? := fun x hx => by
    have := Jvm.Free.Multi.fill_old (T.setVm vm₁) cA cy n.toNatClampNeg k.toNatClampNeg (defaultValue ty) (a := x) (by rw [hTh]; exact hx) n.toNatClampNeg
    rw [hF, hTh] at this
    exact this
  have hrow : ∀ j : Nat, j < n.toNatClampNeg → F.heap[H.size + 1 + j]? = some (vp_cell cy z) := fun j hj => by
    have := Jvm.Free.Multi.fill_inner (T.setVm vm₁) cA cy n.toNatClampNeg k.toNatClampNeg (defaultValue ty) n.toNatClampNeg j hj
    rw [hF, hTh, hz] at this
    exact this
  have hout : Jvm.Free.Multi.outerC cA n.toNatClampNeg H.size n.toNatClampNeg = vp_cell cA (n.toNatClampNeg, .inr (.inr (.inr (.inr (fun i => if i < n.toNatClampNeg then some (H.size + 1 + i) else none))))) := by
    rw [vp_cell_q]
    exact vr_outer cA n.toNatClampNeg H.size n.toNatClampNeg
  rw [hout] at f2
  have hlt : ∀ a, a ∈ L → a < H.size := fun a ha => by
    obtain ⟨k9, hk9⟩ := va_pl_get (X := X) (f := f) ha
    exact (hP k9 _ hk9).lt
  have hnl : ∀ i : Nat, i < n.toNatClampNeg → H.size + 1 + i ∉ L := fun i _ h => by
    have := hlt _ h
    omega
  have hnm : ∀ a, a ∈ (List.range n.toNatClampNeg).map (fun i => H.size + 1 + i) → a ∉ L := fun a ha h => by
    obtain ⟨i, -, rfl⟩ := List.mem_map.mp ha
    have := hlt _ h
    omega
  have hP0 : va_P D cl (X ++ va_pl L f) F.heap := hP.kept (fun k9 x hx => hold x.1 ((hP k9 x hx).lt))
  have hP1 : va_P D cl ((X ++ va_pl L f) ++ [(H.size, .inl (cA, n.toNatClampNeg, .inr (.inr (.inr (.inr (fun i => if i < n.toNatClampNeg then some (H.size + 1 + i) else none))))))]) F.heap := hP0.app (fun k9 x hx => by
    have h0 : k9 < 1 := (List.getElem?_eq_some_iff.mp hx).1
    rw [show k9 = 0 by omega] at hx
    cases hx
    exact f2)
  have hP2 : va_P D cl (((X ++ va_pl L f) ++ [(H.size, .inl (cA, n.toNatClampNeg, .inr (.inr (.inr (.inr (fun i => if i < n.toNatClampNeg then some (H.size + 1 + i) else none))))))]) ++ ((List.range n.toNatClampNeg).map (fun i => H.size + 1 + i)).map (fun a => (a, .inl (cy, z)))) F.heap := hP1.app (fun k9 x hx => by
    obtain ⟨a, ha, rfl⟩ := List.mem_map.mp (List.mem_of_getElem? hx)
    obtain ⟨i, hi, rfl⟩ := List.mem_map.mp ha
    exact hrow i (List.mem_range.mp hi))
  have hD2 : va_D A (((X ++ va_pl L f) ++ [(H.size, .inl (cA, n.toNatClampNeg, .inr (.inr (.inr (.inr (fun i => if i < n.toNatClampNeg then some (H.size + 1 + i) else none))))))]) ++ ((List.range n.toNatClampNeg).map (fun i => H.size + 1 + i)).map (fun a => (a, .inl (cy, z)))) := by
    have hD1 := hD.push (e := .inl (cA, n.toNatClampNeg, .inr (.inr (.inr (.inr (fun i => if i < n.toNatClampNeg then some (H.size + 1 + i) else none)))))) hP rfl (hA _ hS.1)
    generalize hW1 : (X ++ va_pl L f) ++ [(H.size, .inl (cA, n.toNatClampNeg, .inr (.inr (.inr (.inr (fun i => if i < n.toNatClampNeg then some (H.size + 1 + i) else none))))))] = W1 at hD1 hP1 ⊢
    have hle : ∀ (k9 : Nat) (x : Nat × va_E), W1[k9]? = some x → x.1 ≤ H.size := fun k9 x hx => by
      rw [← hW1] at hx
      by_cases hl : k9 < (X ++ va_pl L f).length
      · rw [List.getElem?_append_left hl] at hx
        exact Nat.le_of_lt ((hP k9 x hx).lt)
      · rw [List.getElem?_append_right (by omega)] at hx
        have h0 : k9 - (X ++ va_pl L f).length < 1 := (List.getElem?_eq_some_iff.mp hx).1
        rw [show k9 - (X ++ va_pl L f).length = 0 by omega] at hx
        cases hx
        exact Nat.le_refl _
    have hr : ∀ (k9 : Nat) (x : Nat × va_E), (((List.range n.toNatClampNeg).map (fun i => H.size + 1 + i)).map (fun a => ((a, .inl (cy, z)) : Nat × va_E)))[k9]? = some x → x.1 = H.size + 1 + k9 := fun k9 x hx => by
      rw [List.getElem?_map, List.getElem?_map] at hx
      by_cases h9 : k9 < n.toNatClampNeg
      · rw [List.getElem?_range h9] at hx
        cases hx
        rfl
      · have hn0 : (List.range n.toNatClampNeg)[k9]? = none := List.getElem?_eq_none (by rw [List.length_range]; omega)
        rw [hn0] at hx
        cases hx
    refine ⟨fun i j x y hi hj hxy => ?_, fun k9 x hx => ?_⟩
    · by_cases h1 : i < W1.length <;> by_cases h2 : j < W1.length
      · rw [List.getElem?_append_left h1] at hi
        rw [List.getElem?_append_left h2] at hj
        exact hD1.1 i j x y hi hj hxy
      · rw [List.getElem?_append_left h1] at hi
        rw [List.getElem?_append_right (by omega)] at hj
        have := hle _ _ hi
        have := hr _ _ hj
        omega
      · rw [List.getElem?_append_right (by omega)] at hi
        rw [List.getElem?_append_left h2] at hj
        have := hle _ _ hj
        have := hr _ _ hi
        omega
      · rw [List.getElem?_append_right (by omega)] at hi hj
        have := hr _ _ hi
        have := hr _ _ hj
        omega
    · by_cases h1 : k9 < W1.length
      · rw [List.getElem?_append_left h1] at hx
        exact hD1.2 k9 x hx
      · rw [List.getElem?_append_right (by omega)] at hx
        have := hr _ _ hx
        exact hA _ (by have := hS.1; omega)
  have hAr : ArrOfT s cA (.array ty) := fun N9 z9 => by
    obtain ⟨-, k9, hk9, cm9, hkk9⟩ := (hO 0 0 0).1
    exact ⟨(fun q hq => by cases hq), k9, hk9, cm9, hkk9⟩
  have hK2 : va_K D cl (tys ++ [(cA, .array ty)]) s := ⟨hK.1, fun k9 x hx => by
    by_cases hl : k9 < tys.length
    · rw [List.getElem?_append_left hl] at hx
      exact hK.2 k9 x hx
    · rw [List.getElem?_append_right (by omega)] at hx
      have h0 : k9 - tys.length < 1 := (List.getElem?_eq_some_iff.mp hx).1
      rw [show k9 - tys.length = 0 by omega] at hx
      cases hx
      exact ⟨hAr, fA⟩⟩
  obtain ⟨t, a1, b1⟩ := kk H.size (fun i => H.size + 1 + i) cA F.heap (fun i j _ _ h => by have h9 : H.size + 1 + i = H.size + 1 + j := h; omega) hnl hK2 (by rw [← vr_rows hnm]; exact vr_lay hP2) (by rw [← vr_rows hnm]; exact vr_layD hD2) ⟨by rw [f1]; have := hS.1; omega, fun x h1 h2 => (hold x (Nat.lt_of_lt_of_le h1 hS.1)).trans (hS.2.1 x h1 h2), hS.2.2⟩ F rfl X'
  refine ⟨t, step t ?_, b1⟩
  have e : T.heap.size = H.size := by rw [hT]
  rw [e]
  exact a1
end VGM
/-! ===== END ===== -/

/-! ===== BEGIN exceptions that leave a method, and their catching by the caller (launches without stack traces) ===== -/
section VXA
/-! The laws vx_back, vx_callV, vx_callS, vx_callSW, vx_throw0, vx_throwS follow proofs of the library, with one case more: JvmDerived/Free/Laws.lean (Back.of_free), Shelf42/LK1.lean (callV, callS), Shelf/KitTraced.lean (throwNew0V, throwNewS). -/
/-- where a method has thrown q: the class by its name, the cell, what was written, the world -/
def vx_T (XC : String → State → State → Prop) (st : State) (q : Addr) (t : State) (mc ms : Nat) (free : Addr → Prop) : Prop :=
  ∃ (E : String) (ce : Cell) (L : List Loc), XC E st t ∧ t.heap[q]? = some ce ∧ ce.vm = .none ∧ st.vm.findClass E = some ce.cls ∧ st.WarmedH t.vm ∧ st.sameButNew ({ t with vm := st.vm } : State) L mc ms ∧ ∀ z ∈ L, free z.base
def vx_Q (Qc : Array Value → State → Outcome → State → Prop) (XC : String → State → State → Prop) (mc ms : Nat) (free : Addr → Prop) : Array Value → State → Outcome → State → Prop := fun a st o t =>
  (Qc a st o t ∧ ∃ L, FrameEnd st o t L mc ms ∧ ∀ q ∈ L, free q.base) ∨ ∃ q, o = .threw q ∧ vx_T XC st q t mc ms free
/-- a callee that returns or throws -/
def vx_Met (l : Launch) (y : MethodName) (ws : List Cond) (rm : Room) (Pc : Array Value → State → Prop) (Qc : Array Value → State → Outcome → State → Prop) (XC : String → State → State → Prop) (mc ms : Nat) (free : Addr → Prop) : Prop :=
  MetFree l y (headSpec ws rm) Pc (fun _ _ _ _ _ => True) (vx_Q Qc XC mc ms free)
def vx_Post (XC : String → State → State → Prop) (mc ms : Nat) (free : Addr → Prop) : Pt → Array Value → Addr → Pt → Prop := fun A a q B =>
  ∃ (g : JFrame) (mk : MethodId) (t : State) (L : List Loc) (E : String) (ce : Cell), B.U.heap = t.heap ∧ B.U.vm = t.vm ∧ XC E (A.U.calling g mk a) t ∧ t.heap[q]? = some ce ∧ ce.vm = .none ∧ A.U.vm.findClass E = some ce.cls ∧ B.locs = A.locs ++ L ∧ (∀ z ∈ L, free z.base) ∧ B.cells = A.cells + mc ∧ B.slots = A.slots + ms
def vx_Back (l : Launch) (R : Room) (p : Program) (e : Env) (below : List Frame) (s : State) (sargs : Array Value) (y : MethodName) (len W9 : Nat)
    (Pre : Pt → Array Value → Prop) (Post : Pt → Array Value → Option Value → Pt → Prop) (PostX : Pt → Array Value → Addr → Pt → Prop) : Prop :=
  ∀ (m : MethodId) (meth : Method) (c : Code) (A : Pt) (g : JFrame) (ig : Instr) (mk : MethodId) (a : Array Value),
    Stand p l e R s m sargs below meth c A.U A.locs A.cells A.slots → g.method = m → g.locals.size = c.maxLocals → decode c.code g.pc = .ok (ig, len) →
    2 * g.monitorRoom + (g.stack.map fun v => v.category).sum ≤ W9 → A.U.methodNamed? y = some mk → Pre A a →
    (∃ (v : Option Value) (B : Pt), Stand p l e R s m sargs below meth c B.U B.locs B.cells B.slots ∧ Post A a v B ∧
      Steps p.tables e below (doInvoke e (A.U.setTop g) [] mk a).1 (B.U.setTop { g with pc := g.pc + len, stack := v.toList ++ g.stack })) ∨
    (∃ (q : Addr) (B : Pt), Stand p l e R s m sargs below meth c B.U B.locs B.cells B.slots ∧ PostX A a q B ∧
      Steps p.tables e below (doInvoke e (A.U.setTop g) [] mk a).1 ((B.U.setTop g).pushFrame (.throwing q)))
section Payer
variable {l : Launch} {R : Room} {p : Program} {e : Env} {below : List Frame} {s : State} {sargs : Array Value} {y : MethodName} {len W9 : Nat}
theorem vx_back {ws : List Cond} {rm : Room} {Pc : Array Value → State → Prop} {Qc : Array Value → State → Outcome → State → Prop} {XC : String → State → State → Prop} {mc ms : Nat} {free : Addr → Prop} {bytes : ByteArray} {maxL : Nat} {ret : Option FieldType}
    (hM : vx_Met l y ws rm Pc Qc XC mc ms free) (hblind : FrameBlind Pc) (hrc : rm.cells = mc) (hrs : rm.slots = ms)
    (hframes : rm.frames + 1 ≤ R.frames) (hlocals : W9 + (maxL + 11) + rm.locals ≤ R.locals)
    (hws : ∀ w ∈ ws, ∀ a' U, s.WarmedH U.vm → w.before a' U = true) (hcode : Cond.code y bytes maxL ret ∈ ws) (hinit : ∀ a' U, s.WarmedH U.vm → (Cond.initialized y.cls).before a' U = true) :
    vx_Back l R p e below s sargs y len W9 (PreOf R mc ms Pc) (PostOf Qc mc ms free) (vx_Post XC mc ms free) := by
  intro m meth c A g ig mk a X hg hsize hdg hW hn hp
  have h1 : (headSpec ws rm).pre.before a A.U = true := atoms_intro fun w hw => hws w hw _ _ X.warmed
  have h2 : (Cond.code y bytes maxL ret).before a A.U = true := hws _ hcode _ _ X.warmed
  have h3 : (Cond.initialized y.cls).before a A.U = true := hinit _ _ X.warmed
  have h4 : A.cells + (headSpec ws rm).room.cells ≤ R.cells := by rw [show (headSpec ws rm).room.cells = mc from hrc]; exact hp.1
  have h5 : A.slots + (headSpec ws rm).room.slots ≤ R.slots := by rw [show (headSpec ws rm).room.slots = ms from hrs]; exact hp.2.1
  have hPc : Pc a (A.U.calling g mk a) := hblind _ _ _ _ hp.2.2
  obtain ⟨U, Ls, c0, s0⟩ := A
  dsimp only [Pt.U, Pt.locs, Pt.cells, Pt.slots] at h1 h2 h3 h4 h5 X hn hPc ⊢
  obtain ⟨methY, cY, hmY, hcY, -, hlY, -, -, -, -⟩ := Cond.code_spec hn h2
  obtain ⟨kY, hkY, -⟩ := className_of_methodNamed hn
  have hinitY : kY.init = .initialized := Cond.initialized_spec (findClass_of_methodNamed hn) hkY h3
  have h : At U g.method c below := by rw [hg]; exact X.here
  have hlocals9 : W9 + (maxL + 11) + (headSpec ws rm).room.locals ≤ R.locals := hlocals
  have happ : (headSpec ws rm).appliesLoose y e.platform (U.calling g mk a) = true :=
    Spec.appliesLoose_calling (g := g) h hdg hn hkY hinitY
      (X.room_calling (g := g) (R' := (headSpec ws rm).room) hsize hmY hcY hframes (by rw [hlY]; omega) h4 h5) h1
  obtain ⟨mid, hmid⟩ := h.above
  have hfr : (U.setTop g).frames = (.java g :: mid) ++ below := by rw [State.frames_setTop' g h.top, hmid]; rfl
  obtain ⟨o, s₂, hsteps, -, hend, hq⟩ := Steps.callFree hM p X.admits X.cas X.clock (acts := []) hfr happ hPc trivial
  have hq' : vx_Q Qc XC mc ms free a (U.calling g mk a) o s₂ := hq
  rw [State.frames_setTop' g h.top] at hend
  obtain ⟨g₀, hg0⟩ := Option.isSome_iff_exists.mp h.top
  obtain ⟨r, hr⟩ := State.topJava?_eq_some.mp hg0
  have hr' : (({ U with heap := s₂.heap, slotsUsed := s₂.slotsUsed } : State).setVm s₂.vm).frames = .java g₀ :: r := hr
  rcases hq' with ⟨hqc, L, hfe, hL⟩ | ⟨q, rfl, E, ce, L, hx, hce, hcv, hcl, hW₂, hsm, hL⟩
  · obtain ⟨⟨v, rfl⟩, hW₂, e2, q2, q3, q4, q5, q6⟩ := id hfe
    have e3 : s₂ = ({ (U.calling g mk a).setFrames s₂.frames with heap := s₂.heap, slotsUsed := s₂.slotsUsed } : State).setVm s₂.vm := by
      have : s₂ = ({ s₂ with vm := (U.calling g mk a).vm } : State).setVm s₂.vm := rfl
      rw [e2] at this
      exact this
    obtain ⟨c₂, i₂, len₂, hc₂, hd₂, hf₂⟩ := hend
    have hW' : U.WarmedH s₂.vm := hW₂
    have hcc : c₂ = c := by
      have h1 : s₂.code? g.method = U.code? g.method := by
        rw [State.code?_eq, State.code?_eq, hW'.alike.method?]
      exact Option.some.inj (hc₂.symm.trans (h1.trans h.code))
    subst hcc
    have hlen : len₂ = len := by rw [hdg] at hd₂; cases hd₂; rfl
    subst hlen
    have hs₂ : s₂ = (({ U with heap := s₂.heap, slotsUsed := s₂.slotsUsed } : State).setVm s₂.vm).setTop { g with pc := g.pc + len₂, stack := v.toList ++ g.stack } := by
      refine e3.trans ?_
      rw [hf₂, State.calling_eq h.top, State.setFrames_setFrames, State.setTop_of_frames _ hr', hr]
      rfl
    have hsame : U.sameButNew ({ U with heap := s₂.heap, slotsUsed := s₂.slotsUsed } : State) L mc ms := by
      refine ⟨?_, q2, q3, q4, q5, q6⟩
      obtain ⟨t, ht, -⟩ := State.frames_cons hr
      show ({ U with heap := s₂.heap, slotsUsed := s₂.slotsUsed } : State) = { U.setFrames U.frames with heap := s₂.heap, slotsUsed := s₂.slotsUsed }
      rw [State.setFrames_self ht]
    subst hg
    refine Or.inl ⟨v, ⟨(({ U with heap := s₂.heap, slotsUsed := s₂.slotsUsed } : State).setVm s₂.vm), Ls ++ L, c0 + mc, s0 + ms⟩,
      ⟨X.admits, X.cas, X.clock, X.frames, X.room, X.hears, X.method, X.code, (X.here.setHeapUsed s₂.heap s₂.slotsUsed).setVm hW'.alike, X.tail, State.WarmedH.trans X.warmed hW', X.limits, X.bytes, X.same.trans (hsame.setVm s.vm)⟩,
      ⟨g, mk, s₂, L, rfl, rfl, hqc, rfl, hL, rfl, rfl⟩, ?_⟩
    show Steps p.tables e below _ ((({ U with heap := s₂.heap, slotsUsed := s₂.slotsUsed } : State).setVm s₂.vm).setTop { g with pc := g.pc + len₂, stack := v.toList ++ g.stack })
    rw [← hs₂]
    exact hsteps
  · obtain ⟨e2, q2, q3, q4, q5, q6⟩ := id hsm
    have e3 : s₂ = ({ (U.calling g mk a).setFrames s₂.frames with heap := s₂.heap, slotsUsed := s₂.slotsUsed } : State).setVm s₂.vm := by
      have : s₂ = ({ s₂ with vm := (U.calling g mk a).vm } : State).setVm s₂.vm := rfl
      rw [e2] at this
      exact this
    have hf₂ : s₂.frames = .throwing q :: .java g :: U.frames.tail := hend
    have hW' : U.WarmedH s₂.vm := hW₂
    have hs₂ : s₂ = ((({ U with heap := s₂.heap, slotsUsed := s₂.slotsUsed } : State).setVm s₂.vm).setTop g).pushFrame (.throwing q) := by
      refine e3.trans ?_
      rw [hf₂, State.calling_eq h.top, State.setFrames_setFrames, State.pushFrame, State.frames_setTop _ hr', State.setTop_of_frames _ hr', State.setFrames_setFrames, hr]
      rfl
    have hsame : U.sameButNew ({ U with heap := s₂.heap, slotsUsed := s₂.slotsUsed } : State) L mc ms := by
      refine ⟨?_, q2, q3, q4, q5, q6⟩
      obtain ⟨t, ht, -⟩ := State.frames_cons hr
      show ({ U with heap := s₂.heap, slotsUsed := s₂.slotsUsed } : State) = { U.setFrames U.frames with heap := s₂.heap, slotsUsed := s₂.slotsUsed }
      rw [State.setFrames_self ht]
    subst hg
    refine Or.inr ⟨q, ⟨(({ U with heap := s₂.heap, slotsUsed := s₂.slotsUsed } : State).setVm s₂.vm), Ls ++ L, c0 + mc, s0 + ms⟩,
      ⟨X.admits, X.cas, X.clock, X.frames, X.room, X.hears, X.method, X.code, (X.here.setHeapUsed s₂.heap s₂.slotsUsed).setVm hW'.alike, X.tail, State.WarmedH.trans X.warmed hW', X.limits, X.bytes, X.same.trans (hsame.setVm s.vm)⟩,
      ⟨g, mk, s₂, L, E, ce, rfl, rfl, hx, hce, hcv, hcl, rfl, hL, rfl, rfl⟩, ?_⟩
    show Steps p.tables e below _ (((({ U with heap := s₂.heap, slotsUsed := s₂.slotsUsed } : State).setVm s₂.vm).setTop g).pushFrame (.throwing q))
    rw [← hs₂]
    exact hsteps
end Payer
section Calls
variable {p : Program} {l : Launch} {e : Env} {R : Room} {s : State} {m : MethodId} {args : Array Value} {below : List Frame} {meth : Method} {c : Code} {T : State} {locs : List Loc} {cells slots : Nat}
theorem vx_callV (X : Stand p l e R s m args below meth c T locs cells slots) (hexec : p.tables.exec = Jvm.exec) {own C : String} {index : Nat} {y : MethodName} {bytes : ByteArray} {maxL : Nat} {ret : Option FieldType}
    (hown : s.vm.findClass own = some m.cls) (hlink : (Cond.methodLink own index y).before args s = true) (hinst : (Cond.instanceMethod y).before args s = true) (hsel : (Cond.selects C y y).before args s = true)
    (hcode : (Cond.code y bytes maxL ret).before args s = true) (hy : y.cls ≠ "java/lang/invoke/MethodHandle" ∧ y.cls ≠ "java/lang/invoke/VarHandle")
    {W9 : Nat} {Pre : Pt → Array Value → Prop} {Post : Pt → Array Value → Option Value → Pt → Prop} {PostX : Pt → Array Value → Addr → Pt → Prop} (hK : vx_Back l R p e below s args y 3 W9 Pre Post PostX)
    {b : Addr} {cellB : Cell} (hcell : T.heap[b]? = some cellB) (hobj : cellB.vm.isStatics = false) (hcls : s.vm.findClass C = some cellB.cls)
    {g : JFrame} (hg : g.method = m) (hsize : g.locals.size = c.maxLocals) {argsL rest : List Value} (hlen : ∀ sig, parseMethodDescriptor y.desc = some sig → argsL.length = sig.parameters.length)
    (hstack : g.stack = argsL.reverse ++ .ref b :: rest) (hW : 2 * g.monitorRoom + (rest.map fun v => v.category).sum ≤ W9) (hdg : decode c.code g.pc = .ok (.invokevirtual index, 3))
    (hpre : ∀ vm₁, s.WarmedH vm₁ → Pre ⟨T.setVm vm₁, locs, cells, slots⟩ (Value.ref b :: argsL).toArray) :
    (∃ (v : Option Value) (vm₁ : Vm) (B : Pt), s.WarmedH vm₁ ∧ Stand p l e R s m args below meth c B.U B.locs B.cells B.slots ∧ Post ⟨T.setVm vm₁, locs, cells, slots⟩ (Value.ref b :: argsL).toArray v B ∧
      ∀ target, Steps p.tables e below (B.U.setTop { g with pc := g.pc + 3, stack := v.toList ++ rest }) target → Steps p.tables e below (T.setTop g) target) ∨
    (∃ (q : Addr) (vm₁ : Vm) (B : Pt), s.WarmedH vm₁ ∧ Stand p l e R s m args below meth c B.U B.locs B.cells B.slots ∧ PostX ⟨T.setVm vm₁, locs, cells, slots⟩ (Value.ref b :: argsL).toArray q B ∧
      Steps p.tables e below (T.setTop g) ((B.U.setTop { g with stack := rest }).pushFrame (.throwing q))) := by
  obtain ⟨mk, methM, hnamed, hmethM, hstM, habM⟩ := Cond.instanceMethod_spec hinst
  obtain ⟨methM', cM, hmethM', -, -, -, -, -, -, hsigM⟩ := Cond.code_spec hnamed hcode
  cases hmethM.symm.trans hmethM'
  obtain ⟨c2, r2, m2, q1, q2, q3, q4, kP, hkP, hkPi⟩ := Cond.selects_spec hsel
  cases hcls.symm.trans q1
  cases (State.methodFound?_of_named hnamed hy).symm.trans q2
  cases hnamed.symm.trans q3
  have hselP : selectMethod e.platform s.vm cellB.cls mk = .method mk := by rw [Launch.admits_selectMethod X.admits]; exact q4
  obtain ⟨vm₁, X₁, hstep₁⟩ := X.invokevirtual hexec hown hlink hnamed hmethM hstM hkP hkPi hy (a := b) (cell := cellB) hcell
    (fun z h => by rw [h] at hobj; cases hobj) hselP hmethM habM hkP hkPi (g := g) hg (argsL := argsL) (rest := rest) (hlen _ hsigM) hstack hdg
  rcases hK m meth c ⟨T.setVm vm₁, locs, cells, slots⟩ { g with stack := rest } (.invokevirtual index) mk (Value.ref b :: argsL).toArray X₁ hg hsize hdg hW (X₁.named hnamed) (hpre vm₁ X₁.warmed) with ⟨v, B, X', hpost, hsteps⟩ | ⟨q, B, X', hpost, hsteps⟩
  · exact Or.inl ⟨v, vm₁, B, X₁.warmed, X', hpost, fun target h => hstep₁ _ fun acts => by rw [doInvoke_state]; exact hsteps.trans h⟩
  · exact Or.inr ⟨q, vm₁, B, X₁.warmed, X', hpost, hstep₁ _ fun acts => by rw [doInvoke_state]; exact hsteps⟩
theorem vx_callS (X : Stand p l e R s m args below meth c T locs cells slots) (hexec : p.tables.exec = Jvm.exec) {own : String} {index : Nat} {y : MethodName} {bytes : ByteArray} {maxL : Nat} {ret : Option FieldType}
    (hown : s.vm.findClass own = some m.cls) (hlink : (Cond.methodLink own index y).before args s = true) (hstat : (Cond.static y).before args s = true) (hinit : (Cond.initialized y.cls).before args s = true)
    (hcode : (Cond.code y bytes maxL ret).before args s = true) (hy : y.cls ≠ "java/lang/invoke/MethodHandle" ∧ y.cls ≠ "java/lang/invoke/VarHandle")
    {W9 : Nat} {Pre : Pt → Array Value → Prop} {Post : Pt → Array Value → Option Value → Pt → Prop} {PostX : Pt → Array Value → Addr → Pt → Prop} (hK : vx_Back l R p e below s args y 3 W9 Pre Post PostX)
    {g : JFrame} (hg : g.method = m) (hsize : g.locals.size = c.maxLocals) {argsL rest : List Value} (hlen : ∀ sig, parseMethodDescriptor y.desc = some sig → argsL.length = sig.parameters.length)
    (hstack : g.stack = argsL.reverse ++ rest) (hW : 2 * g.monitorRoom + (rest.map fun v => v.category).sum ≤ W9) (hdg : decode c.code g.pc = .ok (.invokestatic index, 3))
    (hpre : ∀ vm₁, s.WarmedH vm₁ → Pre ⟨T.setVm vm₁, locs, cells, slots⟩ argsL.toArray) :
    (∃ (v : Option Value) (vm₁ : Vm) (B : Pt), s.WarmedH vm₁ ∧ Stand p l e R s m args below meth c B.U B.locs B.cells B.slots ∧ Post ⟨T.setVm vm₁, locs, cells, slots⟩ argsL.toArray v B ∧
      ∀ target, Steps p.tables e below (B.U.setTop { g with pc := g.pc + 3, stack := v.toList ++ rest }) target → Steps p.tables e below (T.setTop g) target) ∨
    (∃ (q : Addr) (vm₁ : Vm) (B : Pt), s.WarmedH vm₁ ∧ Stand p l e R s m args below meth c B.U B.locs B.cells B.slots ∧ PostX ⟨T.setVm vm₁, locs, cells, slots⟩ argsL.toArray q B ∧
      Steps p.tables e below (T.setTop g) ((B.U.setTop { g with stack := rest }).pushFrame (.throwing q))) := by
  obtain ⟨mk, hnamed⟩ := Cond.code_named hcode
  obtain ⟨methM, cM, hmethM, -, -, -, -, -, -, hsigM⟩ := Cond.code_spec hnamed hcode
  have hstatic : methM.isStatic = true := Cond.static_spec hnamed hmethM hstat
  obtain ⟨kP, hkP, -⟩ := className_of_methodNamed hnamed
  have hinitP : kP.init = .initialized := Cond.initialized_spec (findClass_of_methodNamed hnamed) hkP hinit
  obtain ⟨vm₁, X₁, hstep₁⟩ := X.invokestatic hexec hown hlink hnamed hmethM hstatic hkP hinitP hy (g := g) hg (argsL := argsL) (rest := rest) (hlen _ hsigM) hstack hdg
  rcases hK m meth c ⟨T.setVm vm₁, locs, cells, slots⟩ { g with stack := rest } (.invokestatic index) mk argsL.toArray X₁ hg hsize hdg hW (X₁.named hnamed) (hpre vm₁ X₁.warmed) with ⟨v, B, X', hpost, hsteps⟩ | ⟨q, B, X', hpost, hsteps⟩
  · exact Or.inl ⟨v, vm₁, B, X₁.warmed, X', hpost, fun target h => hstep₁ _ fun acts => by rw [doInvoke_state]; exact hsteps.trans h⟩
  · exact Or.inr ⟨q, vm₁, B, X₁.warmed, X', hpost, hstep₁ _ fun acts => by rw [doInvoke_state]; exact hsteps⟩
end Calls
theorem vx_cls {s : State} {T : State} {vm₁ : Vm} {E : String} {k : ClassId} (hW : s.WarmedH vm₁) (h : (T.setVm vm₁).vm.findClass E = some k) : s.vm.findClass E = some k := by
  have h1 : vm₁.findClass E = some k := h
  rw [hW.alike.findClass] at h1
  exact h1
/-- the method's frame g, with q thrown over it -/
def vx_W (p : Program) (l : Launch) (e : Env) (R : Room) (s : State) (m : MethodId) (args : Array Value) (below : List Frame) (meth : Method) (c : Code) (H : Heap) (locs : List Loc) (cells slots : Nat) (Q : State → Prop) (g : JFrame) (q : Addr) : Prop :=
  ∀ T : State, T.heap = H → Stand p l e R s m args below meth c T locs cells slots → ∃ t, Steps p.tables e below ((T.setTop g).pushFrame (.throwing q)) t ∧ Q t
def vx_Run (p : Program) (l : Launch) (e : Env) (R : Room) (s : State) (m : MethodId) (args : Array Value) (below : List Frame) (meth : Method) (c : Code) (H : Heap) (locs : List Loc) (cells slots mc ms : Nat) (g : JFrame) (rest : List Value) (Qa : State → Outcome → State → Prop) (XC : String → State → State → Prop) (free : Addr → Prop) : Prop :=
  ∀ T : State, T.heap = H → Stand p l e R s m args below meth c T locs cells slots →
    (∃ (v : Option Value) (st₀ t T' : State) (L : List Loc), st₀.heap = H ∧ Stand p l e R s m args below meth c T' (locs ++ L) (cells + mc) (slots + ms) ∧ (∀ q ∈ L, free q.base) ∧ T'.heap = t.heap ∧ T'.vm = t.vm ∧ Qa st₀ (.returned v) t ∧
      Goes p e below T g T' { g with pc := g.pc + 3, stack := v.toList ++ rest }) ∨
    (∃ (q : Addr) (st₀ t T' : State) (L : List Loc) (E : String) (ce : Cell), st₀.heap = H ∧ Stand p l e R s m args below meth c T' (locs ++ L) (cells + mc) (slots + ms) ∧ (∀ z ∈ L, free z.base) ∧ T'.heap = t.heap ∧ T'.vm = t.vm ∧ XC E st₀ t ∧ t.heap[q]? = some ce ∧ ce.vm = .none ∧ s.vm.findClass E = some ce.cls ∧
      Steps p.tables e below (T.setTop g) ((T'.setTop { g with stack := rest }).pushFrame (.throwing q)))
def vx_X {S : Type} (px : S → Prop) (B : String → S → State → Prop) (A : Nat → Prop) : String → State → State → Prop := fun E st t => ∃ u : S, px u ∧ B E u t ∧ va_F A st t
section Runs
variable {p : Program} {l : Launch} {e : Env} {R : Room} {s : State} {m : MethodId} {args : Array Value} {below : List Frame} {meth : Method} {c : Code} {H : Heap} {locs : List Loc} {cells slots : Nat}
variable {y : MethodName} {bytes cc : ByteArray} {maxL nL mc ms n index : Nat} {ret : Option FieldType} {ws : List Cond} {rm : Room} {Pc : Array Value → State → Prop} {Qc : Array Value → State → Outcome → State → Prop} {XC : String → State → State → Prop} {free : Addr → Prop} {Ts : List Cond} {own C : String} {b : Addr} {As rest : List Value} {g : JFrame}
theorem vx_callBack (cb : CallB R s args own index y bytes maxL ret ws rm mc ms n) (hM : vx_Met l y ws rm Pc Qc XC mc ms free) (hbl : FrameBlind Pc) : vx_Back l R p e below s args y 3 8 (PreOf R mc ms Pc) (PostOf Qc mc ms free) (vx_Post XC mc ms free) := by
  obtain ⟨hrc, hrs, hfr, hlo, hws, hcw, -, hini, -⟩ := cb
  exact vx_back (bytes := bytes) (maxL := maxL) (ret := ret) hM hbl hrc hrs hfr hlo hws hcw (fun a' U hW => word_at hW (Or.inl (by first | rfl | simp [Cond.onTables, Cond.keeps, Cond.steady])) hini)
theorem vx_runV (S : CallFix p m c cc nL s args Ts own) (hM : vx_Met l y ws rm Pc Qc XC mc ms free) (cw : CallW R s args own C index y bytes maxL ret ws rm mc ms n) (hp : PreV s H C b Pc As)
    (hg : g.method = m) (hn : As.length = n) (hsize : g.locals.size = nL) (hstack : g.stack = As.reverse ++ .ref b :: rest) (hW : 2 * g.monitorRoom + (rest.map fun v => v.category).sum ≤ 8) (hdg : decode cc g.pc = .ok (.invokevirtual index, 3)) (hf : cells + mc ≤ R.cells ∧ slots + ms ≤ R.slots) :
    vx_Run p l e R s m args below meth c H locs cells slots mc ms g rest (Qc (Value.ref b :: As).toArray) XC free := by
  have hK : vx_Back l R p e below s args y 3 8 (PreOf R mc ms Pc) (PostOf Qc mc ms free) (vx_Post XC mc ms free) := vx_callBack cw.1 hM hp.1
  obtain ⟨⟨-, -, -, -, -, -, hcode, -, hy, hlen, hl⟩, hin, hse⟩ := cw
  obtain ⟨hx, hb, hml, ho, -⟩ := S
  obtain ⟨-, ⟨cellB, hcB, hoB, hclB⟩, hPc⟩ := hp
  intro T hT X
  rcases vx_callV X hx (C := C) (bytes := bytes) (maxL := maxL) (ret := ret) ho hl hin hse hcode hy hK (by rw [hT]; exact hcB) hoB hclB hg (hsize.trans hml.symm) (argsL := As) (rest := rest) (fun sig h => hn.trans (hlen sig h)) hstack hW (by rw [hb]; exact hdg)
    (fun vm₁ hW₁ => ⟨hf.1, hf.2, hPc (T.setVm vm₁) hT hW₁⟩) with ⟨v, vm₁, ⟨U', l2, c2, s2⟩, hW₁, X', ⟨g', mk, t, L, e1, e2, hq, h1, hL, h2, h3⟩, st⟩ | ⟨q, vm₁, ⟨U', l2, c2, s2⟩, hW₁, X', ⟨g', mk, t, L, E, ce, e1, e2, hq, hce, hcv, hcl, h1, hL, h2, h3⟩, st⟩
  · dsimp only [Pt.U, Pt.locs, Pt.cells, Pt.slots] at X' e1 e2 h1 h2 h3 st
    subst h1; subst h2; subst h3
    exact Or.inl ⟨v, (T.setVm vm₁).calling g' mk (Value.ref b :: As).toArray, t, U', L, hT, X', hL, e1, e2, hq, st⟩
  · dsimp only [Pt.U, Pt.locs, Pt.cells, Pt.slots] at X' e1 e2 h1 h2 h3 st hcl
    subst h1; subst h2; subst h3
    exact Or.inr ⟨q, (T.setVm vm₁).calling g' mk (Value.ref b :: As).toArray, t, U', L, E, ce, hT, X', hL, e1, e2, hq, hce, hcv, vx_cls hW₁ hcl, st⟩
theorem vx_runS (S : CallFix p m c cc nL s args Ts own) (hM : vx_Met l y ws rm Pc Qc XC mc ms free) (cw : CallB R s args own index y bytes maxL ret ws rm mc ms n ∧ (Cond.static y).before args s = true) (hp : PreS s H Pc As)
    (hg : g.method = m) (hn : As.length = n) (hsize : g.locals.size = nL) (hstack : g.stack = As.reverse ++ rest) (hW : 2 * g.monitorRoom + (rest.map fun v => v.category).sum ≤ 8) (hdg : decode cc g.pc = .ok (.invokestatic index, 3)) (hf : cells + mc ≤ R.cells ∧ slots + ms ≤ R.slots) :
    vx_Run p l e R s m args below meth c H locs cells slots mc ms g rest (Qc As.toArray) XC free := by
  have hK : vx_Back l R p e below s args y 3 8 (PreOf R mc ms Pc) (PostOf Qc mc ms free) (vx_Post XC mc ms free) := vx_callBack cw.1 hM hp.1
  obtain ⟨⟨-, -, -, -, -, -, hcode, hini, hy, hlen, hl⟩, hstt⟩ := cw
  obtain ⟨hx, hb, hml, ho, -⟩ := S
  intro T hT X
  rcases vx_callS X hx (bytes := bytes) (maxL := maxL) (ret := ret) ho hl hstt hini hcode hy hK hg (hsize.trans hml.symm) (argsL := As) (rest := rest) (fun sig h => hn.trans (hlen sig h)) hstack hW (by rw [hb]; exact hdg)
    (fun vm₁ hW₁ => ⟨hf.1, hf.2, hp.2 (T.setVm vm₁) hT hW₁⟩) with ⟨v, vm₁, ⟨U', l2, c2, s2⟩, hW₁, X', ⟨g', mk, t, L, e1, e2, hq, h1, hL, h2, h3⟩, st⟩ | ⟨q, vm₁, ⟨U', l2, c2, s2⟩, hW₁, X', ⟨g', mk, t, L, E, ce, e1, e2, hq, hce, hcv, hcl, h1, hL, h2, h3⟩, st⟩
  · dsimp only [Pt.U, Pt.locs, Pt.cells, Pt.slots] at X' e1 e2 h1 h2 h3 st
    subst h1; subst h2; subst h3
    exact Or.inl ⟨v, (T.setVm vm₁).calling g' mk As.toArray, t, U', L, hT, X', hL, e1, e2, hq, st⟩
  · dsimp only [Pt.U, Pt.locs, Pt.cells, Pt.slots] at X' e1 e2 h1 h2 h3 st hcl
    subst h1; subst h2; subst h3
    exact Or.inr ⟨q, (T.setVm vm₁).calling g' mk As.toArray, t, U', L, E, ce, hT, X', hL, e1, e2, hq, hce, hcv, vx_cls hW₁ hcl, st⟩
end Runs
section Rows
variable {p : Program} {l : Launch} {e : Env} {R : Room} {s : State} {m : MethodId} {args : Array Value} {below : List Frame} {meth : Method} {c : Code} {H : Heap} {locs : List Loc} {cells slots : Nat} {Q : State → Prop}
variable {mc ms : Nat} {free : Addr → Prop} {A0 A1 : Nat → Prop} {H0 : Heap} {a : Array Value} {pc : Nat} {ls : Array Slot} {st0 rest : List Value}
theorem vx_keep {st₀ t T' : State} {L : List Loc} (h0 : st₀.heap = H) (e1 : T'.heap = t.heap) (hS : va_S A0 H0 H locs) (hA : ∀ q, q < H.size → A1 q → A0 q) (hf : ∀ q, free q → A0 q) (hL : ∀ q ∈ L, free q.base) (hF : va_F A1 st₀ t) :
    H.size ≤ T'.heap.size ∧ (∀ q : Nat, q < H.size → ¬ A1 q → T'.heap[q]? = H[q]?) ∧ va_S A0 H0 T'.heap (locs ++ L) := by
  obtain ⟨hz, hk⟩ := hF
  rw [h0] at hz hk
  exact ⟨by rw [e1]; exact hz, fun q h1 h2 => by rw [e1]; exact hk q h1 h2,
    ⟨Nat.le_trans hS.1 (by rw [e1]; exact hz), fun q h1 h2 => by rw [e1, hk q (Nat.lt_of_lt_of_le h1 hS.1) (fun z => h2 (hA q (Nat.lt_of_lt_of_le h1 hS.1) z))]; exact hS.2.1 q h1 h2, fun q hq => by
      rcases List.mem_append.mp hq with h | h
      · exact hS.2.2 q h
      · exact hf _ (hL q h)⟩⟩
theorem vx_calli {S SX : Type} {post : Int32 → S → Prop} {px : SX → Prop} {B : S → State → Prop} {BX : String → SX → State → Prop} {AX : Nat → Prop} (hr : vx_Run p l e R s m args below meth c H locs cells slots mc ms (F0 m pc ls st0) rest (va_Qi post B A1 a) (vx_X px BX AX) free) (hS : va_S A0 H0 H locs) (hA : ∀ q, q < H.size → A1 q → A0 q) (hf : ∀ q, free q → A0 q) (hAX : ∀ q, q < H.size → AX q → A0 q)
    (kx : ∀ (E : String) (ce : Cell) (q9 : Addr) (u : SX) (t : State) (H1 : Heap) (locs1 : List Loc), t.heap = H1 → s.vm.Alike t.vm → px u → BX E u t → H.size ≤ H1.size → (∀ q : Nat, q < H.size → ¬ AX q → H1[q]? = H[q]?) → va_S A0 H0 H1 locs1 → H1[q9]? = some ce → ce.vm = .none → s.vm.findClass E = some ce.cls → vx_W p l e R s m args below meth c H1 locs1 (cells + mc) (slots + ms) Q (F0 m pc ls rest) q9)
    (kk : ∀ (r : Int32) (u : S) (t : State) (H1 : Heap) (locs1 : List Loc), t.heap = H1 → s.vm.Alike t.vm → post r u → B u t → H.size ≤ H1.size → (∀ q : Nat, q < H.size → ¬ A1 q → H1[q]? = H[q]?) → va_S A0 H0 H1 locs1 → W p l e R s m args below meth c H1 locs1 (cells + mc) (slots + ms) Q (F0 m (pc + 3) ls (.int r :: rest))) : W p l e R s m args below meth c H locs cells slots Q (F0 m pc ls st0) := by
  intro T hT X
  rcases hr T hT X with ⟨v, st₀, t, T', L, h0, X', hL, e1, e2, ⟨⟨r, u, hv, hp, hb⟩, hF⟩, st⟩ | ⟨q, st₀, t, T', L, E, ce, h0, X', hL, e1, e2, ⟨u, hp, hb, hF⟩, hce, hcv, hcl, st⟩
  · cases hv
    obtain ⟨k1, k2, k3⟩ := vx_keep h0 e1 hS hA hf hL hF
    obtain ⟨t2, a1, b1⟩ := kk r u t T'.heap (locs ++ L) e1.symm (by rw [← e2]; exact X'.warmed.alike) hp hb k1 k2 k3 T' rfl X'
    exact ⟨t2, st t2 a1, b1⟩
  · obtain ⟨k1, k2, k3⟩ := vx_keep h0 e1 hS hAX hf hL hF
    obtain ⟨t2, a1, b1⟩ := kx E ce q u t T'.heap (locs ++ L) e1.symm (by rw [← e2]; exact X'.warmed.alike) hp hb k1 k2 k3 (by rw [e1]; exact hce) hcv hcl T' rfl X'
    exact ⟨t2, st.trans a1, b1⟩
theorem vx_calll {S SX : Type} {post : Int64 → S → Prop} {px : SX → Prop} {B : S → State → Prop} {BX : String → SX → State → Prop} {AX : Nat → Prop} (hr : vx_Run p l e R s m args below meth c H locs cells slots mc ms (F0 m pc ls st0) rest (va_Ql post B A1 a) (vx_X px BX AX) free) (hS : va_S A0 H0 H locs) (hA : ∀ q, q < H.size → A1 q → A0 q) (hf : ∀ q, free q → A0 q) (hAX : ∀ q, q < H.size → AX q → A0 q)
    (kx : ∀ (E : String) (ce : Cell) (q9 : Addr) (u : SX) (t : State) (H1 : Heap) (locs1 : List Loc), t.heap = H1 → s.vm.Alike t.vm → px u → BX E u t → H.size ≤ H1.size → (∀ q : Nat, q < H.size → ¬ AX q → H1[q]? = H[q]?) → va_S A0 H0 H1 locs1 → H1[q9]? = some ce → ce.vm = .none → s.vm.findClass E = some ce.cls → vx_W p l e R s m args below meth c H1 locs1 (cells + mc) (slots + ms) Q (F0 m pc ls rest) q9)
    (kk : ∀ (r : Int64) (u : S) (t : State) (H1 : Heap) (locs1 : List Loc), t.heap = H1 → s.vm.Alike t.vm → post r u → B u t → H.size ≤ H1.size → (∀ q : Nat, q < H.size → ¬ A1 q → H1[q]? = H[q]?) → va_S A0 H0 H1 locs1 → W p l e R s m args below meth c H1 locs1 (cells + mc) (slots + ms) Q (F0 m (pc + 3) ls (.long r :: rest))) : W p l e R s m args below meth c H locs cells slots Q (F0 m pc ls st0) := by
  intro T hT X
  rcases hr T hT X with ⟨v, st₀, t, T', L, h0, X', hL, e1, e2, ⟨⟨r, u, hv, hp, hb⟩, hF⟩, st⟩ | ⟨q, st₀, t, T', L, E, ce, h0, X', hL, e1, e2, ⟨u, hp, hb, hF⟩, hce, hcv, hcl, st⟩
  · cases hv
    obtain ⟨k1, k2, k3⟩ := vx_keep h0 e1 hS hA hf hL hF
    obtain ⟨t2, a1, b1⟩ := kk r u t T'.heap (locs ++ L) e1.symm (by rw [← e2]; exact X'.warmed.alike) hp hb k1 k2 k3 T' rfl X'
    exact ⟨t2, st t2 a1, b1⟩
  · obtain ⟨k1, k2, k3⟩ := vx_keep h0 e1 hS hAX hf hL hF
    obtain ⟨t2, a1, b1⟩ := kx E ce q u t T'.heap (locs ++ L) e1.symm (by rw [← e2]; exact X'.warmed.alike) hp hb k1 k2 k3 (by rw [e1]; exact hce) hcv hcl T' rfl X'
    exact ⟨t2, st.trans a1, b1⟩
theorem vx_callf {S SX : Type} {post : UInt32 → S → Prop} {px : SX → Prop} {B : S → State → Prop} {BX : String → SX → State → Prop} {AX : Nat → Prop} (hr : vx_Run p l e R s m args below meth c H locs cells slots mc ms (F0 m pc ls st0) rest (va_Qf post B A1 a) (vx_X px BX AX) free) (hS : va_S A0 H0 H locs) (hA : ∀ q, q < H.size → A1 q → A0 q) (hf : ∀ q, free q → A0 q) (hAX : ∀ q, q < H.size → AX q → A0 q)
    (kx : ∀ (E : String) (ce : Cell) (q9 : Addr) (u : SX) (t : State) (H1 : Heap) (locs1 : List Loc), t.heap = H1 → s.vm.Alike t.vm → px u → BX E u t → H.size ≤ H1.size → (∀ q : Nat, q < H.size → ¬ AX q → H1[q]? = H[q]?) → va_S A0 H0 H1 locs1 → H1[q9]? = some ce → ce.vm = .none → s.vm.findClass E = some ce.cls → vx_W p l e R s m args below meth c H1 locs1 (cells + mc) (slots + ms) Q (F0 m pc ls rest) q9)
    (kk : ∀ (r : UInt32) (u : S) (t : State) (H1 : Heap) (locs1 : List Loc), t.heap = H1 → s.vm.Alike t.vm → post r u → B u t → H.size ≤ H1.size → (∀ q : Nat, q < H.size → ¬ A1 q → H1[q]? = H[q]?) → va_S A0 H0 H1 locs1 → W p l e R s m args below meth c H1 locs1 (cells + mc) (slots + ms) Q (F0 m (pc + 3) ls (.float r :: rest))) : W p l e R s m args below meth c H locs cells slots Q (F0 m pc ls st0) := by
  intro T hT X
  rcases hr T hT X with ⟨v, st₀, t, T', L, h0, X', hL, e1, e2, ⟨⟨r, u, hv, hp, hb⟩, hF⟩, st⟩ | ⟨q, st₀, t, T', L, E, ce, h0, X', hL, e1, e2, ⟨u, hp, hb, hF⟩, hce, hcv, hcl, st⟩
  · cases hv
    obtain ⟨k1, k2, k3⟩ := vx_keep h0 e1 hS hA hf hL hF
    obtain ⟨t2, a1, b1⟩ := kk r u t T'.heap (locs ++ L) e1.symm (by rw [← e2]; exact X'.warmed.alike) hp hb k1 k2 k3 T' rfl X'
    exact ⟨t2, st t2 a1, b1⟩
  · obtain ⟨k1, k2, k3⟩ := vx_keep h0 e1 hS hAX hf hL hF
    obtain ⟨t2, a1, b1⟩ := kx E ce q u t T'.heap (locs ++ L) e1.symm (by rw [← e2]; exact X'.warmed.alike) hp hb k1 k2 k3 (by rw [e1]; exact hce) hcv hcl T' rfl X'
    exact ⟨t2, st.trans a1, b1⟩
theorem vx_calld {S SX : Type} {post : UInt64 → S → Prop} {px : SX → Prop} {B : S → State → Prop} {BX : String → SX → State → Prop} {AX : Nat → Prop} (hr : vx_Run p l e R s m args below meth c H locs cells slots mc ms (F0 m pc ls st0) rest (va_Qd post B A1 a) (vx_X px BX AX) free) (hS : va_S A0 H0 H locs) (hA : ∀ q, q < H.size → A1 q → A0 q) (hf : ∀ q, free q → A0 q) (hAX : ∀ q, q < H.size → AX q → A0 q)
    (kx : ∀ (E : String) (ce : Cell) (q9 : Addr) (u : SX) (t : State) (H1 : Heap) (locs1 : List Loc), t.heap = H1 → s.vm.Alike t.vm → px u → BX E u t → H.size ≤ H1.size → (∀ q : Nat, q < H.size → ¬ AX q → H1[q]? = H[q]?) → va_S A0 H0 H1 locs1 → H1[q9]? = some ce → ce.vm = .none → s.vm.findClass E = some ce.cls → vx_W p l e R s m args below meth c H1 locs1 (cells + mc) (slots + ms) Q (F0 m pc ls rest) q9)
    (kk : ∀ (r : UInt64) (u : S) (t : State) (H1 : Heap) (locs1 : List Loc), t.heap = H1 → s.vm.Alike t.vm → post r u → B u t → H.size ≤ H1.size → (∀ q : Nat, q < H.size → ¬ A1 q → H1[q]? = H[q]?) → va_S A0 H0 H1 locs1 → W p l e R s m args below meth c H1 locs1 (cells + mc) (slots + ms) Q (F0 m (pc + 3) ls (.double r :: rest))) : W p l e R s m args below meth c H locs cells slots Q (F0 m pc ls st0) := by
  intro T hT X
  rcases hr T hT X with ⟨v, st₀, t, T', L, h0, X', hL, e1, e2, ⟨⟨r, u, hv, hp, hb⟩, hF⟩, st⟩ | ⟨q, st₀, t, T', L, E, ce, h0, X', hL, e1, e2, ⟨u, hp, hb, hF⟩, hce, hcv, hcl, st⟩
  · cases hv
    obtain ⟨k1, k2, k3⟩ := vx_keep h0 e1 hS hA hf hL hF
    obtain ⟨t2, a1, b1⟩ := kk r u t T'.heap (locs ++ L) e1.symm (by rw [← e2]; exact X'.warmed.alike) hp hb k1 k2 k3 T' rfl X'
    exact ⟨t2, st t2 a1, b1⟩
  · obtain ⟨k1, k2, k3⟩ := vx_keep h0 e1 hS hAX hf hL hF
    obtain ⟨t2, a1, b1⟩ := kx E ce q u t T'.heap (locs ++ L) e1.symm (by rw [← e2]; exact X'.warmed.alike) hp hb k1 k2 k3 (by rw [e1]; exact hce) hcv hcl T' rfl X'
    exact ⟨t2, st.trans a1, b1⟩
theorem vx_callv {S SX : Type} {post : S → Prop} {px : SX → Prop} {B : S → State → Prop} {BX : String → SX → State → Prop} {AX : Nat → Prop} (hr : vx_Run p l e R s m args below meth c H locs cells slots mc ms (F0 m pc ls st0) rest (va_Qv post B A1 a) (vx_X px BX AX) free) (hS : va_S A0 H0 H locs) (hA : ∀ q, q < H.size → A1 q → A0 q) (hf : ∀ q, free q → A0 q) (hAX : ∀ q, q < H.size → AX q → A0 q)
    (kx : ∀ (E : String) (ce : Cell) (q9 : Addr) (u : SX) (t : State) (H1 : Heap) (locs1 : List Loc), t.heap = H1 → s.vm.Alike t.vm → px u → BX E u t → H.size ≤ H1.size → (∀ q : Nat, q < H.size → ¬ AX q → H1[q]? = H[q]?) → va_S A0 H0 H1 locs1 → H1[q9]? = some ce → ce.vm = .none → s.vm.findClass E = some ce.cls → vx_W p l e R s m args below meth c H1 locs1 (cells + mc) (slots + ms) Q (F0 m pc ls rest) q9)
    (kk : ∀ (u : S) (t : State) (H1 : Heap) (locs1 : List Loc), t.heap = H1 → s.vm.Alike t.vm → post u → B u t → H.size ≤ H1.size → (∀ q : Nat, q < H.size → ¬ A1 q → H1[q]? = H[q]?) → va_S A0 H0 H1 locs1 → W p l e R s m args below meth c H1 locs1 (cells + mc) (slots + ms) Q (F0 m (pc + 3) ls (rest))) : W p l e R s m args below meth c H locs cells slots Q (F0 m pc ls st0) := by
  intro T hT X
  rcases hr T hT X with ⟨v, st₀, t, T', L, h0, X', hL, e1, e2, ⟨⟨u, hv, hp, hb⟩, hF⟩, st⟩ | ⟨q, st₀, t, T', L, E, ce, h0, X', hL, e1, e2, ⟨u, hp, hb, hF⟩, hce, hcv, hcl, st⟩
  · cases hv
    obtain ⟨k1, k2, k3⟩ := vx_keep h0 e1 hS hA hf hL hF
    obtain ⟨t2, a1, b1⟩ := kk u t T'.heap (locs ++ L) e1.symm (by rw [← e2]; exact X'.warmed.alike) hp hb k1 k2 k3 T' rfl X'
    exact ⟨t2, st t2 a1, b1⟩
  · obtain ⟨k1, k2, k3⟩ := vx_keep h0 e1 hS hAX hf hL hF
    obtain ⟨t2, a1, b1⟩ := kx E ce q u t T'.heap (locs ++ L) e1.symm (by rw [← e2]; exact X'.warmed.alike) hp hb k1 k2 k3 (by rw [e1]; exact hce) hcv hcl T' rfl X'
    exact ⟨t2, st.trans a1, b1⟩
/-- caught by the row x of this method's table; the rows ahead don't take it -/
theorem vx_catch {own name : String} {E : String} {ce : Cell} {q : Addr} (hown : s.vm.findClass own = some m.cls) (pre : List ExceptionTableEntry) (x : ExceptionTableEntry) (suf : List ExceptionTableEntry) (hsplit : c.exceptionTable.toList = pre ++ x :: suf)
    (hpass : ∀ z ∈ pre, covers z pc = false ∨ (z.catchType ≠ 0 ∧ ∃ nm : String, (Cond.classLink own z.catchType nm).before args s = true ∧ va_Nc E nm s)) (hx : covers x pc = true) (h0 : x.catchType ≠ 0)
    (hlink : (Cond.classLink own x.catchType name).before args s = true) (hcast : (Cond.castable E name).before args s = true) (hcell : H[q]? = some ce) (hv : ce.vm = .none) (hcl : s.vm.findClass E = some ce.cls)
    (kk : W p l e R s m args below meth c H locs cells slots Q (F0 m x.handlerPc ls [.ref q])) : vx_W p l e R s m args below meth c H locs cells slots Q (F0 m pc ls rest) q := by
  intro T hT X
  have hpl : e.platform.magicAccessors = ({} : Platform).magicAccessors := by rw [X.admits.platform]
  obtain ⟨c3, c4, hc3, hc4, hasg⟩ := Cond.castable_spec hcast
  cases Option.some.inj (hc3.symm.trans hcl)
  obtain ⟨c5, hc5, hcl5⟩ := Cond.classLink_spec hown hlink e.platform hpl
  cases Option.some.inj (hc4.symm.trans hc5)
  obtain ⟨vm', X', st⟩ := X.thenCaughtThrough q (g := F0 m pc ls rest) rfl (Steps.refl _) (by rw [hT]; exact hcell) (by rw [hv]; rfl) (by obtain ⟨k9, h9, -⟩ := Vm.findClass_spec hcl; exact ⟨k9, h9⟩) pre x suf hsplit
    (fun z hz => by
      rcases hpass z hz with h | ⟨hz0, nm, hl1, hn1⟩
      · exact Or.inl h
      · obtain ⟨c6, hc6, hcl6⟩ := Cond.classLink_spec hown hl1 e.platform hpl
        obtain ⟨a8, b8, h1, h2, h3⟩ := hn1
        cases Option.some.inj (h1.symm.trans hcl)
        cases Option.some.inj (h2.symm.trans hc6)
        exact Or.inr ⟨hz0, _, hcl6, h3⟩) hx (Or.inr ⟨h0, c4, hcl5, hasg⟩)
  obtain ⟨t, a1, b1⟩ := kk (T.setVm vm') hT X'
  exact ⟨t, st.trans a1, b1⟩
end Rows
section Ends
variable {p : Program} {l : Launch} {e : Env} {R : Room} {s : State} {m : MethodId} {args : Array Value} {below : List Frame} {meth : Method} {c : Code} {H : Heap} {locs : List Loc} {cells slots : Nat} {Q : State → Prop}
variable {mc ms : Nat} {free : Addr → Prop} {A0 A1 : Nat → Prop} {H0 : Heap} {a : Array Value} {ls : Array Slot} {st0 rest : List Value}
variable {Qc : Array Value → State → Outcome → State → Prop} {XC : String → State → State → Prop}
/-- what a body that may throw owes at its end -/
def vx_MQ (below : List Frame) (Qc : Array Value → State → Outcome → State → Prop) (XC : String → State → State → Prop) (a : Array Value) (s : State) (mc ms : Nat) (free : Addr → Prop) : State → Prop := fun t =>
  ∃ o, t.status = .running ∧ Ended t below o ∧ vx_Q Qc XC mc ms free a s o t
theorem vx_ret {g : JFrame} {mc ms : Nat} (k : W p l e R s m args below meth c H locs cells slots (MQ below Qc args s mc ms free) g) : W p l e R s m args below meth c H locs cells slots (vx_MQ below Qc XC args s mc ms free) g := by
  intro T hT X
  obtain ⟨t, a1, o, b1, b2, b3, b4⟩ := k T hT X
  exact ⟨t, a1, o, b1, b2, Or.inl ⟨b3, b4⟩⟩
/-- not caught here: it goes on to the caller -/
theorem vx_widen {g : JFrame} {q : Addr} {k n : Nat} (h1 : cells ≤ k) (h2 : slots ≤ n) (kk : vx_W p l e R s m args below meth c H locs k n Q g q) : vx_W p l e R s m args below meth c H locs cells slots Q g q := fun T hT X => kk T hT (stand_widen X h1 h2)
theorem vx_out {pc : Nat} {E : String} {ce : Cell} {q : Addr} {mc ms : Nat} (hout : ∀ x ∈ c.exceptionTable.toList, covers x pc = false) (hlocks : meth.locks = false) (hcell : H[q]? = some ce) (hv : ce.vm = .none) (hcl : s.vm.findClass E = some ce.cls)
    (hx : ∀ t : State, t.heap = H → s.vm.Alike t.vm → XC E s t) (hf : ∀ z ∈ locs, free z.base) (hc : cells ≤ mc) (hs : slots ≤ ms) :
    vx_W p l e R s m args below meth c H locs cells slots (vx_MQ below Qc XC args s mc ms free) (F0 m pc ls rest) q := by
  intro T hT X
  obtain ⟨st1, hrun, hend, hW, hsm⟩ := X.leaveThrown q (g := F0 m pc ls rest) rfl rfl rfl hout hlocks
  have hcell9 : (T.setFrames (.throwing q :: below)).heap[q]? = some ce := by
    show T.heap[q]? = some ce
    rw [hT]; exact hcell
  exact ⟨_, st1, .threw q, hrun, hend, Or.inr ⟨q, rfl, E, ce, locs, hx _ hT hW.alike, hcell9, hv, hcl, hW, hsm.mono hc hs, hf⟩⟩
theorem vx_frame {U : State} {k n : Nat} (h : s.sameButNew ({ U with vm := s.vm } : State) locs k n) : s.heap.size ≤ U.heap.size ∧ ∀ q : Nat, q < s.heap.size → (∀ z ∈ locs, z.base ≠ q) → U.heap[q]? = s.heap[q]? := by
  obtain ⟨-, h2, -, -, -, h6⟩ := h
  refine ⟨h2, fun q hq hz => ?_⟩
  obtain ⟨c9, e1, e2, e3, e4⟩ := h6 q _ (Array.getElem?_eq_getElem hq)
  have hs : c9.slots = (s.heap[q]).slots := Array.ext_getElem? fun i => e4 i fun hm => hz _ hm rfl
  have h9 : c9 = s.heap[q] := by
    rw [hs] at e2
    exact e2
  have e5 : U.heap[q]? = some c9 := e1
  rw [e5, h9, Array.getElem?_eq_getElem hq]
/-- the words of a throw but the four that speak of the heap -/
def vx_no (w : Cond) : Bool := decide (w ≠ .isRef (.static Bundle.tN "UNASSIGNED_STACK" Bundle.steD)) && decide (w ≠ .isRef (.static Bundle.tN "SUPPRESSED_SENTINEL" Bundle.listD)) && decide (w ≠ .laysStatic Bundle.tN "UNASSIGNED_STACK" Bundle.steD) && decide (w ≠ .laysStatic Bundle.tN "SUPPRESSED_SENTINEL" Bundle.listD)
def vx_at0 (own : String) (ic : Nat) (X : String) (names : List String) : List Cond := (Bundle.ownAtoms0 own ic X names).filter vx_no
def vx_atS (own : String) (ic : Nat) (X : String) (names : List String) : List Cond := (Bundle.ownAtoms own ic X names).filter vx_no
/-- a word that the tables alone decide, or a good one -/
def vx_ot (w : Cond) : Bool := w.onTables || goodWord w
theorem vx_ot_at {args a' : Array Value} {s U : State} {w : Cond} (hW : s.WarmedH U.vm) (hvm : s.vm = U.vm) (hg : vx_ot w = true) (h : w.before args s = true) : w.before a' U = true := by
  simp only [vx_ot, Bool.or_eq_true] at hg
  rcases hg with hg | hg
  · exact va_tabs hg hvm h
  · exact word_at hW (good_of_word hg) h
/-- a list's words: the good ones out of the method's own list, the others by premises of their own -/
theorem vx_hat {args : Array Value} {s : State} {L B : List Cond} (h1 : ∀ w ∈ L.filter goodWord, w.before args s = true) (h2 : ∀ w ∈ L.filter (fun w => !goodWord w), w ∈ B) (h3 : ∀ w ∈ B, w.before args s = true) : ∀ w ∈ L, w.before args s = true := by
  intro w hw
  by_cases g : goodWord w = true
  · exact h1 w (List.mem_filter.mpr ⟨hw, g⟩)
  · refine h3 w (h2 w (List.mem_filter.mpr ⟨hw, ?_⟩))
    show (!goodWord w) = true
    cases hgw : goodWord w
    · rfl
    · exact absurd hgw g
theorem vx_c {args : Array Value} {s : State} {w : Cond} {B : List Cond} (h : w.before args s = true) (t : ∀ w ∈ B, w.before args s = true) : ∀ w' ∈ w :: B, w'.before args s = true := fun w' h' => (List.mem_cons.mp h').elim (fun e => by rw [e]; exact h) (t w')
theorem vx_n {args : Array Value} {s : State} : ∀ w ∈ ([] : List Cond), w.before args s = true := fun _ h => nomatch h
theorem vx_own {args : Array Value} {s : State} {L : List Cond} (h1 : ∀ w ∈ L.filter vx_no, w.before args s = true)
    (hU : (Cond.isRef (.static Bundle.tN "UNASSIGNED_STACK" Bundle.steD)).before args s = true) (hN : (Cond.isRef (.static Bundle.tN "SUPPRESSED_SENTINEL" Bundle.listD)).before args s = true)
    (lU : (Cond.laysStatic Bundle.tN "UNASSIGNED_STACK" Bundle.steD).before args s = true) (lN : (Cond.laysStatic Bundle.tN "SUPPRESSED_SENTINEL" Bundle.listD).before args s = true) : ∀ w ∈ L, w.before args s = true := by
  intro w hw
  by_cases e1 : w = .isRef (.static Bundle.tN "UNASSIGNED_STACK" Bundle.steD)
  · rw [e1]; exact hU
  · by_cases e2 : w = .isRef (.static Bundle.tN "SUPPRESSED_SENTINEL" Bundle.listD)
    · rw [e2]; exact hN
    · by_cases e3 : w = .laysStatic Bundle.tN "UNASSIGNED_STACK" Bundle.steD
      · rw [e3]; exact lU
      · by_cases e4 : w = .laysStatic Bundle.tN "SUPPRESSED_SENTINEL" Bundle.listD
        · rw [e4]; exact lN
        · exact h1 w (List.mem_filter.mpr ⟨hw, by unfold vx_no; rw [decide_eq_true e1, decide_eq_true e2, decide_eq_true e3, decide_eq_true e4]; rfl⟩)
/-- where a static field lies, its class's statics cell in H -/
def vx_L (C n d : String) (A : Nat → Prop) (U : State) (H : Heap) : Prop := ∃ (c : ClassId) (k : Class) (i : Nat) (f : Field) (a : Nat) (cell : Cell), U.vm.findClass C = some c ∧ U.fieldFound? C n d = some (c, k, i, f) ∧ f.isStatic = true ∧ k.statics = some a ∧ H[a]? = some cell ∧ cell.vm.isStatics = true ∧ cell.cls = c ∧ f.slot < cell.slots.size ∧ k.staticTypes[f.slot]? = some f.type ∧ ¬ A a
theorem vx_L.moved {C n d : String} {A : Nat → Prop} {u U : State} {H : Heap} (hvm : u.vm.Alike U.vm) (h : vx_L C n d A u H) : vx_L C n d A U H := by
  obtain ⟨c, k, i, f, a, cell, h1, h2, h3, h4, h5, h6, h7, h8, h9, h10⟩ := h
  obtain ⟨k', hi', he⟩ := State.fieldFound?_setVm hvm h2
  exact ⟨c, k', i, f, a, cell, by rw [hvm.findClass]; exact h1, hi', h3, by rw [he]; exact h4, h5, h6, h7, h8, by rw [he]; exact h9, h10⟩
theorem vx_L.kept {C n d : String} {A : Nat → Prop} {U : State} {H H1 : Heap} (h : vx_L C n d A U H) (hq : ∀ a : Nat, a < H.size → ¬ A a → H1[a]? = H[a]?) : vx_L C n d A U H1 := by
  obtain ⟨c, k, i, f, a, cell, h1, h2, h3, h4, h5, h6, h7, h8, h9, h10⟩ := h
  exact ⟨c, k, i, f, a, cell, h1, h2, h3, h4, by rw [hq a (Array.getElem?_eq_some_iff.mp h5).1 h10]; exact h5, h6, h7, h8, h9, h10⟩
theorem vx_L.narrow {C n d : String} {A B : Nat → Prop} {U : State} {H : Heap} (h : vx_L C n d A U H) (hAB : ∀ q, B q → A q) : vx_L C n d B U H := by
  obtain ⟨c, k, i, f, a, cell, h1, h2, h3, h4, h5, h6, h7, h8, h9, h10⟩ := h
  exact ⟨c, k, i, f, a, cell, h1, h2, h3, h4, h5, h6, h7, h8, h9, fun z => h10 (hAB _ z)⟩
theorem vx_L.word {C n d : String} {A : Nat → Prop} {s : State} {args : Array Value} (h : vx_L C n d A s s.heap) : (Cond.laysStatic C n d).before args s = true := by
  obtain ⟨c, k, i, f, a, cell, h1, h2, h3, h4, h5, h6, h7, h8, h9, -⟩ := h
  show (Cond.laysStatic C n d).holds args s none s [] = true
  exact Cond.laysStatic_of h1 h2 h3 h4 h5 h6 h7 h8 h9
/-- .. and what it holds: null or some reference -/
def vx_Zq (C n d : String) (A : Nat → Prop) (U : State) (H : Heap) : Prop := va_Zq C n d A U H ∧ vx_L C n d A U H
theorem vx_Zq.moved {C n d : String} {A : Nat → Prop} {u U : State} {H : Heap} (hvm : u.vm.Alike U.vm) (h : vx_Zq C n d A u H) : vx_Zq C n d A U H := ⟨va_Zq.moved hvm h.1, vx_L.moved hvm h.2⟩
theorem vx_Zq.kept {C n d : String} {A : Nat → Prop} {U : State} {H H1 : Heap} (h : vx_Zq C n d A U H) (hq : ∀ a : Nat, a < H.size → ¬ A a → H1[a]? = H[a]?) : vx_Zq C n d A U H1 := ⟨va_Zq.kept h.1 hq, vx_L.kept h.2 hq⟩
theorem vx_Zq.narrow {C n d : String} {A B : Nat → Prop} {U : State} {H : Heap} (h : vx_Zq C n d A U H) (hAB : ∀ q, B q → A q) : vx_Zq C n d B U H := ⟨va_Zq.narrow h.1 hAB, vx_L.narrow h.2 hAB⟩
theorem vx_Zqof {args : Array Value} {s : State} {C n d : String} {A : Nat → Prop} (hl : (Cond.laysStatic C n d).before args s = true) (hini : (Cond.initialized C).before args s = true) (h : (Cond.isRef (.static C n d)).before args s = true) (hA : ∀ a : Nat, a < s.heap.size → ¬ A a) : vx_Zq C n d A s s.heap := by
  refine ⟨va_Zqof hl hini h hA, ?_⟩
  obtain ⟨c, k, i, f, a, cell, h1, h2, h3, h4, h5, h6, h7, h8, h9⟩ := Cond.laysStatic_spec hl
  exact ⟨c, k, i, f, a, cell, h1, h2, h3, h4, h5, h6, h7, h8, h9, hA a (Array.getElem?_eq_some_iff.mp h5).1⟩
theorem vx_isRef {C n d : String} {v : Value} {A : Nat → Prop} {s : State} {args : Array Value} (h : va_Z C n d v A s s.heap) (hv : v.isRef = true) : (Cond.isRef (.static C n d)).before args s = true := by
  obtain ⟨cf, kf, fi, f, a, cell, h1, h2, h3, h4, h5, h6, h7, -⟩ := h
  have he : (Term.static C n d).eval args s none [] s = some v := by
    simp [Term.eval, State.fieldNamed?, h1, h2, h4, h5, h6, h7]
  simp only [Cond.before, Cond.holds, Cond.value, he]
  cases v <;> simp_all [Value.isRef]
theorem vx_isRefq {C n d : String} {A : Nat → Prop} {s : State} {args : Array Value} (h : va_Zq C n d A s s.heap) : (Cond.isRef (.static C n d)).before args s = true := by
  rcases h with h | ⟨t, h⟩
  · exact vx_isRef h rfl
  · exact vx_isRef h rfl
/-- the same frame, seen from here: as if the method were called anew in this heap -/
theorem vx_rebase {T : State} (X : Stand p l e R s m args below meth c T locs cells slots) {R' : Room} (hf : R'.frames ≤ R.frames) (hl : R'.locals ≤ R.locals) (hc : cells + R'.cells ≤ R.cells) (hs : slots + R'.slots ≤ R.slots) :
    Stand p l e R' ((T.setVm s.vm).setFrames (.invoking m args :: below)) m args below meth c T [] 0 0 := by
  have htop : (T.setVm s.vm).topJava?.isSome := X.here.top
  have hF : ((T.setVm s.vm).setFrames (.invoking m args :: below)).frames = .invoking m args :: below := State.frames_setFrames _ (State.cur_lt_of_top htop)
  obtain ⟨g₀, hg0⟩ := Option.isSome_iff_exists.mp htop
  obtain ⟨r, hr⟩ := State.topJava?_eq_some.mp hg0
  have hl9 : e.platform.stackLimits (T.setVm s.vm).me = e.platform.stackLimits s.me := X.limits
  have hb9 : (T.setVm s.vm).me.stackBytes = s.me.stackBytes := X.bytes
  refine ⟨X.admits, X.cas, X.clock, hF, ?_, X.hears, X.method, X.code, X.here, X.tail, X.warmed, ?_, ?_, ?_⟩
  · have h := X.room
    have hU : ((T.setVm s.vm).setFrames (.invoking m args :: below)).localsInUse = s.localsInUse := by
      rw [State.localsInUse_invoking hF (meth := meth) (c := c) X.method X.code, State.localsInUse_invoking X.frames X.method X.code]
    simp only [State.hasRoom, Bool.and_eq_true, decide_eq_true_eq] at h ⊢
    obtain ⟨⟨⟨⟨h1, h2, h3, h4, h5, h6⟩, h7⟩, h8⟩, h9⟩ := h
    rw [X.frames, List.length_cons] at h2 h3
    have q1 := X.heapSize
    have q2 := X.used
    simp only [hF, hU, List.length_cons, State.stackLimits_setFrames, State.stackBytes_setFrames, hl9, hb9]
    refine ⟨⟨⟨⟨by omega, by omega, by omega, by omega, by omega, h6⟩, ?_⟩, ?_⟩, X.book⟩
    · show T.heap.size + R'.cells ≤ e.platform.maxCells
      omega
    · show T.slotsUsed + R'.slots ≤ e.platform.maxSlots
      omega
  · rw [State.stackLimits_setFrames]; rfl
  · rw [State.stackBytes_setFrames]; rfl
  · refine ⟨?_, Nat.le_refl _, Nat.le_refl _, ?_, ?_, fun a c9 h9 => ⟨c9, h9, rfl, rfl, fun _ _ => rfl⟩⟩
    · obtain ⟨t, ht, -⟩ := State.frames_cons hr
      show T.setVm s.vm = { ((T.setVm s.vm).setFrames (.invoking m args :: below)).setFrames (T.setVm s.vm).frames with heap := T.heap, slotsUsed := T.slotsUsed }
      rw [State.setFrames_setFrames, State.setFrames_self ht]
      rfl
    · show T.slotsUsed = T.slotsUsed + ((T.heap.toList.drop T.heap.size).map (·.slots.size)).sum
      rw [List.drop_eq_nil_of_le (Nat.le_of_eq Array.length_toList)]
      rfl
    · show ((T.heap.toList.drop T.heap.size).map (·.slots.size)).sum ≤ 0
      rw [List.drop_eq_nil_of_le (Nat.le_of_eq Array.length_toList)]
      exact Nat.le_refl _
/-- 'throw new E()': new; dup; invokespecial; athrow -/
theorem vx_throw0 {cc : ByteArray} {pc : Nat} (hexec : p.tables.exec = Jvm.exec) (hb : c.code = cc) (hl : l.stackTraces = false) {own cls : String} {names : List String} {ik ic mc ms : Nat} {A : Nat → Prop}
    (hown : s.vm.findClass own = some m.cls) (hcls : Bundle.fit cls = true) (hnames : ∀ n ∈ names, Bundle.fit n = true)
    (hk : (Cond.classLink own ik cls).before args s = true) (hini : (Cond.initialized cls).before args s = true) (hat : ∀ w ∈ vx_at0 own ic cls names, w.before args s = true)
    (hgood : ∀ w ∈ Cond.classLink own ik cls :: Cond.initialized cls :: vx_at0 own ic cls names, vx_ot w = true)
    (hU : vx_Zq Bundle.tN "UNASSIGNED_STACK" Bundle.steD A s s.heap) (hN : vx_Zq Bundle.tN "SUPPRESSED_SENTINEL" Bundle.listD A s s.heap) (hS : va_S A s.heap H locs) (hsize : ls.size = c.maxLocals)
    (d0 : decode cc pc = .ok (.new ik, 3)) (d3 : decode cc (pc + 3) = .ok (.dup, 1)) (d4 : decode cc (pc + 4) = .ok (.invokespecial ic, 3)) (d7 : decode cc (pc + 7) = .ok (.athrow, 1))
    (hout : ∀ x ∈ c.exceptionTable.toList, covers x (pc + 7) = false)
    (hRframes : names.length + 3 < R.frames) (hRlocals : (rest.map fun v => v.category).sum + (13 * (names.length + 1) + 42) ≤ R.locals) (hRcells : cells + 1 ≤ R.cells) (hRslots : slots + 6 ≤ R.slots) (hlocks : meth.locks = false)
    (hx : ∀ t : State, s.vm.Alike t.vm → H.size ≤ t.heap.size → (∀ q : Nat, q < H.size → t.heap[q]? = H[q]?) → XC cls s t)
    (hf : ∀ z ∈ locs, free z.base) (hc : cells + 1 ≤ mc) (hs : slots + 6 ≤ ms) :
    W p l e R s m args below meth c H locs cells slots (vx_MQ below Qc XC args s mc ms free) (F0 m pc ls rest) := by
  intro T hT X
  have htr : e.platform.stackTraces = false := (show e.platform.stackTraces = l.stackTraces by rw [X.admits.platform]).trans hl
  have Y := vx_rebase X (R' := { frames := R.frames, locals := R.locals, cells := 1, slots := 6 }) (Nat.le_refl _) (Nat.le_refl _) hRcells hRslots
  obtain ⟨s', hA⟩ : ∃ z, z = (T.setVm s.vm).setFrames (.invoking m args :: below) := ⟨_, rfl⟩
  rw [← hA] at Y
  have hvm : s'.vm = s.vm := by rw [hA]; rfl
  have hhp : s'.heap = H := by rw [hA]; exact hT
  have hW0 : s.WarmedH s'.vm := by rw [hvm]; exact State.WarmedH.refl s
  have hat' : ∀ w ∈ vx_at0 own ic cls names, w.before args s' = true := fun w hw => vx_ot_at hW0 hvm.symm (hgood w (List.mem_cons_of_mem _ (List.mem_cons_of_mem _ hw))) (hat w hw)
  have hk' : (Cond.classLink own ik cls).before args s' = true := vx_ot_at hW0 hvm.symm (hgood _ List.mem_cons_self) hk
  have hini' : (Cond.initialized cls).before args s' = true := vx_ot_at hW0 hvm.symm (hgood _ (List.mem_cons_of_mem _ List.mem_cons_self)) hini
  have hU' : vx_Zq Bundle.tN "UNASSIGNED_STACK" Bundle.steD A s' s'.heap := by rw [hhp]; exact vx_Zq.moved hW0.alike (hU.kept hS.2.1)
  have hN' : vx_Zq Bundle.tN "SUPPRESSED_SENTINEL" Bundle.listD A s' s'.heap := by rw [hhp]; exact vx_Zq.moved hW0.alike (hN.kept hS.2.1)
  have h : ∀ w ∈ Bundle.ownAtoms0 own ic cls names, w.before args s' = true := vx_own hat' (vx_isRefq hU'.1) (vx_isRefq hN'.1) hU'.2.word hN'.2.word
  have hown' : s'.vm.findClass own = some m.cls := by rw [hvm]; exact hown
  have hins : (Cond.instantiable cls 6).before args s' = true := h _ (by simp [Bundle.ownAtoms0])
  obtain ⟨vm₁, cX, kX, hfX, hkX, -, -, X₁, st1⟩ := Y.newCold hexec (own := own) (C := cls) (index := ik) (n := 6) hown' hk' hins hini'
    (g := F0 m pc ls rest) rfl (by rw [hb]; exact d0) (Nat.le_refl _) (Nat.le_refl _)
  generalize hT1 : (T.setVm vm₁).pushCell { cls := cX, slots := kX.instanceTypes.map defaultValue, vm := .none } = T1 at X₁ st1
  have hcat : (Value.ref T.heap.size).category = 1 := rfl
  have hcellA : T1.heap[T.heap.size]? = some (freshCell cX kX) := by rw [← hT1]; exact State.heap_pushCell_size _ _
  have d3' : decode c.code (pc + 3) = .ok (.dup, 1) := by rw [hb]; exact d3
  obtain ⟨U, hsteps, hrun, hend, hW, hsame, ce, hce, hO⟩ := X₁.ctorThrow0 hexec htr (own := own) (cls := cls) (names := names) (ic := ic) hown' hcls hnames h (fun x hx => nomatch hx) hfX hkX hcellA (by rw [hhp, hT]; exact Nat.le_refl _)
    (g := { method := m, pc := pc + 4, locals := ls, stack := .ref T.heap.size :: .ref T.heap.size :: rest, locked := none }) rfl hsize rfl rfl (rest := rest) rfl
    (by rw [hb]; exact d4) (by rw [hb]; exact d7) hout hRframes (by simp only [List.map_cons, List.sum_cons, hcat]; omega) hlocks
  obtain ⟨f1, f2⟩ := vx_frame hsame
  rw [hhp] at f1 f2
  have hWs : s.WarmedH U.vm := State.WarmedH.trans hW0 hW
  have hcl : s.vm.findClass cls = some ce.cls := by
    have h9 := hO.cls
    rw [hvm] at h9
    exact h9
  have hall : s.sameButNew ({ U with vm := s.vm } : State) locs mc ms := by
    subst hA
    obtain ⟨e1, e2⟩ := hsame
    rw [State.setFrames_setFrames] at e1
    have h2 : (T.setVm s.vm).sameButNew ({ U with vm := s.vm } : State) [] (0 + 1) (0 + 6) := ⟨e1, e2⟩
    have h3 := X.same.trans h2
    rw [List.append_nil] at h3
    exact h3.mono hc hs
  refine ⟨U, ?_, .threw T.heap.size, hrun, hend, Or.inr ⟨T.heap.size, rfl, cls, ce, locs, hx U hWs.alike f1 (fun q hq => f2 q hq (fun z hz => nomatch hz)), hce, hO.vm, hcl, hWs, hall, hf⟩⟩
  refine st1 _ ?_
  show Steps p.tables e below (T1.setTop { method := m, pc := pc + 3, locals := ls, stack := .ref T.heap.size :: rest, locked := none }) _
  jvm_step X₁.here [X₁.here.top, hexec, d3', Value.category]
  exact hsteps
/-- 'throw new E("text")': new; dup; ldc; invokespecial; athrow -/
theorem vx_throwS {cc : ByteArray} {pc : Nat} (hexec : p.tables.exec = Jvm.exec) (hb : c.code = cc) (hl : l.stackTraces = false) {own cls text : String} {names : List String} {ik is ic mc ms sa : Nat} {A : Nat → Prop}
    (hown : s.vm.findClass own = some m.cls) (hcls : Bundle.fit cls = true) (hnames : ∀ n ∈ names, Bundle.fit n = true)
    (hk : (Cond.classLink own ik cls).before args s = true) (hini : (Cond.initialized cls).before args s = true) (hstr : vk_R own is text sa s) (hat : ∀ w ∈ vx_atS own ic cls names, w.before args s = true)
    (hgood : ∀ w ∈ Cond.classLink own ik cls :: Cond.initialized cls :: vx_atS own ic cls names, vx_ot w = true)
    (hU : vx_Zq Bundle.tN "UNASSIGNED_STACK" Bundle.steD A s s.heap) (hN : vx_Zq Bundle.tN "SUPPRESSED_SENTINEL" Bundle.listD A s s.heap) (hS : va_S A s.heap H locs) (hsize : ls.size = c.maxLocals)
    (d0 : decode cc pc = .ok (.new ik, 3)) (d3 : decode cc (pc + 3) = .ok (.dup, 1)) (d4 : decode cc (pc + 4) = .ok (.ldc is, 2)) (d6 : decode cc (pc + 6) = .ok (.invokespecial ic, 3)) (d9 : decode cc (pc + 9) = .ok (.athrow, 1))
    (hout : ∀ x ∈ c.exceptionTable.toList, covers x (pc + 9) = false)
    (hRframes : names.length + 3 < R.frames) (hRlocals : (rest.map fun v => v.category).sum + (13 * (names.length + 1) + 43) ≤ R.locals) (hRcells : cells + 1 ≤ R.cells) (hRslots : slots + 6 ≤ R.slots) (hlocks : meth.locks = false)
    (hx : ∀ t : State, s.vm.Alike t.vm → H.size ≤ t.heap.size → (∀ q : Nat, q < H.size → t.heap[q]? = H[q]?) → XC cls s t)
    (hf : ∀ z ∈ locs, free z.base) (hc : cells + 1 ≤ mc) (hs : slots + 6 ≤ ms) :
    W p l e R s m args below meth c H locs cells slots (vx_MQ below Qc XC args s mc ms free) (F0 m pc ls rest) := by
  intro T hT X
  have htr : e.platform.stackTraces = false := (show e.platform.stackTraces = l.stackTraces by rw [X.admits.platform]).trans hl
  have Y := vx_rebase X (R' := { frames := R.frames, locals := R.locals, cells := 1, slots := 6 }) (Nat.le_refl _) (Nat.le_refl _) hRcells hRslots
  obtain ⟨s', hA⟩ : ∃ z, z = (T.setVm s.vm).setFrames (.invoking m args :: below) := ⟨_, rfl⟩
  rw [← hA] at Y
  have hvm : s'.vm = s.vm := by rw [hA]; rfl
  have hhp : s'.heap = H := by rw [hA]; exact hT
  have hW0 : s.WarmedH s'.vm := by rw [hvm]; exact State.WarmedH.refl s
  have hat' : ∀ w ∈ vx_atS own ic cls names, w.before args s' = true := fun w hw => vx_ot_at hW0 hvm.symm (hgood w (List.mem_cons_of_mem _ (List.mem_cons_of_mem _ hw))) (hat w hw)
  have hk' : (Cond.classLink own ik cls).before args s' = true := vx_ot_at hW0 hvm.symm (hgood _ List.mem_cons_self) hk
  have hini' : (Cond.initialized cls).before args s' = true := vx_ot_at hW0 hvm.symm (hgood _ (List.mem_cons_of_mem _ List.mem_cons_self)) hini
  have hU' : vx_Zq Bundle.tN "UNASSIGNED_STACK" Bundle.steD A s' s'.heap := by rw [hhp]; exact vx_Zq.moved hW0.alike (hU.kept hS.2.1)
  have hN' : vx_Zq Bundle.tN "SUPPRESSED_SENTINEL" Bundle.listD A s' s'.heap := by rw [hhp]; exact vx_Zq.moved hW0.alike (hN.kept hS.2.1)
  have h : ∀ w ∈ Bundle.ownAtoms own ic cls names, w.before args s' = true := vx_own hat' (vx_isRefq hU'.1) (vx_isRefq hN'.1) hU'.2.word hN'.2.word
  have hown' : s'.vm.findClass own = some m.cls := by rw [hvm]; exact hown
  have hins : (Cond.instantiable cls 6).before args s' = true := h _ (by simp [Bundle.ownAtoms])
  obtain ⟨vm₁, cX, kX, hfX, hkX, -, -, X₁, st1⟩ := Y.newCold hexec (own := own) (C := cls) (index := ik) (n := 6) hown' hk' hins hini'
    (g := F0 m pc ls rest) rfl (by rw [hb]; exact d0) (Nat.le_refl _) (Nat.le_refl _)
  generalize hT1 : (T.setVm vm₁).pushCell { cls := cX, slots := kX.instanceTypes.map defaultValue, vm := .none } = T1 at X₁ st1
  have hcat : (Value.ref T.heap.size).category = 1 := rfl
  have hcellA : T1.heap[T.heap.size]? = some (freshCell cX kX) := by rw [← hT1]; exact State.heap_pushCell_size _ _
  have d3' : decode c.code (pc + 3) = .ok (.dup, 1) := by rw [hb]; exact d3
  have d4' : decode c.code (pc + 4) = .ok (.ldc is, 2) := by rw [hb]; exact d4
  have hstr' : vk_R own is text sa s' := vk_R.warm hW0 hstr
  obtain ⟨U, hsteps, hrun, hend, hW, hsame, ce, hce, hO⟩ := X₁.ctorThrowS hexec htr (own := own) (cls := cls) (names := names) (ic := ic) hown' hcls hnames h (fun x hx => nomatch hx) hfX hkX hcellA (by rw [hhp, hT]; exact Nat.le_refl _) (msg := .ref sa) rfl
    (g := { method := m, pc := pc + 6, locals := ls, stack := .ref sa :: .ref T.heap.size :: .ref T.heap.size :: rest, locked := none }) rfl hsize rfl rfl (rest := rest) rfl
    (by rw [hb]; exact d6) (by rw [hb]; exact d9) hout hRframes (by simp only [List.map_cons, List.sum_cons, hcat]; omega) hlocks
  obtain ⟨f1, f2⟩ := vx_frame hsame
  rw [hhp] at f1 f2
  have hWs : s.WarmedH U.vm := State.WarmedH.trans hW0 hW
  have hcl : s.vm.findClass cls = some ce.cls := by
    have h9 := hO.cls
    rw [hvm] at h9
    exact h9
  have hall : s.sameButNew ({ U with vm := s.vm } : State) locs mc ms := by
    subst hA
    obtain ⟨e1, e2⟩ := hsame
    rw [State.setFrames_setFrames] at e1
    have h2 : (T.setVm s.vm).sameButNew ({ U with vm := s.vm } : State) [] (0 + 1) (0 + 6) := ⟨e1, e2⟩
    have h3 := X.same.trans h2
    rw [List.append_nil] at h3
    exact h3.mono hc hs
  refine ⟨U, ?_, .threw T.heap.size, hrun, hend, Or.inr ⟨T.heap.size, rfl, cls, ce, locs, hx U hWs.alike f1 (fun q hq => f2 q hq (fun z hz => nomatch hz)), hce, hO.vm, hcl, hWs, hall, hf⟩⟩
  refine st1 _ ?_
  show Steps p.tables e below (T1.setTop { method := m, pc := pc + 3, locals := ls, stack := .ref T.heap.size :: rest, locked := none }) _
  jvm_step X₁.here [X₁.here.top, hexec, d3', Value.category]
  exact X₁.ldcString hexec (own := own) (text := text) (index := is) (a := sa) hown' hstr'.1 hstr'.2
    (g := { method := m, pc := pc + 4, locals := ls, stack := .ref T.heap.size :: .ref T.heap.size :: rest, locked := none }) rfl d4' _ hsteps
/-- 'throw new E("text")', the text by a wide index -/
theorem vx_throwSW {cc : ByteArray} {pc : Nat} (hexec : p.tables.exec = Jvm.exec) (hb : c.code = cc) (hl : l.stackTraces = false) {own cls text : String} {names : List String} {ik is ic mc ms sa : Nat} {A : Nat → Prop}
    (hown : s.vm.findClass own = some m.cls) (hcls : Bundle.fit cls = true) (hnames : ∀ n ∈ names, Bundle.fit n = true)
    (hk : (Cond.classLink own ik cls).before args s = true) (hini : (Cond.initialized cls).before args s = true) (hstr : vk_R own is text sa s) (hat : ∀ w ∈ vx_atS own ic cls names, w.before args s = true)
    (hgood : ∀ w ∈ Cond.classLink own ik cls :: Cond.initialized cls :: vx_atS own ic cls names, vx_ot w = true)
    (hU : vx_Zq Bundle.tN "UNASSIGNED_STACK" Bundle.steD A s s.heap) (hN : vx_Zq Bundle.tN "SUPPRESSED_SENTINEL" Bundle.listD A s s.heap) (hS : va_S A s.heap H locs) (hsize : ls.size = c.maxLocals)
    (d0 : decode cc pc = .ok (.new ik, 3)) (d3 : decode cc (pc + 3) = .ok (.dup, 1)) (d4 : decode cc (pc + 4) = .ok (.ldc_w is, 3)) (d7 : decode cc (pc + 7) = .ok (.invokespecial ic, 3)) (d10 : decode cc (pc + 10) = .ok (.athrow, 1))
    (hout : ∀ x ∈ c.exceptionTable.toList, covers x (pc + 10) = false)
    (hRframes : names.length + 3 < R.frames) (hRlocals : (rest.map fun v => v.category).sum + (13 * (names.length + 1) + 43) ≤ R.locals) (hRcells : cells + 1 ≤ R.cells) (hRslots : slots + 6 ≤ R.slots) (hlocks : meth.locks = false)
    (hx : ∀ t : State, s.vm.Alike t.vm → H.size ≤ t.heap.size → (∀ q : Nat, q < H.size → t.heap[q]? = H[q]?) → XC cls s t)
    (hf : ∀ z ∈ locs, free z.base) (hc : cells + 1 ≤ mc) (hs : slots + 6 ≤ ms) :
    W p l e R s m args below meth c H locs cells slots (vx_MQ below Qc XC args s mc ms free) (F0 m pc ls rest) := by
  intro T hT X
  have htr : e.platform.stackTraces = false := (show e.platform.stackTraces = l.stackTraces by rw [X.admits.platform]).trans hl
  have Y := vx_rebase X (R' := { frames := R.frames, locals := R.locals, cells := 1, slots := 6 }) (Nat.le_refl _) (Nat.le_refl _) hRcells hRslots
  obtain ⟨s', hA⟩ : ∃ z, z = (T.setVm s.vm).setFrames (.invoking m args :: below) := ⟨_, rfl⟩
  rw [← hA] at Y
  have hvm : s'.vm = s.vm := by rw [hA]; rfl
  have hhp : s'.heap = H := by rw [hA]; exact hT
  have hW0 : s.WarmedH s'.vm := by rw [hvm]; exact State.WarmedH.refl s
  have hat' : ∀ w ∈ vx_atS own ic cls names, w.before args s' = true := fun w hw => vx_ot_at hW0 hvm.symm (hgood w (List.mem_cons_of_mem _ (List.mem_cons_of_mem _ hw))) (hat w hw)
  have hk' : (Cond.classLink own ik cls).before args s' = true := vx_ot_at hW0 hvm.symm (hgood _ List.mem_cons_self) hk
  have hini' : (Cond.initialized cls).before args s' = true := vx_ot_at hW0 hvm.symm (hgood _ (List.mem_cons_of_mem _ List.mem_cons_self)) hini
  have hU' : vx_Zq Bundle.tN "UNASSIGNED_STACK" Bundle.steD A s' s'.heap := by rw [hhp]; exact vx_Zq.moved hW0.alike (hU.kept hS.2.1)
  have hN' : vx_Zq Bundle.tN "SUPPRESSED_SENTINEL" Bundle.listD A s' s'.heap := by rw [hhp]; exact vx_Zq.moved hW0.alike (hN.kept hS.2.1)
  have h : ∀ w ∈ Bundle.ownAtoms own ic cls names, w.before args s' = true := vx_own hat' (vx_isRefq hU'.1) (vx_isRefq hN'.1) hU'.2.word hN'.2.word
  have hown' : s'.vm.findClass own = some m.cls := by rw [hvm]; exact hown
  have hins : (Cond.instantiable cls 6).before args s' = true := h _ (by simp [Bundle.ownAtoms])
  obtain ⟨vm₁, cX, kX, hfX, hkX, -, -, X₁, st1⟩ := Y.newCold hexec (own := own) (C := cls) (index := ik) (n := 6) hown' hk' hins hini'
    (g := F0 m pc ls rest) rfl (by rw [hb]; exact d0) (Nat.le_refl _) (Nat.le_refl _)
  generalize hT1 : (T.setVm vm₁).pushCell { cls := cX, slots := kX.instanceTypes.map defaultValue, vm := .none } = T1 at X₁ st1
  have hcat : (Value.ref T.heap.size).category = 1 := rfl
  have hcellA : T1.heap[T.heap.size]? = some (freshCell cX kX) := by rw [← hT1]; exact State.heap_pushCell_size _ _
  have d3' : decode c.code (pc + 3) = .ok (.dup, 1) := by rw [hb]; exact d3
  have d4' : decode c.code (pc + 4) = .ok (.ldc_w is, 3) := by rw [hb]; exact d4
  have hstr' : vk_R own is text sa s' := vk_R.warm hW0 hstr
  obtain ⟨U, hsteps, hrun, hend, hW, hsame, ce, hce, hO⟩ := X₁.ctorThrowS hexec htr (own := own) (cls := cls) (names := names) (ic := ic) hown' hcls hnames h (fun x hx => nomatch hx) hfX hkX hcellA (by rw [hhp, hT]; exact Nat.le_refl _) (msg := .ref sa) rfl
    (g := { method := m, pc := pc + 7, locals := ls, stack := .ref sa :: .ref T.heap.size :: .ref T.heap.size :: rest, locked := none }) rfl hsize rfl rfl (rest := rest) rfl
    (by rw [hb]; exact d7) (by rw [hb]; exact d10) hout hRframes (by simp only [List.map_cons, List.sum_cons, hcat]; omega) hlocks
  obtain ⟨f1, f2⟩ := vx_frame hsame
  rw [hhp] at f1 f2
  have hWs : s.WarmedH U.vm := State.WarmedH.trans hW0 hW
  have hcl : s.vm.findClass cls = some ce.cls := by
    have h9 := hO.cls
    rw [hvm] at h9
    exact h9
  have hall : s.sameButNew ({ U with vm := s.vm } : State) locs mc ms := by
    subst hA
    obtain ⟨e1, e2⟩ := hsame
    rw [State.setFrames_setFrames] at e1
    have h2 : (T.setVm s.vm).sameButNew ({ U with vm := s.vm } : State) [] (0 + 1) (0 + 6) := ⟨e1, e2⟩
    have h3 := X.same.trans h2
    rw [List.append_nil] at h3
    exact h3.mono hc hs
  refine ⟨U, ?_, .threw T.heap.size, hrun, hend, Or.inr ⟨T.heap.size, rfl, cls, ce, locs, hx U hWs.alike f1 (fun q hq => f2 q hq (fun z hz => nomatch hz)), hce, hO.vm, hcl, hWs, hall, hf⟩⟩
  refine st1 _ ?_
  show Steps p.tables e below (T1.setTop { method := m, pc := pc + 3, locals := ls, stack := .ref T.heap.size :: rest, locked := none }) _
  jvm_step X₁.here [X₁.here.top, hexec, d3', Value.category]
  exact X₁.ldcStringW hexec (own := own) (text := text) (index := is) (a := sa) hown' hstr'.1 hstr'.2
    (g := { method := m, pc := pc + 4, locals := ls, stack := .ref T.heap.size :: .ref T.heap.size :: rest, locked := none }) rfl d4' _ hsteps
end Ends
section Bodies
variable {l : Launch}
theorem vx_ofW {y : MethodName} {ws ws' : List Cond} {rm : Room} {Pc : Array Value → State → Prop} {Qc : Array Value → State → Outcome → State → Prop} {XC : String → State → State → Prop} {mc ms : Nat} {free : Addr → Prop} {cc : ByteArray} {maxL : Nat} {ret : Option FieldType}
    (hy : plainName y.cls = true) (hw : ws = Cond.code y cc maxL ret :: ws')
    (body : ∀ p e s m args below meth c s₁, BodyLoose p l y (headSpec ws rm) cc maxL ret e s m args below meth c s₁ → c.maxLocals = maxL → (∀ x ∈ c.exceptionTable.toList, False) → Pc args s →
      W p l e (headSpec ws rm).room s m args below meth c s.heap [] 0 0 (vx_MQ below Qc XC args s mc ms free) (entryFrame m args maxL)) : vx_Met l y ws rm Pc Qc XC mc ms free := by
  refine MetFree.of_bodyS (code := cc) (maxLocals := maxL) (ret := ret) hy ?_ ?_
  · intro args s m h hn
    obtain ⟨meth, c, h1, h2, h3, h4, h5, h6, -, -⟩ := Cond.code_spec hn (atoms_spec (ws := ws) h _ (by rw [hw]; exact List.mem_cons_self))
    exact ⟨meth, c, h1, h2, h3, h4, h5, h6⟩
  · intro p e s m args below meth c s₁ B hml hP _
    have hh0 : s₁.heap = s.heap := by rw [B.state]; rfl
    have ht : ∀ x ∈ c.exceptionTable.toList, False := by
      obtain ⟨meth9, c9, h1, h2, -, -, -, -, h7, -⟩ := Cond.code_spec B.named (atoms_spec (ws := ws) B.pre _ (by rw [hw]; exact List.mem_cons_self))
      cases Option.some.inj (h1.symm.trans B.method)
      cases Option.some.inj (h2.symm.trans (Stand.of_body B).code)
      intro x hx
      rw [Array.isEmpty_iff.mp h7] at hx
      cases hx
    obtain ⟨t, a1, o, b1, b2, b3⟩ := body p e s m args below meth c s₁ B hml ht hP s₁ hh0 (Stand.of_body B)
    exact ⟨t, o, a1, b1, b2, b3⟩
/-- the table of a body with handlers -/
theorem vx_table {p : Program} {x y : MethodName} {S : Spec} {cc bytes : ByteArray} {maxL maxL' : Nat} {ret ret' : Option FieldType} {e : Env} {s s₁ : State} {m : MethodId} {args : Array Value} {below : List Frame} {meth : Method} {c : Code} {hh : List (Nat × Nat × Nat × Nat)}
    (B : BodyLoose p l y S cc maxL ret e s m args below meth c s₁) (h : (Cond.codeWith y bytes maxL' ret' hh).before args s = true) : c.exceptionTable.toList = tableOf hh := by
  obtain ⟨m9, meth9, c9, hn9, h1, h2, -, -, h6, -⟩ := Cond.codeWith_spec h
  cases Option.some.inj (hn9.symm.trans B.named)
  cases Option.some.inj (h1.symm.trans B.method)
  cases Option.some.inj (h2.symm.trans (Stand.of_body B).code)
  rw [← h6, table_eq]
end Bodies
end VXA
/-! ===== END ===== -/
/-! ===== BEGIN a static call of a method with an exception table ===== -/
section VXS
variable {p : Program} {l : Launch} {e : Env} {R : Room} {s : State} {m : MethodId} {args : Array Value} {below : List Frame} {meth : Method} {c : Code} {T : State} {H : Heap} {locs : List Loc} {cells slots : Nat}
abbrev vx_CSW (R : Room) (s : State) (args : Array Value) (own : String) (index : Nat) (y : MethodName) (bytes : ByteArray) (maxL : Nat) (ret : Option FieldType) (hh : List (Nat × Nat × Nat × Nat)) (ws : List Cond) (rm : Room) (mc ms n : Nat) : Prop :=
  (rm.cells = mc ∧ rm.slots = ms ∧ rm.frames + 1 ≤ R.frames ∧ 8 + (maxL + 11) + rm.locals ≤ R.locals ∧ (∀ w ∈ ws, ∀ (a' : Array Value) (U : State), s.WarmedH U.vm → w.before a' U = true) ∧ Cond.codeWith y bytes maxL ret hh ∈ ws) ∧
  (Cond.codeWith y bytes maxL ret hh).before args s = true ∧ (Cond.initialized y.cls).before args s = true ∧ (y.cls ≠ "java/lang/invoke/MethodHandle" ∧ y.cls ≠ "java/lang/invoke/VarHandle") ∧
  (∀ sig, parseMethodDescriptor y.desc = some sig → n = sig.parameters.length) ∧ (Cond.methodLink own index y).before args s = true ∧ (Cond.static y).before args s = true
theorem vx_cwSW {own : String} {index maxL mc ms : Nat} {y : MethodName} {bytes : ByteArray} {ret : Option FieldType} {hh : List (Nat × Nat × Nat × Nat)} {Ts ws ws' : List Cond} {rm : Room} (n : Nat) (ht : ∀ w ∈ Ts, w.before args s = true) (hT : GoodIn Ts (va_wsS own index y ws)) (hw : ws = Cond.codeWith y bytes maxL ret hh :: ws') (hrc : rm.cells = mc) (hrs : rm.slots = ms)
    (hd : y.cls ≠ "java/lang/invoke/MethodHandle" ∧ y.cls ≠ "java/lang/invoke/VarHandle" ∧ (parseMethodDescriptor y.desc).map (fun d => d.parameters.length) = some n) (hR : rm.frames + 1 ≤ R.frames ∧ 8 + (maxL + 11) + rm.locals ≤ R.locals) :
    vx_CSW R s args own index y bytes maxL ret hh ws rm mc ms n := by
  have ok : ∀ w ∈ va_wsS own index y ws, w.before args s = true := fun w h => ht w (hT w h).1
  have hG : GoodIn Ts ws := fun w h => hT w (by unfold va_wsS; exact List.mem_append_right _ h)
  have hc : Cond.codeWith y bytes maxL ret hh ∈ ws := by rw [hw]; exact List.mem_cons_self
  refine ⟨⟨hrc, hrs, hR.1, hR.2, pay_in ht hG, hc⟩, ht _ (hG _ hc).1, ok _ (by simp [va_wsS]), ⟨hd.1, hd.2.1⟩, fun sig h => ?_, ok _ (by simp [va_wsS]), ok _ (by simp [va_wsS])⟩
  have h2 := hd.2.2
  rw [h] at h2
  exact (Option.some.inj h2).symm
theorem vx_callSW (X : Stand p l e R s m args below meth c T locs cells slots) (hexec : p.tables.exec = Jvm.exec) {own : String} {index : Nat} {y : MethodName} {bytes : ByteArray} {maxL : Nat} {ret : Option FieldType} {hh : List (Nat × Nat × Nat × Nat)}
    (hown : s.vm.findClass own = some m.cls) (hlink : (Cond.methodLink own index y).before args s = true) (hstat : (Cond.static y).before args s = true) (hinit : (Cond.initialized y.cls).before args s = true)
    (hcode : (Cond.codeWith y bytes maxL ret hh).before args s = true) (hy : y.cls ≠ "java/lang/invoke/MethodHandle" ∧ y.cls ≠ "java/lang/invoke/VarHandle")
    {W9 : Nat} {Pre : Pt → Array Value → Prop} {Post : Pt → Array Value → Option Value → Pt → Prop} (hK : Back l R p e below s args y 3 W9 Pre Post)
    {g : JFrame} (hg : g.method = m) (hsize : g.locals.size = c.maxLocals) {argsL rest : List Value} (hlen : ∀ sig, parseMethodDescriptor y.desc = some sig → argsL.length = sig.parameters.length)
    (hstack : g.stack = argsL.reverse ++ rest) (hW : 2 * g.monitorRoom + (rest.map fun v => v.category).sum ≤ W9) (hdg : decode c.code g.pc = .ok (.invokestatic index, 3))
    (hpre : ∀ vm₁, s.WarmedH vm₁ → Pre ⟨T.setVm vm₁, locs, cells, slots⟩ argsL.toArray) :
    ∃ (v : Option Value) (vm₁ : Vm) (B : Pt), s.WarmedH vm₁ ∧ Stand p l e R s m args below meth c B.U B.locs B.cells B.slots ∧ Post ⟨T.setVm vm₁, locs, cells, slots⟩ argsL.toArray v B ∧
      ∀ target, Steps p.tables e below (B.U.setTop { g with pc := g.pc + 3, stack := v.toList ++ rest }) target → Steps p.tables e below (T.setTop g) target := by
  obtain ⟨mk, methM, cM, hnamed, hmethM, -, -, -, -, -, -, hsigM⟩ := Cond.codeWith_spec hcode
  have hstatic : methM.isStatic = true := Cond.static_spec hnamed hmethM hstat
  obtain ⟨kP, hkP, -⟩ := className_of_methodNamed hnamed
  have hinitP : kP.init = .initialized := Cond.initialized_spec (findClass_of_methodNamed hnamed) hkP hinit
  obtain ⟨vm₁, X₁, hstep₁⟩ := X.invokestatic hexec hown hlink hnamed hmethM hstatic hkP hinitP hy (g := g) hg (argsL := argsL) (rest := rest) (hlen _ hsigM) hstack hdg
  obtain ⟨v, B, X', hpost, hsteps⟩ := hK m meth c ⟨T.setVm vm₁, locs, cells, slots⟩ { g with stack := rest } (.invokestatic index) mk argsL.toArray X₁ hg hsize hdg hW (X₁.named hnamed) (hpre vm₁ X₁.warmed)
  exact ⟨v, vm₁, B, X₁.warmed, X', hpost, fun target h => hstep₁ _ fun acts => by rw [doInvoke_state]; exact hsteps.trans h⟩
theorem vx_runSW {y : MethodName} {bytes cc : ByteArray} {maxL nL mc ms n index : Nat} {ret : Option FieldType} {hh : List (Nat × Nat × Nat × Nat)} {ws : List Cond} {rm : Room} {Pc : Array Value → State → Prop} {Qc : Array Value → State → Outcome → State → Prop} {free : Addr → Prop} {Ts : List Cond} {own : String} {As rest : List Value} {g : JFrame}
    (S : CallFix p m c cc nL s args Ts own) (hM : Met l y ws rm Pc Qc mc ms free) (cw : vx_CSW R s args own index y bytes maxL ret hh ws rm mc ms n) (hp : PreS s H Pc As)
    (hg : g.method = m) (hn : As.length = n) (hsize : g.locals.size = nL) (hstack : g.stack = As.reverse ++ rest) (hW : 2 * g.monitorRoom + (rest.map fun v => v.category).sum ≤ 8) (hdg : decode cc g.pc = .ok (.invokestatic index, 3)) (hf : cells + mc ≤ R.cells ∧ slots + ms ≤ R.slots) :
    va_Run p l e R s m args below meth c H locs cells slots mc ms g rest (Qc As.toArray) (free) := by
  obtain ⟨⟨hrc, hrs, hfr, hlo, hws, hcw⟩, hcode, hini, hy, hlen, hl, hstt⟩ := cw
  have hK : Back l R p e below s args y 3 8 (PreOf R mc ms Pc) (PostOf Qc mc ms free) := va_backW (hh := hh) (bytes := bytes) (maxL := maxL) (ret := ret) hM hp.1 hrc hrs hfr hlo hws hcw (fun a' U hW => word_at hW (Or.inl (by first | rfl | simp [Cond.onTables, Cond.keeps, Cond.steady])) hini)
  obtain ⟨hx, hb, hml, ho, -⟩ := S
  intro T hT X
  obtain ⟨v, vm₁, ⟨U', l2, c2, s2⟩, hW₁, X', ⟨g', mk, t, L, e1, e2, hq, h1, hL, h2, h3⟩, st⟩ := vx_callSW X hx (hh := hh) (bytes := bytes) (maxL := maxL) (ret := ret) ho hl hstt hini hcode hy hK hg (hsize.trans hml.symm) (argsL := As) (rest := rest) (fun sig h => hn.trans (hlen sig h)) hstack hW (by rw [hb]; exact hdg)
    (fun vm₁ hW₁ => ⟨hf.1, hf.2, hp.2 (T.setVm vm₁) hT hW₁⟩)
  dsimp only [Pt.U, Pt.locs, Pt.cells, Pt.slots] at X' e1 e2 h1 h2 h3 st
  subst h1; subst h2; subst h3
  exact ⟨v, (T.setVm vm₁).calling g' mk As.toArray, t, U', L, hT, X', hL, e1, e2, hq, st⟩
/-- not caught here, past rows that name other classes: it goes on to the caller -/
theorem vx_outP {p : Program} {l : Launch} {e : Env} {R : Room} {s : State} {m : MethodId} {args : Array Value} {below : List Frame} {meth : Method} {c : Code} {H : Heap} {locs : List Loc} {cells slots : Nat} {free : Addr → Prop} {ls : Array Slot} {rest : List Value} {Qc : Array Value → State → Outcome → State → Prop} {XC : String → State → State → Prop}
    {pc : Nat} {own E : String} {ce : Cell} {q : Addr} {mc ms : Nat} (hown : s.vm.findClass own = some m.cls) (hlocks : meth.locks = false)
    (hpass : ∀ z ∈ c.exceptionTable.toList, covers z pc = false ∨ (z.catchType ≠ 0 ∧ ∃ nm : String, (Cond.classLink own z.catchType nm).before args s = true ∧ va_Nc E nm s)) (hcell : H[q]? = some ce) (hv : ce.vm = .none) (hcl : s.vm.findClass E = some ce.cls)
    (hx : ∀ t : State, t.heap = H → s.vm.Alike t.vm → XC E s t) (hf : ∀ z ∈ locs, free z.base) (hc : cells ≤ mc) (hs : slots ≤ ms) :
    vx_W p l e R s m args below meth c H locs cells slots (vx_MQ below Qc XC args s mc ms free) (F0 m pc ls rest) q := by
  intro T hT X
  have hpl : e.platform.magicAccessors = ({} : Platform).magicAccessors := by rw [X.admits.platform]
  obtain ⟨vm', hW', X', st⟩ := X.outThrough hlocks q (g := F0 m pc ls rest) rfl rfl rfl (cell := ce) (by rw [hT]; exact hcell) (by rw [hv]; rfl)
    (by obtain ⟨k9, h9, -⟩ := Vm.findClass_spec hcl; exact ⟨k9, h9⟩) (fun z hz => by
      rcases hpass z hz with h | ⟨hz0, nm, hl1, hn1⟩
      · exact Or.inl h
      · obtain ⟨c6, hc6, hcl6⟩ := Cond.classLink_spec hown hl1 e.platform hpl
        obtain ⟨a8, b8, h1, h2, h3⟩ := hn1
        cases Option.some.inj (h1.symm.trans hcl)
        cases Option.some.inj (h2.symm.trans hc6)
        exact Or.inr ⟨hz0, _, hcl6, h3⟩)
  obtain ⟨g₀, hfr⟩ := X'.frames_eq
  have hcell9 : ((T.setVm vm').setFrames (.throwing q :: below)).heap[q]? = some ce := by
    show T.heap[q]? = some ce
    rw [hT]; exact hcell
  have hend : Ended ((T.setVm vm').setFrames (.throwing q :: below)) below (.threw q) := State.frames_setFrames _ (State.cur_lt_of_frames hfr)
  refine ⟨(T.setVm vm').setFrames (.throwing q :: below), ?_, .threw q, X'.here.running, hend, Or.inr ⟨q, rfl, E, ce, locs, hx _ hT (X'.ends _).1.alike, hcell9, hv, hcl, (X'.ends _).1, (X'.ends _).2.mono hc hs, hf⟩⟩
  rw [X.pushThrowing_eq]
  exact st
/-- a thing of a world lies in the heap -/
theorem vx_lt {D : va_G} {cl : List vw_C} {ws : va_W} {H1 : Heap} (h : va_P D cl ws H1) {k : Nat} {q : Nat × va_E} (hk : ws[k]? = some q) : q.1 < H1.size := (h k q hk).lt
end VXS
/-! ===== END ===== -/
/-! ===== BEGIN methods with a table of their own: called by a name, returning or throwing ===== -/
section VXH
/-! vx_backW, vx_callVX, vx_callSX, vx_callVW, vx_runVW, vx_runVX, vx_runSX, vx_ofWH follow the same proofs as their sisters above (Free/Laws.lean, Shelf42/LK1.lean); vx_outP calls Shelf42/NT130.lean (outThrough). -/
section
variable {l : Launch} {R : Room} {p : Program} {e : Env} {below : List Frame} {s : State} {sargs : Array Value} {y : MethodName} {len W9 : Nat}
theorem vx_backW {ws : List Cond} {rm : Room} {Pc : Array Value → State → Prop} {Qc : Array Value → State → Outcome → State → Prop} {XC : String → State → State → Prop} {mc ms : Nat} {free : Addr → Prop} {bytes : ByteArray} {maxL : Nat} {ret : Option FieldType} {hh : List (Nat × Nat × Nat × Nat)}
    (hM : vx_Met l y ws rm Pc Qc XC mc ms free) (hblind : FrameBlind Pc) (hrc : rm.cells = mc) (hrs : rm.slots = ms)
    (hframes : rm.frames + 1 ≤ R.frames) (hlocals : W9 + (maxL + 11) + rm.locals ≤ R.locals)
    (hws : ∀ w ∈ ws, ∀ a' U, s.WarmedH U.vm → w.before a' U = true) (hcode : Cond.codeWith y bytes maxL ret hh ∈ ws) (hinit : ∀ a' U, s.WarmedH U.vm → (Cond.initialized y.cls).before a' U = true) :
    vx_Back l R p e below s sargs y len W9 (PreOf R mc ms Pc) (PostOf Qc mc ms free) (vx_Post XC mc ms free) := by
  intro m meth c A g ig mk a X hg hsize hdg hW hn hp
  have h1 : (headSpec ws rm).pre.before a A.U = true := atoms_intro fun w hw => hws w hw _ _ X.warmed
  have h2 : (Cond.codeWith y bytes maxL ret hh).before a A.U = true := hws _ hcode _ _ X.warmed
  have h3 : (Cond.initialized y.cls).before a A.U = true := hinit _ _ X.warmed
  have h4 : A.cells + (headSpec ws rm).room.cells ≤ R.cells := by rw [show (headSpec ws rm).room.cells = mc from hrc]; exact hp.1
  have h5 : A.slots + (headSpec ws rm).room.slots ≤ R.slots := by rw [show (headSpec ws rm).room.slots = ms from hrs]; exact hp.2.1
  have hPc : Pc a (A.U.calling g mk a) := hblind _ _ _ _ hp.2.2
  obtain ⟨U, Ls, c0, s0⟩ := A
  dsimp only [Pt.U, Pt.locs, Pt.cells, Pt.slots] at h1 h2 h3 h4 h5 X hn hPc ⊢
  obtain ⟨m9, methY, cY, hn9, hmY, hcY, -, hlY, -⟩ := Cond.codeWith_spec h2
  cases Option.some.inj (hn9.symm.trans hn)
  obtain ⟨kY, hkY, -⟩ := className_of_methodNamed hn
  have hinitY : kY.init = .initialized := Cond.initialized_spec (findClass_of_methodNamed hn) hkY h3
  have h : At U g.method c below := by rw [hg]; exact X.here
  have hlocals9 : W9 + (maxL + 11) + (headSpec ws rm).room.locals ≤ R.locals := hlocals
  have happ : (headSpec ws rm).appliesLoose y e.platform (U.calling g mk a) = true :=
    Spec.appliesLoose_calling (g := g) h hdg hn hkY hinitY
      (X.room_calling (g := g) (R' := (headSpec ws rm).room) hsize hmY hcY hframes (by rw [hlY]; omega) h4 h5) h1
  obtain ⟨mid, hmid⟩ := h.above
  have hfr : (U.setTop g).frames = (.java g :: mid) ++ below := by rw [State.frames_setTop' g h.top, hmid]; rfl
  obtain ⟨o, s₂, hsteps, -, hend, hq⟩ := Steps.callFree hM p X.admits X.cas X.clock (acts := []) hfr happ hPc trivial
  have hq' : vx_Q Qc XC mc ms free a (U.calling g mk a) o s₂ := hq
  rw [State.frames_setTop' g h.top] at hend
  obtain ⟨g₀, hg0⟩ := Option.isSome_iff_exists.mp h.top
  obtain ⟨r, hr⟩ := State.topJava?_eq_some.mp hg0
  have hr' : (({ U with heap := s₂.heap, slotsUsed := s₂.slotsUsed } : State).setVm s₂.vm).frames = .java g₀ :: r := hr
  rcases hq' with ⟨hqc, L, hfe, hL⟩ | ⟨q, rfl, E, ce, L, hx, hce, hcv, hcl, hW₂, hsm, hL⟩
  · obtain ⟨⟨v, rfl⟩, hW₂, e2, q2, q3, q4, q5, q6⟩ := id hfe
    have e3 : s₂ = ({ (U.calling g mk a).setFrames s₂.frames with heap := s₂.heap, slotsUsed := s₂.slotsUsed } : State).setVm s₂.vm := by
      have : s₂ = ({ s₂ with vm := (U.calling g mk a).vm } : State).setVm s₂.vm := rfl
      rw [e2] at this
      exact this
    obtain ⟨c₂, i₂, len₂, hc₂, hd₂, hf₂⟩ := hend
    have hW' : U.WarmedH s₂.vm := hW₂
    have hcc : c₂ = c := by
      have h1 : s₂.code? g.method = U.code? g.method := by
        rw [State.code?_eq, State.code?_eq, hW'.alike.method?]
      exact Option.some.inj (hc₂.symm.trans (h1.trans h.code))
    subst hcc
    have hlen : len₂ = len := by rw [hdg] at hd₂; cases hd₂; rfl
    subst hlen
    have hs₂ : s₂ = (({ U with heap := s₂.heap, slotsUsed := s₂.slotsUsed } : State).setVm s₂.vm).setTop { g with pc := g.pc + len₂, stack := v.toList ++ g.stack } := by
      refine e3.trans ?_
      rw [hf₂, State.calling_eq h.top, State.setFrames_setFrames, State.setTop_of_frames _ hr', hr]
      rfl
    have hsame : U.sameButNew ({ U with heap := s₂.heap, slotsUsed := s₂.slotsUsed } : State) L mc ms := by
      refine ⟨?_, q2, q3, q4, q5, q6⟩
      obtain ⟨t, ht, -⟩ := State.frames_cons hr
      show ({ U with heap := s₂.heap, slotsUsed := s₂.slotsUsed } : State) = { U.setFrames U.frames with heap := s₂.heap, slotsUsed := s₂.slotsUsed }
      rw [State.setFrames_self ht]
    subst hg
    refine Or.inl ⟨v, ⟨(({ U with heap := s₂.heap, slotsUsed := s₂.slotsUsed } : State).setVm s₂.vm), Ls ++ L, c0 + mc, s0 + ms⟩,
      ⟨X.admits, X.cas, X.clock, X.frames, X.room, X.hears, X.method, X.code, (X.here.setHeapUsed s₂.heap s₂.slotsUsed).setVm hW'.alike, X.tail, State.WarmedH.trans X.warmed hW', X.limits, X.bytes, X.same.trans (hsame.setVm s.vm)⟩,
      ⟨g, mk, s₂, L, rfl, rfl, hqc, rfl, hL, rfl, rfl⟩, ?_⟩
    show Steps p.tables e below _ ((({ U with heap := s₂.heap, slotsUsed := s₂.slotsUsed } : State).setVm s₂.vm).setTop { g with pc := g.pc + len₂, stack := v.toList ++ g.stack })
    rw [← hs₂]
    exact hsteps
  · obtain ⟨e2, q2, q3, q4, q5, q6⟩ := id hsm
    have e3 : s₂ = ({ (U.calling g mk a).setFrames s₂.frames with heap := s₂.heap, slotsUsed := s₂.slotsUsed } : State).setVm s₂.vm := by
      have : s₂ = ({ s₂ with vm := (U.calling g mk a).vm } : State).setVm s₂.vm := rfl
      rw [e2] at this
      exact this
    have hf₂ : s₂.frames = .throwing q :: .java g :: U.frames.tail := hend
    have hW' : U.WarmedH s₂.vm := hW₂
    have hs₂ : s₂ = ((({ U with heap := s₂.heap, slotsUsed := s₂.slotsUsed } : State).setVm s₂.vm).setTop g).pushFrame (.throwing q) := by
      refine e3.trans ?_
      rw [hf₂, State.calling_eq h.top, State.setFrames_setFrames, State.pushFrame, State.frames_setTop _ hr', State.setTop_of_frames _ hr', State.setFrames_setFrames, hr]
      rfl
    have hsame : U.sameButNew ({ U with heap := s₂.heap, slotsUsed := s₂.slotsUsed } : State) L mc ms := by
      refine ⟨?_, q2, q3, q4, q5, q6⟩
      obtain ⟨t, ht, -⟩ := State.frames_cons hr
      show ({ U with heap := s₂.heap, slotsUsed := s₂.slotsUsed } : State) = { U.setFrames U.frames with heap := s₂.heap, slotsUsed := s₂.slotsUsed }
      rw [State.setFrames_self ht]
    subst hg
    refine Or.inr ⟨q, ⟨(({ U with heap := s₂.heap, slotsUsed := s₂.slotsUsed } : State).setVm s₂.vm), Ls ++ L, c0 + mc, s0 + ms⟩,
      ⟨X.admits, X.cas, X.clock, X.frames, X.room, X.hears, X.method, X.code, (X.here.setHeapUsed s₂.heap s₂.slotsUsed).setVm hW'.alike, X.tail, State.WarmedH.trans X.warmed hW', X.limits, X.bytes, X.same.trans (hsame.setVm s.vm)⟩,
      ⟨g, mk, s₂, L, E, ce, rfl, rfl, hx, hce, hcv, hcl, rfl, hL, rfl, rfl⟩, ?_⟩
    show Steps p.tables e below _ (((({ U with heap := s₂.heap, slotsUsed := s₂.slotsUsed } : State).setVm s₂.vm).setTop g).pushFrame (.throwing q))
    rw [← hs₂]
    exact hsteps
end
variable {p : Program} {l : Launch} {e : Env} {R : Room} {s : State} {m : MethodId} {args : Array Value} {below : List Frame} {meth : Method} {c : Code} {T : State} {H : Heap} {locs : List Loc} {cells slots : Nat}
theorem vx_callVX (X : Stand p l e R s m args below meth c T locs cells slots) (hexec : p.tables.exec = Jvm.exec) {own C : String} {index : Nat} {y : MethodName} {bytes : ByteArray} {maxL : Nat} {ret : Option FieldType} {hh : List (Nat × Nat × Nat × Nat)}
    (hown : s.vm.findClass own = some m.cls) (hlink : (Cond.methodLink own index y).before args s = true) (hinst : (Cond.instanceMethod y).before args s = true) (hsel : (Cond.selects C y y).before args s = true)
    (hcode : (Cond.codeWith y bytes maxL ret hh).before args s = true) (hy : y.cls ≠ "java/lang/invoke/MethodHandle" ∧ y.cls ≠ "java/lang/invoke/VarHandle")
    {W9 : Nat} {Pre : Pt → Array Value → Prop} {Post : Pt → Array Value → Option Value → Pt → Prop} {PostX : Pt → Array Value → Addr → Pt → Prop} (hK : vx_Back l R p e below s args y 3 W9 Pre Post PostX)
    {b : Addr} {cellB : Cell} (hcell : T.heap[b]? = some cellB) (hobj : cellB.vm.isStatics = false) (hcls : s.vm.findClass C = some cellB.cls)
    {g : JFrame} (hg : g.method = m) (hsize : g.locals.size = c.maxLocals) {argsL rest : List Value} (hlen : ∀ sig, parseMethodDescriptor y.desc = some sig → argsL.length = sig.parameters.length)
    (hstack : g.stack = argsL.reverse ++ .ref b :: rest) (hW : 2 * g.monitorRoom + (rest.map fun v => v.category).sum ≤ W9) (hdg : decode c.code g.pc = .ok (.invokevirtual index, 3))
    (hpre : ∀ vm₁, s.WarmedH vm₁ → Pre ⟨T.setVm vm₁, locs, cells, slots⟩ (Value.ref b :: argsL).toArray) :
    (∃ (v : Option Value) (vm₁ : Vm) (B : Pt), s.WarmedH vm₁ ∧ Stand p l e R s m args below meth c B.U B.locs B.cells B.slots ∧ Post ⟨T.setVm vm₁, locs, cells, slots⟩ (Value.ref b :: argsL).toArray v B ∧
      ∀ target, Steps p.tables e below (B.U.setTop { g with pc := g.pc + 3, stack := v.toList ++ rest }) target → Steps p.tables e below (T.setTop g) target) ∨
    (∃ (q : Addr) (vm₁ : Vm) (B : Pt), s.WarmedH vm₁ ∧ Stand p l e R s m args below meth c B.U B.locs B.cells B.slots ∧ PostX ⟨T.setVm vm₁, locs, cells, slots⟩ (Value.ref b :: argsL).toArray q B ∧
      Steps p.tables e below (T.setTop g) ((B.U.setTop { g with stack := rest }).pushFrame (.throwing q))) := by
  obtain ⟨mk, methM, hnamed, hmethM, hstM, habM⟩ := Cond.instanceMethod_spec hinst
  obtain ⟨m8, methM', cM, hn8, hmethM', -, -, -, -, -, -, hsigM⟩ := Cond.codeWith_spec hcode
  cases Option.some.inj (hn8.symm.trans hnamed)
  cases hmethM.symm.trans hmethM'
  obtain ⟨c2, r2, m2, q1, q2, q3, q4, kP, hkP, hkPi⟩ := Cond.selects_spec hsel
  cases hcls.symm.trans q1
  cases (State.methodFound?_of_named hnamed hy).symm.trans q2
  cases hnamed.symm.trans q3
  have hselP : selectMethod e.platform s.vm cellB.cls mk = .method mk := by rw [Launch.admits_selectMethod X.admits]; exact q4
  obtain ⟨vm₁, X₁, hstep₁⟩ := X.invokevirtual hexec hown hlink hnamed hmethM hstM hkP hkPi hy (a := b) (cell := cellB) hcell
    (fun z h => by rw [h] at hobj; cases hobj) hselP hmethM habM hkP hkPi (g := g) hg (argsL := argsL) (rest := rest) (hlen _ hsigM) hstack hdg
  rcases hK m meth c ⟨T.setVm vm₁, locs, cells, slots⟩ { g with stack := rest } (.invokevirtual index) mk (Value.ref b :: argsL).toArray X₁ hg hsize hdg hW (X₁.named hnamed) (hpre vm₁ X₁.warmed) with ⟨v, B, X', hpost, hsteps⟩ | ⟨q, B, X', hpost, hsteps⟩
  · exact Or.inl ⟨v, vm₁, B, X₁.warmed, X', hpost, fun target h => hstep₁ _ fun acts => by rw [doInvoke_state]; exact hsteps.trans h⟩
  · exact Or.inr ⟨q, vm₁, B, X₁.warmed, X', hpost, hstep₁ _ fun acts => by rw [doInvoke_state]; exact hsteps⟩
theorem vx_callSX (X : Stand p l e R s m args below meth c T locs cells slots) (hexec : p.tables.exec = Jvm.exec) {own : String} {index : Nat} {y : MethodName} {bytes : ByteArray} {maxL : Nat} {ret : Option FieldType} {hh : List (Nat × Nat × Nat × Nat)}
    (hown : s.vm.findClass own = some m.cls) (hlink : (Cond.methodLink own index y).before args s = true) (hstat : (Cond.static y).before args s = true) (hinit : (Cond.initialized y.cls).before args s = true)
    (hcode : (Cond.codeWith y bytes maxL ret hh).before args s = true) (hy : y.cls ≠ "java/lang/invoke/MethodHandle" ∧ y.cls ≠ "java/lang/invoke/VarHandle")
    {W9 : Nat} {Pre : Pt → Array Value → Prop} {Post : Pt → Array Value → Option Value → Pt → Prop} {PostX : Pt → Array Value → Addr → Pt → Prop} (hK : vx_Back l R p e below s args y 3 W9 Pre Post PostX)
    {g : JFrame} (hg : g.method = m) (hsize : g.locals.size = c.maxLocals) {argsL rest : List Value} (hlen : ∀ sig, parseMethodDescriptor y.desc = some sig → argsL.length = sig.parameters.length)
    (hstack : g.stack = argsL.reverse ++ rest) (hW : 2 * g.monitorRoom + (rest.map fun v => v.category).sum ≤ W9) (hdg : decode c.code g.pc = .ok (.invokestatic index, 3))
    (hpre : ∀ vm₁, s.WarmedH vm₁ → Pre ⟨T.setVm vm₁, locs, cells, slots⟩ argsL.toArray) :
    (∃ (v : Option Value) (vm₁ : Vm) (B : Pt), s.WarmedH vm₁ ∧ Stand p l e R s m args below meth c B.U B.locs B.cells B.slots ∧ Post ⟨T.setVm vm₁, locs, cells, slots⟩ argsL.toArray v B ∧
      ∀ target, Steps p.tables e below (B.U.setTop { g with pc := g.pc + 3, stack := v.toList ++ rest }) target → Steps p.tables e below (T.setTop g) target) ∨
    (∃ (q : Addr) (vm₁ : Vm) (B : Pt), s.WarmedH vm₁ ∧ Stand p l e R s m args below meth c B.U B.locs B.cells B.slots ∧ PostX ⟨T.setVm vm₁, locs, cells, slots⟩ argsL.toArray q B ∧
      Steps p.tables e below (T.setTop g) ((B.U.setTop { g with stack := rest }).pushFrame (.throwing q))) := by
  obtain ⟨mk, methM, cM, hnamed, hmethM, -, -, -, -, -, -, hsigM⟩ := Cond.codeWith_spec hcode
  have hstatic : methM.isStatic = true := Cond.static_spec hnamed hmethM hstat
  obtain ⟨kP, hkP, -⟩ := className_of_methodNamed hnamed
  have hinitP : kP.init = .initialized := Cond.initialized_spec (findClass_of_methodNamed hnamed) hkP hinit
  obtain ⟨vm₁, X₁, hstep₁⟩ := X.invokestatic hexec hown hlink hnamed hmethM hstatic hkP hinitP hy (g := g) hg (argsL := argsL) (rest := rest) (hlen _ hsigM) hstack hdg
  rcases hK m meth c ⟨T.setVm vm₁, locs, cells, slots⟩ { g with stack := rest } (.invokestatic index) mk argsL.toArray X₁ hg hsize hdg hW (X₁.named hnamed) (hpre vm₁ X₁.warmed) with ⟨v, B, X', hpost, hsteps⟩ | ⟨q, B, X', hpost, hsteps⟩
  · exact Or.inl ⟨v, vm₁, B, X₁.warmed, X', hpost, fun target h => hstep₁ _ fun acts => by rw [doInvoke_state]; exact hsteps.trans h⟩
  · exact Or.inr ⟨q, vm₁, B, X₁.warmed, X', hpost, hstep₁ _ fun acts => by rw [doInvoke_state]; exact hsteps⟩
theorem vx_callVW (X : Stand p l e R s m args below meth c T locs cells slots) (hexec : p.tables.exec = Jvm.exec) {own C : String} {index : Nat} {y : MethodName} {bytes : ByteArray} {maxL : Nat} {ret : Option FieldType} {hh : List (Nat × Nat × Nat × Nat)}
    (hown : s.vm.findClass own = some m.cls) (hlink : (Cond.methodLink own index y).before args s = true) (hinst : (Cond.instanceMethod y).before args s = true) (hsel : (Cond.selects C y y).before args s = true)
    (hcode : (Cond.codeWith y bytes maxL ret hh).before args s = true) (hy : y.cls ≠ "java/lang/invoke/MethodHandle" ∧ y.cls ≠ "java/lang/invoke/VarHandle")
    {W9 : Nat} {Pre : Pt → Array Value → Prop} {Post : Pt → Array Value → Option Value → Pt → Prop} (hK : Back l R p e below s args y 3 W9 Pre Post)
    {b : Addr} {cellB : Cell} (hcell : T.heap[b]? = some cellB) (hobj : cellB.vm.isStatics = false) (hcls : s.vm.findClass C = some cellB.cls)
    {g : JFrame} (hg : g.method = m) (hsize : g.locals.size = c.maxLocals) {argsL rest : List Value} (hlen : ∀ sig, parseMethodDescriptor y.desc = some sig → argsL.length = sig.parameters.length)
    (hstack : g.stack = argsL.reverse ++ .ref b :: rest) (hW : 2 * g.monitorRoom + (rest.map fun v => v.category).sum ≤ W9) (hdg : decode c.code g.pc = .ok (.invokevirtual index, 3))
    (hpre : ∀ vm₁, s.WarmedH vm₁ → Pre ⟨T.setVm vm₁, locs, cells, slots⟩ (Value.ref b :: argsL).toArray) :
    ∃ (v : Option Value) (vm₁ : Vm) (B : Pt), s.WarmedH vm₁ ∧ Stand p l e R s m args below meth c B.U B.locs B.cells B.slots ∧ Post ⟨T.setVm vm₁, locs, cells, slots⟩ (Value.ref b :: argsL).toArray v B ∧
      ∀ target, Steps p.tables e below (B.U.setTop { g with pc := g.pc + 3, stack := v.toList ++ rest }) target → Steps p.tables e below (T.setTop g) target := by
  obtain ⟨mk, methM, hnamed, hmethM, hstM, habM⟩ := Cond.instanceMethod_spec hinst
  obtain ⟨m8, methM', cM, hn8, hmethM', -, -, -, -, -, -, hsigM⟩ := Cond.codeWith_spec hcode
  cases Option.some.inj (hn8.symm.trans hnamed)
  cases hmethM.symm.trans hmethM'
  obtain ⟨c2, r2, m2, q1, q2, q3, q4, kP, hkP, hkPi⟩ := Cond.selects_spec hsel
  cases hcls.symm.trans q1
  cases (State.methodFound?_of_named hnamed hy).symm.trans q2
  cases hnamed.symm.trans q3
  have hselP : selectMethod e.platform s.vm cellB.cls mk = .method mk := by rw [Launch.admits_selectMethod X.admits]; exact q4
  obtain ⟨vm₁, X₁, hstep₁⟩ := X.invokevirtual hexec hown hlink hnamed hmethM hstM hkP hkPi hy (a := b) (cell := cellB) hcell
    (fun z h => by rw [h] at hobj; cases hobj) hselP hmethM habM hkP hkPi (g := g) hg (argsL := argsL) (rest := rest) (hlen _ hsigM) hstack hdg
  obtain ⟨v, B, X', hpost, hsteps⟩ := hK m meth c ⟨T.setVm vm₁, locs, cells, slots⟩ { g with stack := rest } (.invokevirtual index) mk (Value.ref b :: argsL).toArray X₁ hg hsize hdg hW (X₁.named hnamed) (hpre vm₁ X₁.warmed)
  exact ⟨v, vm₁, B, X₁.warmed, X', hpost, fun target h => hstep₁ _ fun acts => by rw [doInvoke_state]; exact hsteps.trans h⟩
abbrev vx_CVW (R : Room) (s : State) (args : Array Value) (own C : String) (index : Nat) (y : MethodName) (bytes : ByteArray) (maxL : Nat) (ret : Option FieldType) (hh : List (Nat × Nat × Nat × Nat)) (ws : List Cond) (rm : Room) (mc ms n : Nat) : Prop :=
  (rm.cells = mc ∧ rm.slots = ms ∧ rm.frames + 1 ≤ R.frames ∧ 8 + (maxL + 11) + rm.locals ≤ R.locals ∧ (∀ w ∈ ws, ∀ (a' : Array Value) (U : State), s.WarmedH U.vm → w.before a' U = true) ∧ Cond.codeWith y bytes maxL ret hh ∈ ws) ∧
  (Cond.codeWith y bytes maxL ret hh).before args s = true ∧ (Cond.initialized y.cls).before args s = true ∧ (y.cls ≠ "java/lang/invoke/MethodHandle" ∧ y.cls ≠ "java/lang/invoke/VarHandle") ∧
  (∀ sig, parseMethodDescriptor y.desc = some sig → n = sig.parameters.length) ∧ (Cond.methodLink own index y).before args s = true ∧ (Cond.instanceMethod y).before args s = true ∧ (Cond.selects C y y).before args s = true
theorem vx_cwVW {own C : String} {index maxL mc ms : Nat} {y : MethodName} {bytes : ByteArray} {ret : Option FieldType} {hh : List (Nat × Nat × Nat × Nat)} {Ts ws ws' : List Cond} {rm : Room} (n : Nat) (ht : ∀ w ∈ Ts, w.before args s = true) (hT : GoodIn Ts (wsV own index C y ws)) (hw : ws = Cond.codeWith y bytes maxL ret hh :: ws') (hrc : rm.cells = mc) (hrs : rm.slots = ms)
    (hd : y.cls = C ∧ y.cls ≠ "java/lang/invoke/MethodHandle" ∧ y.cls ≠ "java/lang/invoke/VarHandle" ∧ (parseMethodDescriptor y.desc).map (fun d => d.parameters.length) = some n) (hR : rm.frames + 1 ≤ R.frames ∧ 8 + (maxL + 11) + rm.locals ≤ R.locals) :
    vx_CVW R s args own C index y bytes maxL ret hh ws rm mc ms n := by
  obtain ⟨hC, hd⟩ := hd
  subst hC
  have ok : ∀ w ∈ wsV own index y.cls y ws, w.before args s = true := fun w h => ht w (hT w h).1
  have hG : GoodIn Ts ws := fun w h => hT w (by unfold wsV; exact List.mem_append_right _ h)
  have hc : Cond.codeWith y bytes maxL ret hh ∈ ws := by rw [hw]; exact List.mem_cons_self
  refine ⟨⟨hrc, hrs, hR.1, hR.2, pay_in ht hG, hc⟩, ht _ (hG _ hc).1, ok _ (by simp [wsV]), ⟨hd.1, hd.2.1⟩, fun sig h => ?_, ok _ (by simp [wsV]), ok _ (by simp [wsV]), ok _ (by simp [wsV])⟩
  have h2 := hd.2.2
  rw [h] at h2
  exact (Option.some.inj h2).symm
theorem vx_runVW {y : MethodName} {bytes cc : ByteArray} {maxL nL mc ms n index : Nat} {ret : Option FieldType} {hh : List (Nat × Nat × Nat × Nat)} {ws : List Cond} {rm : Room} {Pc : Array Value → State → Prop} {Qc : Array Value → State → Outcome → State → Prop} {free : Addr → Prop} {Ts : List Cond} {own C : String} {b : Addr} {As rest : List Value} {g : JFrame}
    (S : CallFix p m c cc nL s args Ts own) (hM : Met l y ws rm Pc Qc mc ms free) (cw : vx_CVW R s args own C index y bytes maxL ret hh ws rm mc ms n) (hp : PreV s H C b Pc As)
    (hg : g.method = m) (hn : As.length = n) (hsize : g.locals.size = nL) (hstack : g.stack = As.reverse ++ .ref b :: rest) (hW : 2 * g.monitorRoom + (rest.map fun v => v.category).sum ≤ 8) (hdg : decode cc g.pc = .ok (.invokevirtual index, 3)) (hf : cells + mc ≤ R.cells ∧ slots + ms ≤ R.slots) :
    va_Run p l e R s m args below meth c H locs cells slots mc ms g rest (Qc (Value.ref b :: As).toArray) free := by
  obtain ⟨⟨hrc, hrs, hfr, hlo, hws, hcw⟩, hcode, hini, hy, hlen, hl, hin, hse⟩ := cw
  have hK : Back l R p e below s args y 3 8 (PreOf R mc ms Pc) (PostOf Qc mc ms free) := va_backW (hh := hh) (bytes := bytes) (maxL := maxL) (ret := ret) hM hp.1 hrc hrs hfr hlo hws hcw (fun a' U hW => word_at hW (Or.inl (by first | rfl | simp [Cond.onTables, Cond.keeps, Cond.steady])) hini)
  obtain ⟨hx, hb, hml, ho, -⟩ := S
  obtain ⟨-, ⟨cellB, hcB, hoB, hclB⟩, hPc⟩ := hp
  intro T hT X
  obtain ⟨v, vm₁, ⟨U', l2, c2, s2⟩, hW₁, X', ⟨g', mk, t, L, e1, e2, hq, h1, hL, h2, h3⟩, st⟩ := vx_callVW X hx (C := C) (hh := hh) (bytes := bytes) (maxL := maxL) (ret := ret) ho hl hin hse hcode hy hK (by rw [hT]; exact hcB) hoB hclB hg (hsize.trans hml.symm) (argsL := As) (rest := rest) (fun sig h => hn.trans (hlen sig h)) hstack hW (by rw [hb]; exact hdg)
    (fun vm₁ hW₁ => ⟨hf.1, hf.2, hPc (T.setVm vm₁) hT hW₁⟩)
  dsimp only [Pt.U, Pt.locs, Pt.cells, Pt.slots] at X' e1 e2 h1 h2 h3 st
  subst h1; subst h2; subst h3
  exact ⟨v, (T.setVm vm₁).calling g' mk (Value.ref b :: As).toArray, t, U', L, hT, X', hL, e1, e2, hq, st⟩
section
variable {y : MethodName} {bytes cc : ByteArray} {maxL nL mc ms n index : Nat} {ret : Option FieldType} {ws : List Cond} {rm : Room} {Pc : Array Value → State → Prop} {Qc : Array Value → State → Outcome → State → Prop} {XC : String → State → State → Prop} {free : Addr → Prop} {Ts : List Cond} {own C : String} {b : Addr} {As rest : List Value} {g : JFrame}
theorem vx_runVX {hh : List (Nat × Nat × Nat × Nat)} (S : CallFix p m c cc nL s args Ts own) (hM : vx_Met l y ws rm Pc Qc XC mc ms free) (cw : vx_CVW R s args own C index y bytes maxL ret hh ws rm mc ms n) (hp : PreV s H C b Pc As)
    (hg : g.method = m) (hn : As.length = n) (hsize : g.locals.size = nL) (hstack : g.stack = As.reverse ++ .ref b :: rest) (hW : 2 * g.monitorRoom + (rest.map fun v => v.category).sum ≤ 8) (hdg : decode cc g.pc = .ok (.invokevirtual index, 3)) (hf : cells + mc ≤ R.cells ∧ slots + ms ≤ R.slots) :
    vx_Run p l e R s m args below meth c H locs cells slots mc ms g rest (Qc (Value.ref b :: As).toArray) XC free := by
  obtain ⟨⟨hrc, hrs, hfr, hlo, hws, hcw⟩, hcode, hini, hy, hlen, hl, hin, hse⟩ := cw
  have hK : vx_Back l R p e below s args y 3 8 (PreOf R mc ms Pc) (PostOf Qc mc ms free) (vx_Post XC mc ms free) := vx_backW (hh := hh) (bytes := bytes) (maxL := maxL) (ret := ret) hM hp.1 hrc hrs hfr hlo hws hcw (fun a' U hW => word_at hW (Or.inl (by first | rfl | simp [Cond.onTables, Cond.keeps, Cond.steady])) hini)
  obtain ⟨hx, hb, hml, ho, -⟩ := S
  obtain ⟨-, ⟨cellB, hcB, hoB, hclB⟩, hPc⟩ := hp
  intro T hT X
  rcases vx_callVX X hx (C := C) (hh := hh) (bytes := bytes) (maxL := maxL) (ret := ret) ho hl hin hse hcode hy hK (by rw [hT]; exact hcB) hoB hclB hg (hsize.trans hml.symm) (argsL := As) (rest := rest) (fun sig h => hn.trans (hlen sig h)) hstack hW (by rw [hb]; exact hdg)
    (fun vm₁ hW₁ => ⟨hf.1, hf.2, hPc (T.setVm vm₁) hT hW₁⟩) with ⟨v, vm₁, ⟨U', l2, c2, s2⟩, hW₁, X', ⟨g', mk, t, L, e1, e2, hq, h1, hL, h2, h3⟩, st⟩ | ⟨q, vm₁, ⟨U', l2, c2, s2⟩, hW₁, X', ⟨g', mk, t, L, E, ce, e1, e2, hq, hce, hcv, hcl, h1, hL, h2, h3⟩, st⟩
  · dsimp only [Pt.U, Pt.locs, Pt.cells, Pt.slots] at X' e1 e2 h1 h2 h3 st
    subst h1; subst h2; subst h3
    exact Or.inl ⟨v, (T.setVm vm₁).calling g' mk (Value.ref b :: As).toArray, t, U', L, hT, X', hL, e1, e2, hq, st⟩
  · dsimp only [Pt.U, Pt.locs, Pt.cells, Pt.slots] at X' e1 e2 h1 h2 h3 st hcl
    subst h1; subst h2; subst h3
    exact Or.inr ⟨q, (T.setVm vm₁).calling g' mk (Value.ref b :: As).toArray, t, U', L, E, ce, hT, X', hL, e1, e2, hq, hce, hcv, vx_cls hW₁ hcl, st⟩
theorem vx_runSX {hh : List (Nat × Nat × Nat × Nat)} (S : CallFix p m c cc nL s args Ts own) (hM : vx_Met l y ws rm Pc Qc XC mc ms free) (cw : vx_CSW R s args own index y bytes maxL ret hh ws rm mc ms n) (hp : PreS s H Pc As)
    (hg : g.method = m) (hn : As.length = n) (hsize : g.locals.size = nL) (hstack : g.stack = As.reverse ++ rest) (hW : 2 * g.monitorRoom + (rest.map fun v => v.category).sum ≤ 8) (hdg : decode cc g.pc = .ok (.invokestatic index, 3)) (hf : cells + mc ≤ R.cells ∧ slots + ms ≤ R.slots) :
    vx_Run p l e R s m args below meth c H locs cells slots mc ms g rest (Qc As.toArray) XC free := by
  obtain ⟨⟨hrc, hrs, hfr, hlo, hws, hcw⟩, hcode, hini, hy, hlen, hl, hstt⟩ := cw
  have hK : vx_Back l R p e below s args y 3 8 (PreOf R mc ms Pc) (PostOf Qc mc ms free) (vx_Post XC mc ms free) := vx_backW (hh := hh) (bytes := bytes) (maxL := maxL) (ret := ret) hM hp.1 hrc hrs hfr hlo hws hcw (fun a' U hW => word_at hW (Or.inl (by first | rfl | simp [Cond.onTables, Cond.keeps, Cond.steady])) hini)
  obtain ⟨hx, hb, hml, ho, -⟩ := S
  intro T hT X
  rcases vx_callSX X hx (hh := hh) (bytes := bytes) (maxL := maxL) (ret := ret) ho hl hstt hini hcode hy hK hg (hsize.trans hml.symm) (argsL := As) (rest := rest) (fun sig h => hn.trans (hlen sig h)) hstack hW (by rw [hb]; exact hdg)
    (fun vm₁ hW₁ => ⟨hf.1, hf.2, hp.2 (T.setVm vm₁) hT hW₁⟩) with ⟨v, vm₁, ⟨U', l2, c2, s2⟩, hW₁, X', ⟨g', mk, t, L, e1, e2, hq, h1, hL, h2, h3⟩, st⟩ | ⟨q, vm₁, ⟨U', l2, c2, s2⟩, hW₁, X', ⟨g', mk, t, L, E, ce, e1, e2, hq, hce, hcv, hcl, h1, hL, h2, h3⟩, st⟩
  · dsimp only [Pt.U, Pt.locs, Pt.cells, Pt.slots] at X' e1 e2 h1 h2 h3 st
    subst h1; subst h2; subst h3
    exact Or.inl ⟨v, (T.setVm vm₁).calling g' mk As.toArray, t, U', L, hT, X', hL, e1, e2, hq, st⟩
  · dsimp only [Pt.U, Pt.locs, Pt.cells, Pt.slots] at X' e1 e2 h1 h2 h3 st hcl
    subst h1; subst h2; subst h3
    exact Or.inr ⟨q, (T.setVm vm₁).calling g' mk As.toArray, t, U', L, E, ce, hT, X', hL, e1, e2, hq, hce, hcv, vx_cls hW₁ hcl, st⟩
end
end VXH
theorem vx_ofWH {l : Launch} {y : MethodName} {ws ws' : List Cond} {rm : Room} {Pc : Array Value → State → Prop} {Qc : Array Value → State → Outcome → State → Prop} {XC : String → State → State → Prop} {mc ms : Nat} {free : Addr → Prop} {cc : ByteArray} {maxL : Nat} {ret : Option FieldType} {hh : List (Nat × Nat × Nat × Nat)}
    (hy : plainName y.cls = true) (hw : ws = Cond.codeWith y cc maxL ret hh :: ws')
    (body : ∀ p e s m args below meth c s₁, BodyLoose p l y (headSpec ws rm) cc maxL ret e s m args below meth c s₁ → c.maxLocals = maxL → Pc args s →
      W p l e (headSpec ws rm).room s m args below meth c s.heap [] 0 0 (vx_MQ below Qc XC args s mc ms free) (entryFrame m args maxL)) : vx_Met l y ws rm Pc Qc XC mc ms free := by
  refine MetFree.of_bodyS (code := cc) (maxLocals := maxL) (ret := ret) hy ?_ ?_
  · intro args s m h hn
    obtain ⟨m9, meth, c, hn9, h1, h2, h3, h4, -, h5, h6, -⟩ := Cond.codeWith_spec (atoms_spec (ws := ws) h _ (by rw [hw]; exact List.mem_cons_self))
    cases hn.symm.trans hn9
    exact ⟨meth, c, h1, h2, h3, h4, h5, h6⟩
  · intro p e s m args below meth c s₁ B hml hP _
    have hh0 : s₁.heap = s.heap := by rw [B.state]; rfl
    obtain ⟨t, a1, o, b1, b2, b3⟩ := body p e s m args below meth c s₁ B hml hP s₁ hh0 (Stand.of_body B)
    exact ⟨t, o, a1, b1, b2, b3⟩
/-! ===== END ===== -/
end
section
def RX0 : String := "DelayLineStore$Assembler"
def TX0 : u_T := fun k => match k with
  | 0 => ("DelayLineStore$Assembler", "text", "[I", true)
  | 1 => ("DelayLineStore$Assembler", "length", "I", false)
  | 2 => ("DelayLineStore$Assembler", "errorCode", "I", false)
  | 3 => ("DelayLineStore$Assembler", "errorPosition", "I", false)
  | 4 => ("DelayLineStore$Assembler", "words", "[I", true)
  | 5 => ("DelayLineStore$Assembler", "written", "[Z", true)
  | 6 => ("DelayLineStore$Assembler", "writtenCount", "I", false)
  | 7 => ("DelayLineStore$Assembler", "startLocation", "I", false)
  | 8 => ("DelayLineStore$Assembler", "place", "I", false)
  | 9 => ("DelayLineStore$Assembler", "kind", "I", false)
  | 10 => ("DelayLineStore$Assembler", "tokenStart", "I", false)
  | 11 => ("DelayLineStore$Assembler", "tokenEnd", "I", false)
  | _ => ("DelayLineStore$Assembler", "number", "I", false)
def tyX0 : Nat → FieldType := fun k => match k with
  | 0 => .array .int
  | 1 => .int
  | 2 => .int
  | 3 => .int
  | 4 => .array .int
  | 5 => .array .boolean
  | 6 => .int
  | 7 => .int
  | 8 => .int
  | 9 => .int
  | 10 => .int
  | 11 => .int
  | _ => .int
abbrev wsX00 : List Cond := u_ws RX0 TX0 13
theorem nmX0 : ∀ a, a < 13 → ∀ b, b < 13 → a ≠ b → (TX0 a).2.1 ≠ (TX0 b).2.1 := by decide +kernel
theorem tyX0_ok : ∀ k, k < 13 → parseFieldDescriptor (TX0 k).2.2.1 = some (tyX0 k) := by decide +kernel
abbrev cX0_init : ByteArray := prog_2_method_1_code
def yX0_init : MethodName := ⟨RX0, "<init>", "()V"⟩
def RX1 : String := "DelayLineStore$Climate"
def TX1 : u_T := fun k => match k with
  | 0 => ("DelayLineStore$Climate", "temperatures", "[I", true)
  | 1 => ("DelayLineStore$Climate", "pilotTemperature", "I", false)
  | 2 => ("DelayLineStore$Climate", "ovenTemperature", "I", false)
  | 3 => ("DelayLineStore$Climate", "fixedPeriod", "I", false)
  | _ => ("DelayLineStore$Climate", "pilotOn", "Z", false)
def tyX1 : Nat → FieldType := fun k => match k with
  | 0 => .array .int
  | 1 => .int
  | 2 => .int
  | 3 => .int
  | _ => .boolean
abbrev wsX10 : List Cond := u_ws RX1 TX1 5
theorem nmX1 : ∀ a, a < 5 → ∀ b, b < 5 → a ≠ b → (TX1 a).2.1 ≠ (TX1 b).2.1 := by decide +kernel
theorem tyX1_ok : ∀ k, k < 5 → parseFieldDescriptor (TX1 k).2.2.1 = some (tyX1 k) := by decide +kernel
abbrev cX1_init : ByteArray := prog_3_method_1_code
def yX1_init : MethodName := ⟨RX1, "<init>", "()V"⟩
abbrev cX1_temperatureOf : ByteArray := prog_3_method_2_code
def yX1_temperatureOf : MethodName := ⟨RX1, "temperatureOf", "(I)I"⟩
abbrev cX1_putTemperature : ByteArray := prog_3_method_3_code
def yX1_putTemperature : MethodName := ⟨RX1, "putTemperature", "(II)V"⟩
abbrev cX1_exchange : ByteArray := prog_3_method_4_code
def yX1_exchange : MethodName := ⟨RX1, "exchange", "(II)V"⟩
abbrev cX1_clockPeriod : ByteArray := prog_3_method_5_code
def yX1_clockPeriod : MethodName := ⟨RX1, "clockPeriod", "()I"⟩
abbrev cX1_drift : ByteArray := prog_3_method_7_code
def yX1_drift : MethodName := ⟨RX1, "drift", "()V"⟩
abbrev cX1_copyFrom : ByteArray := prog_3_method_8_code
def yX1_copyFrom : MethodName := ⟨RX1, "copyFrom", "(LDelayLineStore$Climate;)V"⟩
def RX2 : String := "DelayLineStore$Computer"
def TX2 : u_T := fun k => match k with
  | 0 => ("DelayLineStore$Computer", "store", "LDelayLineStore$Store;", true)
  | 1 => ("DelayLineStore$Computer", "climate", "LDelayLineStore$Climate;", true)
  | 2 => ("DelayLineStore$Computer", "input", "LDelayLineStore$NumberQueue;", true)
  | 3 => ("DelayLineStore$Computer", "output", "LDelayLineStore$NumberQueue;", true)
  | 4 => ("DelayLineStore$Computer", "executedCounts", "[I", true)
  | 5 => ("DelayLineStore$Computer", "executedTotal", "I", false)
  | 6 => ("DelayLineStore$Computer", "waitedTotal", "I", false)
  | 7 => ("DelayLineStore$Computer", "time", "I", false)
  | 8 => ("DelayLineStore$Computer", "state", "I", false)
  | 9 => ("DelayLineStore$Computer", "here", "I", false)
  | 10 => ("DelayLineStore$Computer", "accumulator", "I", false)
  | _ => ("DelayLineStore$Computer", "overflow", "Z", false)
def tyX2 : Nat → FieldType := fun k => match k with
  | 0 => .object "DelayLineStore$Store"
  | 1 => .object "DelayLineStore$Climate"
  | 2 => .object "DelayLineStore$NumberQueue"
  | 3 => .object "DelayLineStore$NumberQueue"
  | 4 => .array .int
  | 5 => .int
  | 6 => .int
  | 7 => .int
  | 8 => .int
  | 9 => .int
  | 10 => .int
  | _ => .boolean
abbrev wsX20 : List Cond := u_ws RX2 TX2 12
theorem nmX2 : ∀ a, a < 12 → ∀ b, b < 12 → a ≠ b → (TX2 a).2.1 ≠ (TX2 b).2.1 := by decide +kernel
theorem tyX2_ok : ∀ k, k < 12 → parseFieldDescriptor (TX2 k).2.2.1 = some (tyX2 k) := by decide +kernel
abbrev cX2_init : ByteArray := prog_4_method_1_code
def yX2_init : MethodName := ⟨RX2, "<init>", "()V"⟩
abbrev cX2_makeReadyAt : ByteArray := prog_4_method_2_code
def yX2_makeReadyAt : MethodName := ⟨RX2, "makeReadyAt", "(I)V"⟩
abbrev cX2_executedCountAt : ByteArray := prog_4_method_3_code
def yX2_executedCountAt : MethodName := ⟨RX2, "executedCountAt", "(I)I"⟩
abbrev cX2_executeUpTo : ByteArray := prog_4_method_4_code
def yX2_executeUpTo : MethodName := ⟨RX2, "executeUpTo", "(I)I"⟩
abbrev cX2_executeNext : ByteArray := prog_4_method_5_code
def yX2_executeNext : MethodName := ⟨RX2, "executeNext", "()V"⟩
abbrev cX2_isJumpTaken : ByteArray := prog_4_method_6_code
def yX2_isJumpTaken : MethodName := ⟨RX2, "isJumpTaken", "(I)Z"⟩
abbrev cX2_perform : ByteArray := prog_4_method_7_code
def yX2_perform : MethodName := ⟨RX2, "perform", "(II)V"⟩
abbrev cX2_combine : ByteArray := prog_4_method_8_code
def yX2_combine : MethodName := ⟨RX2, "combine", "(II)V"⟩
abbrev cX2_putResult : ByteArray := prog_4_method_9_code
def yX2_putResult : MethodName := ⟨RX2, "putResult", "(J)V"⟩
abbrev cX2_awaitCycle : ByteArray := prog_4_method_10_code
def yX2_awaitCycle : MethodName := ⟨RX2, "awaitCycle", "(I)V"⟩
abbrev cX2_pass : ByteArray := prog_4_method_11_code
def yX2_pass : MethodName := ⟨RX2, "pass", "(I)V"⟩
abbrev cX2_endMajorCycle : ByteArray := prog_4_method_12_code
def yX2_endMajorCycle : MethodName := ⟨RX2, "endMajorCycle", "(I)V"⟩
abbrev cX2_copyFrom : ByteArray := prog_4_method_13_code
def yX2_copyFrom : MethodName := ⟨RX2, "copyFrom", "(LDelayLineStore$Computer;)V"⟩
def RX3 : String := "DelayLineStore$Instruction"
def TX3 : u_T := fun k => match k with
  | _ => ("", "", "", false)
def tyX3 : Nat → FieldType := fun k => match k with
  | _ => .int
abbrev wsX30 : List Cond := u_ws RX3 TX3 0
theorem nmX3 : ∀ a, a < 0 → ∀ b, b < 0 → a ≠ b → (TX3 a).2.1 ≠ (TX3 b).2.1 := by decide +kernel
theorem tyX3_ok : ∀ k, k < 0 → parseFieldDescriptor (TX3 k).2.2.1 = some (tyX3 k) := by decide +kernel
abbrev cX3_opcode : ByteArray := prog_5_method_2_code
def yX3_opcode : MethodName := ⟨RX3, "opcode", "(I)I"⟩
abbrev cX3_operand : ByteArray := prog_5_method_3_code
def yX3_operand : MethodName := ⟨RX3, "operand", "(I)I"⟩
abbrev cX3_next : ByteArray := prog_5_method_4_code
def yX3_next : MethodName := ⟨RX3, "next", "(I)I"⟩
abbrev cX3_operandForm : ByteArray := prog_5_method_8_code
def yX3_operandForm : MethodName := ⟨RX3, "operandForm", "(I)I"⟩
abbrev cX3_isJump : ByteArray := prog_5_method_9_code
def yX3_isJump : MethodName := ⟨RX3, "isJump", "(I)Z"⟩
abbrev cX3_waitsForOperand : ByteArray := prog_5_method_10_code
def yX3_waitsForOperand : MethodName := ⟨RX3, "waitsForOperand", "(I)Z"⟩
abbrev cX3_ownTime : ByteArray := prog_5_method_11_code
def yX3_ownTime : MethodName := ⟨RX3, "ownTime", "(I)I"⟩
def RX4 : String := "DelayLineStore$NumberQueue"
def TX4 : u_T := fun k => match k with
  | 0 => ("DelayLineStore$NumberQueue", "ring", "[I", true)
  | 1 => ("DelayLineStore$NumberQueue", "first", "I", false)
  | _ => ("DelayLineStore$NumberQueue", "length", "I", false)
def tyX4 : Nat → FieldType := fun k => match k with
  | 0 => .array .int
  | 1 => .int
  | _ => .int
abbrev wsX40 : List Cond := u_ws RX4 TX4 3
theorem nmX4 : ∀ a, a < 3 → ∀ b, b < 3 → a ≠ b → (TX4 a).2.1 ≠ (TX4 b).2.1 := by decide +kernel
theorem tyX4_ok : ∀ k, k < 3 → parseFieldDescriptor (TX4 k).2.2.1 = some (tyX4 k) := by decide +kernel
abbrev cX4_init : ByteArray := prog_6_method_1_code
def yX4_init : MethodName := ⟨RX4, "<init>", "()V"⟩
abbrev cX4_isFull : ByteArray := prog_6_method_2_code
def yX4_isFull : MethodName := ⟨RX4, "isFull", "()Z"⟩
abbrev cX4_addLast : ByteArray := prog_6_method_3_code
def yX4_addLast : MethodName := ⟨RX4, "addLast", "(I)V"⟩
abbrev cX4_removeFirst : ByteArray := prog_6_method_4_code
def yX4_removeFirst : MethodName := ⟨RX4, "removeFirst", "()I"⟩
abbrev cX4_copyFrom : ByteArray := prog_6_method_5_code
def yX4_copyFrom : MethodName := ⟨RX4, "copyFrom", "(LDelayLineStore$NumberQueue;)V"⟩
def RX5 : String := "DelayLineStore$Store"
def TX5 : u_T := fun k => match k with
  | 0 => ("DelayLineStore$Store", "bits", "[I", true)
  | 1 => ("DelayLineStore$Store", "ring", "[I", true)
  | 2 => ("DelayLineStore$Store", "slipCounts", "[I", true)
  | _ => ("DelayLineStore$Store", "dropoutCount", "I", false)
def tyX5 : Nat → FieldType := fun k => match k with
  | 0 => .array .int
  | 1 => .array .int
  | 2 => .array .int
  | _ => .int
abbrev wsX50 : List Cond := u_ws RX5 TX5 4
theorem nmX5 : ∀ a, a < 4 → ∀ b, b < 4 → a ≠ b → (TX5 a).2.1 ≠ (TX5 b).2.1 := by decide +kernel
theorem tyX5_ok : ∀ k, k < 4 → parseFieldDescriptor (TX5 k).2.2.1 = some (tyX5 k) := by decide +kernel
abbrev cX5_init : ByteArray := prog_7_method_1_code
def yX5_init : MethodName := ⟨RX5, "<init>", "()V"⟩
abbrev cX5_wordAt : ByteArray := prog_7_method_2_code
def yX5_wordAt : MethodName := ⟨RX5, "wordAt", "(I)I"⟩
abbrev cX5_putWord : ByteArray := prog_7_method_3_code
def yX5_putWord : MethodName := ⟨RX5, "putWord", "(II)V"⟩
abbrev cX5_slipCountOf : ByteArray := prog_7_method_4_code
def yX5_slipCountOf : MethodName := ⟨RX5, "slipCountOf", "(I)I"⟩
abbrev cX5_countOnes : ByteArray := prog_7_method_5_code
def yX5_countOnes : MethodName := ⟨RX5, "countOnes", "(I)I"⟩
abbrev cX5_clearBits : ByteArray := prog_7_method_6_code
def yX5_clearBits : MethodName := ⟨RX5, "clearBits", "(I)V"⟩
abbrev cX5_exchange : ByteArray := prog_7_method_7_code
def yX5_exchange : MethodName := ⟨RX5, "exchange", "(II)V"⟩
abbrev cX5_moveBits : ByteArray := prog_7_method_8_code
def yX5_moveBits : MethodName := ⟨RX5, "moveBits", "(II)V"⟩
abbrev cX5_dropBit : ByteArray := prog_7_method_9_code
def yX5_dropBit : MethodName := ⟨RX5, "dropBit", "(II)V"⟩
abbrev cX5_copyFrom : ByteArray := prog_7_method_10_code
def yX5_copyFrom : MethodName := ⟨RX5, "copyFrom", "(LDelayLineStore$Store;)V"⟩
def RX6 : String := "DelayLineStore"
def TX6 : u_T := fun k => match k with
  | 0 => ("DelayLineStore", "computer", "LDelayLineStore$Computer;", true)
  | 1 => ("DelayLineStore", "rehearsal", "LDelayLineStore$Computer;", true)
  | 2 => ("DelayLineStore", "firstSnapshot", "LDelayLineStore$Computer;", true)
  | 3 => ("DelayLineStore", "secondSnapshot", "LDelayLineStore$Computer;", true)
  | 4 => ("DelayLineStore", "firstSaved", "Z", false)
  | 5 => ("DelayLineStore", "secondSaved", "Z", false)
  | 6 => ("DelayLineStore", "assembler", "LDelayLineStore$Assembler;", true)
  | _ => ("DelayLineStore", "formatted", "Ljava/lang/StringBuilder;", true)
def tyX6 : Nat → FieldType := fun k => match k with
  | 0 => .object "DelayLineStore$Computer"
  | 1 => .object "DelayLineStore$Computer"
  | 2 => .object "DelayLineStore$Computer"
  | 3 => .object "DelayLineStore$Computer"
  | 4 => .boolean
  | 5 => .boolean
  | 6 => .object "DelayLineStore$Assembler"
  | _ => .object "java/lang/StringBuilder"
abbrev wsX60 : List Cond := u_ws RX6 TX6 8
theorem nmX6 : ∀ a, a < 8 → ∀ b, b < 8 → a ≠ b → (TX6 a).2.1 ≠ (TX6 b).2.1 := by decide +kernel
theorem tyX6_ok : ∀ k, k < 8 → parseFieldDescriptor (TX6 k).2.2.1 = some (tyX6 k) := by decide +kernel
abbrev cX6_init : ByteArray := prog_1_method_1_code
def yX6_init : MethodName := ⟨RX6, "<init>", "()V"⟩
abbrev cX6_readWord : ByteArray := prog_1_method_7_code
def yX6_readWord : MethodName := ⟨RX6, "readWord", "(II)I"⟩
abbrev cX6_writeWord : ByteArray := prog_1_method_8_code
def yX6_writeWord : MethodName := ⟨RX6, "writeWord", "(III)I"⟩
abbrev cX6_clearTank : ByteArray := prog_1_method_9_code
def yX6_clearTank : MethodName := ⟨RX6, "clearTank", "(I)I"⟩
abbrev cX6_swapTanks : ByteArray := prog_1_method_10_code
def yX6_swapTanks : MethodName := ⟨RX6, "swapTanks", "(II)V"⟩
abbrev cX6_bitCount : ByteArray := prog_1_method_11_code
def yX6_bitCount : MethodName := ⟨RX6, "bitCount", "(I)I"⟩
abbrev cX6_slips : ByteArray := prog_1_method_12_code
def yX6_slips : MethodName := ⟨RX6, "slips", "(I)I"⟩
abbrev cX6_dropouts : ByteArray := prog_1_method_13_code
def yX6_dropouts : MethodName := ⟨RX6, "dropouts", "()I"⟩
abbrev cX6_setTemperature : ByteArray := prog_1_method_14_code
def yX6_setTemperature : MethodName := ⟨RX6, "setTemperature", "(II)I"⟩
abbrev cX6_temperature : ByteArray := prog_1_method_15_code
def yX6_temperature : MethodName := ⟨RX6, "temperature", "(I)I"⟩
abbrev cX6_setOven : ByteArray := prog_1_method_16_code
def yX6_setOven : MethodName := ⟨RX6, "setOven", "(I)I"⟩
abbrev cX6_setPilotTemperature : ByteArray := prog_1_method_17_code
def yX6_setPilotTemperature : MethodName := ⟨RX6, "setPilotTemperature", "(I)I"⟩
abbrev cX6_setPilot : ByteArray := prog_1_method_18_code
def yX6_setPilot : MethodName := ⟨RX6, "setPilot", "(Z)Z"⟩
abbrev cX6_setFixedPeriod : ByteArray := prog_1_method_19_code
def yX6_setFixedPeriod : MethodName := ⟨RX6, "setFixedPeriod", "(I)I"⟩
abbrev cX6_period : ByteArray := prog_1_method_20_code
def yX6_period : MethodName := ⟨RX6, "period", "()I"⟩
abbrev cX6_mismatch : ByteArray := prog_1_method_21_code
def yX6_mismatch : MethodName := ⟨RX6, "mismatch", "(I)I"⟩
abbrev cX6_start : ByteArray := prog_1_method_25_code
def yX6_start : MethodName := ⟨RX6, "start", "(II)V"⟩
abbrev cX6_run : ByteArray := prog_1_method_26_code
def yX6_run : MethodName := ⟨RX6, "run", "(I)I"⟩
abbrev cX6_idle : ByteArray := prog_1_method_27_code
def yX6_idle : MethodName := ⟨RX6, "idle", "(I)I"⟩
abbrev cX6_time : ByteArray := prog_1_method_28_code
def yX6_time : MethodName := ⟨RX6, "time", "()I"⟩
abbrev cX6_state : ByteArray := prog_1_method_29_code
def yX6_state : MethodName := ⟨RX6, "state", "()I"⟩
abbrev cX6_accumulator : ByteArray := prog_1_method_30_code
def yX6_accumulator : MethodName := ⟨RX6, "accumulator", "()I"⟩
abbrev cX6_hasOverflow : ByteArray := prog_1_method_31_code
def yX6_hasOverflow : MethodName := ⟨RX6, "hasOverflow", "()Z"⟩
abbrev cX6_location : ByteArray := prog_1_method_32_code
def yX6_location : MethodName := ⟨RX6, "location", "()I"⟩
abbrev cX6_offerInput : ByteArray := prog_1_method_33_code
def yX6_offerInput : MethodName := ⟨RX6, "offerInput", "(I)I"⟩
abbrev cX6_takeOutput : ByteArray := prog_1_method_34_code
def yX6_takeOutput : MethodName := ⟨RX6, "takeOutput", "()I"⟩
abbrev cX6_outputLength : ByteArray := prog_1_method_35_code
def yX6_outputLength : MethodName := ⟨RX6, "outputLength", "()I"⟩
abbrev cX6_executed : ByteArray := prog_1_method_36_code
def yX6_executed : MethodName := ⟨RX6, "executed", "()I"⟩
abbrev cX6_executedAt : ByteArray := prog_1_method_37_code
def yX6_executedAt : MethodName := ⟨RX6, "executedAt", "(II)I"⟩
abbrev cX6_waited : ByteArray := prog_1_method_38_code
def yX6_waited : MethodName := ⟨RX6, "waited", "()I"⟩
abbrev cX6_predictTime : ByteArray := prog_1_method_39_code
def yX6_predictTime : MethodName := ⟨RX6, "predictTime", "(I)I"⟩
abbrev cX6_requireTank : ByteArray := prog_1_method_48_code
def yX6_requireTank : MethodName := ⟨RX6, "requireTank", "(I)V"⟩
abbrev cX6_requireLocation : ByteArray := prog_1_method_49_code
def yX6_requireLocation : MethodName := ⟨RX6, "requireLocation", "(II)V"⟩
abbrev cX6_requireWord : ByteArray := prog_1_method_50_code
def yX6_requireWord : MethodName := ⟨RX6, "requireWord", "(I)V"⟩
abbrev cX6_requireTemperature : ByteArray := prog_1_method_51_code
def yX6_requireTemperature : MethodName := ⟨RX6, "requireTemperature", "(I)V"⟩
abbrev cX6_requireCount : ByteArray := prog_1_method_52_code
def yX6_requireCount : MethodName := ⟨RX6, "requireCount", "(II)V"⟩
abbrev cX6_requireReady : ByteArray := prog_1_method_54_code
def yX6_requireReady : MethodName := ⟨RX6, "requireReady", "()V"⟩
abbrev cX6_locationOf : ByteArray := prog_1_method_55_code
def yX6_locationOf : MethodName := ⟨RX6, "locationOf", "(II)I"⟩
abbrev cX6_cycleOf : ByteArray := prog_1_method_56_code
def yX6_cycleOf : MethodName := ⟨RX6, "cycleOf", "(I)I"⟩
abbrev cX6_waitingUntil : ByteArray := prog_1_method_57_code
def yX6_waitingUntil : MethodName := ⟨RX6, "waitingUntil", "(II)I"⟩
abbrev cX6_wrap : ByteArray := prog_1_method_58_code
def yX6_wrap : MethodName := ⟨RX6, "wrap", "(J)I"⟩
abbrev cX6_delayOf : ByteArray := prog_1_method_59_code
def yX6_delayOf : MethodName := ⟨RX6, "delayOf", "(I)I"⟩
abbrev cX6_mismatchOf : ByteArray := prog_1_method_60_code
def yX6_mismatchOf : MethodName := ⟨RX6, "mismatchOf", "(II)I"⟩
abbrev cX6_copyRow : ByteArray := prog_1_method_62_code
def yX6_copyRow : MethodName := ⟨RX6, "copyRow", "([I[I)V"⟩
def RX7 : String := "DelayLineStoreLaw$Draws"
def TX7 : u_T := fun k => match k with
  | _ => ("DelayLineStoreLaw$Draws", "x", "I", false)
def tyX7 : Nat → FieldType := fun k => match k with
  | _ => .int
abbrev wsX70 : List Cond := u_ws RX7 TX7 1
theorem nmX7 : ∀ a, a < 1 → ∀ b, b < 1 → a ≠ b → (TX7 a).2.1 ≠ (TX7 b).2.1 := by decide +kernel
theorem tyX7_ok : ∀ k, k < 1 → parseFieldDescriptor (TX7 k).2.2.1 = some (tyX7 k) := by decide +kernel
abbrev cX7_init : ByteArray := prog_9_method_1_code
def yX7_init : MethodName := ⟨RX7, "<init>", "(I)V"⟩
abbrev cX7_next : ByteArray := prog_9_method_2_code
def yX7_next : MethodName := ⟨RX7, "next", "(I)I"⟩
def RX8 : String := "DelayLineStoreLaw$Machine"
def TX8 : u_T := fun k => match k with
  | 0 => ("DelayLineStoreLaw$Machine", "bits", "[[Z", true)
  | 1 => ("DelayLineStoreLaw$Machine", "warm", "[I", true)
  | 2 => ("DelayLineStoreLaw$Machine", "slips", "[I", true)
  | 3 => ("DelayLineStoreLaw$Machine", "counts", "[[I", true)
  | 4 => ("DelayLineStoreLaw$Machine", "in", "Ljava/util/ArrayList;", true)
  | 5 => ("DelayLineStoreLaw$Machine", "out", "Ljava/util/ArrayList;", true)
  | 6 => ("DelayLineStoreLaw$Machine", "time", "I", false)
  | 7 => ("DelayLineStoreLaw$Machine", "acc", "I", false)
  | 8 => ("DelayLineStoreLaw$Machine", "tank", "I", false)
  | 9 => ("DelayLineStoreLaw$Machine", "cycle", "I", false)
  | 10 => ("DelayLineStoreLaw$Machine", "state", "I", false)
  | 11 => ("DelayLineStoreLaw$Machine", "done", "I", false)
  | 12 => ("DelayLineStoreLaw$Machine", "waited", "I", false)
  | 13 => ("DelayLineStoreLaw$Machine", "dropouts", "I", false)
  | 14 => ("DelayLineStoreLaw$Machine", "oven", "I", false)
  | 15 => ("DelayLineStoreLaw$Machine", "pilot", "I", false)
  | 16 => ("DelayLineStoreLaw$Machine", "fixed", "I", false)
  | 17 => ("DelayLineStoreLaw$Machine", "isPilot", "Z", false)
  | _ => ("DelayLineStoreLaw$Machine", "isOver", "Z", false)
def tyX8 : Nat → FieldType := fun k => match k with
  | 0 => .array (.array .boolean)
  | 1 => .array .int
  | 2 => .array .int
  | 3 => .array (.array .int)
  | 4 => .object "java/util/ArrayList"
  | 5 => .object "java/util/ArrayList"
  | 6 => .int
  | 7 => .int
  | 8 => .int
  | 9 => .int
  | 10 => .int
  | 11 => .int
  | 12 => .int
  | 13 => .int
  | 14 => .int
  | 15 => .int
  | 16 => .int
  | 17 => .boolean
  | _ => .boolean
abbrev wsX80 : List Cond := u_ws RX8 TX8 19
theorem nmX8 : ∀ a, a < 19 → ∀ b, b < 19 → a ≠ b → (TX8 a).2.1 ≠ (TX8 b).2.1 := by decide +kernel
theorem tyX8_ok : ∀ k, k < 19 → parseFieldDescriptor (TX8 k).2.2.1 = some (tyX8 k) := by decide +kernel
abbrev cX8_init : ByteArray := prog_10_method_1_code
def yX8_init : MethodName := ⟨RX8, "<init>", "()V"⟩
abbrev cX8_copy : ByteArray := prog_10_method_2_code
def yX8_copy : MethodName := ⟨RX8, "copy", "()LDelayLineStoreLaw$Machine;"⟩
abbrev cX8_word : ByteArray := prog_10_method_3_code
def yX8_word : MethodName := ⟨RX8, "word", "(II)I"⟩
abbrev cX8_set : ByteArray := prog_10_method_4_code
def yX8_set : MethodName := ⟨RX8, "set", "(III)V"⟩
abbrev cX8_ones : ByteArray := prog_10_method_5_code
def yX8_ones : MethodName := ⟨RX8, "ones", "(I)I"⟩
abbrev cX8_period : ByteArray := prog_10_method_6_code
def yX8_period : MethodName := ⟨RX8, "period", "()I"⟩
abbrev cX8_mismatch : ByteArray := prog_10_method_7_code
def yX8_mismatch : MethodName := ⟨RX8, "mismatch", "(I)I"⟩
abbrev cX8_isSafe : ByteArray := prog_10_method_8_code
def yX8_isSafe : MethodName := ⟨RX8, "isSafe", "(I)Z"⟩
abbrev cX8_areSafe : ByteArray := prog_10_method_9_code
def yX8_areSafe : MethodName := ⟨RX8, "areSafe", "()Z"⟩
abbrev cX8_warms : ByteArray := prog_10_method_10_code
def yX8_warms : MethodName := ⟨RX8, "warms", "()V"⟩
abbrev cX8_passes : ByteArray := prog_10_method_11_code
def yX8_passes : MethodName := ⟨RX8, "passes", "(I)V"⟩
abbrev cX8_waitsFor : ByteArray := prog_10_method_12_code
def yX8_waitsFor : MethodName := ⟨RX8, "waitsFor", "(I)V"⟩
abbrev cX8_wrap : ByteArray := prog_10_method_13_code
def yX8_wrap : MethodName := ⟨RX8, "wrap", "(J)I"⟩
abbrev cX8_result : ByteArray := prog_10_method_14_code
def yX8_result : MethodName := ⟨RX8, "result", "(JZ)V"⟩
abbrev cX8_step : ByteArray := prog_10_method_15_code
def yX8_step : MethodName := ⟨RX8, "step", "()Z"⟩
abbrev cX8_run : ByteArray := prog_10_method_16_code
def yX8_run : MethodName := ⟨RX8, "run", "(I)I"⟩
def RX9 : String := "DelayLineStoreModel"
def TX9 : u_T := fun k => match k with
  | _ => ("", "", "", false)
def tyX9 : Nat → FieldType := fun k => match k with
  | _ => .int
abbrev wsX90 : List Cond := u_ws RX9 TX9 0
theorem nmX9 : ∀ a, a < 0 → ∀ b, b < 0 → a ≠ b → (TX9 a).2.1 ≠ (TX9 b).2.1 := by decide +kernel
theorem tyX9_ok : ∀ k, k < 0 → parseFieldDescriptor (TX9 k).2.2.1 = some (tyX9 k) := by decide +kernel
def RJx145de : String := "java/io/Serializable"
def TJx145de : u_T := fun k => match k with
  | _ => ("", "", "", false)
def tyJx145de : Nat → FieldType := fun k => match k with
  | _ => .int
abbrev wsJx145de0 : List Cond := u_ws RJx145de TJx145de 0
theorem nmJx145de : ∀ a, a < 0 → ∀ b, b < 0 → a ≠ b → (TJx145de a).2.1 ≠ (TJx145de b).2.1 := by decide +kernel
theorem tyJx145de_ok : ∀ k, k < 0 → parseFieldDescriptor (TJx145de k).2.2.1 = some (tyJx145de k) := by decide +kernel
def RJ5 : String := "java/lang/AbstractStringBuilder"
def TJ5 : u_T := fun k => match k with
  | _ => ("", "", "", false)
def tyJ5 : Nat → FieldType := fun k => match k with
  | _ => .int
abbrev wsJ50 : List Cond := u_ws RJ5 TJ5 0
theorem nmJ5 : ∀ a, a < 0 → ∀ b, b < 0 → a ≠ b → (TJ5 a).2.1 ≠ (TJ5 b).2.1 := by decide +kernel
theorem tyJ5_ok : ∀ k, k < 0 → parseFieldDescriptor (TJ5 k).2.2.1 = some (tyJ5 k) := by decide +kernel
abbrev cJ5_init_d00df : ByteArray := prog_13_method_2_code
def yJ5_init_d00df : MethodName := ⟨RJ5, "<init>", "(I)V"⟩
def RJx2cfe8 : String := "java/lang/Appendable"
def TJx2cfe8 : u_T := fun k => match k with
  | _ => ("", "", "", false)
def tyJx2cfe8 : Nat → FieldType := fun k => match k with
  | _ => .int
abbrev wsJx2cfe80 : List Cond := u_ws RJx2cfe8 TJx2cfe8 0
theorem nmJx2cfe8 : ∀ a, a < 0 → ∀ b, b < 0 → a ≠ b → (TJx2cfe8 a).2.1 ≠ (TJx2cfe8 b).2.1 := by decide +kernel
theorem tyJx2cfe8_ok : ∀ k, k < 0 → parseFieldDescriptor (TJx2cfe8 k).2.2.1 = some (tyJx2cfe8 k) := by decide +kernel
def RJx9f9b0 : String := "java/lang/CharSequence"
def TJx9f9b0 : u_T := fun k => match k with
  | _ => ("", "", "", false)
def tyJx9f9b0 : Nat → FieldType := fun k => match k with
  | _ => .int
abbrev wsJx9f9b00 : List Cond := u_ws RJx9f9b0 TJx9f9b0 0
theorem nmJx9f9b0 : ∀ a, a < 0 → ∀ b, b < 0 → a ≠ b → (TJx9f9b0 a).2.1 ≠ (TJx9f9b0 b).2.1 := by decide +kernel
theorem tyJx9f9b0_ok : ∀ k, k < 0 → parseFieldDescriptor (TJx9f9b0 k).2.2.1 = some (tyJx9f9b0 k) := by decide +kernel
def RJx8e188 : String := "java/lang/Cloneable"
def TJx8e188 : u_T := fun k => match k with
  | _ => ("", "", "", false)
def tyJx8e188 : Nat → FieldType := fun k => match k with
  | _ => .int
abbrev wsJx8e1880 : List Cond := u_ws RJx8e188 TJx8e188 0
theorem nmJx8e188 : ∀ a, a < 0 → ∀ b, b < 0 → a ≠ b → (TJx8e188 a).2.1 ≠ (TJx8e188 b).2.1 := by decide +kernel
theorem tyJx8e188_ok : ∀ k, k < 0 → parseFieldDescriptor (TJx8e188 k).2.2.1 = some (tyJx8e188 k) := by decide +kernel
def RJxb160c : String := "java/lang/Comparable"
def TJxb160c : u_T := fun k => match k with
  | _ => ("", "", "", false)
def tyJxb160c : Nat → FieldType := fun k => match k with
  | _ => .int
abbrev wsJxb160c0 : List Cond := u_ws RJxb160c TJxb160c 0
theorem nmJxb160c : ∀ a, a < 0 → ∀ b, b < 0 → a ≠ b → (TJxb160c a).2.1 ≠ (TJxb160c b).2.1 := by decide +kernel
theorem tyJxb160c_ok : ∀ k, k < 0 → parseFieldDescriptor (TJxb160c k).2.2.1 = some (tyJxb160c k) := by decide +kernel
def RJxabbfe : String := "java/lang/Integer$IntegerCache"
def TJxabbfe : u_T := fun k => match k with
  | _ => ("", "", "", false)
def tyJxabbfe : Nat → FieldType := fun k => match k with
  | _ => .int
abbrev wsJxabbfe0 : List Cond := u_ws RJxabbfe TJxabbfe 0
theorem nmJxabbfe : ∀ a, a < 0 → ∀ b, b < 0 → a ≠ b → (TJxabbfe a).2.1 ≠ (TJxabbfe b).2.1 := by decide +kernel
theorem tyJxabbfe_ok : ∀ k, k < 0 → parseFieldDescriptor (TJxabbfe k).2.2.1 = some (tyJxabbfe k) := by decide +kernel
def RJ6 : String := "java/lang/Integer"
def TJ6 : u_T := fun k => match k with
  | _ => ("java/lang/Integer", "value", "I", true)
def tyJ6 : Nat → FieldType := fun k => match k with
  | _ => .int
abbrev wsJ60 : List Cond := u_ws RJ6 TJ6 1
theorem nmJ6 : ∀ a, a < 1 → ∀ b, b < 1 → a ≠ b → (TJ6 a).2.1 ≠ (TJ6 b).2.1 := by decide +kernel
theorem tyJ6_ok : ∀ k, k < 1 → parseFieldDescriptor (TJ6 k).2.2.1 = some (tyJ6 k) := by decide +kernel
abbrev cJ6_valueOf_2dffe : ByteArray := prog_22_method_22_code
def yJ6_valueOf_2dffe : MethodName := ⟨RJ6, "valueOf", "(I)Ljava/lang/Integer;"⟩
abbrev cJ6_init_d00df : ByteArray := prog_22_method_23_code
def yJ6_init_d00df : MethodName := ⟨RJ6, "<init>", "(I)V"⟩
abbrev cJ6_intValue_8abf5 : ByteArray := prog_22_method_27_code
def yJ6_intValue_8abf5 : MethodName := ⟨RJ6, "intValue", "()I"⟩
abbrev cJ6_bitCount_0f7a4 : ByteArray := prog_22_method_49_code
def yJ6_bitCount_0f7a4 : MethodName := ⟨RJ6, "bitCount", "(I)I"⟩
def RJxab1ab : String := "java/lang/Iterable"
def TJxab1ab : u_T := fun k => match k with
  | _ => ("", "", "", false)
def tyJxab1ab : Nat → FieldType := fun k => match k with
  | _ => .int
abbrev wsJxab1ab0 : List Cond := u_ws RJxab1ab TJxab1ab 0
theorem nmJxab1ab : ∀ a, a < 0 → ∀ b, b < 0 → a ≠ b → (TJxab1ab a).2.1 ≠ (TJxab1ab b).2.1 := by decide +kernel
theorem tyJxab1ab_ok : ∀ k, k < 0 → parseFieldDescriptor (TJxab1ab k).2.2.1 = some (tyJxab1ab k) := by decide +kernel
def RJ9 : String := "java/lang/Math"
def TJ9 : u_T := fun k => match k with
  | _ => ("", "", "", false)
def tyJ9 : Nat → FieldType := fun k => match k with
  | _ => .int
abbrev wsJ90 : List Cond := u_ws RJ9 TJ9 0
theorem nmJ9 : ∀ a, a < 0 → ∀ b, b < 0 → a ≠ b → (TJ9 a).2.1 ≠ (TJ9 b).2.1 := by decide +kernel
theorem tyJ9_ok : ∀ k, k < 0 → parseFieldDescriptor (TJ9 k).2.2.1 = some (tyJ9 k) := by decide +kernel
abbrev cJ9_floorDiv_7cf53 : ByteArray := prog_25_method_47_code
def yJ9_floorDiv_7cf53 : MethodName := ⟨RJ9, "floorDiv", "(II)I"⟩
abbrev cJ9_floorDiv_f86c9 : ByteArray := prog_25_method_49_code
def yJ9_floorDiv_f86c9 : MethodName := ⟨RJ9, "floorDiv", "(JJ)J"⟩
abbrev cJ9_floorMod_7cf53 : ByteArray := prog_25_method_50_code
def yJ9_floorMod_7cf53 : MethodName := ⟨RJ9, "floorMod", "(II)I"⟩
abbrev cJ9_abs_0f7a4 : ByteArray := prog_25_method_59_code
def yJ9_abs_0f7a4 : MethodName := ⟨RJ9, "abs", "(I)I"⟩
abbrev cJ9_max_7cf53 : ByteArray := prog_25_method_65_code
def yJ9_max_7cf53 : MethodName := ⟨RJ9, "max", "(II)I"⟩
abbrev cJ9_min_7cf53 : ByteArray := prog_25_method_69_code
def yJ9_min_7cf53 : MethodName := ⟨RJ9, "min", "(II)I"⟩
def RJxd2413 : String := "java/lang/Number"
def TJxd2413 : u_T := fun k => match k with
  | _ => ("", "", "", false)
def tyJxd2413 : Nat → FieldType := fun k => match k with
  | _ => .int
abbrev wsJxd24130 : List Cond := u_ws RJxd2413 TJxd2413 0
theorem nmJxd2413 : ∀ a, a < 0 → ∀ b, b < 0 → a ≠ b → (TJxd2413 a).2.1 ≠ (TJxd2413 b).2.1 := by decide +kernel
theorem tyJxd2413_ok : ∀ k, k < 0 → parseFieldDescriptor (TJxd2413 k).2.2.1 = some (tyJxd2413 k) := by decide +kernel
abbrev cJxd2413_init_da8c8 : ByteArray := prog_26_method_1_code
def yJxd2413_init_da8c8 : MethodName := ⟨RJxd2413, "<init>", "()V"⟩
def RJ0 : String := "java/lang/String"
def TJ0 : u_T := fun k => match k with
  | _ => ("", "", "", false)
def tyJ0 : Nat → FieldType := fun k => match k with
  | _ => .int
abbrev wsJ00 : List Cond := u_ws RJ0 TJ0 0
theorem nmJ0 : ∀ a, a < 0 → ∀ b, b < 0 → a ≠ b → (TJ0 a).2.1 ≠ (TJ0 b).2.1 := by decide +kernel
theorem tyJ0_ok : ∀ k, k < 0 → parseFieldDescriptor (TJ0 k).2.2.1 = some (tyJ0 k) := by decide +kernel
def RJ4 : String := "java/lang/StringBuilder"
def TJ4 : u_T := fun k => match k with
  | 0 => ("java/lang/AbstractStringBuilder", "value", "[B", false)
  | 1 => ("java/lang/AbstractStringBuilder", "coder", "B", false)
  | 2 => ("java/lang/AbstractStringBuilder", "maybeLatin1", "Z", false)
  | _ => ("java/lang/AbstractStringBuilder", "count", "I", false)
def tyJ4 : Nat → FieldType := fun k => match k with
  | 0 => .array .byte
  | 1 => .byte
  | 2 => .boolean
  | _ => .int
abbrev wsJ40 : List Cond := u_ws RJ4 TJ4 4
theorem nmJ4 : ∀ a, a < 4 → ∀ b, b < 4 → a ≠ b → (TJ4 a).2.1 ≠ (TJ4 b).2.1 := by decide +kernel
theorem tyJ4_ok : ∀ k, k < 4 → parseFieldDescriptor (TJ4 k).2.2.1 = some (tyJ4 k) := by decide +kernel
abbrev cJ4_init_da8c8 : ByteArray := prog_29_method_1_code
def yJ4_init_da8c8 : MethodName := ⟨RJ4, "<init>", "()V"⟩
def RJ2 : String := "java/lang/StringUTF16"
def TJ2 : u_T := fun k => match k with
  | _ => ("", "", "", false)
def tyJ2 : Nat → FieldType := fun k => match k with
  | _ => .int
abbrev wsJ20 : List Cond := u_ws RJ2 TJ2 0
theorem nmJ2 : ∀ a, a < 0 → ∀ b, b < 0 → a ≠ b → (TJ2 a).2.1 ≠ (TJ2 b).2.1 := by decide +kernel
theorem tyJ2_ok : ∀ k, k < 0 → parseFieldDescriptor (TJ2 k).2.2.1 = some (tyJ2 k) := by decide +kernel
abbrev cJ2_newBytesFor_77867 : ByteArray := prog_30_method_2_code
def yJ2_newBytesFor_77867 : MethodName := ⟨RJ2, "newBytesFor", "(I)[B"⟩
abbrev cJ2_newBytesLength_0f7a4 : ByteArray := prog_30_method_3_code
def yJ2_newBytesLength_0f7a4 : MethodName := ⟨RJ2, "newBytesLength", "(I)I"⟩
def RJ10 : String := "java/lang/System"
def TJ10 : u_T := fun k => match k with
  | _ => ("", "", "", false)
def tyJ10 : Nat → FieldType := fun k => match k with
  | _ => .int
abbrev wsJ100 : List Cond := u_ws RJ10 TJ10 0
theorem nmJ10 : ∀ a, a < 0 → ∀ b, b < 0 → a ≠ b → (TJ10 a).2.1 ≠ (TJ10 b).2.1 := by decide +kernel
theorem tyJ10_ok : ∀ k, k < 0 → parseFieldDescriptor (TJ10 k).2.2.1 = some (tyJ10 k) := by decide +kernel
def RJxfd54e : String := "java/lang/constant/Constable"
def TJxfd54e : u_T := fun k => match k with
  | _ => ("", "", "", false)
def tyJxfd54e : Nat → FieldType := fun k => match k with
  | _ => .int
abbrev wsJxfd54e0 : List Cond := u_ws RJxfd54e TJxfd54e 0
theorem nmJxfd54e : ∀ a, a < 0 → ∀ b, b < 0 → a ≠ b → (TJxfd54e a).2.1 ≠ (TJxfd54e b).2.1 := by decide +kernel
theorem tyJxfd54e_ok : ∀ k, k < 0 → parseFieldDescriptor (TJxfd54e k).2.2.1 = some (tyJxfd54e k) := by decide +kernel
def RJx3cf43 : String := "java/lang/constant/ConstantDesc"
def TJx3cf43 : u_T := fun k => match k with
  | _ => ("", "", "", false)
def tyJx3cf43 : Nat → FieldType := fun k => match k with
  | _ => .int
abbrev wsJx3cf430 : List Cond := u_ws RJx3cf43 TJx3cf43 0
theorem nmJx3cf43 : ∀ a, a < 0 → ∀ b, b < 0 → a ≠ b → (TJx3cf43 a).2.1 ≠ (TJx3cf43 b).2.1 := by decide +kernel
theorem tyJx3cf43_ok : ∀ k, k < 0 → parseFieldDescriptor (TJx3cf43 k).2.2.1 = some (tyJx3cf43 k) := by decide +kernel
def RJxa1e45 : String := "java/util/AbstractCollection"
def TJxa1e45 : u_T := fun k => match k with
  | _ => ("", "", "", false)
def tyJxa1e45 : Nat → FieldType := fun k => match k with
  | _ => .int
abbrev wsJxa1e450 : List Cond := u_ws RJxa1e45 TJxa1e45 0
theorem nmJxa1e45 : ∀ a, a < 0 → ∀ b, b < 0 → a ≠ b → (TJxa1e45 a).2.1 ≠ (TJxa1e45 b).2.1 := by decide +kernel
theorem tyJxa1e45_ok : ∀ k, k < 0 → parseFieldDescriptor (TJxa1e45 k).2.2.1 = some (tyJxa1e45 k) := by decide +kernel
abbrev cJxa1e45_init_da8c8 : ByteArray := prog_35_method_1_code
def yJxa1e45_init_da8c8 : MethodName := ⟨RJxa1e45, "<init>", "()V"⟩
def RJxc12de : String := "java/util/AbstractList"
def TJxc12de : u_T := fun k => match k with
  | _ => ("", "", "", false)
def tyJxc12de : Nat → FieldType := fun k => match k with
  | _ => .int
abbrev wsJxc12de0 : List Cond := u_ws RJxc12de TJxc12de 0
theorem nmJxc12de : ∀ a, a < 0 → ∀ b, b < 0 → a ≠ b → (TJxc12de a).2.1 ≠ (TJxc12de b).2.1 := by decide +kernel
theorem tyJxc12de_ok : ∀ k, k < 0 → parseFieldDescriptor (TJxc12de k).2.2.1 = some (tyJxc12de k) := by decide +kernel
abbrev cJxc12de_init_da8c8 : ByteArray := prog_36_method_1_code
def yJxc12de_init_da8c8 : MethodName := ⟨RJxc12de, "<init>", "()V"⟩
def RJx4a65c : String := "java/util/ArrayList"
def TJx4a65c : u_T := fun k => match k with
  | 0 => ("java/util/AbstractList", "modCount", "I", false)
  | 1 => ("java/util/ArrayList", "elementData", "[Ljava/lang/Object;", false)
  | _ => ("java/util/ArrayList", "size", "I", false)
def tyJx4a65c : Nat → FieldType := fun k => match k with
  | 0 => .int
  | 1 => .array (.object "java/lang/Object")
  | _ => .int
abbrev wsJx4a65c0 : List Cond := u_ws RJx4a65c TJx4a65c 3
theorem nmJx4a65c : ∀ a, a < 3 → ∀ b, b < 3 → a ≠ b → (TJx4a65c a).2.1 ≠ (TJx4a65c b).2.1 := by decide +kernel
theorem tyJx4a65c_ok : ∀ k, k < 3 → parseFieldDescriptor (TJx4a65c k).2.2.1 = some (tyJx4a65c k) := by decide +kernel
abbrev cJx4a65c_init_da8c8 : ByteArray := prog_37_method_2_code
def yJx4a65c_init_da8c8 : MethodName := ⟨RJx4a65c, "<init>", "()V"⟩
abbrev cJx4a65c_grow_92f84 : ByteArray := prog_37_method_6_code
def yJx4a65c_grow_92f84 : MethodName := ⟨RJx4a65c, "grow", "(I)[Ljava/lang/Object;"⟩
abbrev cJx4a65c_grow_d5877 : ByteArray := prog_37_method_7_code
def yJx4a65c_grow_d5877 : MethodName := ⟨RJx4a65c, "grow", "()[Ljava/lang/Object;"⟩
abbrev cJx4a65c_size_8abf5 : ByteArray := prog_37_method_8_code
def yJx4a65c_size_8abf5 : MethodName := ⟨RJx4a65c, "size", "()I"⟩
abbrev cJx4a65c_isEmpty_aae02 : ByteArray := prog_37_method_9_code
def yJx4a65c_isEmpty_aae02 : MethodName := ⟨RJx4a65c, "isEmpty", "()Z"⟩
abbrev cJx4a65c_toArray_d5877 : ByteArray := prog_37_method_16_code
def yJx4a65c_toArray_d5877 : MethodName := ⟨RJx4a65c, "toArray", "()[Ljava/lang/Object;"⟩
abbrev cJx4a65c_add_72be8 : ByteArray := prog_37_method_24_code
def yJx4a65c_add_72be8 : MethodName := ⟨RJx4a65c, "add", "(Ljava/lang/Object;[Ljava/lang/Object;I)V"⟩
abbrev cJx4a65c_add_9ea2d : ByteArray := prog_37_method_25_code
def yJx4a65c_add_9ea2d : MethodName := ⟨RJx4a65c, "add", "(Ljava/lang/Object;)Z"⟩
abbrev cJx4a65c_remove_915e3 : ByteArray := prog_37_method_29_code
def yJx4a65c_remove_915e3 : MethodName := ⟨RJx4a65c, "remove", "(I)Ljava/lang/Object;"⟩
abbrev cJx4a65c_fastRemove_b59b0 : ByteArray := prog_37_method_39_code
def yJx4a65c_fastRemove_b59b0 : MethodName := ⟨RJx4a65c, "fastRemove", "([Ljava/lang/Object;I)V"⟩
abbrev cJx4a65c_addAll_f0b43 : ByteArray := prog_37_method_41_code
def yJx4a65c_addAll_f0b43 : MethodName := ⟨RJx4a65c, "addAll", "(Ljava/util/Collection;)Z"⟩
def RJ7 : String := "java/util/Arrays"
def TJ7 : u_T := fun k => match k with
  | _ => ("", "", "", false)
def tyJ7 : Nat → FieldType := fun k => match k with
  | _ => .int
abbrev wsJ70 : List Cond := u_ws RJ7 TJ7 0
theorem nmJ7 : ∀ a, a < 0 → ∀ b, b < 0 → a ≠ b → (TJ7 a).2.1 ≠ (TJ7 b).2.1 := by decide +kernel
theorem tyJ7_ok : ∀ k, k < 0 → parseFieldDescriptor (TJ7 k).2.2.1 = some (tyJ7 k) := by decide +kernel
abbrev cJ7_copyOf_1904c : ByteArray := prog_38_method_119_code
def yJ7_copyOf_1904c : MethodName := ⟨RJ7, "copyOf", "([Ljava/lang/Object;I)[Ljava/lang/Object;"⟩
abbrev cJ7_copyOf_6403c : ByteArray := prog_38_method_120_code
def yJ7_copyOf_6403c : MethodName := ⟨RJ7, "copyOf", "([Ljava/lang/Object;ILjava/lang/Class;)[Ljava/lang/Object;"⟩
def RJx5ef63 : String := "java/util/Collection"
def TJx5ef63 : u_T := fun k => match k with
  | _ => ("", "", "", false)
def tyJx5ef63 : Nat → FieldType := fun k => match k with
  | _ => .int
abbrev wsJx5ef630 : List Cond := u_ws RJx5ef63 TJx5ef63 0
theorem nmJx5ef63 : ∀ a, a < 0 → ∀ b, b < 0 → a ≠ b → (TJx5ef63 a).2.1 ≠ (TJx5ef63 b).2.1 := by decide +kernel
theorem tyJx5ef63_ok : ∀ k, k < 0 → parseFieldDescriptor (TJx5ef63 k).2.2.1 = some (tyJx5ef63 k) := by decide +kernel
def RJxbd725 : String := "java/util/List"
def TJxbd725 : u_T := fun k => match k with
  | _ => ("", "", "", false)
def tyJxbd725 : Nat → FieldType := fun k => match k with
  | _ => .int
abbrev wsJxbd7250 : List Cond := u_ws RJxbd725 TJxbd725 0
theorem nmJxbd725 : ∀ a, a < 0 → ∀ b, b < 0 → a ≠ b → (TJxbd725 a).2.1 ≠ (TJxbd725 b).2.1 := by decide +kernel
theorem tyJxbd725_ok : ∀ k, k < 0 → parseFieldDescriptor (TJxbd725 k).2.2.1 = some (tyJxbd725 k) := by decide +kernel
def RJ15 : String := "java/util/Objects"
def TJ15 : u_T := fun k => match k with
  | _ => ("", "", "", false)
def tyJ15 : Nat → FieldType := fun k => match k with
  | _ => .int
abbrev wsJ150 : List Cond := u_ws RJ15 TJ15 0
theorem nmJ15 : ∀ a, a < 0 → ∀ b, b < 0 → a ≠ b → (TJ15 a).2.1 ≠ (TJ15 b).2.1 := by decide +kernel
theorem tyJ15_ok : ∀ k, k < 0 → parseFieldDescriptor (TJ15 k).2.2.1 = some (tyJ15 k) := by decide +kernel
abbrev cJ15_checkIndex_7cf53 : ByteArray := prog_42_method_17_code
def yJ15_checkIndex_7cf53 : MethodName := ⟨RJ15, "checkIndex", "(II)I"⟩
def RJxf0a74 : String := "java/util/RandomAccess"
def TJxf0a74 : u_T := fun k => match k with
  | _ => ("", "", "", false)
def tyJxf0a74 : Nat → FieldType := fun k => match k with
  | _ => .int
abbrev wsJxf0a740 : List Cond := u_ws RJxf0a74 TJxf0a74 0
theorem nmJxf0a74 : ∀ a, a < 0 → ∀ b, b < 0 → a ≠ b → (TJxf0a74 a).2.1 ≠ (TJxf0a74 b).2.1 := by decide +kernel
theorem tyJxf0a74_ok : ∀ k, k < 0 → parseFieldDescriptor (TJxf0a74 k).2.2.1 = some (tyJxf0a74 k) := by decide +kernel
def RJxa66e6 : String := "java/util/SequencedCollection"
def TJxa66e6 : u_T := fun k => match k with
  | _ => ("", "", "", false)
def tyJxa66e6 : Nat → FieldType := fun k => match k with
  | _ => .int
abbrev wsJxa66e60 : List Cond := u_ws RJxa66e6 TJxa66e6 0
theorem nmJxa66e6 : ∀ a, a < 0 → ∀ b, b < 0 → a ≠ b → (TJxa66e6 a).2.1 ≠ (TJxa66e6 b).2.1 := by decide +kernel
theorem tyJxa66e6_ok : ∀ k, k < 0 → parseFieldDescriptor (TJxa66e6 k).2.2.1 = some (tyJxa66e6 k) := by decide +kernel
def RJ8 : String := "jdk/internal/util/ArraysSupport"
def TJ8 : u_T := fun k => match k with
  | _ => ("", "", "", false)
def tyJ8 : Nat → FieldType := fun k => match k with
  | _ => .int
abbrev wsJ80 : List Cond := u_ws RJ8 TJ8 0
theorem nmJ8 : ∀ a, a < 0 → ∀ b, b < 0 → a ≠ b → (TJ8 a).2.1 ≠ (TJ8 b).2.1 := by decide +kernel
theorem tyJ8_ok : ∀ k, k < 0 → parseFieldDescriptor (TJ8 k).2.2.1 = some (tyJ8 k) := by decide +kernel
abbrev cJ8_newLength_cabcc : ByteArray := prog_45_method_27_code
def yJ8_newLength_cabcc : MethodName := ⟨RJ8, "newLength", "(III)I"⟩
abbrev cJ8_hugeLength_7cf53 : ByteArray := prog_45_method_28_code
def yJ8_hugeLength_7cf53 : MethodName := ⟨RJ8, "hugeLength", "(II)I"⟩
def RJ3 : String := "jdk/internal/util/Preconditions"
def TJ3 : u_T := fun k => match k with
  | _ => ("", "", "", false)
def tyJ3 : Nat → FieldType := fun k => match k with
  | _ => .int
abbrev wsJ30 : List Cond := u_ws RJ3 TJ3 0
theorem nmJ3 : ∀ a, a < 0 → ∀ b, b < 0 → a ≠ b → (TJ3 a).2.1 ≠ (TJ3 b).2.1 := by decide +kernel
theorem tyJ3_ok : ∀ k, k < 0 → parseFieldDescriptor (TJ3 k).2.2.1 = some (tyJ3 k) := by decide +kernel
abbrev cJ3_checkIndex_8e157 : ByteArray := prog_46_method_11_code
def yJ3_checkIndex_8e157 : MethodName := ⟨RJ3, "checkIndex", "(IILjava/util/function/BiFunction;)I"⟩
def RL : String := "DelayLineStoreLaw"
abbrev cL_isSo : ByteArray := method_4_code
def yL_isSo : MethodName := ⟨RL, "isSo", "(LDelayLineStore;LDelayLineStoreLaw$Machine;)Z"⟩
abbrev cL_acts : ByteArray := method_5_code
def yL_acts : MethodName := ⟨RL, "acts", "(LDelayLineStore;LDelayLineStoreLaw$Machine;LDelayLineStoreLaw$Draws;)Z"⟩
abbrev cL_fills : ByteArray := method_6_code
def yL_fills : MethodName := ⟨RL, "fills", "(LDelayLineStore;LDelayLineStoreLaw$Machine;LDelayLineStoreLaw$Draws;)V"⟩
abbrev cL_law : ByteArray := code
def yL_law : MethodName := ⟨RL, "law", "([I)Z"⟩
abbrev vwCl : List vw_C := [(RJ4, TJ4, 4), (RJ6, TJ6, 1), (RJx4a65c, TJx4a65c, 3), (RX0, TX0, 13), (RX1, TX1, 5), (RX2, TX2, 12), (RX4, TX4, 3), (RX5, TX5, 4), (RX6, TX6, 8), (RX7, TX7, 1), (RX8, TX8, 19)]
end
section
/-- the good words of the tables: every method's contract asks them all -/
def gT : List Cond := lw_tbl.filter goodWord
theorem gT_good : ∀ w ∈ gT, goodWord w = true := fun w h => (List.mem_filter.mp h).2
theorem gT_tab {w : Cond} {i : Nat} (h : tables_1[i]? = some w) (g : goodWord w = true) : w ∈ gT := List.mem_filter.mpr ⟨List.mem_append_right _ (List.mem_of_getElem? h), g⟩
theorem gT_prv {q : MethodName × Nat} {i : Nat} (h : lw_privs[i]? = some q) (g : goodWord (Cond.selects q.1.cls q.1 q.1) = true) : Cond.selects q.1.cls q.1 q.1 ∈ gT := List.mem_filter.mpr ⟨List.mem_append_left _ (List.mem_map.mpr ⟨q, List.mem_of_getElem? h, rfl⟩), g⟩
theorem gT_list (ws : List Cond) (is : List Nat) (h : is.map (fun i => tables_1[i]?) = ws.map some) (g : ws.all goodWord = true) : ∀ w ∈ ws, w ∈ gT := by
  intro w hw
  obtain ⟨k, hk⟩ := List.getElem?_of_mem hw
  have h1 : (is.map (fun i => tables_1[i]?))[k]? = some (some w) := by rw [h, List.getElem?_map, hk]; rfl
  rw [List.getElem?_map] at h1
  obtain ⟨i, -, hi⟩ := Option.map_eq_some_iff.mp h1
  exact gT_tab hi (List.all_eq_true.mp g w hw)
theorem gT_t1 {w : Cond} {i : Nat} (h : tables_1_1[i]? = some w) (g : goodWord w = true) : w ∈ gT := List.mem_filter.mpr ⟨List.mem_append_right _ (List.mem_append_left _ (List.mem_of_getElem? h)), g⟩
theorem gT_t2 {w : Cond} {i : Nat} (h : tables_1_2[i]? = some w) (g : goodWord w = true) : w ∈ gT := List.mem_filter.mpr ⟨List.mem_append_right _ (List.mem_append_right _ (List.mem_append_left _ (List.mem_of_getElem? h))), g⟩
theorem gT_t3 {w : Cond} {i : Nat} (h : tables_1_3[i]? = some w) (g : goodWord w = true) : w ∈ gT := List.mem_filter.mpr ⟨List.mem_append_right _ (List.mem_append_right _ (List.mem_append_right _ (List.mem_append_left _ (List.mem_of_getElem? h)))), g⟩
theorem gT_t4 {w : Cond} {i : Nat} (h : tables_1_4[i]? = some w) (g : goodWord w = true) : w ∈ gT := List.mem_filter.mpr ⟨List.mem_append_right _ (List.mem_append_right _ (List.mem_append_right _ (List.mem_append_right _ (List.mem_append_left _ (List.mem_of_getElem? h))))), g⟩
theorem gT_t5 {w : Cond} {i : Nat} (h : tables_1_5[i]? = some w) (g : goodWord w = true) : w ∈ gT := List.mem_filter.mpr ⟨List.mem_append_right _ (List.mem_append_right _ (List.mem_append_right _ (List.mem_append_right _ (List.mem_append_right _ (List.mem_of_getElem? h))))), g⟩
theorem k_in_L : Cond.initialized "DelayLineStoreLaw" ∈ gT := gT_t1 (i := 0) (by decide +kernel) (by decide +kernel)
theorem k_in_X7 : Cond.initialized "DelayLineStoreLaw$Draws" ∈ gT := gT_t1 (i := 1) (by decide +kernel) (by decide +kernel)
theorem k_in_X6 : Cond.initialized "DelayLineStore" ∈ gT := gT_t1 (i := 2) (by decide +kernel) (by decide +kernel)
theorem k_in_X2 : Cond.initialized "DelayLineStore$Computer" ∈ gT := gT_t1 (i := 3) (by decide +kernel) (by decide +kernel)
theorem k_in_X5 : Cond.initialized "DelayLineStore$Store" ∈ gT := gT_t1 (i := 4) (by decide +kernel) (by decide +kernel)
theorem k_in_X1 : Cond.initialized "DelayLineStore$Climate" ∈ gT := gT_t1 (i := 5) (by decide +kernel) (by decide +kernel)
theorem k_in_X4 : Cond.initialized "DelayLineStore$NumberQueue" ∈ gT := gT_t1 (i := 6) (by decide +kernel) (by decide +kernel)
theorem k_in_X0 : Cond.initialized "DelayLineStore$Assembler" ∈ gT := gT_t1 (i := 7) (by decide +kernel) (by decide +kernel)
theorem k_in_J5 : Cond.initialized "java/lang/AbstractStringBuilder" ∈ gT := gT_t1 (i := 8) (by decide +kernel) (by decide +kernel)
theorem k_in_J4 : Cond.initialized "java/lang/StringBuilder" ∈ gT := gT_t1 (i := 9) (by decide +kernel) (by decide +kernel)
theorem k_in_J0 : Cond.initialized "java/lang/String" ∈ gT := gT_t1 (i := 10) (by decide +kernel) (by decide +kernel)
theorem k_in_J2 : Cond.initialized "java/lang/StringUTF16" ∈ gT := gT_t1 (i := 11) (by decide +kernel) (by decide +kernel)
theorem k_in_X8 : Cond.initialized "DelayLineStoreLaw$Machine" ∈ gT := gT_t1 (i := 12) (by decide +kernel) (by decide +kernel)
theorem k_in_Jxa1e45 : Cond.initialized "java/util/AbstractCollection" ∈ gT := gT_t1 (i := 13) (by decide +kernel) (by decide +kernel)
theorem k_in_Jxc12de : Cond.initialized "java/util/AbstractList" ∈ gT := gT_t1 (i := 14) (by decide +kernel) (by decide +kernel)
theorem k_in_Jx4a65c : Cond.initialized "java/util/ArrayList" ∈ gT := gT_t1 (i := 15) (by decide +kernel) (by decide +kernel)
theorem k_in_java_lang_Throwable : Cond.initialized "java/lang/Throwable" ∈ gT := gT_t1 (i := 16) (by decide +kernel) (by decide +kernel)
theorem k_in_java_lang_Exception : Cond.initialized "java/lang/Exception" ∈ gT := gT_t1 (i := 17) (by decide +kernel) (by decide +kernel)
theorem k_in_java_lang_RuntimeException : Cond.initialized "java/lang/RuntimeException" ∈ gT := gT_t1 (i := 18) (by decide +kernel) (by decide +kernel)
theorem k_in_java_lang_IndexOutOfBoundsException : Cond.initialized "java/lang/IndexOutOfBoundsException" ∈ gT := gT_t1 (i := 19) (by decide +kernel) (by decide +kernel)
theorem k_in_Jxd2413 : Cond.initialized "java/lang/Number" ∈ gT := gT_t1 (i := 20) (by decide +kernel) (by decide +kernel)
theorem k_in_J6 : Cond.initialized "java/lang/Integer" ∈ gT := gT_t1 (i := 21) (by decide +kernel) (by decide +kernel)
theorem k_in_java_lang_IllegalArgumentException : Cond.initialized "java/lang/IllegalArgumentException" ∈ gT := gT_t1 (i := 22) (by decide +kernel) (by decide +kernel)
theorem k_in_Jxabbfe : Cond.initialized "java/lang/Integer$IntegerCache" ∈ gT := gT_t1 (i := 23) (by decide +kernel) (by decide +kernel)
theorem k_in_J8 : Cond.initialized "jdk/internal/util/ArraysSupport" ∈ gT := gT_t1 (i := 24) (by decide +kernel) (by decide +kernel)
theorem k_in_J9 : Cond.initialized "java/lang/Math" ∈ gT := gT_t1 (i := 25) (by decide +kernel) (by decide +kernel)
theorem k_in_J7 : Cond.initialized "java/util/Arrays" ∈ gT := gT_t1 (i := 26) (by decide +kernel) (by decide +kernel)
theorem k_in_J10 : Cond.initialized "java/lang/System" ∈ gT := gT_t1 (i := 27) (by decide +kernel) (by decide +kernel)
theorem k_in_java_lang_IllegalStateException : Cond.initialized "java/lang/IllegalStateException" ∈ gT := gT_t1 (i := 28) (by decide +kernel) (by decide +kernel)
theorem k_in_java_util_NoSuchElementException : Cond.initialized "java/util/NoSuchElementException" ∈ gT := gT_t1 (i := 29) (by decide +kernel) (by decide +kernel)
theorem k_in_J15 : Cond.initialized "java/util/Objects" ∈ gT := gT_t1 (i := 30) (by decide +kernel) (by decide +kernel)
theorem k_in_J3 : Cond.initialized "jdk/internal/util/Preconditions" ∈ gT := gT_t1 (i := 31) (by decide +kernel) (by decide +kernel)
theorem k_in_X3 : Cond.initialized "DelayLineStore$Instruction" ∈ gT := gT_t1 (i := 32) (by decide +kernel) (by decide +kernel)
theorem k_cl_L_24 : Cond.classLink RL 24 "DelayLineStore" ∈ gT := gT_t1 (i := 33) (by decide +kernel) (by decide +kernel)
theorem k_is_X6 : Cond.instantiable "DelayLineStore" 8 ∈ gT := gT_t1 (i := 34) (by decide +kernel) (by decide +kernel)
theorem k_ml_L_228 : Cond.methodLink RL 228 yX6_init ∈ gT := gT_t1 (i := 35) (by decide +kernel) (by decide +kernel)
theorem k_im_X6_init : Cond.instanceMethod yX6_init ∈ gT := gT_t1 (i := 36) (by decide +kernel) (by decide +kernel)
set_option maxRecDepth 10000 in
theorem k_cd_X6_init : Cond.code yX6_init cX6_init 1 none ∈ gT := gT_t1 (i := 37) rfl (by decide +kernel)
theorem k_ml_X6_3 : Cond.methodLink RX6 3 ⟨"java/lang/Object", "<init>", "()V"⟩ ∈ gT := gT_t1 (i := 38) (by decide +kernel) (by decide +kernel)
theorem k_cl_X6_9 : Cond.classLink RX6 9 "DelayLineStore$Computer" ∈ gT := gT_t1 (i := 41) (by decide +kernel) (by decide +kernel)
theorem k_is_X2 : Cond.instantiable "DelayLineStore$Computer" 12 ∈ gT := gT_t1 (i := 42) (by decide +kernel) (by decide +kernel)
theorem k_im_X2_init : Cond.instanceMethod yX2_init ∈ gT := gT_t1 (i := 44) (by decide +kernel) (by decide +kernel)
set_option maxRecDepth 10000 in
theorem k_cd_X2_init : Cond.code yX2_init cX2_init 1 none ∈ gT := gT_t1 (i := 45) rfl (by decide +kernel)
theorem k_ml_X2_3 : Cond.methodLink RX2 3 ⟨"java/lang/Object", "<init>", "()V"⟩ ∈ gT := gT_t1 (i := 46) (by decide +kernel) (by decide +kernel)
theorem k_cl_X2_9 : Cond.classLink RX2 9 "DelayLineStore$Store" ∈ gT := gT_t1 (i := 47) (by decide +kernel) (by decide +kernel)
theorem k_is_X5 : Cond.instantiable "DelayLineStore$Store" 4 ∈ gT := gT_t1 (i := 48) (by decide +kernel) (by decide +kernel)
theorem k_im_X5_init : Cond.instanceMethod yX5_init ∈ gT := gT_t1 (i := 50) (by decide +kernel) (by decide +kernel)
set_option maxRecDepth 10000 in
theorem k_cd_X5_init : Cond.code yX5_init cX5_init 1 none ∈ gT := gT_t1 (i := 51) rfl (by decide +kernel)
theorem k_ml_X5_3 : Cond.methodLink RX5 3 ⟨"java/lang/Object", "<init>", "()V"⟩ ∈ gT := gT_t1 (i := 52) (by decide +kernel) (by decide +kernel)
theorem k_fl_X5_9 : Cond.fieldLink RX5 9 RX5 (TX5 0).2.1 (TX5 0).2.2.1 ∈ gT := gT_t1 (i := 53) (by decide +kernel) (by decide +kernel)
theorem k_fl_X5_15 : Cond.fieldLink RX5 15 RX5 (TX5 1).2.1 (TX5 1).2.2.1 ∈ gT := gT_t1 (i := 54) (by decide +kernel) (by decide +kernel)
theorem k_fl_X5_18 : Cond.fieldLink RX5 18 RX5 (TX5 2).2.1 (TX5 2).2.2.1 ∈ gT := gT_t1 (i := 55) (by decide +kernel) (by decide +kernel)
theorem k_fl_X5_57 : Cond.fieldLink RX5 57 RX5 (TX5 3).2.1 (TX5 3).2.2.1 ∈ gT := gT_t1 (i := 56) (by decide +kernel) (by decide +kernel)
theorem k_fl_X6_136 : Cond.fieldLink RX6 136 RX5 (TX5 3).2.1 (TX5 3).2.2.1 ∈ gT := gT_t1 (i := 57) (by decide +kernel) (by decide +kernel)
theorem k_ac_int : Cond.arrayClass .int ∈ gT := gT_t1 (i := 67) (by decide +kernel) (by decide +kernel)
theorem k_cl_X2_18 : Cond.classLink RX2 18 "DelayLineStore$Climate" ∈ gT := gT_t1 (i := 68) (by decide +kernel) (by decide +kernel)
theorem k_is_X1 : Cond.instantiable "DelayLineStore$Climate" 5 ∈ gT := gT_t1 (i := 69) (by decide +kernel) (by decide +kernel)
theorem k_ml_X2_20 : Cond.methodLink RX2 20 yX1_init ∈ gT := gT_t1 (i := 70) (by decide +kernel) (by decide +kernel)
theorem k_im_X1_init : Cond.instanceMethod yX1_init ∈ gT := gT_t1 (i := 71) (by decide +kernel) (by decide +kernel)
set_option maxRecDepth 10000 in
theorem k_cd_X1_init : Cond.code yX1_init cX1_init 2 none ∈ gT := gT_t1 (i := 72) rfl (by decide +kernel)
theorem k_ml_X1_3 : Cond.methodLink RX1 3 ⟨"java/lang/Object", "<init>", "()V"⟩ ∈ gT := gT_t1 (i := 73) (by decide +kernel) (by decide +kernel)
theorem k_co_X1_22 : Cond.constant RX1 22 (1000000) ∈ gT := gT_t1 (i := 74) (by decide +kernel) (by decide +kernel)
theorem k_fl_X1_9 : Cond.fieldLink RX1 9 RX1 (TX1 0).2.1 (TX1 0).2.2.1 ∈ gT := gT_t1 (i := 75) (by decide +kernel) (by decide +kernel)
theorem k_fl_X1_15 : Cond.fieldLink RX1 15 RX1 (TX1 1).2.1 (TX1 1).2.2.1 ∈ gT := gT_t1 (i := 76) (by decide +kernel) (by decide +kernel)
theorem k_fl_X6_151 : Cond.fieldLink RX6 151 RX1 (TX1 1).2.1 (TX1 1).2.2.1 ∈ gT := gT_t1 (i := 77) (by decide +kernel) (by decide +kernel)
theorem k_fl_X1_19 : Cond.fieldLink RX1 19 RX1 (TX1 2).2.1 (TX1 2).2.2.1 ∈ gT := gT_t1 (i := 78) (by decide +kernel) (by decide +kernel)
theorem k_fl_X6_148 : Cond.fieldLink RX6 148 RX1 (TX1 2).2.1 (TX1 2).2.2.1 ∈ gT := gT_t1 (i := 79) (by decide +kernel) (by decide +kernel)
theorem k_fl_X1_23 : Cond.fieldLink RX1 23 RX1 (TX1 3).2.1 (TX1 3).2.2.1 ∈ gT := gT_t1 (i := 80) (by decide +kernel) (by decide +kernel)
theorem k_fl_X6_162 : Cond.fieldLink RX6 162 RX1 (TX1 3).2.1 (TX1 3).2.2.1 ∈ gT := gT_t1 (i := 81) (by decide +kernel) (by decide +kernel)
theorem k_fl_X1_34 : Cond.fieldLink RX1 34 RX1 (TX1 4).2.1 (TX1 4).2.2.1 ∈ gT := gT_t1 (i := 82) (by decide +kernel) (by decide +kernel)
theorem k_fl_X6_154 : Cond.fieldLink RX6 154 RX1 (TX1 4).2.1 (TX1 4).2.2.1 ∈ gT := gT_t1 (i := 83) (by decide +kernel) (by decide +kernel)
theorem k_cl_X2_25 : Cond.classLink RX2 25 "DelayLineStore$NumberQueue" ∈ gT := gT_t1 (i := 95) (by decide +kernel) (by decide +kernel)
theorem k_is_X4 : Cond.instantiable "DelayLineStore$NumberQueue" 3 ∈ gT := gT_t1 (i := 96) (by decide +kernel) (by decide +kernel)
theorem k_im_X4_init : Cond.instanceMethod yX4_init ∈ gT := gT_t1 (i := 98) (by decide +kernel) (by decide +kernel)
set_option maxRecDepth 10000 in
theorem k_cd_X4_init : Cond.code yX4_init cX4_init 1 none ∈ gT := gT_t1 (i := 99) rfl (by decide +kernel)
theorem k_ml_X4_3 : Cond.methodLink RX4 3 ⟨"java/lang/Object", "<init>", "()V"⟩ ∈ gT := gT_t1 (i := 100) (by decide +kernel) (by decide +kernel)
theorem k_fl_X4_9 : Cond.fieldLink RX4 9 RX4 (TX4 0).2.1 (TX4 0).2.2.1 ∈ gT := gT_t1 (i := 101) (by decide +kernel) (by decide +kernel)
theorem k_fl_X4_19 : Cond.fieldLink RX4 19 RX4 (TX4 1).2.1 (TX4 1).2.2.1 ∈ gT := gT_t1 (i := 102) (by decide +kernel) (by decide +kernel)
theorem k_fl_X4_15 : Cond.fieldLink RX4 15 RX4 (TX4 2).2.1 (TX4 2).2.2.1 ∈ gT := gT_t1 (i := 103) (by decide +kernel) (by decide +kernel)
theorem k_fl_X2_68 : Cond.fieldLink RX2 68 RX4 (TX4 2).2.1 (TX4 2).2.2.1 ∈ gT := gT_t1 (i := 104) (by decide +kernel) (by decide +kernel)
theorem k_fl_X6_227 : Cond.fieldLink RX6 227 RX4 (TX4 2).2.1 (TX4 2).2.2.1 ∈ gT := gT_t1 (i := 105) (by decide +kernel) (by decide +kernel)
theorem k_fl_X2_12 : Cond.fieldLink RX2 12 RX2 (TX2 0).2.1 (TX2 0).2.2.1 ∈ gT := gT_t1 (i := 113) (by decide +kernel) (by decide +kernel)
theorem k_fl_X6_72 : Cond.fieldLink RX6 72 RX2 (TX2 0).2.1 (TX2 0).2.2.1 ∈ gT := gT_t1 (i := 114) (by decide +kernel) (by decide +kernel)
theorem k_fl_X2_21 : Cond.fieldLink RX2 21 RX2 (TX2 1).2.1 (TX2 1).2.2.1 ∈ gT := gT_t1 (i := 115) (by decide +kernel) (by decide +kernel)
theorem k_fl_X6_126 : Cond.fieldLink RX6 126 RX2 (TX2 1).2.1 (TX2 1).2.2.1 ∈ gT := gT_t1 (i := 116) (by decide +kernel) (by decide +kernel)
theorem k_fl_X2_28 : Cond.fieldLink RX2 28 RX2 (TX2 2).2.1 (TX2 2).2.2.1 ∈ gT := gT_t1 (i := 117) (by decide +kernel) (by decide +kernel)
theorem k_fl_X6_213 : Cond.fieldLink RX6 213 RX2 (TX2 2).2.1 (TX2 2).2.2.1 ∈ gT := gT_t1 (i := 118) (by decide +kernel) (by decide +kernel)
theorem k_fl_X2_32 : Cond.fieldLink RX2 32 RX2 (TX2 3).2.1 (TX2 3).2.2.1 ∈ gT := gT_t1 (i := 119) (by decide +kernel) (by decide +kernel)
theorem k_fl_X6_228 : Cond.fieldLink RX6 228 RX2 (TX2 3).2.1 (TX2 3).2.2.1 ∈ gT := gT_t1 (i := 120) (by decide +kernel) (by decide +kernel)
theorem k_fl_X2_35 : Cond.fieldLink RX2 35 RX2 (TX2 4).2.1 (TX2 4).2.2.1 ∈ gT := gT_t1 (i := 121) (by decide +kernel) (by decide +kernel)
theorem k_fl_X2_46 : Cond.fieldLink RX2 46 RX2 (TX2 5).2.1 (TX2 5).2.2.1 ∈ gT := gT_t1 (i := 122) (by decide +kernel) (by decide +kernel)
theorem k_fl_X6_239 : Cond.fieldLink RX6 239 RX2 (TX2 5).2.1 (TX2 5).2.2.1 ∈ gT := gT_t1 (i := 123) (by decide +kernel) (by decide +kernel)
theorem k_fl_X2_133 : Cond.fieldLink RX2 133 RX2 (TX2 6).2.1 (TX2 6).2.2.1 ∈ gT := gT_t1 (i := 124) (by decide +kernel) (by decide +kernel)
theorem k_fl_X6_245 : Cond.fieldLink RX6 245 RX2 (TX2 6).2.1 (TX2 6).2.2.1 ∈ gT := gT_t1 (i := 125) (by decide +kernel) (by decide +kernel)
theorem k_fl_X2_126 : Cond.fieldLink RX2 126 RX2 (TX2 7).2.1 (TX2 7).2.2.1 ∈ gT := gT_t1 (i := 126) (by decide +kernel) (by decide +kernel)
theorem k_fl_X6_198 : Cond.fieldLink RX6 198 RX2 (TX2 7).2.1 (TX2 7).2.2.1 ∈ gT := gT_t1 (i := 127) (by decide +kernel) (by decide +kernel)
theorem k_fl_X2_39 : Cond.fieldLink RX2 39 RX2 (TX2 8).2.1 (TX2 8).2.2.1 ∈ gT := gT_t1 (i := 128) (by decide +kernel) (by decide +kernel)
theorem k_fl_X6_201 : Cond.fieldLink RX6 201 RX2 (TX2 8).2.1 (TX2 8).2.2.1 ∈ gT := gT_t1 (i := 129) (by decide +kernel) (by decide +kernel)
theorem k_fl_X2_43 : Cond.fieldLink RX2 43 RX2 (TX2 9).2.1 (TX2 9).2.2.1 ∈ gT := gT_t1 (i := 130) (by decide +kernel) (by decide +kernel)
theorem k_fl_X6_210 : Cond.fieldLink RX6 210 RX2 (TX2 9).2.1 (TX2 9).2.2.1 ∈ gT := gT_t1 (i := 131) (by decide +kernel) (by decide +kernel)
theorem k_fl_X2_89 : Cond.fieldLink RX2 89 RX2 (TX2 10).2.1 (TX2 10).2.2.1 ∈ gT := gT_t1 (i := 132) (by decide +kernel) (by decide +kernel)
theorem k_fl_X6_204 : Cond.fieldLink RX6 204 RX2 (TX2 10).2.1 (TX2 10).2.2.1 ∈ gT := gT_t1 (i := 133) (by decide +kernel) (by decide +kernel)
theorem k_fl_X2_101 : Cond.fieldLink RX2 101 RX2 (TX2 11).2.1 (TX2 11).2.2.1 ∈ gT := gT_t1 (i := 134) (by decide +kernel) (by decide +kernel)
theorem k_fl_X6_207 : Cond.fieldLink RX6 207 RX2 (TX2 11).2.1 (TX2 11).2.2.1 ∈ gT := gT_t1 (i := 135) (by decide +kernel) (by decide +kernel)
theorem k_cl_X6_25 : Cond.classLink RX6 25 "DelayLineStore$Assembler" ∈ gT := gT_t1 (i := 161) (by decide +kernel) (by decide +kernel)
theorem k_is_X0 : Cond.instantiable "DelayLineStore$Assembler" 13 ∈ gT := gT_t1 (i := 162) (by decide +kernel) (by decide +kernel)
theorem k_im_X0_init : Cond.instanceMethod yX0_init ∈ gT := gT_t1 (i := 164) (by decide +kernel) (by decide +kernel)
set_option maxRecDepth 10000 in
theorem k_cd_X0_init : Cond.code yX0_init cX0_init 1 none ∈ gT := gT_t1 (i := 165) rfl (by decide +kernel)
theorem k_ml_X0_3 : Cond.methodLink RX0 3 ⟨"java/lang/Object", "<init>", "()V"⟩ ∈ gT := gT_t1 (i := 166) (by decide +kernel) (by decide +kernel)
theorem k_fl_X0_9 : Cond.fieldLink RX0 9 RX0 (TX0 0).2.1 (TX0 0).2.2.1 ∈ gT := gT_t1 (i := 167) (by decide +kernel) (by decide +kernel)
theorem k_fl_X0_15 : Cond.fieldLink RX0 15 RX0 (TX0 3).2.1 (TX0 3).2.2.1 ∈ gT := gT_t1 (i := 168) (by decide +kernel) (by decide +kernel)
theorem k_fl_X0_19 : Cond.fieldLink RX0 19 RX0 (TX0 4).2.1 (TX0 4).2.2.1 ∈ gT := gT_t1 (i := 169) (by decide +kernel) (by decide +kernel)
theorem k_fl_X0_22 : Cond.fieldLink RX0 22 RX0 (TX0 5).2.1 (TX0 5).2.2.1 ∈ gT := gT_t1 (i := 170) (by decide +kernel) (by decide +kernel)
theorem k_fl_X0_26 : Cond.fieldLink RX0 26 RX0 (TX0 7).2.1 (TX0 7).2.2.1 ∈ gT := gT_t1 (i := 171) (by decide +kernel) (by decide +kernel)
theorem k_ac_boolean : Cond.arrayClass .boolean ∈ gT := gT_t1 (i := 199) (by decide +kernel) (by decide +kernel)
theorem k_cl_X6_32 : Cond.classLink RX6 32 "java/lang/StringBuilder" ∈ gT := gT_t1 (i := 200) (by decide +kernel) (by decide +kernel)
theorem k_is_J4 : Cond.instantiable "java/lang/StringBuilder" 4 ∈ gT := gT_t1 (i := 201) (by decide +kernel) (by decide +kernel)
theorem k_ml_X6_34 : Cond.methodLink RX6 34 yJ4_init_da8c8 ∈ gT := gT_t1 (i := 202) (by decide +kernel) (by decide +kernel)
theorem k_im_J4_init_da8c8 : Cond.instanceMethod yJ4_init_da8c8 ∈ gT := gT_t1 (i := 203) (by decide +kernel) (by decide +kernel)
set_option maxRecDepth 10000 in
theorem k_cd_J4_init_da8c8 : Cond.code yJ4_init_da8c8 cJ4_init_da8c8 1 none ∈ gT := gT_t1 (i := 204) rfl (by decide +kernel)
theorem k_ml_J4_1 : Cond.methodLink RJ4 1 yJ5_init_d00df ∈ gT := gT_t1 (i := 205) (by decide +kernel) (by decide +kernel)
theorem k_im_J5_init_d00df : Cond.instanceMethod yJ5_init_d00df ∈ gT := gT_t1 (i := 206) (by decide +kernel) (by decide +kernel)
set_option maxRecDepth 10000 in
theorem k_cd_J5_init_d00df : Cond.code yJ5_init_d00df cJ5_init_d00df 2 none ∈ gT := gT_t1 (i := 207) rfl (by decide +kernel)
theorem k_ml_J5_3 : Cond.methodLink RJ5 3 ⟨"java/lang/Object", "<init>", "()V"⟩ ∈ gT := gT_t1 (i := 208) (by decide +kernel) (by decide +kernel)
theorem k_fl_J5_18 : Cond.fieldLink RJ5 18 "java/lang/String" "COMPACT_STRINGS" "Z" ∈ gT := gT_t1 (i := 209) (by decide +kernel) (by decide +kernel)
theorem k_ml_J5_26 : Cond.methodLink RJ5 26 yJ2_newBytesFor_77867 ∈ gT := gT_t1 (i := 211) (by decide +kernel) (by decide +kernel)
theorem k_st_J2_newBytesFor_77867 : Cond.static yJ2_newBytesFor_77867 ∈ gT := gT_t1 (i := 212) (by decide +kernel) (by decide +kernel)
set_option maxRecDepth 10000 in
theorem k_cd_J2_newBytesFor_77867 : Cond.code yJ2_newBytesFor_77867 cJ2_newBytesFor_77867 1 (some (.array .byte)) ∈ gT := gT_t1 (i := 213) rfl (by decide +kernel)
theorem k_ml_J2_11 : Cond.methodLink RJ2 11 yJ2_newBytesLength_0f7a4 ∈ gT := gT_t1 (i := 214) (by decide +kernel) (by decide +kernel)
theorem k_st_J2_newBytesLength_0f7a4 : Cond.static yJ2_newBytesLength_0f7a4 ∈ gT := gT_t1 (i := 215) (by decide +kernel) (by decide +kernel)
set_option maxRecDepth 10000 in
theorem k_cd_J2_newBytesLength_0f7a4 : Cond.code yJ2_newBytesLength_0f7a4 cJ2_newBytesLength_0f7a4 1 (some .int) ∈ gT := gT_t1 (i := 216) rfl (by decide +kernel)
theorem k_co_J2_20 : Cond.constant RJ2 20 (1073741823) ∈ gT := gT_t1 (i := 217) (by decide +kernel) (by decide +kernel)
theorem k_fl_J5_15 : Cond.fieldLink RJ5 15 "java/lang/AbstractStringBuilder" "value" "[B" ∈ gT := gT_t1 (i := 218) (by decide +kernel) (by decide +kernel)
theorem k_fl_J5_22 : Cond.fieldLink RJ5 22 "java/lang/AbstractStringBuilder" "coder" "B" ∈ gT := gT_t1 (i := 219) (by decide +kernel) (by decide +kernel)
theorem k_ac_byte : Cond.arrayClass .byte ∈ gT := gT_t1 (i := 229) (by decide +kernel) (by decide +kernel)
theorem k_fl_X6_12 : Cond.fieldLink RX6 12 RX6 (TX6 0).2.1 (TX6 0).2.2.1 ∈ gT := gT_t1 (i := 230) (by decide +kernel) (by decide +kernel)
theorem k_fl_X6_16 : Cond.fieldLink RX6 16 RX6 (TX6 1).2.1 (TX6 1).2.2.1 ∈ gT := gT_t1 (i := 231) (by decide +kernel) (by decide +kernel)
theorem k_fl_X6_19 : Cond.fieldLink RX6 19 RX6 (TX6 2).2.1 (TX6 2).2.2.1 ∈ gT := gT_t1 (i := 232) (by decide +kernel) (by decide +kernel)
theorem k_fl_X6_22 : Cond.fieldLink RX6 22 RX6 (TX6 3).2.1 (TX6 3).2.2.1 ∈ gT := gT_t1 (i := 233) (by decide +kernel) (by decide +kernel)
theorem k_fl_X6_28 : Cond.fieldLink RX6 28 RX6 (TX6 6).2.1 (TX6 6).2.2.1 ∈ gT := gT_t1 (i := 234) (by decide +kernel) (by decide +kernel)
theorem k_fl_X6_35 : Cond.fieldLink RX6 35 RX6 (TX6 7).2.1 (TX6 7).2.2.1 ∈ gT := gT_t1 (i := 235) (by decide +kernel) (by decide +kernel)
theorem k_ml_L_123 : Cond.methodLink RL 123 yX6_readWord ∈ gT := gT_t2 (i := 13) (by decide +kernel) (by decide +kernel)
theorem k_im_X6_readWord : Cond.instanceMethod yX6_readWord ∈ gT := gT_t2 (i := 14) (by decide +kernel) (by decide +kernel)
theorem k_se_X6_readWord : Cond.selects RX6 yX6_readWord yX6_readWord ∈ gT := gT_t2 (i := 15) (by decide +kernel) (by decide +kernel)
set_option maxRecDepth 10000 in
theorem k_cd_X6_readWord : Cond.code yX6_readWord cX6_readWord 3 (some .int) ∈ gT := gT_t2 (i := 16) rfl (by decide +kernel)
theorem k_ml_X6_101 : Cond.methodLink RX6 101 yX6_requireLocation ∈ gT := gT_t2 (i := 17) (by decide +kernel) (by decide +kernel)
theorem k_st_X6_requireLocation : Cond.static yX6_requireLocation ∈ gT := gT_t2 (i := 18) (by decide +kernel) (by decide +kernel)
set_option maxRecDepth 10000 in
theorem k_cd_X6_requireLocation : Cond.code yX6_requireLocation cX6_requireLocation 2 none ∈ gT := gT_t2 (i := 19) rfl (by decide +kernel)
theorem k_cl_X6_54 : Cond.classLink RX6 54 "java/lang/IndexOutOfBoundsException" ∈ gT := gT_t2 (i := 20) (by decide +kernel) (by decide +kernel)
theorem k_is_java_lang_IndexOutOfBoundsException : Cond.instantiable "java/lang/IndexOutOfBoundsException" 6 ∈ gT := gT_t2 (i := 21) (by decide +kernel) (by decide +kernel)
theorem k_is_java_lang_Throwable : Cond.instantiable "java/lang/Throwable" 6 ∈ gT := gT_t2 (i := 60) (by decide +kernel) (by decide +kernel)
theorem k_ml_X6_58 : Cond.methodLink RX6 58 ⟨"java/lang/IndexOutOfBoundsException", "<init>", "(Ljava/lang/String;)V"⟩ ∈ gT := gT_t2 (i := 63) (by decide +kernel) (by decide +kernel)
theorem k_ml_X6_104 : Cond.methodLink RX6 104 yX6_locationOf ∈ gT := gT_t2 (i := 88) (by decide +kernel) (by decide +kernel)
theorem k_st_X6_locationOf : Cond.static yX6_locationOf ∈ gT := gT_t2 (i := 89) (by decide +kernel) (by decide +kernel)
set_option maxRecDepth 10000 in
theorem k_cd_X6_locationOf : Cond.code yX6_locationOf cX6_locationOf 2 (some .int) ∈ gT := gT_t2 (i := 90) rfl (by decide +kernel)
theorem k_ml_X6_108 : Cond.methodLink RX6 108 yX5_wordAt ∈ gT := gT_t2 (i := 91) (by decide +kernel) (by decide +kernel)
theorem k_im_X5_wordAt : Cond.instanceMethod yX5_wordAt ∈ gT := gT_t2 (i := 92) (by decide +kernel) (by decide +kernel)
theorem k_se_X5_wordAt : Cond.selects RX5 yX5_wordAt yX5_wordAt ∈ gT := gT_t2 (i := 93) (by decide +kernel) (by decide +kernel)
set_option maxRecDepth 10000 in
theorem k_cd_X5_wordAt : Cond.code yX5_wordAt cX5_wordAt 2 (some .int) ∈ gT := gT_t2 (i := 94) rfl (by decide +kernel)
theorem k_st_X6_wrap : Cond.static yX6_wrap ∈ gT := gT_t2 (i := 96) (by decide +kernel) (by decide +kernel)
set_option maxRecDepth 10000 in
theorem k_cd_X6_wrap : Cond.code yX6_wrap cX6_wrap 3 (some .int) ∈ gT := gT_t2 (i := 97) rfl (by decide +kernel)
theorem k_ml_L_248 : Cond.methodLink RL 248 yX6_run ∈ gT := gT_t2 (i := 98) (by decide +kernel) (by decide +kernel)
theorem k_im_X6_run : Cond.instanceMethod yX6_run ∈ gT := gT_t2 (i := 99) (by decide +kernel) (by decide +kernel)
theorem k_se_X6_run : Cond.selects RX6 yX6_run yX6_run ∈ gT := gT_t2 (i := 100) (by decide +kernel) (by decide +kernel)
set_option maxRecDepth 10000 in
theorem k_cd_X6_run : Cond.code yX6_run cX6_run 2 (some .int) ∈ gT := gT_t2 (i := 101) rfl (by decide +kernel)
theorem k_ml_X6_186 : Cond.methodLink RX6 186 yX6_requireCount ∈ gT := gT_t2 (i := 102) (by decide +kernel) (by decide +kernel)
theorem k_st_X6_requireCount : Cond.static yX6_requireCount ∈ gT := gT_t2 (i := 103) (by decide +kernel) (by decide +kernel)
set_option maxRecDepth 10000 in
theorem k_cd_X6_requireCount : Cond.code yX6_requireCount cX6_requireCount 2 none ∈ gT := gT_t2 (i := 104) rfl (by decide +kernel)
theorem k_cl_X6_63 : Cond.classLink RX6 63 "java/lang/IllegalArgumentException" ∈ gT := gT_t2 (i := 105) (by decide +kernel) (by decide +kernel)
theorem k_is_java_lang_IllegalArgumentException : Cond.instantiable "java/lang/IllegalArgumentException" 6 ∈ gT := gT_t2 (i := 106) (by decide +kernel) (by decide +kernel)
theorem k_ml_X6_67 : Cond.methodLink RX6 67 ⟨"java/lang/IllegalArgumentException", "<init>", "(Ljava/lang/String;)V"⟩ ∈ gT := gT_t2 (i := 115) (by decide +kernel) (by decide +kernel)
theorem k_ml_X6_189 : Cond.methodLink RX6 189 yX6_requireReady ∈ gT := gT_t2 (i := 121) (by decide +kernel) (by decide +kernel)
theorem k_im_X6_requireReady : Cond.instanceMethod yX6_requireReady ∈ gT := gT_t2 (i := 123) (by decide +kernel) (by decide +kernel)
set_option maxRecDepth 10000 in
theorem k_cd_X6_requireReady : Cond.code yX6_requireReady cX6_requireReady 1 none ∈ gT := gT_t2 (i := 124) rfl (by decide +kernel)
theorem k_cl_X6_43 : Cond.classLink RX6 43 "java/lang/IllegalStateException" ∈ gT := gT_t2 (i := 125) (by decide +kernel) (by decide +kernel)
theorem k_is_java_lang_IllegalStateException : Cond.instantiable "java/lang/IllegalStateException" 6 ∈ gT := gT_t2 (i := 126) (by decide +kernel) (by decide +kernel)
theorem k_ml_X6_47 : Cond.methodLink RX6 47 ⟨"java/lang/IllegalStateException", "<init>", "(Ljava/lang/String;)V"⟩ ∈ gT := gT_t2 (i := 135) (by decide +kernel) (by decide +kernel)
theorem k_ml_X6_192 : Cond.methodLink RX6 192 yX2_executeUpTo ∈ gT := gT_t2 (i := 141) (by decide +kernel) (by decide +kernel)
theorem k_im_X2_executeUpTo : Cond.instanceMethod yX2_executeUpTo ∈ gT := gT_t2 (i := 142) (by decide +kernel) (by decide +kernel)
theorem k_se_X2_executeUpTo : Cond.selects RX2 yX2_executeUpTo yX2_executeUpTo ∈ gT := gT_t2 (i := 143) (by decide +kernel) (by decide +kernel)
set_option maxRecDepth 10000 in
theorem k_cd_X2_executeUpTo : Cond.code yX2_executeUpTo cX2_executeUpTo 4 (some .int) ∈ gT := gT_t2 (i := 144) rfl (by decide +kernel)
theorem k_ml_X2_49 : Cond.methodLink RX2 49 yX2_executeNext ∈ gT := gT_t2 (i := 145) (by decide +kernel) (by decide +kernel)
theorem k_im_X2_executeNext : Cond.instanceMethod yX2_executeNext ∈ gT := gT_t2 (i := 147) (by decide +kernel) (by decide +kernel)
set_option maxRecDepth 10000 in
theorem k_cd_X2_executeNext : Cond.code yX2_executeNext cX2_executeNext 5 none ∈ gT := gT_t2 (i := 148) rfl (by decide +kernel)
theorem k_ml_X2_52 : Cond.methodLink RX2 52 yX2_awaitCycle ∈ gT := gT_t2 (i := 149) (by decide +kernel) (by decide +kernel)
theorem k_im_X2_awaitCycle : Cond.instanceMethod yX2_awaitCycle ∈ gT := gT_t2 (i := 151) (by decide +kernel) (by decide +kernel)
set_option maxRecDepth 10000 in
theorem k_cd_X2_awaitCycle : Cond.code yX2_awaitCycle cX2_awaitCycle 3 none ∈ gT := gT_t2 (i := 152) rfl (by decide +kernel)
theorem k_st_X6_waitingUntil : Cond.static yX6_waitingUntil ∈ gT := gT_t2 (i := 154) (by decide +kernel) (by decide +kernel)
set_option maxRecDepth 10000 in
theorem k_cd_X6_waitingUntil : Cond.code yX6_waitingUntil cX6_waitingUntil 2 (some .int) ∈ gT := gT_t2 (i := 155) rfl (by decide +kernel)
theorem k_ml_X2_60 : Cond.methodLink RX2 60 yX2_pass ∈ gT := gT_t2 (i := 156) (by decide +kernel) (by decide +kernel)
theorem k_im_X2_pass : Cond.instanceMethod yX2_pass ∈ gT := gT_t2 (i := 157) (by decide +kernel) (by decide +kernel)
theorem k_se_X2_pass : Cond.selects RX2 yX2_pass yX2_pass ∈ gT := gT_t2 (i := 158) (by decide +kernel) (by decide +kernel)
set_option maxRecDepth 10000 in
theorem k_cd_X2_pass : Cond.code yX2_pass cX2_pass 4 none ∈ gT := gT_t2 (i := 159) rfl (by decide +kernel)
theorem k_ml_X2_136 : Cond.methodLink RX2 136 yX2_endMajorCycle ∈ gT := gT_t2 (i := 160) (by decide +kernel) (by decide +kernel)
theorem k_im_X2_endMajorCycle : Cond.instanceMethod yX2_endMajorCycle ∈ gT := gT_t2 (i := 162) (by decide +kernel) (by decide +kernel)
set_option maxRecDepth 10000 in
theorem k_cd_X2_endMajorCycle : Cond.code yX2_endMajorCycle cX2_endMajorCycle 6 none ∈ gT := gT_t2 (i := 163) rfl (by decide +kernel)
theorem k_ml_X2_139 : Cond.methodLink RX2 139 yX1_clockPeriod ∈ gT := gT_t2 (i := 164) (by decide +kernel) (by decide +kernel)
theorem k_im_X1_clockPeriod : Cond.instanceMethod yX1_clockPeriod ∈ gT := gT_t2 (i := 165) (by decide +kernel) (by decide +kernel)
theorem k_se_X1_clockPeriod : Cond.selects RX1 yX1_clockPeriod yX1_clockPeriod ∈ gT := gT_t2 (i := 166) (by decide +kernel) (by decide +kernel)
set_option maxRecDepth 10000 in
theorem k_cd_X1_clockPeriod : Cond.code yX1_clockPeriod cX1_clockPeriod 1 (some .int) ∈ gT := gT_t2 (i := 167) rfl (by decide +kernel)
theorem k_st_X6_delayOf : Cond.static yX6_delayOf ∈ gT := gT_t2 (i := 169) (by decide +kernel) (by decide +kernel)
set_option maxRecDepth 10000 in
theorem k_cd_X6_delayOf : Cond.code yX6_delayOf cX6_delayOf 1 (some .int) ∈ gT := gT_t2 (i := 170) rfl (by decide +kernel)
theorem k_co_X6_342 : Cond.constant RX6 342 (640000000) ∈ gT := gT_t2 (i := 171) (by decide +kernel) (by decide +kernel)
theorem k_ml_X2_142 : Cond.methodLink RX2 142 yX1_temperatureOf ∈ gT := gT_t2 (i := 172) (by decide +kernel) (by decide +kernel)
theorem k_im_X1_temperatureOf : Cond.instanceMethod yX1_temperatureOf ∈ gT := gT_t2 (i := 173) (by decide +kernel) (by decide +kernel)
theorem k_se_X1_temperatureOf : Cond.selects RX1 yX1_temperatureOf yX1_temperatureOf ∈ gT := gT_t2 (i := 174) (by decide +kernel) (by decide +kernel)
set_option maxRecDepth 10000 in
theorem k_cd_X1_temperatureOf : Cond.code yX1_temperatureOf cX1_temperatureOf 2 (some .int) ∈ gT := gT_t2 (i := 175) rfl (by decide +kernel)
theorem k_st_X6_mismatchOf : Cond.static yX6_mismatchOf ∈ gT := gT_t2 (i := 177) (by decide +kernel) (by decide +kernel)
set_option maxRecDepth 10000 in
theorem k_cd_X6_mismatchOf : Cond.code yX6_mismatchOf cX6_mismatchOf 2 (some .int) ∈ gT := gT_t2 (i := 178) rfl (by decide +kernel)
theorem k_ml_X6_343 : Cond.methodLink RX6 343 yX6_delayOf ∈ gT := gT_t2 (i := 179) (by decide +kernel) (by decide +kernel)
theorem k_ml_X2_148 : Cond.methodLink RX2 148 yJ9_floorDiv_7cf53 ∈ gT := gT_t2 (i := 180) (by decide +kernel) (by decide +kernel)
theorem k_st_J9_floorDiv_7cf53 : Cond.static yJ9_floorDiv_7cf53 ∈ gT := gT_t2 (i := 181) (by decide +kernel) (by decide +kernel)
set_option maxRecDepth 10000 in
theorem k_cd_J9_floorDiv_7cf53 : Cond.code yJ9_floorDiv_7cf53 cJ9_floorDiv_7cf53 3 (some .int) ∈ gT := gT_t2 (i := 182) rfl (by decide +kernel)
theorem k_ml_X2_153 : Cond.methodLink RX2 153 yX5_moveBits ∈ gT := gT_t2 (i := 183) (by decide +kernel) (by decide +kernel)
theorem k_im_X5_moveBits : Cond.instanceMethod yX5_moveBits ∈ gT := gT_t2 (i := 184) (by decide +kernel) (by decide +kernel)
theorem k_se_X5_moveBits : Cond.selects RX5 yX5_moveBits yX5_moveBits ∈ gT := gT_t2 (i := 185) (by decide +kernel) (by decide +kernel)
set_option maxRecDepth 10000 in
theorem k_cd_X5_moveBits : Cond.code yX5_moveBits cX5_moveBits 9 none ∈ gT := gT_t2 (i := 186) rfl (by decide +kernel)
theorem k_ml_X5_46 : Cond.methodLink RX5 46 yJ9_floorMod_7cf53 ∈ gT := gT_t2 (i := 187) (by decide +kernel) (by decide +kernel)
theorem k_st_J9_floorMod_7cf53 : Cond.static yJ9_floorMod_7cf53 ∈ gT := gT_t2 (i := 188) (by decide +kernel) (by decide +kernel)
set_option maxRecDepth 10000 in
theorem k_cd_J9_floorMod_7cf53 : Cond.code yJ9_floorMod_7cf53 cJ9_floorMod_7cf53 3 (some .int) ∈ gT := gT_t2 (i := 189) rfl (by decide +kernel)
theorem k_st_X6_cycleOf : Cond.static yX6_cycleOf ∈ gT := gT_t2 (i := 192) (by decide +kernel) (by decide +kernel)
set_option maxRecDepth 10000 in
theorem k_cd_X6_cycleOf : Cond.code yX6_cycleOf cX6_cycleOf 1 (some .int) ∈ gT := gT_t2 (i := 193) rfl (by decide +kernel)
theorem k_co_X5_25 : Cond.constant RX5 25 (1048575) ∈ gT := gT_t2 (i := 194) (by decide +kernel) (by decide +kernel)
theorem k_ml_X5_54 : Cond.methodLink RX5 54 yJ9_abs_0f7a4 ∈ gT := gT_t2 (i := 195) (by decide +kernel) (by decide +kernel)
theorem k_st_J9_abs_0f7a4 : Cond.static yJ9_abs_0f7a4 ∈ gT := gT_t2 (i := 196) (by decide +kernel) (by decide +kernel)
set_option maxRecDepth 10000 in
theorem k_cd_J9_abs_0f7a4 : Cond.code yJ9_abs_0f7a4 cJ9_abs_0f7a4 1 (some .int) ∈ gT := gT_t2 (i := 197) rfl (by decide +kernel)
theorem k_ml_X2_156 : Cond.methodLink RX2 156 yJ9_abs_0f7a4 ∈ gT := gT_t2 (i := 198) (by decide +kernel) (by decide +kernel)
theorem k_ml_X2_159 : Cond.methodLink RX2 159 yX5_dropBit ∈ gT := gT_t2 (i := 199) (by decide +kernel) (by decide +kernel)
theorem k_im_X5_dropBit : Cond.instanceMethod yX5_dropBit ∈ gT := gT_t2 (i := 200) (by decide +kernel) (by decide +kernel)
theorem k_se_X5_dropBit : Cond.selects RX5 yX5_dropBit yX5_dropBit ∈ gT := gT_t2 (i := 201) (by decide +kernel) (by decide +kernel)
set_option maxRecDepth 10000 in
theorem k_cd_X5_dropBit : Cond.code yX5_dropBit cX5_dropBit 5 none ∈ gT := gT_t2 (i := 202) rfl (by decide +kernel)
theorem k_ml_X2_162 : Cond.methodLink RX2 162 yX1_drift ∈ gT := gT_t2 (i := 203) (by decide +kernel) (by decide +kernel)
theorem k_im_X1_drift : Cond.instanceMethod yX1_drift ∈ gT := gT_t2 (i := 204) (by decide +kernel) (by decide +kernel)
theorem k_se_X1_drift : Cond.selects RX1 yX1_drift yX1_drift ∈ gT := gT_t2 (i := 205) (by decide +kernel) (by decide +kernel)
set_option maxRecDepth 10000 in
theorem k_cd_X1_drift : Cond.code yX1_drift cX1_drift 3 none ∈ gT := gT_t2 (i := 206) rfl (by decide +kernel)
theorem k_ml_X1_26 : Cond.methodLink RX1 26 yX1_temperatureOf ∈ gT := gT_t2 (i := 207) (by decide +kernel) (by decide +kernel)
theorem k_ml_X1_30 : Cond.methodLink RX1 30 yX1_putTemperature ∈ gT := gT_t2 (i := 208) (by decide +kernel) (by decide +kernel)
theorem k_im_X1_putTemperature : Cond.instanceMethod yX1_putTemperature ∈ gT := gT_t2 (i := 209) (by decide +kernel) (by decide +kernel)
theorem k_se_X1_putTemperature : Cond.selects RX1 yX1_putTemperature yX1_putTemperature ∈ gT := gT_t2 (i := 210) (by decide +kernel) (by decide +kernel)
set_option maxRecDepth 10000 in
theorem k_cd_X1_putTemperature : Cond.code yX1_putTemperature cX1_putTemperature 3 none ∈ gT := gT_t2 (i := 211) rfl (by decide +kernel)
theorem k_ml_X2_56 : Cond.methodLink RX2 56 yX5_wordAt ∈ gT := gT_t2 (i := 212) (by decide +kernel) (by decide +kernel)
theorem k_ml_X2_63 : Cond.methodLink RX2 63 yX3_opcode ∈ gT := gT_t2 (i := 213) (by decide +kernel) (by decide +kernel)
theorem k_st_X3_opcode : Cond.static yX3_opcode ∈ gT := gT_t2 (i := 214) (by decide +kernel) (by decide +kernel)
set_option maxRecDepth 10000 in
theorem k_cd_X3_opcode : Cond.code yX3_opcode cX3_opcode 1 (some .int) ∈ gT := gT_t2 (i := 215) rfl (by decide +kernel)
theorem k_ml_X2_71 : Cond.methodLink RX2 71 yX4_isFull ∈ gT := gT_t2 (i := 216) (by decide +kernel) (by decide +kernel)
theorem k_im_X4_isFull : Cond.instanceMethod yX4_isFull ∈ gT := gT_t2 (i := 217) (by decide +kernel) (by decide +kernel)
theorem k_se_X4_isFull : Cond.selects RX4 yX4_isFull yX4_isFull ∈ gT := gT_t2 (i := 218) (by decide +kernel) (by decide +kernel)
set_option maxRecDepth 10000 in
theorem k_cd_X4_isFull : Cond.code yX4_isFull cX4_isFull 1 (some .boolean) ∈ gT := gT_t2 (i := 219) rfl (by decide +kernel)
theorem k_ml_X2_75 : Cond.methodLink RX2 75 yX3_operand ∈ gT := gT_t2 (i := 220) (by decide +kernel) (by decide +kernel)
theorem k_st_X3_operand : Cond.static yX3_operand ∈ gT := gT_t2 (i := 221) (by decide +kernel) (by decide +kernel)
set_option maxRecDepth 10000 in
theorem k_cd_X3_operand : Cond.code yX3_operand cX3_operand 1 (some .int) ∈ gT := gT_t2 (i := 222) rfl (by decide +kernel)
theorem k_ml_X2_78 : Cond.methodLink RX2 78 yX3_waitsForOperand ∈ gT := gT_t2 (i := 224) (by decide +kernel) (by decide +kernel)
theorem k_st_X3_waitsForOperand : Cond.static yX3_waitsForOperand ∈ gT := gT_t2 (i := 225) (by decide +kernel) (by decide +kernel)
set_option maxRecDepth 10000 in
theorem k_cd_X3_waitsForOperand : Cond.code yX3_waitsForOperand cX3_waitsForOperand 1 (some .boolean) ∈ gT := gT_t2 (i := 226) rfl (by decide +kernel)
theorem k_ml_X3_58 : Cond.methodLink RX3 58 yX3_operandForm ∈ gT := gT_t2 (i := 227) (by decide +kernel) (by decide +kernel)
theorem k_st_X3_operandForm : Cond.static yX3_operandForm ∈ gT := gT_t2 (i := 228) (by decide +kernel) (by decide +kernel)
set_option maxRecDepth 10000 in
theorem k_cd_X3_operandForm : Cond.code yX3_operandForm cX3_operandForm 1 (some .int) ∈ gT := gT_t2 (i := 229) rfl (by decide +kernel)
theorem k_ml_X3_61 : Cond.methodLink RX3 61 yX3_isJump ∈ gT := gT_t2 (i := 230) (by decide +kernel) (by decide +kernel)
theorem k_st_X3_isJump : Cond.static yX3_isJump ∈ gT := gT_t2 (i := 231) (by decide +kernel) (by decide +kernel)
set_option maxRecDepth 10000 in
theorem k_cd_X3_isJump : Cond.code yX3_isJump cX3_isJump 1 (some .boolean) ∈ gT := gT_t2 (i := 232) rfl (by decide +kernel)
theorem k_ml_X2_82 : Cond.methodLink RX2 82 yX2_isJumpTaken ∈ gT := gT_t2 (i := 233) (by decide +kernel) (by decide +kernel)
theorem k_im_X2_isJumpTaken : Cond.instanceMethod yX2_isJumpTaken ∈ gT := gT_t2 (i := 235) (by decide +kernel) (by decide +kernel)
set_option maxRecDepth 10000 in
theorem k_cd_X2_isJumpTaken : Cond.code yX2_isJumpTaken cX2_isJumpTaken 2 (some .boolean) ∈ gT := gT_t2 (i := 236) rfl (by decide +kernel)
theorem k_ml_X2_85 : Cond.methodLink RX2 85 yX2_perform ∈ gT := gT_t2 (i := 237) (by decide +kernel) (by decide +kernel)
theorem k_im_X2_perform : Cond.instanceMethod yX2_perform ∈ gT := gT_t2 (i := 239) (by decide +kernel) (by decide +kernel)
set_option maxRecDepth 10000 in
theorem k_cd_X2_perform : Cond.code yX2_perform cX2_perform 3 none ∈ gT := gT_t3 (i := 0) rfl (by decide +kernel)
theorem k_ml_X2_92 : Cond.methodLink RX2 92 yX5_putWord ∈ gT := gT_t3 (i := 1) (by decide +kernel) (by decide +kernel)
theorem k_im_X5_putWord : Cond.instanceMethod yX5_putWord ∈ gT := gT_t3 (i := 2) (by decide +kernel) (by decide +kernel)
theorem k_se_X5_putWord : Cond.selects RX5 yX5_putWord yX5_putWord ∈ gT := gT_t3 (i := 3) (by decide +kernel) (by decide +kernel)
set_option maxRecDepth 10000 in
theorem k_cd_X5_putWord : Cond.code yX5_putWord cX5_putWord 3 none ∈ gT := gT_t3 (i := 4) rfl (by decide +kernel)
theorem k_ml_X2_112 : Cond.methodLink RX2 112 yX4_removeFirst ∈ gT := gT_t3 (i := 7) (by decide +kernel) (by decide +kernel)
theorem k_im_X4_removeFirst : Cond.instanceMethod yX4_removeFirst ∈ gT := gT_t3 (i := 8) (by decide +kernel) (by decide +kernel)
theorem k_se_X4_removeFirst : Cond.selects RX4 yX4_removeFirst yX4_removeFirst ∈ gT := gT_t3 (i := 9) (by decide +kernel) (by decide +kernel)
set_option maxRecDepth 10000 in
theorem k_cd_X4_removeFirst : Cond.code yX4_removeFirst cX4_removeFirst 2 (some .int) ∈ gT := gT_t3 (i := 10) rfl (by decide +kernel)
theorem k_ml_X2_116 : Cond.methodLink RX2 116 yX4_addLast ∈ gT := gT_t3 (i := 11) (by decide +kernel) (by decide +kernel)
theorem k_im_X4_addLast : Cond.instanceMethod yX4_addLast ∈ gT := gT_t3 (i := 12) (by decide +kernel) (by decide +kernel)
theorem k_se_X4_addLast : Cond.selects RX4 yX4_addLast yX4_addLast ∈ gT := gT_t3 (i := 13) (by decide +kernel) (by decide +kernel)
set_option maxRecDepth 10000 in
theorem k_cd_X4_addLast : Cond.code yX4_addLast cX4_addLast 2 none ∈ gT := gT_t3 (i := 14) rfl (by decide +kernel)
theorem k_ml_X2_119 : Cond.methodLink RX2 119 yX2_combine ∈ gT := gT_t3 (i := 15) (by decide +kernel) (by decide +kernel)
theorem k_im_X2_combine : Cond.instanceMethod yX2_combine ∈ gT := gT_t3 (i := 17) (by decide +kernel) (by decide +kernel)
set_option maxRecDepth 10000 in
theorem k_cd_X2_combine : Cond.code yX2_combine cX2_combine 3 none ∈ gT := gT_t3 (i := 18) rfl (by decide +kernel)
theorem k_ml_X2_122 : Cond.methodLink RX2 122 yX2_putResult ∈ gT := gT_t3 (i := 19) (by decide +kernel) (by decide +kernel)
theorem k_im_X2_putResult : Cond.instanceMethod yX2_putResult ∈ gT := gT_t3 (i := 21) (by decide +kernel) (by decide +kernel)
set_option maxRecDepth 10000 in
theorem k_cd_X2_putResult : Cond.code yX2_putResult cX2_putResult 3 none ∈ gT := gT_t3 (i := 22) rfl (by decide +kernel)
theorem k_ml_X2_95 : Cond.methodLink RX2 95 yX3_ownTime ∈ gT := gT_t3 (i := 23) (by decide +kernel) (by decide +kernel)
theorem k_st_X3_ownTime : Cond.static yX3_ownTime ∈ gT := gT_t3 (i := 24) (by decide +kernel) (by decide +kernel)
set_option maxRecDepth 10000 in
theorem k_cd_X3_ownTime : Cond.code yX3_ownTime cX3_ownTime 1 (some .int) ∈ gT := gT_t3 (i := 25) rfl (by decide +kernel)
theorem k_ml_X3_65 : Cond.methodLink RX3 65 yX3_opcode ∈ gT := gT_t3 (i := 26) (by decide +kernel) (by decide +kernel)
theorem k_ml_X3_68 : Cond.methodLink RX3 68 yX3_operand ∈ gT := gT_t3 (i := 27) (by decide +kernel) (by decide +kernel)
theorem k_ml_X2_98 : Cond.methodLink RX2 98 yX3_next ∈ gT := gT_t3 (i := 29) (by decide +kernel) (by decide +kernel)
theorem k_st_X3_next : Cond.static yX3_next ∈ gT := gT_t3 (i := 30) (by decide +kernel) (by decide +kernel)
set_option maxRecDepth 10000 in
theorem k_cd_X3_next : Cond.code yX3_next cX3_next 1 (some .int) ∈ gT := gT_t3 (i := 31) rfl (by decide +kernel)
theorem k_ml_L_262 : Cond.methodLink RL 262 yX6_idle ∈ gT := gT_t3 (i := 32) (by decide +kernel) (by decide +kernel)
theorem k_im_X6_idle : Cond.instanceMethod yX6_idle ∈ gT := gT_t3 (i := 33) (by decide +kernel) (by decide +kernel)
theorem k_se_X6_idle : Cond.selects RX6 yX6_idle yX6_idle ∈ gT := gT_t3 (i := 34) (by decide +kernel) (by decide +kernel)
set_option maxRecDepth 10000 in
theorem k_cd_X6_idle : Cond.code yX6_idle cX6_idle 2 (some .int) ∈ gT := gT_t3 (i := 35) rfl (by decide +kernel)
theorem k_ml_X6_195 : Cond.methodLink RX6 195 yX2_pass ∈ gT := gT_t3 (i := 36) (by decide +kernel) (by decide +kernel)
theorem k_ml_L_242 : Cond.methodLink RL 242 yX6_predictTime ∈ gT := gT_t3 (i := 37) (by decide +kernel) (by decide +kernel)
theorem k_im_X6_predictTime : Cond.instanceMethod yX6_predictTime ∈ gT := gT_t3 (i := 38) (by decide +kernel) (by decide +kernel)
theorem k_se_X6_predictTime : Cond.selects RX6 yX6_predictTime yX6_predictTime ∈ gT := gT_t3 (i := 39) (by decide +kernel) (by decide +kernel)
set_option maxRecDepth 10000 in
theorem k_cd_X6_predictTime : Cond.code yX6_predictTime cX6_predictTime 2 (some .int) ∈ gT := gT_t3 (i := 40) rfl (by decide +kernel)
theorem k_ml_X6_248 : Cond.methodLink RX6 248 yX2_copyFrom ∈ gT := gT_t3 (i := 41) (by decide +kernel) (by decide +kernel)
theorem k_im_X2_copyFrom : Cond.instanceMethod yX2_copyFrom ∈ gT := gT_t3 (i := 42) (by decide +kernel) (by decide +kernel)
theorem k_se_X2_copyFrom : Cond.selects RX2 yX2_copyFrom yX2_copyFrom ∈ gT := gT_t3 (i := 43) (by decide +kernel) (by decide +kernel)
set_option maxRecDepth 10000 in
theorem k_cd_X2_copyFrom : Cond.code yX2_copyFrom cX2_copyFrom 2 none ∈ gT := gT_t3 (i := 44) rfl (by decide +kernel)
theorem k_ml_X2_165 : Cond.methodLink RX2 165 yX5_copyFrom ∈ gT := gT_t3 (i := 45) (by decide +kernel) (by decide +kernel)
theorem k_im_X5_copyFrom : Cond.instanceMethod yX5_copyFrom ∈ gT := gT_t3 (i := 46) (by decide +kernel) (by decide +kernel)
theorem k_se_X5_copyFrom : Cond.selects RX5 yX5_copyFrom yX5_copyFrom ∈ gT := gT_t3 (i := 47) (by decide +kernel) (by decide +kernel)
set_option maxRecDepth 10000 in
theorem k_cd_X5_copyFrom : Cond.code yX5_copyFrom cX5_copyFrom 2 none ∈ gT := gT_t3 (i := 48) rfl (by decide +kernel)
theorem k_st_X6_copyRow : Cond.static yX6_copyRow ∈ gT := gT_t3 (i := 50) (by decide +kernel) (by decide +kernel)
set_option maxRecDepth 10000 in
theorem k_cd_X6_copyRow : Cond.code yX6_copyRow cX6_copyRow 2 none ∈ gT := gT_t3 (i := 51) rfl (by decide +kernel)
theorem k_ml_X6_351 : Cond.methodLink RX6 351 yJ9_min_7cf53 ∈ gT := gT_t3 (i := 52) (by decide +kernel) (by decide +kernel)
theorem k_st_J9_min_7cf53 : Cond.static yJ9_min_7cf53 ∈ gT := gT_t3 (i := 53) (by decide +kernel) (by decide +kernel)
set_option maxRecDepth 10000 in
theorem k_cd_J9_min_7cf53 : Cond.code yJ9_min_7cf53 cJ9_min_7cf53 2 (some .int) ∈ gT := gT_t3 (i := 54) rfl (by decide +kernel)
theorem k_ml_X6_354 : Cond.methodLink RX6 354 ⟨"java/lang/System", "arraycopy", "(Ljava/lang/Object;ILjava/lang/Object;II)V"⟩ ∈ gT := gT_t3 (i := 55) (by decide +kernel) (by decide +kernel)
theorem k_ml_X2_169 : Cond.methodLink RX2 169 yX1_copyFrom ∈ gT := gT_t3 (i := 58) (by decide +kernel) (by decide +kernel)
theorem k_im_X1_copyFrom : Cond.instanceMethod yX1_copyFrom ∈ gT := gT_t3 (i := 59) (by decide +kernel) (by decide +kernel)
theorem k_se_X1_copyFrom : Cond.selects RX1 yX1_copyFrom yX1_copyFrom ∈ gT := gT_t3 (i := 60) (by decide +kernel) (by decide +kernel)
set_option maxRecDepth 10000 in
theorem k_cd_X1_copyFrom : Cond.code yX1_copyFrom cX1_copyFrom 2 none ∈ gT := gT_t3 (i := 61) rfl (by decide +kernel)
theorem k_ml_X2_172 : Cond.methodLink RX2 172 yX4_copyFrom ∈ gT := gT_t3 (i := 63) (by decide +kernel) (by decide +kernel)
theorem k_im_X4_copyFrom : Cond.instanceMethod yX4_copyFrom ∈ gT := gT_t3 (i := 64) (by decide +kernel) (by decide +kernel)
theorem k_se_X4_copyFrom : Cond.selects RX4 yX4_copyFrom yX4_copyFrom ∈ gT := gT_t3 (i := 65) (by decide +kernel) (by decide +kernel)
set_option maxRecDepth 10000 in
theorem k_cd_X4_copyFrom : Cond.code yX4_copyFrom cX4_copyFrom 2 none ∈ gT := gT_t3 (i := 66) rfl (by decide +kernel)
theorem k_cl_L_138 : Cond.classLink RL 138 "DelayLineStoreLaw$Draws" ∈ gT := gT_t3 (i := 69) (by decide +kernel) (by decide +kernel)
theorem k_is_X7 : Cond.instantiable "DelayLineStoreLaw$Draws" 1 ∈ gT := gT_t3 (i := 70) (by decide +kernel) (by decide +kernel)
theorem k_ml_L_225 : Cond.methodLink RL 225 yX7_init ∈ gT := gT_t3 (i := 71) (by decide +kernel) (by decide +kernel)
theorem k_im_X7_init : Cond.instanceMethod yX7_init ∈ gT := gT_t3 (i := 72) (by decide +kernel) (by decide +kernel)
set_option maxRecDepth 10000 in
theorem k_cd_X7_init : Cond.code yX7_init cX7_init 2 none ∈ gT := gT_t3 (i := 73) rfl (by decide +kernel)
theorem k_ml_X7_1 : Cond.methodLink RX7 1 ⟨"java/lang/Object", "<init>", "()V"⟩ ∈ gT := gT_t3 (i := 74) (by decide +kernel) (by decide +kernel)
theorem k_fl_X7_7 : Cond.fieldLink RX7 7 RX7 (TX7 0).2.1 (TX7 0).2.2.1 ∈ gT := gT_t3 (i := 75) (by decide +kernel) (by decide +kernel)
theorem k_ml_L_137 : Cond.methodLink RL 137 yX7_next ∈ gT := gT_t3 (i := 79) (by decide +kernel) (by decide +kernel)
theorem k_im_X7_next : Cond.instanceMethod yX7_next ∈ gT := gT_t3 (i := 80) (by decide +kernel) (by decide +kernel)
theorem k_se_X7_next : Cond.selects RX7 yX7_next yX7_next ∈ gT := gT_t3 (i := 81) (by decide +kernel) (by decide +kernel)
set_option maxRecDepth 10000 in
theorem k_cd_X7_next : Cond.code yX7_next cX7_next 2 (some .int) ∈ gT := gT_t3 (i := 82) rfl (by decide +kernel)
theorem k_co_X7_13 : Cond.constant RX7 13 (1103515245) ∈ gT := gT_t3 (i := 83) (by decide +kernel) (by decide +kernel)
theorem k_cl_L_37 : Cond.classLink RL 37 "DelayLineStoreLaw$Machine" ∈ gT := gT_t3 (i := 84) (by decide +kernel) (by decide +kernel)
theorem k_is_X8 : Cond.instantiable "DelayLineStoreLaw$Machine" 19 ∈ gT := gT_t3 (i := 85) (by decide +kernel) (by decide +kernel)
theorem k_im_X8_init : Cond.instanceMethod yX8_init ∈ gT := gT_t3 (i := 87) (by decide +kernel) (by decide +kernel)
set_option maxRecDepth 10000 in
theorem k_cd_X8_init : Cond.code yX8_init cX8_init 1 none ∈ gT := gT_t3 (i := 88) rfl (by decide +kernel)
theorem k_ml_X8_1 : Cond.methodLink RX8 1 ⟨"java/lang/Object", "<init>", "()V"⟩ ∈ gT := gT_t3 (i := 89) (by decide +kernel) (by decide +kernel)
theorem k_cl_X8_7 : Cond.classLink RX8 7 "[[Z" ∈ gT := gT_t3 (i := 90) (by decide +kernel) (by decide +kernel)
theorem k_cl_X8_21 : Cond.classLink RX8 21 "[[I" ∈ gT := gT_t3 (i := 92) (by decide +kernel) (by decide +kernel)
theorem k_cl_X8_26 : Cond.classLink RX8 26 "java/util/ArrayList" ∈ gT := gT_t3 (i := 94) (by decide +kernel) (by decide +kernel)
theorem k_is_Jx4a65c : Cond.instantiable "java/util/ArrayList" 3 ∈ gT := gT_t3 (i := 95) (by decide +kernel) (by decide +kernel)
theorem k_ml_X8_28 : Cond.methodLink RX8 28 yJx4a65c_init_da8c8 ∈ gT := gT_t3 (i := 96) (by decide +kernel) (by decide +kernel)
theorem k_im_Jx4a65c_init_da8c8 : Cond.instanceMethod yJx4a65c_init_da8c8 ∈ gT := gT_t3 (i := 97) (by decide +kernel) (by decide +kernel)
set_option maxRecDepth 10000 in
theorem k_cd_Jx4a65c_init_da8c8 : Cond.code yJx4a65c_init_da8c8 cJx4a65c_init_da8c8 1 none ∈ gT := gT_t3 (i := 98) rfl (by decide +kernel)
theorem k_ml_Jx4a65c_1 : Cond.methodLink RJx4a65c 1 yJxc12de_init_da8c8 ∈ gT := gT_t3 (i := 99) (by decide +kernel) (by decide +kernel)
theorem k_im_Jxc12de_init_da8c8 : Cond.instanceMethod yJxc12de_init_da8c8 ∈ gT := gT_t3 (i := 100) (by decide +kernel) (by decide +kernel)
set_option maxRecDepth 10000 in
theorem k_cd_Jxc12de_init_da8c8 : Cond.code yJxc12de_init_da8c8 cJxc12de_init_da8c8 1 none ∈ gT := gT_t3 (i := 101) rfl (by decide +kernel)
theorem k_ml_Jxc12de_1 : Cond.methodLink RJxc12de 1 yJxa1e45_init_da8c8 ∈ gT := gT_t3 (i := 102) (by decide +kernel) (by decide +kernel)
theorem k_im_Jxa1e45_init_da8c8 : Cond.instanceMethod yJxa1e45_init_da8c8 ∈ gT := gT_t3 (i := 103) (by decide +kernel) (by decide +kernel)
set_option maxRecDepth 10000 in
theorem k_cd_Jxa1e45_init_da8c8 : Cond.code yJxa1e45_init_da8c8 cJxa1e45_init_da8c8 1 none ∈ gT := gT_t3 (i := 104) rfl (by decide +kernel)
theorem k_ml_Jxa1e45_1 : Cond.methodLink RJxa1e45 1 ⟨"java/lang/Object", "<init>", "()V"⟩ ∈ gT := gT_t3 (i := 105) (by decide +kernel) (by decide +kernel)
theorem k_fl_Jx4a65c_39 : Cond.fieldLink RJx4a65c 39 "java/util/ArrayList" "DEFAULTCAPACITY_EMPTY_ELEMENTDATA" "[Ljava/lang/Object;" ∈ gT := gT_t3 (i := 106) (by decide +kernel) (by decide +kernel)
theorem k_fl_Jx4a65c_9 : Cond.fieldLink RJx4a65c 9 RJx4a65c (TJx4a65c 1).2.1 (TJx4a65c 1).2.2.1 ∈ gT := gT_t3 (i := 108) (by decide +kernel) (by decide +kernel)
theorem k_fl_Jx4a65c_48 : Cond.fieldLink RJx4a65c 48 RJx4a65c (TJx4a65c 2).2.1 (TJx4a65c 2).2.2.1 ∈ gT := gT_t3 (i := 109) (by decide +kernel) (by decide +kernel)
theorem k_fl_Jxc12de_7 : Cond.fieldLink RJxc12de 7 "java/util/AbstractList" "modCount" "I" ∈ gT := gT_t3 (i := 110) (by decide +kernel) (by decide +kernel)
theorem k_fl_Jx4a65c_63 : Cond.fieldLink RJx4a65c 63 RJx4a65c (TJx4a65c 0).2.1 (TJx4a65c 0).2.2.1 ∈ gT := gT_t3 (i := 111) (by decide +kernel) (by decide +kernel)
theorem k_co_X8_46 : Cond.constant RX8 46 (1000000) ∈ gT := gT_t3 (i := 120) (by decide +kernel) (by decide +kernel)
theorem k_fl_X8_9 : Cond.fieldLink RX8 9 RX8 (TX8 0).2.1 (TX8 0).2.2.1 ∈ gT := gT_t3 (i := 121) (by decide +kernel) (by decide +kernel)
theorem k_fl_X8_14 : Cond.fieldLink RX8 14 RX8 (TX8 1).2.1 (TX8 1).2.2.1 ∈ gT := gT_t3 (i := 123) (by decide +kernel) (by decide +kernel)
theorem k_fl_X8_18 : Cond.fieldLink RX8 18 RX8 (TX8 2).2.1 (TX8 2).2.2.1 ∈ gT := gT_t3 (i := 125) (by decide +kernel) (by decide +kernel)
theorem k_fl_X8_23 : Cond.fieldLink RX8 23 RX8 (TX8 3).2.1 (TX8 3).2.2.1 ∈ gT := gT_t3 (i := 127) (by decide +kernel) (by decide +kernel)
theorem k_fl_X8_29 : Cond.fieldLink RX8 29 RX8 (TX8 4).2.1 (TX8 4).2.2.1 ∈ gT := gT_t3 (i := 129) (by decide +kernel) (by decide +kernel)
theorem k_fl_X8_33 : Cond.fieldLink RX8 33 RX8 (TX8 5).2.1 (TX8 5).2.2.1 ∈ gT := gT_t3 (i := 131) (by decide +kernel) (by decide +kernel)
theorem k_fl_X8_63 : Cond.fieldLink RX8 63 RX8 (TX8 6).2.1 (TX8 6).2.2.1 ∈ gT := gT_t3 (i := 133) (by decide +kernel) (by decide +kernel)
theorem k_fl_X8_66 : Cond.fieldLink RX8 66 RX8 (TX8 7).2.1 (TX8 7).2.2.1 ∈ gT := gT_t3 (i := 135) (by decide +kernel) (by decide +kernel)
theorem k_fl_X8_69 : Cond.fieldLink RX8 69 RX8 (TX8 8).2.1 (TX8 8).2.2.1 ∈ gT := gT_t3 (i := 137) (by decide +kernel) (by decide +kernel)
theorem k_fl_X8_72 : Cond.fieldLink RX8 72 RX8 (TX8 9).2.1 (TX8 9).2.2.1 ∈ gT := gT_t3 (i := 139) (by decide +kernel) (by decide +kernel)
theorem k_fl_X8_36 : Cond.fieldLink RX8 36 RX8 (TX8 10).2.1 (TX8 10).2.2.1 ∈ gT := gT_t3 (i := 141) (by decide +kernel) (by decide +kernel)
theorem k_fl_X8_75 : Cond.fieldLink RX8 75 RX8 (TX8 11).2.1 (TX8 11).2.2.1 ∈ gT := gT_t3 (i := 143) (by decide +kernel) (by decide +kernel)
theorem k_fl_X8_78 : Cond.fieldLink RX8 78 RX8 (TX8 12).2.1 (TX8 12).2.2.1 ∈ gT := gT_t3 (i := 145) (by decide +kernel) (by decide +kernel)
theorem k_fl_X8_81 : Cond.fieldLink RX8 81 RX8 (TX8 13).2.1 (TX8 13).2.2.1 ∈ gT := gT_t3 (i := 147) (by decide +kernel) (by decide +kernel)
theorem k_fl_X8_40 : Cond.fieldLink RX8 40 RX8 (TX8 14).2.1 (TX8 14).2.2.1 ∈ gT := gT_t3 (i := 149) (by decide +kernel) (by decide +kernel)
theorem k_fl_X8_43 : Cond.fieldLink RX8 43 RX8 (TX8 15).2.1 (TX8 15).2.2.1 ∈ gT := gT_t3 (i := 151) (by decide +kernel) (by decide +kernel)
theorem k_fl_X8_47 : Cond.fieldLink RX8 47 RX8 (TX8 16).2.1 (TX8 16).2.2.1 ∈ gT := gT_t3 (i := 153) (by decide +kernel) (by decide +kernel)
theorem k_fl_X8_84 : Cond.fieldLink RX8 84 RX8 (TX8 17).2.1 (TX8 17).2.2.1 ∈ gT := gT_t3 (i := 155) (by decide +kernel) (by decide +kernel)
theorem k_fl_X8_88 : Cond.fieldLink RX8 88 RX8 (TX8 18).2.1 (TX8 18).2.2.1 ∈ gT := gT_t3 (i := 157) (by decide +kernel) (by decide +kernel)
theorem k_ml_L_249 : Cond.methodLink RL 249 yX8_copy ∈ gT := gT_t3 (i := 198) (by decide +kernel) (by decide +kernel)
theorem k_im_X8_copy : Cond.instanceMethod yX8_copy ∈ gT := gT_t3 (i := 199) (by decide +kernel) (by decide +kernel)
theorem k_se_X8_copy : Cond.selects RX8 yX8_copy yX8_copy ∈ gT := gT_t3 (i := 200) (by decide +kernel) (by decide +kernel)
set_option maxRecDepth 10000 in
theorem k_cd_X8_copy : Cond.code yX8_copy cX8_copy 3 (some (.object "DelayLineStoreLaw$Machine")) ∈ gT := gT_t3 (i := 201) rfl (by decide +kernel)
theorem k_cl_X8_10 : Cond.classLink RX8 10 "DelayLineStoreLaw$Machine" ∈ gT := gT_t3 (i := 202) (by decide +kernel) (by decide +kernel)
theorem k_ml_X8_50 : Cond.methodLink RX8 50 yX8_init ∈ gT := gT_t3 (i := 203) (by decide +kernel) (by decide +kernel)
theorem k_ml_X8_51 : Cond.methodLink RX8 51 ⟨"[Z", "clone", "()Ljava/lang/Object;"⟩ ∈ gT := gT_t3 (i := 204) (by decide +kernel) (by decide +kernel)
theorem k_cl_X8_52 : Cond.classLink RX8 52 "[Z" ∈ gT := gT_t3 (i := 210) (by decide +kernel) (by decide +kernel)
theorem k_ml_X8_57 : Cond.methodLink RX8 57 ⟨"[I", "clone", "()Ljava/lang/Object;"⟩ ∈ gT := gT_t3 (i := 211) (by decide +kernel) (by decide +kernel)
theorem k_cl_X8_58 : Cond.classLink RX8 58 "[I" ∈ gT := gT_t3 (i := 215) (by decide +kernel) (by decide +kernel)
theorem k_ml_X8_59 : Cond.methodLink RX8 59 yJx4a65c_addAll_f0b43 ∈ gT := gT_t3 (i := 216) (by decide +kernel) (by decide +kernel)
theorem k_im_Jx4a65c_addAll_f0b43 : Cond.instanceMethod yJx4a65c_addAll_f0b43 ∈ gT := gT_t3 (i := 217) (by decide +kernel) (by decide +kernel)
theorem k_se_Jx4a65c_addAll_f0b43 : Cond.selects RJx4a65c yJx4a65c_addAll_f0b43 yJx4a65c_addAll_f0b43 ∈ gT := gT_t3 (i := 218) (by decide +kernel) (by decide +kernel)
set_option maxRecDepth 10000 in
theorem k_cd_Jx4a65c_addAll_f0b43 : Cond.code yJx4a65c_addAll_f0b43 cJx4a65c_addAll_f0b43 6 (some .boolean) ∈ gT := gT_t3 (i := 219) rfl (by decide +kernel)
theorem k_ml_Jx4a65c_42 : Cond.methodLink RJx4a65c 42 ⟨"java/util/Collection", "toArray", "()[Ljava/lang/Object;"⟩ ∈ gT := gT_t3 (i := 221) (by decide +kernel) (by decide +kernel)
theorem k_im_Jx4a65c_toArray_d5877 : Cond.instanceMethod yJx4a65c_toArray_d5877 ∈ gT := gT_t3 (i := 227) (by decide +kernel) (by decide +kernel)
set_option maxRecDepth 10000 in
theorem k_cd_Jx4a65c_toArray_d5877 : Cond.code yJx4a65c_toArray_d5877 cJx4a65c_toArray_d5877 1 (some (.array (.object "java/lang/Object"))) ∈ gT := gT_t3 (i := 229) rfl (by decide +kernel)
theorem k_ml_Jx4a65c_66 : Cond.methodLink RJx4a65c 66 yJ7_copyOf_1904c ∈ gT := gT_t3 (i := 230) (by decide +kernel) (by decide +kernel)
theorem k_st_J7_copyOf_1904c : Cond.static yJ7_copyOf_1904c ∈ gT := gT_t3 (i := 231) (by decide +kernel) (by decide +kernel)
set_option maxRecDepth 10000 in
theorem k_cd_J7_copyOf_1904c : Cond.code yJ7_copyOf_1904c cJ7_copyOf_1904c 2 (some (.array (.object "java/lang/Object"))) ∈ gT := gT_t3 (i := 232) rfl (by decide +kernel)
theorem k_ml_J7_86 : Cond.methodLink RJ7 86 ⟨"java/lang/Object", "getClass", "()Ljava/lang/Class;"⟩ ∈ gT := gT_t3 (i := 233) (by decide +kernel) (by decide +kernel)
theorem k_ml_J7_300 : Cond.methodLink RJ7 300 yJ7_copyOf_6403c ∈ gT := gT_t4 (i := 12) (by decide +kernel) (by decide +kernel)
theorem k_st_J7_copyOf_6403c : Cond.static yJ7_copyOf_6403c ∈ gT := gT_t4 (i := 13) (by decide +kernel) (by decide +kernel)
set_option maxRecDepth 10000 in
theorem k_cd_J7_copyOf_6403c : Cond.code yJ7_copyOf_6403c cJ7_copyOf_6403c 4 (some (.array (.object "java/lang/Object"))) ∈ gT := gT_t4 (i := 14) rfl (by decide +kernel)
theorem k_cl_J7_110 : Cond.classLink RJ7 110 "[Ljava/lang/Object;" ∈ gT := gT_t4 (i := 15) (by decide +kernel) (by decide +kernel)
theorem k_cl_J7_2 : Cond.classLink RJ7 2 "java/lang/Object" ∈ gT := gT_t4 (i := 17) (by decide +kernel) (by decide +kernel)
theorem k_ml_J7_304 : Cond.methodLink RJ7 304 yJ9_min_7cf53 ∈ gT := gT_t4 (i := 18) (by decide +kernel) (by decide +kernel)
theorem k_ml_J7_150 : Cond.methodLink RJ7 150 ⟨"java/lang/System", "arraycopy", "(Ljava/lang/Object;ILjava/lang/Object;II)V"⟩ ∈ gT := gT_t4 (i := 19) (by decide +kernel) (by decide +kernel)
theorem k_ml_Jx4a65c_69 : Cond.methodLink RJx4a65c 69 yJx4a65c_grow_92f84 ∈ gT := gT_t4 (i := 20) (by decide +kernel) (by decide +kernel)
theorem k_im_Jx4a65c_grow_92f84 : Cond.instanceMethod yJx4a65c_grow_92f84 ∈ gT := gT_t4 (i := 22) (by decide +kernel) (by decide +kernel)
set_option maxRecDepth 10000 in
theorem k_cd_Jx4a65c_grow_92f84 : Cond.code yJx4a65c_grow_92f84 cJx4a65c_grow_92f84 4 (some (.array (.object "java/lang/Object"))) ∈ gT := gT_t4 (i := 23) rfl (by decide +kernel)
theorem k_ml_Jx4a65c_73 : Cond.methodLink RJx4a65c 73 yJ8_newLength_cabcc ∈ gT := gT_t4 (i := 24) (by decide +kernel) (by decide +kernel)
theorem k_st_J8_newLength_cabcc : Cond.static yJ8_newLength_cabcc ∈ gT := gT_t4 (i := 25) (by decide +kernel) (by decide +kernel)
set_option maxRecDepth 10000 in
theorem k_cd_J8_newLength_cabcc : Cond.code yJ8_newLength_cabcc cJ8_newLength_cabcc 4 (some .int) ∈ gT := gT_t4 (i := 26) rfl (by decide +kernel)
theorem k_ml_J8_194 : Cond.methodLink RJ8 194 yJ9_max_7cf53 ∈ gT := gT_t4 (i := 27) (by decide +kernel) (by decide +kernel)
theorem k_st_J9_max_7cf53 : Cond.static yJ9_max_7cf53 ∈ gT := gT_t4 (i := 28) (by decide +kernel) (by decide +kernel)
set_option maxRecDepth 10000 in
theorem k_cd_J9_max_7cf53 : Cond.code yJ9_max_7cf53 cJ9_max_7cf53 2 (some .int) ∈ gT := gT_t4 (i := 29) rfl (by decide +kernel)
theorem k_co_J8_200 : Cond.constant RJ8 200 (2147483639) ∈ gT := gT_t4 (i := 30) (by decide +kernel) (by decide +kernel)
theorem k_ml_J8_201 : Cond.methodLink RJ8 201 yJ8_hugeLength_7cf53 ∈ gT := gT_t4 (i := 31) (by decide +kernel) (by decide +kernel)
theorem k_st_J8_hugeLength_7cf53 : Cond.static yJ8_hugeLength_7cf53 ∈ gT := gT_t4 (i := 32) (by decide +kernel) (by decide +kernel)
set_option maxRecDepth 10000 in
theorem k_cd_J8_hugeLength_7cf53 : Cond.code yJ8_hugeLength_7cf53 cJ8_hugeLength_7cf53 3 (some .int) ∈ gT := gT_t4 (i := 33) rfl (by decide +kernel)
theorem k_ml_Jx4a65c_79 : Cond.methodLink RJx4a65c 79 yJ9_max_7cf53 ∈ gT := gT_t4 (i := 34) (by decide +kernel) (by decide +kernel)
theorem k_cl_Jx4a65c_7 : Cond.classLink RJx4a65c 7 "java/lang/Object" ∈ gT := gT_t4 (i := 35) (by decide +kernel) (by decide +kernel)
theorem k_ml_Jx4a65c_112 : Cond.methodLink RJx4a65c 112 ⟨"java/lang/System", "arraycopy", "(Ljava/lang/Object;ILjava/lang/Object;II)V"⟩ ∈ gT := gT_t4 (i := 36) (by decide +kernel) (by decide +kernel)
theorem k_ml_L_127 : Cond.methodLink RL 127 yX8_word ∈ gT := gT_t4 (i := 37) (by decide +kernel) (by decide +kernel)
theorem k_im_X8_word : Cond.instanceMethod yX8_word ∈ gT := gT_t4 (i := 38) (by decide +kernel) (by decide +kernel)
theorem k_se_X8_word : Cond.selects RX8 yX8_word yX8_word ∈ gT := gT_t4 (i := 39) (by decide +kernel) (by decide +kernel)
set_option maxRecDepth 10000 in
theorem k_cd_X8_word : Cond.code yX8_word cX8_word 5 (some .int) ∈ gT := gT_t4 (i := 40) rfl (by decide +kernel)
theorem k_ml_L_253 : Cond.methodLink RL 253 yX8_areSafe ∈ gT := gT_t4 (i := 41) (by decide +kernel) (by decide +kernel)
theorem k_im_X8_areSafe : Cond.instanceMethod yX8_areSafe ∈ gT := gT_t4 (i := 42) (by decide +kernel) (by decide +kernel)
theorem k_se_X8_areSafe : Cond.selects RX8 yX8_areSafe yX8_areSafe ∈ gT := gT_t4 (i := 43) (by decide +kernel) (by decide +kernel)
set_option maxRecDepth 10000 in
theorem k_cd_X8_areSafe : Cond.code yX8_areSafe cX8_areSafe 5 (some .boolean) ∈ gT := gT_t4 (i := 44) rfl (by decide +kernel)
theorem k_ml_X8_105 : Cond.methodLink RX8 105 yX8_isSafe ∈ gT := gT_t4 (i := 45) (by decide +kernel) (by decide +kernel)
theorem k_im_X8_isSafe : Cond.instanceMethod yX8_isSafe ∈ gT := gT_t4 (i := 46) (by decide +kernel) (by decide +kernel)
theorem k_se_X8_isSafe : Cond.selects RX8 yX8_isSafe yX8_isSafe ∈ gT := gT_t4 (i := 47) (by decide +kernel) (by decide +kernel)
set_option maxRecDepth 10000 in
theorem k_cd_X8_isSafe : Cond.code yX8_isSafe cX8_isSafe 2 (some .boolean) ∈ gT := gT_t4 (i := 48) rfl (by decide +kernel)
theorem k_ml_X8_96 : Cond.methodLink RX8 96 yX8_mismatch ∈ gT := gT_t4 (i := 49) (by decide +kernel) (by decide +kernel)
theorem k_im_X8_mismatch : Cond.instanceMethod yX8_mismatch ∈ gT := gT_t4 (i := 50) (by decide +kernel) (by decide +kernel)
theorem k_se_X8_mismatch : Cond.selects RX8 yX8_mismatch yX8_mismatch ∈ gT := gT_t4 (i := 51) (by decide +kernel) (by decide +kernel)
set_option maxRecDepth 10000 in
theorem k_cd_X8_mismatch : Cond.code yX8_mismatch cX8_mismatch 2 (some .int) ∈ gT := gT_t4 (i := 52) rfl (by decide +kernel)
theorem k_co_X8_91 : Cond.constant RX8 91 (640000000) ∈ gT := gT_t4 (i := 53) (by decide +kernel) (by decide +kernel)
theorem k_ml_X8_92 : Cond.methodLink RX8 92 yX8_period ∈ gT := gT_t4 (i := 54) (by decide +kernel) (by decide +kernel)
theorem k_im_X8_period : Cond.instanceMethod yX8_period ∈ gT := gT_t4 (i := 55) (by decide +kernel) (by decide +kernel)
theorem k_se_X8_period : Cond.selects RX8 yX8_period yX8_period ∈ gT := gT_t4 (i := 56) (by decide +kernel) (by decide +kernel)
set_option maxRecDepth 10000 in
theorem k_cd_X8_period : Cond.code yX8_period cX8_period 1 (some .int) ∈ gT := gT_t4 (i := 57) rfl (by decide +kernel)
theorem k_ml_X8_100 : Cond.methodLink RX8 100 yJ9_abs_0f7a4 ∈ gT := gT_t4 (i := 58) (by decide +kernel) (by decide +kernel)
theorem k_ml_L_259 : Cond.methodLink RL 259 yX8_warms ∈ gT := gT_t4 (i := 59) (by decide +kernel) (by decide +kernel)
theorem k_im_X8_warms : Cond.instanceMethod yX8_warms ∈ gT := gT_t4 (i := 60) (by decide +kernel) (by decide +kernel)
theorem k_se_X8_warms : Cond.selects RX8 yX8_warms yX8_warms ∈ gT := gT_t4 (i := 61) (by decide +kernel) (by decide +kernel)
set_option maxRecDepth 10000 in
theorem k_cd_X8_warms : Cond.code yX8_warms cX8_warms 2 none ∈ gT := gT_t4 (i := 62) rfl (by decide +kernel)
theorem k_ml_L_256 : Cond.methodLink RL 256 yX8_passes ∈ gT := gT_t4 (i := 63) (by decide +kernel) (by decide +kernel)
theorem k_im_X8_passes : Cond.instanceMethod yX8_passes ∈ gT := gT_t4 (i := 64) (by decide +kernel) (by decide +kernel)
theorem k_se_X8_passes : Cond.selects RX8 yX8_passes yX8_passes ∈ gT := gT_t4 (i := 65) (by decide +kernel) (by decide +kernel)
set_option maxRecDepth 10000 in
theorem k_cd_X8_passes : Cond.code yX8_passes cX8_passes 9 none ∈ gT := gT_t4 (i := 66) rfl (by decide +kernel)
theorem k_ml_X8_109 : Cond.methodLink RX8 109 yJ9_floorDiv_7cf53 ∈ gT := gT_t4 (i := 67) (by decide +kernel) (by decide +kernel)
theorem k_ml_X8_113 : Cond.methodLink RX8 113 yJ9_floorMod_7cf53 ∈ gT := gT_t4 (i := 68) (by decide +kernel) (by decide +kernel)
theorem k_ml_X8_116 : Cond.methodLink RX8 116 yX8_warms ∈ gT := gT_t4 (i := 69) (by decide +kernel) (by decide +kernel)
theorem k_ml_L_245 : Cond.methodLink RL 245 yX8_run ∈ gT := gT_t4 (i := 70) (by decide +kernel) (by decide +kernel)
theorem k_im_X8_run : Cond.instanceMethod yX8_run ∈ gT := gT_t4 (i := 71) (by decide +kernel) (by decide +kernel)
theorem k_se_X8_run : Cond.selects RX8 yX8_run yX8_run ∈ gT := gT_t4 (i := 72) (by decide +kernel) (by decide +kernel)
set_option maxRecDepth 10000 in
theorem k_cd_X8_run : Cond.code yX8_run cX8_run 3 (some .int) ∈ gT := gT_t4 (i := 73) rfl (by decide +kernel)
theorem k_ml_X8_168 : Cond.methodLink RX8 168 yX8_step ∈ gT := gT_t4 (i := 74) (by decide +kernel) (by decide +kernel)
theorem k_im_X8_step : Cond.instanceMethod yX8_step ∈ gT := gT_t4 (i := 75) (by decide +kernel) (by decide +kernel)
theorem k_se_X8_step : Cond.selects RX8 yX8_step yX8_step ∈ gT := gT_t4 (i := 76) (by decide +kernel) (by decide +kernel)
set_option maxRecDepth 10000 in
theorem k_cd_X8_step : Cond.code yX8_step cX8_step 7 (some .boolean) ∈ gT := gT_t4 (i := 77) rfl (by decide +kernel)
theorem k_ml_X8_127 : Cond.methodLink RX8 127 yX8_waitsFor ∈ gT := gT_t4 (i := 78) (by decide +kernel) (by decide +kernel)
theorem k_im_X8_waitsFor : Cond.instanceMethod yX8_waitsFor ∈ gT := gT_t4 (i := 79) (by decide +kernel) (by decide +kernel)
theorem k_se_X8_waitsFor : Cond.selects RX8 yX8_waitsFor yX8_waitsFor ∈ gT := gT_t4 (i := 80) (by decide +kernel) (by decide +kernel)
set_option maxRecDepth 10000 in
theorem k_cd_X8_waitsFor : Cond.code yX8_waitsFor cX8_waitsFor 2 none ∈ gT := gT_t4 (i := 81) rfl (by decide +kernel)
theorem k_ml_X8_119 : Cond.methodLink RX8 119 yX8_passes ∈ gT := gT_t4 (i := 82) (by decide +kernel) (by decide +kernel)
theorem k_ml_X8_130 : Cond.methodLink RX8 130 yX8_word ∈ gT := gT_t4 (i := 83) (by decide +kernel) (by decide +kernel)
theorem k_ml_X8_133 : Cond.methodLink RX8 133 yJx4a65c_isEmpty_aae02 ∈ gT := gT_t4 (i := 84) (by decide +kernel) (by decide +kernel)
theorem k_im_Jx4a65c_isEmpty_aae02 : Cond.instanceMethod yJx4a65c_isEmpty_aae02 ∈ gT := gT_t4 (i := 85) (by decide +kernel) (by decide +kernel)
theorem k_se_Jx4a65c_isEmpty_aae02 : Cond.selects RJx4a65c yJx4a65c_isEmpty_aae02 yJx4a65c_isEmpty_aae02 ∈ gT := gT_t4 (i := 86) (by decide +kernel) (by decide +kernel)
set_option maxRecDepth 10000 in
theorem k_cd_Jx4a65c_isEmpty_aae02 : Cond.code yJx4a65c_isEmpty_aae02 cJx4a65c_isEmpty_aae02 1 (some .boolean) ∈ gT := gT_t4 (i := 87) rfl (by decide +kernel)
theorem k_ml_X8_137 : Cond.methodLink RX8 137 yJx4a65c_size_8abf5 ∈ gT := gT_t4 (i := 88) (by decide +kernel) (by decide +kernel)
theorem k_im_Jx4a65c_size_8abf5 : Cond.instanceMethod yJx4a65c_size_8abf5 ∈ gT := gT_t4 (i := 89) (by decide +kernel) (by decide +kernel)
theorem k_se_Jx4a65c_size_8abf5 : Cond.selects RJx4a65c yJx4a65c_size_8abf5 yJx4a65c_size_8abf5 ∈ gT := gT_t4 (i := 90) (by decide +kernel) (by decide +kernel)
set_option maxRecDepth 10000 in
theorem k_cd_Jx4a65c_size_8abf5 : Cond.code yJx4a65c_size_8abf5 cJx4a65c_size_8abf5 1 (some .int) ∈ gT := gT_t4 (i := 91) rfl (by decide +kernel)
theorem k_ml_X8_140 : Cond.methodLink RX8 140 yX8_set ∈ gT := gT_t4 (i := 92) (by decide +kernel) (by decide +kernel)
theorem k_im_X8_set : Cond.instanceMethod yX8_set ∈ gT := gT_t4 (i := 93) (by decide +kernel) (by decide +kernel)
theorem k_se_X8_set : Cond.selects RX8 yX8_set yX8_set ∈ gT := gT_t4 (i := 94) (by decide +kernel) (by decide +kernel)
set_option maxRecDepth 10000 in
theorem k_cd_X8_set : Cond.code yX8_set cX8_set 5 none ∈ gT := gT_t4 (i := 95) rfl (by decide +kernel)
theorem k_ml_X8_144 : Cond.methodLink RX8 144 yX8_result ∈ gT := gT_t4 (i := 96) (by decide +kernel) (by decide +kernel)
theorem k_im_X8_result : Cond.instanceMethod yX8_result ∈ gT := gT_t4 (i := 98) (by decide +kernel) (by decide +kernel)
set_option maxRecDepth 10000 in
theorem k_cd_X8_result : Cond.code yX8_result cX8_result 4 none ∈ gT := gT_t4 (i := 99) rfl (by decide +kernel)
theorem k_ml_X8_123 : Cond.methodLink RX8 123 yX8_wrap ∈ gT := gT_t4 (i := 100) (by decide +kernel) (by decide +kernel)
theorem k_st_X8_wrap : Cond.static yX8_wrap ∈ gT := gT_t4 (i := 101) (by decide +kernel) (by decide +kernel)
set_option maxRecDepth 10000 in
theorem k_cd_X8_wrap : Cond.code yX8_wrap cX8_wrap 2 (some .int) ∈ gT := gT_t4 (i := 102) rfl (by decide +kernel)
theorem k_ml_X8_148 : Cond.methodLink RX8 148 yJ9_floorDiv_f86c9 ∈ gT := gT_t4 (i := 103) (by decide +kernel) (by decide +kernel)
theorem k_st_J9_floorDiv_f86c9 : Cond.static yJ9_floorDiv_f86c9 ∈ gT := gT_t4 (i := 104) (by decide +kernel) (by decide +kernel)
set_option maxRecDepth 10000 in
theorem k_cd_J9_floorDiv_f86c9 : Cond.code yJ9_floorDiv_f86c9 cJ9_floorDiv_f86c9 6 (some .long) ∈ gT := gT_t4 (i := 105) rfl (by decide +kernel)
theorem k_ml_X8_151 : Cond.methodLink RX8 151 yJx4a65c_remove_915e3 ∈ gT := gT_t4 (i := 106) (by decide +kernel) (by decide +kernel)
theorem k_im_Jx4a65c_remove_915e3 : Cond.instanceMethod yJx4a65c_remove_915e3 ∈ gT := gT_t4 (i := 107) (by decide +kernel) (by decide +kernel)
theorem k_se_Jx4a65c_remove_915e3 : Cond.selects RJx4a65c yJx4a65c_remove_915e3 yJx4a65c_remove_915e3 ∈ gT := gT_t4 (i := 108) (by decide +kernel) (by decide +kernel)
set_option maxRecDepth 10000 in
theorem k_cd_Jx4a65c_remove_915e3 : Cond.code yJx4a65c_remove_915e3 cJx4a65c_remove_915e3 4 (some (.object "java/lang/Object")) ∈ gT := gT_t4 (i := 109) rfl (by decide +kernel)
theorem k_ml_Jx4a65c_118 : Cond.methodLink RJx4a65c 118 yJ15_checkIndex_7cf53 ∈ gT := gT_t4 (i := 110) (by decide +kernel) (by decide +kernel)
theorem k_st_J15_checkIndex_7cf53 : Cond.static yJ15_checkIndex_7cf53 ∈ gT := gT_t4 (i := 111) (by decide +kernel) (by decide +kernel)
set_option maxRecDepth 10000 in
theorem k_cd_J15_checkIndex_7cf53 : Cond.code yJ15_checkIndex_7cf53 cJ15_checkIndex_7cf53 2 (some .int) ∈ gT := gT_t4 (i := 112) rfl (by decide +kernel)
theorem k_ml_J15_105 : Cond.methodLink RJ15 105 yJ3_checkIndex_8e157 ∈ gT := gT_t4 (i := 113) (by decide +kernel) (by decide +kernel)
theorem k_st_J3_checkIndex_8e157 : Cond.static yJ3_checkIndex_8e157 ∈ gT := gT_t4 (i := 114) (by decide +kernel) (by decide +kernel)
set_option maxRecDepth 10000 in
theorem k_cd_J3_checkIndex_8e157 : Cond.code yJ3_checkIndex_8e157 cJ3_checkIndex_8e157 3 (some .int) ∈ gT := gT_t4 (i := 115) rfl (by decide +kernel)
theorem k_ml_Jx4a65c_144 : Cond.methodLink RJx4a65c 144 yJx4a65c_fastRemove_b59b0 ∈ gT := gT_t4 (i := 116) (by decide +kernel) (by decide +kernel)
theorem k_im_Jx4a65c_fastRemove_b59b0 : Cond.instanceMethod yJx4a65c_fastRemove_b59b0 ∈ gT := gT_t4 (i := 118) (by decide +kernel) (by decide +kernel)
set_option maxRecDepth 10000 in
theorem k_cd_Jx4a65c_fastRemove_b59b0 : Cond.code yJx4a65c_fastRemove_b59b0 cJx4a65c_fastRemove_b59b0 4 none ∈ gT := gT_t4 (i := 119) rfl (by decide +kernel)
theorem k_cl_X8_155 : Cond.classLink RX8 155 "java/lang/Integer" ∈ gT := gT_t4 (i := 120) (by decide +kernel) (by decide +kernel)
theorem k_ml_X8_157 : Cond.methodLink RX8 157 yJ6_intValue_8abf5 ∈ gT := gT_t4 (i := 121) (by decide +kernel) (by decide +kernel)
theorem k_im_J6_intValue_8abf5 : Cond.instanceMethod yJ6_intValue_8abf5 ∈ gT := gT_t4 (i := 122) (by decide +kernel) (by decide +kernel)
theorem k_se_J6_intValue_8abf5 : Cond.selects RJ6 yJ6_intValue_8abf5 yJ6_intValue_8abf5 ∈ gT := gT_t4 (i := 123) (by decide +kernel) (by decide +kernel)
set_option maxRecDepth 10000 in
theorem k_cd_J6_intValue_8abf5 : Cond.code yJ6_intValue_8abf5 cJ6_intValue_8abf5 1 (some .int) ∈ gT := gT_t4 (i := 124) rfl (by decide +kernel)
theorem k_ml_X8_160 : Cond.methodLink RX8 160 yJ6_valueOf_2dffe ∈ gT := gT_t4 (i := 125) (by decide +kernel) (by decide +kernel)
theorem k_st_J6_valueOf_2dffe : Cond.static yJ6_valueOf_2dffe ∈ gT := gT_t4 (i := 126) (by decide +kernel) (by decide +kernel)
set_option maxRecDepth 10000 in
theorem k_cd_J6_valueOf_2dffe : Cond.code yJ6_valueOf_2dffe cJ6_valueOf_2dffe 1 (some (.object "java/lang/Integer")) ∈ gT := gT_t4 (i := 127) rfl (by decide +kernel)
theorem k_fl_J6_191 : Cond.fieldLink RJ6 191 "java/lang/Integer$IntegerCache" "high" "I" ∈ gT := gT_t4 (i := 128) (by decide +kernel) (by decide +kernel)
theorem k_fl_J6_195 : Cond.fieldLink RJ6 195 "java/lang/Integer$IntegerCache" "cache" "[Ljava/lang/Integer;" ∈ gT := gT_t4 (i := 130) (by decide +kernel) (by decide +kernel)
theorem k_cl_J6_1 : Cond.classLink RJ6 1 "java/lang/Integer" ∈ gT := gT_t4 (i := 132) (by decide +kernel) (by decide +kernel)
theorem k_is_J6 : Cond.instantiable "java/lang/Integer" 1 ∈ gT := gT_t4 (i := 133) (by decide +kernel) (by decide +kernel)
theorem k_ml_J6_199 : Cond.methodLink RJ6 199 yJ6_init_d00df ∈ gT := gT_t4 (i := 134) (by decide +kernel) (by decide +kernel)
theorem k_im_J6_init_d00df : Cond.instanceMethod yJ6_init_d00df ∈ gT := gT_t4 (i := 135) (by decide +kernel) (by decide +kernel)
set_option maxRecDepth 10000 in
theorem k_cd_J6_init_d00df : Cond.code yJ6_init_d00df cJ6_init_d00df 2 none ∈ gT := gT_t4 (i := 136) rfl (by decide +kernel)
theorem k_ml_J6_202 : Cond.methodLink RJ6 202 yJxd2413_init_da8c8 ∈ gT := gT_t4 (i := 137) (by decide +kernel) (by decide +kernel)
theorem k_im_Jxd2413_init_da8c8 : Cond.instanceMethod yJxd2413_init_da8c8 ∈ gT := gT_t4 (i := 138) (by decide +kernel) (by decide +kernel)
set_option maxRecDepth 10000 in
theorem k_cd_Jxd2413_init_da8c8 : Cond.code yJxd2413_init_da8c8 cJxd2413_init_da8c8 1 none ∈ gT := gT_t4 (i := 139) rfl (by decide +kernel)
theorem k_ml_Jxd2413_1 : Cond.methodLink RJxd2413 1 ⟨"java/lang/Object", "<init>", "()V"⟩ ∈ gT := gT_t4 (i := 140) (by decide +kernel) (by decide +kernel)
theorem k_fl_J6_205 : Cond.fieldLink RJ6 205 RJ6 (TJ6 0).2.1 (TJ6 0).2.2.1 ∈ gT := gT_t4 (i := 141) (by decide +kernel) (by decide +kernel)
theorem k_ml_X8_164 : Cond.methodLink RX8 164 yJx4a65c_add_9ea2d ∈ gT := gT_t4 (i := 145) (by decide +kernel) (by decide +kernel)
theorem k_im_Jx4a65c_add_9ea2d : Cond.instanceMethod yJx4a65c_add_9ea2d ∈ gT := gT_t4 (i := 146) (by decide +kernel) (by decide +kernel)
theorem k_se_Jx4a65c_add_9ea2d : Cond.selects RJx4a65c yJx4a65c_add_9ea2d yJx4a65c_add_9ea2d ∈ gT := gT_t4 (i := 147) (by decide +kernel) (by decide +kernel)
set_option maxRecDepth 10000 in
theorem k_cd_Jx4a65c_add_9ea2d : Cond.code yJx4a65c_add_9ea2d cJx4a65c_add_9ea2d 2 (some .boolean) ∈ gT := gT_t4 (i := 148) rfl (by decide +kernel)
theorem k_ml_Jx4a65c_131 : Cond.methodLink RJx4a65c 131 yJx4a65c_add_72be8 ∈ gT := gT_t4 (i := 149) (by decide +kernel) (by decide +kernel)
theorem k_im_Jx4a65c_add_72be8 : Cond.instanceMethod yJx4a65c_add_72be8 ∈ gT := gT_t4 (i := 151) (by decide +kernel) (by decide +kernel)
set_option maxRecDepth 10000 in
theorem k_cd_Jx4a65c_add_72be8 : Cond.code yJx4a65c_add_72be8 cJx4a65c_add_72be8 4 none ∈ gT := gT_t4 (i := 152) rfl (by decide +kernel)
theorem k_ml_Jx4a65c_129 : Cond.methodLink RJx4a65c 129 yJx4a65c_grow_d5877 ∈ gT := gT_t4 (i := 153) (by decide +kernel) (by decide +kernel)
theorem k_im_Jx4a65c_grow_d5877 : Cond.instanceMethod yJx4a65c_grow_d5877 ∈ gT := gT_t4 (i := 155) (by decide +kernel) (by decide +kernel)
set_option maxRecDepth 10000 in
theorem k_cd_Jx4a65c_grow_d5877 : Cond.code yJx4a65c_grow_d5877 cJx4a65c_grow_d5877 1 (some (.array (.object "java/lang/Object"))) ∈ gT := gT_t4 (i := 156) rfl (by decide +kernel)
theorem k_ml_L_230 : Cond.methodLink RL 230 yL_isSo ∈ gT := gT_t4 (i := 157) (by decide +kernel) (by decide +kernel)
theorem k_st_L_isSo : Cond.static yL_isSo ∈ gT := gT_t4 (i := 158) (by decide +kernel) (by decide +kernel)
set_option maxRecDepth 10000 in
theorem k_cd_L_isSo : Cond.code yL_isSo cL_isSo 4 (some .boolean) ∈ gT := gT_t4 (i := 159) rfl (by decide +kernel)
theorem k_ml_L_33 : Cond.methodLink RL 33 yX6_time ∈ gT := gT_t4 (i := 160) (by decide +kernel) (by decide +kernel)
theorem k_im_X6_time : Cond.instanceMethod yX6_time ∈ gT := gT_t4 (i := 161) (by decide +kernel) (by decide +kernel)
theorem k_se_X6_time : Cond.selects RX6 yX6_time yX6_time ∈ gT := gT_t4 (i := 162) (by decide +kernel) (by decide +kernel)
set_option maxRecDepth 10000 in
theorem k_cd_X6_time : Cond.code yX6_time cX6_time 1 (some .int) ∈ gT := gT_t4 (i := 163) rfl (by decide +kernel)
theorem k_ml_L_41 : Cond.methodLink RL 41 yX6_accumulator ∈ gT := gT_t4 (i := 164) (by decide +kernel) (by decide +kernel)
theorem k_im_X6_accumulator : Cond.instanceMethod yX6_accumulator ∈ gT := gT_t4 (i := 165) (by decide +kernel) (by decide +kernel)
theorem k_se_X6_accumulator : Cond.selects RX6 yX6_accumulator yX6_accumulator ∈ gT := gT_t4 (i := 166) (by decide +kernel) (by decide +kernel)
set_option maxRecDepth 10000 in
theorem k_cd_X6_accumulator : Cond.code yX6_accumulator cX6_accumulator 1 (some .int) ∈ gT := gT_t4 (i := 167) rfl (by decide +kernel)
theorem k_ml_L_47 : Cond.methodLink RL 47 yX6_state ∈ gT := gT_t4 (i := 168) (by decide +kernel) (by decide +kernel)
theorem k_im_X6_state : Cond.instanceMethod yX6_state ∈ gT := gT_t4 (i := 169) (by decide +kernel) (by decide +kernel)
theorem k_se_X6_state : Cond.selects RX6 yX6_state yX6_state ∈ gT := gT_t4 (i := 170) (by decide +kernel) (by decide +kernel)
set_option maxRecDepth 10000 in
theorem k_cd_X6_state : Cond.code yX6_state cX6_state 1 (some .int) ∈ gT := gT_t4 (i := 171) rfl (by decide +kernel)
theorem k_ml_L_52 : Cond.methodLink RL 52 yX6_location ∈ gT := gT_t4 (i := 172) (by decide +kernel) (by decide +kernel)
theorem k_im_X6_location : Cond.instanceMethod yX6_location ∈ gT := gT_t4 (i := 173) (by decide +kernel) (by decide +kernel)
theorem k_se_X6_location : Cond.selects RX6 yX6_location yX6_location ∈ gT := gT_t4 (i := 174) (by decide +kernel) (by decide +kernel)
set_option maxRecDepth 10000 in
theorem k_cd_X6_location : Cond.code yX6_location cX6_location 1 (some .int) ∈ gT := gT_t4 (i := 175) rfl (by decide +kernel)
theorem k_ml_L_61 : Cond.methodLink RL 61 yX6_executed ∈ gT := gT_t4 (i := 176) (by decide +kernel) (by decide +kernel)
theorem k_im_X6_executed : Cond.instanceMethod yX6_executed ∈ gT := gT_t4 (i := 177) (by decide +kernel) (by decide +kernel)
theorem k_se_X6_executed : Cond.selects RX6 yX6_executed yX6_executed ∈ gT := gT_t4 (i := 178) (by decide +kernel) (by decide +kernel)
set_option maxRecDepth 10000 in
theorem k_cd_X6_executed : Cond.code yX6_executed cX6_executed 1 (some .int) ∈ gT := gT_t4 (i := 179) rfl (by decide +kernel)
theorem k_ml_L_67 : Cond.methodLink RL 67 yX6_waited ∈ gT := gT_t4 (i := 180) (by decide +kernel) (by decide +kernel)
theorem k_im_X6_waited : Cond.instanceMethod yX6_waited ∈ gT := gT_t4 (i := 181) (by decide +kernel) (by decide +kernel)
theorem k_se_X6_waited : Cond.selects RX6 yX6_waited yX6_waited ∈ gT := gT_t4 (i := 182) (by decide +kernel) (by decide +kernel)
set_option maxRecDepth 10000 in
theorem k_cd_X6_waited : Cond.code yX6_waited cX6_waited 1 (some .int) ∈ gT := gT_t4 (i := 183) rfl (by decide +kernel)
theorem k_ml_L_72 : Cond.methodLink RL 72 yX6_dropouts ∈ gT := gT_t4 (i := 184) (by decide +kernel) (by decide +kernel)
theorem k_im_X6_dropouts : Cond.instanceMethod yX6_dropouts ∈ gT := gT_t4 (i := 185) (by decide +kernel) (by decide +kernel)
theorem k_se_X6_dropouts : Cond.selects RX6 yX6_dropouts yX6_dropouts ∈ gT := gT_t4 (i := 186) (by decide +kernel) (by decide +kernel)
set_option maxRecDepth 10000 in
theorem k_cd_X6_dropouts : Cond.code yX6_dropouts cX6_dropouts 1 (some .int) ∈ gT := gT_t4 (i := 187) rfl (by decide +kernel)
theorem k_ml_L_77 : Cond.methodLink RL 77 yX6_hasOverflow ∈ gT := gT_t4 (i := 188) (by decide +kernel) (by decide +kernel)
theorem k_im_X6_hasOverflow : Cond.instanceMethod yX6_hasOverflow ∈ gT := gT_t4 (i := 189) (by decide +kernel) (by decide +kernel)
theorem k_se_X6_hasOverflow : Cond.selects RX6 yX6_hasOverflow yX6_hasOverflow ∈ gT := gT_t4 (i := 190) (by decide +kernel) (by decide +kernel)
set_option maxRecDepth 10000 in
theorem k_cd_X6_hasOverflow : Cond.code yX6_hasOverflow cX6_hasOverflow 1 (some .boolean) ∈ gT := gT_t4 (i := 191) rfl (by decide +kernel)
theorem k_ml_L_85 : Cond.methodLink RL 85 yX6_outputLength ∈ gT := gT_t4 (i := 192) (by decide +kernel) (by decide +kernel)
theorem k_im_X6_outputLength : Cond.instanceMethod yX6_outputLength ∈ gT := gT_t4 (i := 193) (by decide +kernel) (by decide +kernel)
theorem k_se_X6_outputLength : Cond.selects RX6 yX6_outputLength yX6_outputLength ∈ gT := gT_t4 (i := 194) (by decide +kernel) (by decide +kernel)
set_option maxRecDepth 10000 in
theorem k_cd_X6_outputLength : Cond.code yX6_outputLength cX6_outputLength 1 (some .int) ∈ gT := gT_t4 (i := 195) rfl (by decide +kernel)
theorem k_ml_L_92 : Cond.methodLink RL 92 yJx4a65c_size_8abf5 ∈ gT := gT_t4 (i := 196) (by decide +kernel) (by decide +kernel)
theorem k_ml_L_97 : Cond.methodLink RL 97 yX6_period ∈ gT := gT_t4 (i := 197) (by decide +kernel) (by decide +kernel)
theorem k_im_X6_period : Cond.instanceMethod yX6_period ∈ gT := gT_t4 (i := 198) (by decide +kernel) (by decide +kernel)
theorem k_se_X6_period : Cond.selects RX6 yX6_period yX6_period ∈ gT := gT_t4 (i := 199) (by decide +kernel) (by decide +kernel)
set_option maxRecDepth 10000 in
theorem k_cd_X6_period : Cond.code yX6_period cX6_period 1 (some .int) ∈ gT := gT_t4 (i := 200) rfl (by decide +kernel)
theorem k_ml_X6_165 : Cond.methodLink RX6 165 yX1_clockPeriod ∈ gT := gT_t4 (i := 201) (by decide +kernel) (by decide +kernel)
theorem k_ml_L_100 : Cond.methodLink RL 100 yX8_period ∈ gT := gT_t4 (i := 202) (by decide +kernel) (by decide +kernel)
theorem k_ml_L_101 : Cond.methodLink RL 101 yX6_temperature ∈ gT := gT_t4 (i := 203) (by decide +kernel) (by decide +kernel)
theorem k_im_X6_temperature : Cond.instanceMethod yX6_temperature ∈ gT := gT_t4 (i := 204) (by decide +kernel) (by decide +kernel)
theorem k_se_X6_temperature : Cond.selects RX6 yX6_temperature yX6_temperature ∈ gT := gT_t4 (i := 205) (by decide +kernel) (by decide +kernel)
set_option maxRecDepth 10000 in
theorem k_cd_X6_temperature : Cond.code yX6_temperature cX6_temperature 2 (some .int) ∈ gT := gT_t4 (i := 206) rfl (by decide +kernel)
theorem k_ml_X6_114 : Cond.methodLink RX6 114 yX6_requireTank ∈ gT := gT_t4 (i := 207) (by decide +kernel) (by decide +kernel)
theorem k_st_X6_requireTank : Cond.static yX6_requireTank ∈ gT := gT_t4 (i := 208) (by decide +kernel) (by decide +kernel)
set_option maxRecDepth 10000 in
theorem k_cd_X6_requireTank : Cond.code yX6_requireTank cX6_requireTank 1 none ∈ gT := gT_t4 (i := 209) rfl (by decide +kernel)
theorem k_ml_X6_142 : Cond.methodLink RX6 142 yX1_temperatureOf ∈ gT := gT_t4 (i := 211) (by decide +kernel) (by decide +kernel)
theorem k_ml_L_108 : Cond.methodLink RL 108 yX6_slips ∈ gT := gT_t4 (i := 212) (by decide +kernel) (by decide +kernel)
theorem k_im_X6_slips : Cond.instanceMethod yX6_slips ∈ gT := gT_t4 (i := 213) (by decide +kernel) (by decide +kernel)
theorem k_se_X6_slips : Cond.selects RX6 yX6_slips yX6_slips ∈ gT := gT_t4 (i := 214) (by decide +kernel) (by decide +kernel)
set_option maxRecDepth 10000 in
theorem k_cd_X6_slips : Cond.code yX6_slips cX6_slips 2 (some .int) ∈ gT := gT_t4 (i := 215) rfl (by decide +kernel)
theorem k_ml_X6_133 : Cond.methodLink RX6 133 yX5_slipCountOf ∈ gT := gT_t4 (i := 216) (by decide +kernel) (by decide +kernel)
theorem k_im_X5_slipCountOf : Cond.instanceMethod yX5_slipCountOf ∈ gT := gT_t4 (i := 217) (by decide +kernel) (by decide +kernel)
theorem k_se_X5_slipCountOf : Cond.selects RX5 yX5_slipCountOf yX5_slipCountOf ∈ gT := gT_t4 (i := 218) (by decide +kernel) (by decide +kernel)
set_option maxRecDepth 10000 in
theorem k_cd_X5_slipCountOf : Cond.code yX5_slipCountOf cX5_slipCountOf 2 (some .int) ∈ gT := gT_t4 (i := 219) rfl (by decide +kernel)
theorem k_ml_L_113 : Cond.methodLink RL 113 yX6_bitCount ∈ gT := gT_t4 (i := 220) (by decide +kernel) (by decide +kernel)
theorem k_im_X6_bitCount : Cond.instanceMethod yX6_bitCount ∈ gT := gT_t4 (i := 221) (by decide +kernel) (by decide +kernel)
theorem k_se_X6_bitCount : Cond.selects RX6 yX6_bitCount yX6_bitCount ∈ gT := gT_t4 (i := 222) (by decide +kernel) (by decide +kernel)
set_option maxRecDepth 10000 in
theorem k_cd_X6_bitCount : Cond.code yX6_bitCount cX6_bitCount 2 (some .int) ∈ gT := gT_t4 (i := 223) rfl (by decide +kernel)
theorem k_ml_X6_117 : Cond.methodLink RX6 117 yX5_countOnes ∈ gT := gT_t4 (i := 224) (by decide +kernel) (by decide +kernel)
theorem k_im_X5_countOnes : Cond.instanceMethod yX5_countOnes ∈ gT := gT_t4 (i := 225) (by decide +kernel) (by decide +kernel)
theorem k_se_X5_countOnes : Cond.selects RX5 yX5_countOnes yX5_countOnes ∈ gT := gT_t4 (i := 226) (by decide +kernel) (by decide +kernel)
set_option maxRecDepth 10000 in
theorem k_cd_X5_countOnes : Cond.code yX5_countOnes cX5_countOnes 4 (some .int) ∈ gT := gT_t4 (i := 227) rfl (by decide +kernel)
theorem k_ml_X5_30 : Cond.methodLink RX5 30 yJ6_bitCount_0f7a4 ∈ gT := gT_t4 (i := 228) (by decide +kernel) (by decide +kernel)
theorem k_st_J6_bitCount_0f7a4 : Cond.static yJ6_bitCount_0f7a4 ∈ gT := gT_t4 (i := 229) (by decide +kernel) (by decide +kernel)
set_option maxRecDepth 10000 in
theorem k_cd_J6_bitCount_0f7a4 : Cond.code yJ6_bitCount_0f7a4 cJ6_bitCount_0f7a4 1 (some .int) ∈ gT := gT_t4 (i := 230) rfl (by decide +kernel)
theorem k_co_J6_265 : Cond.constant RJ6 265 (1431655765) ∈ gT := gT_t4 (i := 231) (by decide +kernel) (by decide +kernel)
theorem k_co_J6_266 : Cond.constant RJ6 266 (858993459) ∈ gT := gT_t4 (i := 232) (by decide +kernel) (by decide +kernel)
theorem k_co_J6_267 : Cond.constant RJ6 267 (252645135) ∈ gT := gT_t4 (i := 233) (by decide +kernel) (by decide +kernel)
theorem k_ml_L_116 : Cond.methodLink RL 116 yX8_ones ∈ gT := gT_t4 (i := 234) (by decide +kernel) (by decide +kernel)
theorem k_im_X8_ones : Cond.instanceMethod yX8_ones ∈ gT := gT_t4 (i := 235) (by decide +kernel) (by decide +kernel)
theorem k_se_X8_ones : Cond.selects RX8 yX8_ones yX8_ones ∈ gT := gT_t4 (i := 236) (by decide +kernel) (by decide +kernel)
set_option maxRecDepth 10000 in
theorem k_cd_X8_ones : Cond.code yX8_ones cX8_ones 7 (some .int) ∈ gT := gT_t4 (i := 237) rfl (by decide +kernel)
theorem k_ml_L_119 : Cond.methodLink RL 119 yX6_mismatch ∈ gT := gT_t4 (i := 238) (by decide +kernel) (by decide +kernel)
theorem k_im_X6_mismatch : Cond.instanceMethod yX6_mismatch ∈ gT := gT_t4 (i := 239) (by decide +kernel) (by decide +kernel)
theorem k_se_X6_mismatch : Cond.selects RX6 yX6_mismatch yX6_mismatch ∈ gT := gT_t5 (i := 0) (by decide +kernel) (by decide +kernel)
set_option maxRecDepth 10000 in
theorem k_cd_X6_mismatch : Cond.code yX6_mismatch cX6_mismatch 3 (some .int) ∈ gT := gT_t5 (i := 1) rfl (by decide +kernel)
theorem k_ml_X6_169 : Cond.methodLink RX6 169 yX6_mismatchOf ∈ gT := gT_t5 (i := 2) (by decide +kernel) (by decide +kernel)
theorem k_ml_L_122 : Cond.methodLink RL 122 yX8_mismatch ∈ gT := gT_t5 (i := 3) (by decide +kernel) (by decide +kernel)
theorem k_ml_L_130 : Cond.methodLink RL 130 yX6_executedAt ∈ gT := gT_t5 (i := 4) (by decide +kernel) (by decide +kernel)
theorem k_im_X6_executedAt : Cond.instanceMethod yX6_executedAt ∈ gT := gT_t5 (i := 5) (by decide +kernel) (by decide +kernel)
theorem k_se_X6_executedAt : Cond.selects RX6 yX6_executedAt yX6_executedAt ∈ gT := gT_t5 (i := 6) (by decide +kernel) (by decide +kernel)
set_option maxRecDepth 10000 in
theorem k_cd_X6_executedAt : Cond.code yX6_executedAt cX6_executedAt 3 (some .int) ∈ gT := gT_t5 (i := 7) rfl (by decide +kernel)
theorem k_ml_X6_242 : Cond.methodLink RX6 242 yX2_executedCountAt ∈ gT := gT_t5 (i := 8) (by decide +kernel) (by decide +kernel)
theorem k_im_X2_executedCountAt : Cond.instanceMethod yX2_executedCountAt ∈ gT := gT_t5 (i := 9) (by decide +kernel) (by decide +kernel)
theorem k_se_X2_executedCountAt : Cond.selects RX2 yX2_executedCountAt yX2_executedCountAt ∈ gT := gT_t5 (i := 10) (by decide +kernel) (by decide +kernel)
set_option maxRecDepth 10000 in
theorem k_cd_X2_executedCountAt : Cond.code yX2_executedCountAt cX2_executedCountAt 2 (some .int) ∈ gT := gT_t5 (i := 11) rfl (by decide +kernel)
theorem k_ml_L_238 : Cond.methodLink RL 238 yL_acts ∈ gT := gT_t5 (i := 12) (by decide +kernel) (by decide +kernel)
theorem k_st_L_acts : Cond.static yL_acts ∈ gT := gT_t5 (i := 13) (by decide +kernel) (by decide +kernel)
set_option maxRecDepth 10000 in
theorem k_cd_L_acts : Cond.code yL_acts cL_acts 10 (some .boolean) ∈ gT := gT_t5 (i := 14) rfl (by decide +kernel)
theorem k_co_L_142 : Cond.constant RL 142 (65536) ∈ gT := gT_t5 (i := 15) (by decide +kernel) (by decide +kernel)
theorem k_co_L_143 : Cond.constant RL 143 (524288) ∈ gT := gT_t5 (i := 16) (by decide +kernel) (by decide +kernel)
theorem k_ml_L_144 : Cond.methodLink RL 144 yX8_set ∈ gT := gT_t5 (i := 17) (by decide +kernel) (by decide +kernel)
theorem k_ml_L_148 : Cond.methodLink RL 148 yX6_writeWord ∈ gT := gT_t5 (i := 18) (by decide +kernel) (by decide +kernel)
theorem k_im_X6_writeWord : Cond.instanceMethod yX6_writeWord ∈ gT := gT_t5 (i := 19) (by decide +kernel) (by decide +kernel)
theorem k_se_X6_writeWord : Cond.selects RX6 yX6_writeWord yX6_writeWord ∈ gT := gT_t5 (i := 20) (by decide +kernel) (by decide +kernel)
set_option maxRecDepth 10000 in
theorem k_cd_X6_writeWord : Cond.code yX6_writeWord cX6_writeWord 6 (some .int) ∈ gT := gT_t5 (i := 21) rfl (by decide +kernel)
theorem k_ml_X6_111 : Cond.methodLink RX6 111 yX6_requireWord ∈ gT := gT_t5 (i := 22) (by decide +kernel) (by decide +kernel)
theorem k_st_X6_requireWord : Cond.static yX6_requireWord ∈ gT := gT_t5 (i := 23) (by decide +kernel) (by decide +kernel)
set_option maxRecDepth 10000 in
theorem k_cd_X6_requireWord : Cond.code yX6_requireWord cX6_requireWord 1 none ∈ gT := gT_t5 (i := 24) rfl (by decide +kernel)
theorem k_co_X6_330 : Cond.constant RX6 330 (-524288) ∈ gT := gT_t5 (i := 25) (by decide +kernel) (by decide +kernel)
theorem k_co_X6_331 : Cond.constant RX6 331 (524287) ∈ gT := gT_t5 (i := 26) (by decide +kernel) (by decide +kernel)
theorem k_ml_X6_80 : Cond.methodLink RX6 80 yX5_putWord ∈ gT := gT_t5 (i := 28) (by decide +kernel) (by decide +kernel)
theorem k_ml_L_152 : Cond.methodLink RL 152 yX6_setTemperature ∈ gT := gT_t5 (i := 29) (by decide +kernel) (by decide +kernel)
theorem k_im_X6_setTemperature : Cond.instanceMethod yX6_setTemperature ∈ gT := gT_t5 (i := 30) (by decide +kernel) (by decide +kernel)
theorem k_se_X6_setTemperature : Cond.selects RX6 yX6_setTemperature yX6_setTemperature ∈ gT := gT_t5 (i := 31) (by decide +kernel) (by decide +kernel)
set_option maxRecDepth 10000 in
theorem k_cd_X6_setTemperature : Cond.code yX6_setTemperature cX6_setTemperature 4 (some .int) ∈ gT := gT_t5 (i := 32) rfl (by decide +kernel)
theorem k_ml_X6_139 : Cond.methodLink RX6 139 yX6_requireTemperature ∈ gT := gT_t5 (i := 33) (by decide +kernel) (by decide +kernel)
theorem k_st_X6_requireTemperature : Cond.static yX6_requireTemperature ∈ gT := gT_t5 (i := 34) (by decide +kernel) (by decide +kernel)
set_option maxRecDepth 10000 in
theorem k_cd_X6_requireTemperature : Cond.code yX6_requireTemperature cX6_requireTemperature 1 none ∈ gT := gT_t5 (i := 35) rfl (by decide +kernel)
theorem k_ml_X6_145 : Cond.methodLink RX6 145 yX1_putTemperature ∈ gT := gT_t5 (i := 37) (by decide +kernel) (by decide +kernel)
theorem k_ml_L_158 : Cond.methodLink RL 158 yX6_setOven ∈ gT := gT_t5 (i := 38) (by decide +kernel) (by decide +kernel)
theorem k_im_X6_setOven : Cond.instanceMethod yX6_setOven ∈ gT := gT_t5 (i := 39) (by decide +kernel) (by decide +kernel)
theorem k_se_X6_setOven : Cond.selects RX6 yX6_setOven yX6_setOven ∈ gT := gT_t5 (i := 40) (by decide +kernel) (by decide +kernel)
set_option maxRecDepth 10000 in
theorem k_cd_X6_setOven : Cond.code yX6_setOven cX6_setOven 3 (some .int) ∈ gT := gT_t5 (i := 41) rfl (by decide +kernel)
theorem k_ml_L_164 : Cond.methodLink RL 164 yX6_setPilotTemperature ∈ gT := gT_t5 (i := 42) (by decide +kernel) (by decide +kernel)
theorem k_im_X6_setPilotTemperature : Cond.instanceMethod yX6_setPilotTemperature ∈ gT := gT_t5 (i := 43) (by decide +kernel) (by decide +kernel)
theorem k_se_X6_setPilotTemperature : Cond.selects RX6 yX6_setPilotTemperature yX6_setPilotTemperature ∈ gT := gT_t5 (i := 44) (by decide +kernel) (by decide +kernel)
set_option maxRecDepth 10000 in
theorem k_cd_X6_setPilotTemperature : Cond.code yX6_setPilotTemperature cX6_setPilotTemperature 3 (some .int) ∈ gT := gT_t5 (i := 45) rfl (by decide +kernel)
theorem k_ml_L_170 : Cond.methodLink RL 170 yX6_setPilot ∈ gT := gT_t5 (i := 46) (by decide +kernel) (by decide +kernel)
theorem k_im_X6_setPilot : Cond.instanceMethod yX6_setPilot ∈ gT := gT_t5 (i := 47) (by decide +kernel) (by decide +kernel)
theorem k_se_X6_setPilot : Cond.selects RX6 yX6_setPilot yX6_setPilot ∈ gT := gT_t5 (i := 48) (by decide +kernel) (by decide +kernel)
set_option maxRecDepth 10000 in
theorem k_cd_X6_setPilot : Cond.code yX6_setPilot cX6_setPilot 3 (some .boolean) ∈ gT := gT_t5 (i := 49) rfl (by decide +kernel)
theorem k_co_L_177 : Cond.constant RL 177 (900000) ∈ gT := gT_t5 (i := 50) (by decide +kernel) (by decide +kernel)
theorem k_co_L_178 : Cond.constant RL 178 (999900) ∈ gT := gT_t5 (i := 51) (by decide +kernel) (by decide +kernel)
theorem k_ml_L_179 : Cond.methodLink RL 179 yX6_setFixedPeriod ∈ gT := gT_t5 (i := 52) (by decide +kernel) (by decide +kernel)
theorem k_im_X6_setFixedPeriod : Cond.instanceMethod yX6_setFixedPeriod ∈ gT := gT_t5 (i := 53) (by decide +kernel) (by decide +kernel)
theorem k_se_X6_setFixedPeriod : Cond.selects RX6 yX6_setFixedPeriod yX6_setFixedPeriod ∈ gT := gT_t5 (i := 54) (by decide +kernel) (by decide +kernel)
set_option maxRecDepth 10000 in
theorem k_cd_X6_setFixedPeriod : Cond.code yX6_setFixedPeriod cX6_setFixedPeriod 3 (some .int) ∈ gT := gT_t5 (i := 55) rfl (by decide +kernel)
theorem k_co_X6_158 : Cond.constant RX6 158 (900000) ∈ gT := gT_t5 (i := 56) (by decide +kernel) (by decide +kernel)
theorem k_co_X6_159 : Cond.constant RX6 159 (1100000) ∈ gT := gT_t5 (i := 57) (by decide +kernel) (by decide +kernel)
theorem k_ml_L_186 : Cond.methodLink RL 186 yX6_clearTank ∈ gT := gT_t5 (i := 59) (by decide +kernel) (by decide +kernel)
theorem k_im_X6_clearTank : Cond.instanceMethod yX6_clearTank ∈ gT := gT_t5 (i := 60) (by decide +kernel) (by decide +kernel)
theorem k_se_X6_clearTank : Cond.selects RX6 yX6_clearTank yX6_clearTank ∈ gT := gT_t5 (i := 61) (by decide +kernel) (by decide +kernel)
set_option maxRecDepth 10000 in
theorem k_cd_X6_clearTank : Cond.code yX6_clearTank cX6_clearTank 3 (some .int) ∈ gT := gT_t5 (i := 62) rfl (by decide +kernel)
theorem k_ml_X6_120 : Cond.methodLink RX6 120 yX5_clearBits ∈ gT := gT_t5 (i := 63) (by decide +kernel) (by decide +kernel)
theorem k_im_X5_clearBits : Cond.instanceMethod yX5_clearBits ∈ gT := gT_t5 (i := 64) (by decide +kernel) (by decide +kernel)
theorem k_se_X5_clearBits : Cond.selects RX5 yX5_clearBits yX5_clearBits ∈ gT := gT_t5 (i := 65) (by decide +kernel) (by decide +kernel)
set_option maxRecDepth 10000 in
theorem k_cd_X5_clearBits : Cond.code yX5_clearBits cX5_clearBits 3 none ∈ gT := gT_t5 (i := 66) rfl (by decide +kernel)
theorem k_ml_X5_36 : Cond.methodLink RX5 36 yX5_putWord ∈ gT := gT_t5 (i := 67) (by decide +kernel) (by decide +kernel)
theorem k_ml_L_189 : Cond.methodLink RL 189 yX6_swapTanks ∈ gT := gT_t5 (i := 68) (by decide +kernel) (by decide +kernel)
theorem k_im_X6_swapTanks : Cond.instanceMethod yX6_swapTanks ∈ gT := gT_t5 (i := 69) (by decide +kernel) (by decide +kernel)
theorem k_se_X6_swapTanks : Cond.selects RX6 yX6_swapTanks yX6_swapTanks ∈ gT := gT_t5 (i := 70) (by decide +kernel) (by decide +kernel)
set_option maxRecDepth 10000 in
theorem k_cd_X6_swapTanks : Cond.code yX6_swapTanks cX6_swapTanks 3 none ∈ gT := gT_t5 (i := 71) rfl (by decide +kernel)
theorem k_ml_X6_123 : Cond.methodLink RX6 123 yX5_exchange ∈ gT := gT_t5 (i := 72) (by decide +kernel) (by decide +kernel)
theorem k_im_X5_exchange : Cond.instanceMethod yX5_exchange ∈ gT := gT_t5 (i := 73) (by decide +kernel) (by decide +kernel)
theorem k_se_X5_exchange : Cond.selects RX5 yX5_exchange yX5_exchange ∈ gT := gT_t5 (i := 74) (by decide +kernel) (by decide +kernel)
set_option maxRecDepth 10000 in
theorem k_cd_X5_exchange : Cond.code yX5_exchange cX5_exchange 5 none ∈ gT := gT_t5 (i := 75) rfl (by decide +kernel)
theorem k_ml_X5_40 : Cond.methodLink RX5 40 yX5_wordAt ∈ gT := gT_t5 (i := 76) (by decide +kernel) (by decide +kernel)
theorem k_ml_X5_43 : Cond.methodLink RX5 43 yX5_slipCountOf ∈ gT := gT_t5 (i := 77) (by decide +kernel) (by decide +kernel)
theorem k_ml_X6_130 : Cond.methodLink RX6 130 yX1_exchange ∈ gT := gT_t5 (i := 78) (by decide +kernel) (by decide +kernel)
theorem k_im_X1_exchange : Cond.instanceMethod yX1_exchange ∈ gT := gT_t5 (i := 79) (by decide +kernel) (by decide +kernel)
theorem k_se_X1_exchange : Cond.selects RX1 yX1_exchange yX1_exchange ∈ gT := gT_t5 (i := 80) (by decide +kernel) (by decide +kernel)
set_option maxRecDepth 10000 in
theorem k_cd_X1_exchange : Cond.code yX1_exchange cX1_exchange 4 none ∈ gT := gT_t5 (i := 81) rfl (by decide +kernel)
theorem k_ml_L_196 : Cond.methodLink RL 196 yJ6_valueOf_2dffe ∈ gT := gT_t5 (i := 82) (by decide +kernel) (by decide +kernel)
theorem k_ml_L_202 : Cond.methodLink RL 202 yJx4a65c_add_9ea2d ∈ gT := gT_t5 (i := 83) (by decide +kernel) (by decide +kernel)
theorem k_ml_L_206 : Cond.methodLink RL 206 yX6_offerInput ∈ gT := gT_t5 (i := 84) (by decide +kernel) (by decide +kernel)
theorem k_im_X6_offerInput : Cond.instanceMethod yX6_offerInput ∈ gT := gT_t5 (i := 85) (by decide +kernel) (by decide +kernel)
theorem k_se_X6_offerInput : Cond.selects RX6 yX6_offerInput yX6_offerInput ∈ gT := gT_t5 (i := 86) (by decide +kernel) (by decide +kernel)
set_option maxRecDepth 10000 in
theorem k_cd_X6_offerInput : Cond.code yX6_offerInput cX6_offerInput 2 (some .int) ∈ gT := gT_t5 (i := 87) rfl (by decide +kernel)
theorem k_ml_X6_217 : Cond.methodLink RX6 217 yX4_isFull ∈ gT := gT_t5 (i := 88) (by decide +kernel) (by decide +kernel)
theorem k_ml_X6_224 : Cond.methodLink RX6 224 yX4_addLast ∈ gT := gT_t5 (i := 90) (by decide +kernel) (by decide +kernel)
theorem k_ml_L_209 : Cond.methodLink RL 209 yJx4a65c_isEmpty_aae02 ∈ gT := gT_t5 (i := 91) (by decide +kernel) (by decide +kernel)
theorem k_ml_L_212 : Cond.methodLink RL 212 yX6_takeOutput ∈ gT := gT_t5 (i := 92) (by decide +kernel) (by decide +kernel)
theorem k_im_X6_takeOutput : Cond.instanceMethod yX6_takeOutput ∈ gT := gT_t5 (i := 93) (by decide +kernel) (by decide +kernel)
theorem k_se_X6_takeOutput : Cond.selects RX6 yX6_takeOutput yX6_takeOutput ∈ gT := gT_t5 (i := 94) (by decide +kernel) (by decide +kernel)
set_option maxRecDepth 10000 in
theorem k_cd_X6_takeOutput : Cond.code yX6_takeOutput cX6_takeOutput 1 (some .int) ∈ gT := gT_t5 (i := 95) rfl (by decide +kernel)
theorem k_cl_X6_231 : Cond.classLink RX6 231 "java/util/NoSuchElementException" ∈ gT := gT_t5 (i := 96) (by decide +kernel) (by decide +kernel)
theorem k_is_java_util_NoSuchElementException : Cond.instantiable "java/util/NoSuchElementException" 6 ∈ gT := gT_t5 (i := 97) (by decide +kernel) (by decide +kernel)
theorem k_ml_X6_235 : Cond.methodLink RX6 235 ⟨"java/util/NoSuchElementException", "<init>", "(Ljava/lang/String;)V"⟩ ∈ gT := gT_t5 (i := 106) (by decide +kernel) (by decide +kernel)
theorem k_ml_X6_236 : Cond.methodLink RX6 236 yX4_removeFirst ∈ gT := gT_t5 (i := 112) (by decide +kernel) (by decide +kernel)
theorem k_ml_L_215 : Cond.methodLink RL 215 yJx4a65c_remove_915e3 ∈ gT := gT_t5 (i := 113) (by decide +kernel) (by decide +kernel)
theorem k_cl_L_197 : Cond.classLink RL 197 "java/lang/Integer" ∈ gT := gT_t5 (i := 114) (by decide +kernel) (by decide +kernel)
theorem k_ml_L_219 : Cond.methodLink RL 219 yJ6_intValue_8abf5 ∈ gT := gT_t5 (i := 115) (by decide +kernel) (by decide +kernel)
theorem k_ml_L_222 : Cond.methodLink RL 222 yX6_start ∈ gT := gT_t5 (i := 116) (by decide +kernel) (by decide +kernel)
theorem k_im_X6_start : Cond.instanceMethod yX6_start ∈ gT := gT_t5 (i := 117) (by decide +kernel) (by decide +kernel)
theorem k_se_X6_start : Cond.selects RX6 yX6_start yX6_start ∈ gT := gT_t5 (i := 118) (by decide +kernel) (by decide +kernel)
set_option maxRecDepth 10000 in
theorem k_cd_X6_start : Cond.code yX6_start cX6_start 3 none ∈ gT := gT_t5 (i := 119) rfl (by decide +kernel)
theorem k_ml_X6_89 : Cond.methodLink RX6 89 yX2_makeReadyAt ∈ gT := gT_t5 (i := 120) (by decide +kernel) (by decide +kernel)
theorem k_im_X2_makeReadyAt : Cond.instanceMethod yX2_makeReadyAt ∈ gT := gT_t5 (i := 121) (by decide +kernel) (by decide +kernel)
theorem k_se_X2_makeReadyAt : Cond.selects RX2 yX2_makeReadyAt yX2_makeReadyAt ∈ gT := gT_t5 (i := 122) (by decide +kernel) (by decide +kernel)
set_option maxRecDepth 10000 in
theorem k_cd_X2_makeReadyAt : Cond.code yX2_makeReadyAt cX2_makeReadyAt 2 none ∈ gT := gT_t5 (i := 123) rfl (by decide +kernel)
theorem k_ml_L_234 : Cond.methodLink RL 234 yL_fills ∈ gT := gT_t5 (i := 124) (by decide +kernel) (by decide +kernel)
theorem k_st_L_fills : Cond.static yL_fills ∈ gT := gT_t5 (i := 125) (by decide +kernel) (by decide +kernel)
set_option maxRecDepth 10000 in
theorem k_cd_L_fills : Cond.code yL_fills cL_fills 6 none ∈ gT := gT_t5 (i := 126) rfl (by decide +kernel)
theorem in_X0 : ∀ w ∈ u_ws RX0 TX0 13, w ∈ gT := gT_list _ [172, 174, 176, 178, 180, 182, 184, 186, 188, 190, 192, 194, 196] (by decide +kernel) (by decide +kernel)
theorem in_X1 : ∀ w ∈ u_ws RX1 TX1 5, w ∈ gT := gT_list _ [84, 86, 88, 90, 92] (by decide +kernel) (by decide +kernel)
theorem in_X2 : ∀ w ∈ u_ws RX2 TX2 12, w ∈ gT := gT_list _ [136, 138, 140, 142, 144, 146, 148, 150, 152, 154, 156, 158] (by decide +kernel) (by decide +kernel)
theorem in_X4 : ∀ w ∈ u_ws RX4 TX4 3, w ∈ gT := gT_list _ [106, 108, 110] (by decide +kernel) (by decide +kernel)
theorem in_X5 : ∀ w ∈ u_ws RX5 TX5 4, w ∈ gT := gT_list _ [58, 60, 62, 64] (by decide +kernel) (by decide +kernel)
theorem in_X6 : ∀ w ∈ u_ws RX6 TX6 8, w ∈ gT := gT_list _ [236, 238, 240, 242, 244, 246, 248, 250] (by decide +kernel) (by decide +kernel)
theorem in_X7 : ∀ w ∈ u_ws RX7 TX7 1, w ∈ gT := gT_list _ [556] (by decide +kernel) (by decide +kernel)
theorem in_X8 : ∀ w ∈ u_ws RX8 TX8 19, w ∈ gT := gT_list _ [639, 641, 643, 645, 647, 649, 651, 653, 655, 657, 659, 661, 663, 665, 667, 669, 671, 673, 675] (by decide +kernel) (by decide +kernel)
theorem in_J6 : ∀ w ∈ u_ws RJ6 TJ6 1, w ∈ gT := gT_list _ [862] (by decide +kernel) (by decide +kernel)
theorem in_J4 : ∀ w ∈ u_ws RJ4 TJ4 4, w ∈ gT := gT_list _ [220, 222, 224, 226] (by decide +kernel) (by decide +kernel)
theorem in_Jx4a65c : ∀ w ∈ u_ws RJx4a65c TJx4a65c 3, w ∈ gT := gT_list _ [597, 593, 595] (by decide +kernel) (by decide +kernel)
set_option maxRecDepth 40000 in
theorem k_se_X6_requireReady : Cond.selects RX6 yX6_requireReady yX6_requireReady ∈ gT := gT_prv (q := (yX6_requireReady, _)) (i := 1) rfl (by decide +kernel)
set_option maxRecDepth 40000 in
theorem k_se_X2_executeNext : Cond.selects RX2 yX2_executeNext yX2_executeNext ∈ gT := gT_prv (q := (yX2_executeNext, _)) (i := 2) rfl (by decide +kernel)
set_option maxRecDepth 40000 in
theorem k_se_X2_awaitCycle : Cond.selects RX2 yX2_awaitCycle yX2_awaitCycle ∈ gT := gT_prv (q := (yX2_awaitCycle, _)) (i := 3) rfl (by decide +kernel)
set_option maxRecDepth 40000 in
theorem k_se_X2_endMajorCycle : Cond.selects RX2 yX2_endMajorCycle yX2_endMajorCycle ∈ gT := gT_prv (q := (yX2_endMajorCycle, _)) (i := 4) rfl (by decide +kernel)
set_option maxRecDepth 40000 in
theorem k_se_X2_isJumpTaken : Cond.selects RX2 yX2_isJumpTaken yX2_isJumpTaken ∈ gT := gT_prv (q := (yX2_isJumpTaken, _)) (i := 5) rfl (by decide +kernel)
set_option maxRecDepth 40000 in
theorem k_se_X2_perform : Cond.selects RX2 yX2_perform yX2_perform ∈ gT := gT_prv (q := (yX2_perform, _)) (i := 6) rfl (by decide +kernel)
set_option maxRecDepth 40000 in
theorem k_se_X2_combine : Cond.selects RX2 yX2_combine yX2_combine ∈ gT := gT_prv (q := (yX2_combine, _)) (i := 7) rfl (by decide +kernel)
set_option maxRecDepth 40000 in
theorem k_se_X2_putResult : Cond.selects RX2 yX2_putResult yX2_putResult ∈ gT := gT_prv (q := (yX2_putResult, _)) (i := 8) rfl (by decide +kernel)
set_option maxRecDepth 40000 in
theorem k_se_Jx4a65c_grow_92f84 : Cond.selects RJx4a65c yJx4a65c_grow_92f84 yJx4a65c_grow_92f84 ∈ gT := gT_prv (q := (yJx4a65c_grow_92f84, _)) (i := 9) rfl (by decide +kernel)
set_option maxRecDepth 40000 in
theorem k_se_X8_result : Cond.selects RX8 yX8_result yX8_result ∈ gT := gT_prv (q := (yX8_result, _)) (i := 10) rfl (by decide +kernel)
set_option maxRecDepth 40000 in
theorem k_se_Jx4a65c_fastRemove_b59b0 : Cond.selects RJx4a65c yJx4a65c_fastRemove_b59b0 yJx4a65c_fastRemove_b59b0 ∈ gT := gT_prv (q := (yJx4a65c_fastRemove_b59b0, _)) (i := 11) rfl (by decide +kernel)
set_option maxRecDepth 40000 in
theorem k_se_Jx4a65c_add_72be8 : Cond.selects RJx4a65c yJx4a65c_add_72be8 yJx4a65c_add_72be8 ∈ gT := gT_prv (q := (yJx4a65c_add_72be8, _)) (i := 12) rfl (by decide +kernel)
set_option maxRecDepth 40000 in
theorem k_se_Jx4a65c_grow_d5877 : Cond.selects RJx4a65c yJx4a65c_grow_d5877 yJx4a65c_grow_d5877 ∈ gT := gT_prv (q := (yJx4a65c_grow_d5877, _)) (i := 13) rfl (by decide +kernel)
end
section
theorem dX0_init_0 : decode cX0_init 0 = .ok (.aload_n 0, 1) := by decide +kernel
theorem dX0_init_1 : decode cX0_init 1 = .ok (.invokespecial 3, 3) := by decide +kernel
theorem dX0_init_4 : decode cX0_init 4 = .ok (.aload_n 0, 1) := by decide +kernel
theorem dX0_init_5 : decode cX0_init 5 = .ok (.sipush 600, 3) := by decide +kernel
theorem dX0_init_8 : decode cX0_init 8 = .ok (.newarray .int, 2) := by decide +kernel
theorem dX0_init_10 : decode cX0_init 10 = .ok (.putfield 9, 3) := by decide +kernel
theorem dX0_init_13 : decode cX0_init 13 = .ok (.aload_n 0, 1) := by decide +kernel
theorem dX0_init_14 : decode cX0_init 14 = .ok (.iconst (-1), 1) := by decide +kernel
theorem dX0_init_15 : decode cX0_init 15 = .ok (.putfield 15, 3) := by decide +kernel
theorem dX0_init_18 : decode cX0_init 18 = .ok (.aload_n 0, 1) := by decide +kernel
theorem dX0_init_19 : decode cX0_init 19 = .ok (.sipush 256, 3) := by decide +kernel
theorem dX0_init_22 : decode cX0_init 22 = .ok (.newarray .int, 2) := by decide +kernel
theorem dX0_init_24 : decode cX0_init 24 = .ok (.putfield 19, 3) := by decide +kernel
theorem dX0_init_27 : decode cX0_init 27 = .ok (.aload_n 0, 1) := by decide +kernel
theorem dX0_init_28 : decode cX0_init 28 = .ok (.sipush 256, 3) := by decide +kernel
theorem dX0_init_31 : decode cX0_init 31 = .ok (.newarray .boolean, 2) := by decide +kernel
theorem dX0_init_33 : decode cX0_init 33 = .ok (.putfield 22, 3) := by decide +kernel
theorem dX0_init_36 : decode cX0_init 36 = .ok (.aload_n 0, 1) := by decide +kernel
theorem dX0_init_37 : decode cX0_init 37 = .ok (.iconst (-1), 1) := by decide +kernel
theorem dX0_init_38 : decode cX0_init 38 = .ok (.putfield 26, 3) := by decide +kernel
theorem dX0_init_41 : decode cX0_init 41 = .ok (.return_, 1) := by decide +kernel
theorem dX1_init_0 : decode cX1_init 0 = .ok (.aload_n 0, 1) := by decide +kernel
theorem dX1_init_1 : decode cX1_init 1 = .ok (.invokespecial 3, 3) := by decide +kernel
theorem dX1_init_4 : decode cX1_init 4 = .ok (.aload_n 0, 1) := by decide +kernel
theorem dX1_init_5 : decode cX1_init 5 = .ok (.bipush 8, 2) := by decide +kernel
theorem dX1_init_7 : decode cX1_init 7 = .ok (.newarray .int, 2) := by decide +kernel
theorem dX1_init_9 : decode cX1_init 9 = .ok (.putfield 9, 3) := by decide +kernel
theorem dX1_init_12 : decode cX1_init 12 = .ok (.aload_n 0, 1) := by decide +kernel
theorem dX1_init_13 : decode cX1_init 13 = .ok (.sipush 400, 3) := by decide +kernel
theorem dX1_init_16 : decode cX1_init 16 = .ok (.putfield 15, 3) := by decide +kernel
theorem dX1_init_19 : decode cX1_init 19 = .ok (.aload_n 0, 1) := by decide +kernel
theorem dX1_init_20 : decode cX1_init 20 = .ok (.sipush 400, 3) := by decide +kernel
theorem dX1_init_23 : decode cX1_init 23 = .ok (.putfield 19, 3) := by decide +kernel
theorem dX1_init_26 : decode cX1_init 26 = .ok (.aload_n 0, 1) := by decide +kernel
theorem dX1_init_27 : decode cX1_init 27 = .ok (.ldc 22, 2) := by decide +kernel
theorem dX1_init_29 : decode cX1_init 29 = .ok (.putfield 23, 3) := by decide +kernel
theorem dX1_init_32 : decode cX1_init 32 = .ok (.iconst 0, 1) := by decide +kernel
theorem dX1_init_33 : decode cX1_init 33 = .ok (.istore_n 1, 1) := by decide +kernel
theorem dX1_init_34 : decode cX1_init 34 = .ok (.iload_n 1, 1) := by decide +kernel
theorem dX1_init_35 : decode cX1_init 35 = .ok (.bipush 8, 2) := by decide +kernel
theorem dX1_init_37 : decode cX1_init 37 = .ok (.if_icmp .ge 18, 3) := by decide +kernel
theorem dX1_init_40 : decode cX1_init 40 = .ok (.aload_n 0, 1) := by decide +kernel
theorem dX1_init_41 : decode cX1_init 41 = .ok (.getfield 9, 3) := by decide +kernel
theorem dX1_init_44 : decode cX1_init 44 = .ok (.iload_n 1, 1) := by decide +kernel
theorem dX1_init_45 : decode cX1_init 45 = .ok (.sipush 400, 3) := by decide +kernel
theorem dX1_init_48 : decode cX1_init 48 = .ok (.iastore, 1) := by decide +kernel
theorem dX1_init_49 : decode cX1_init 49 = .ok (.iinc 1 1, 3) := by decide +kernel
theorem dX1_init_52 : decode cX1_init 52 = .ok (.goto (-18), 3) := by decide +kernel
theorem dX1_init_55 : decode cX1_init 55 = .ok (.return_, 1) := by decide +kernel
theorem dX1_temperatureOf_0 : decode cX1_temperatureOf 0 = .ok (.aload_n 0, 1) := by decide +kernel
theorem dX1_temperatureOf_1 : decode cX1_temperatureOf 1 = .ok (.getfield 9, 3) := by decide +kernel
theorem dX1_temperatureOf_4 : decode cX1_temperatureOf 4 = .ok (.iload_n 1, 1) := by decide +kernel
theorem dX1_temperatureOf_5 : decode cX1_temperatureOf 5 = .ok (.bipush 7, 2) := by decide +kernel
theorem dX1_temperatureOf_7 : decode cX1_temperatureOf 7 = .ok (.iand, 1) := by decide +kernel
theorem dX1_temperatureOf_8 : decode cX1_temperatureOf 8 = .ok (.iaload, 1) := by decide +kernel
theorem dX1_temperatureOf_9 : decode cX1_temperatureOf 9 = .ok (.ireturn, 1) := by decide +kernel
theorem dX1_putTemperature_0 : decode cX1_putTemperature 0 = .ok (.aload_n 0, 1) := by decide +kernel
theorem dX1_putTemperature_1 : decode cX1_putTemperature 1 = .ok (.getfield 9, 3) := by decide +kernel
theorem dX1_putTemperature_4 : decode cX1_putTemperature 4 = .ok (.iload_n 1, 1) := by decide +kernel
theorem dX1_putTemperature_5 : decode cX1_putTemperature 5 = .ok (.bipush 7, 2) := by decide +kernel
theorem dX1_putTemperature_7 : decode cX1_putTemperature 7 = .ok (.iand, 1) := by decide +kernel
theorem dX1_putTemperature_8 : decode cX1_putTemperature 8 = .ok (.iload_n 2, 1) := by decide +kernel
theorem dX1_putTemperature_9 : decode cX1_putTemperature 9 = .ok (.iastore, 1) := by decide +kernel
theorem dX1_putTemperature_10 : decode cX1_putTemperature 10 = .ok (.return_, 1) := by decide +kernel
theorem dX1_exchange_0 : decode cX1_exchange 0 = .ok (.aload_n 0, 1) := by decide +kernel
theorem dX1_exchange_1 : decode cX1_exchange 1 = .ok (.iload_n 1, 1) := by decide +kernel
theorem dX1_exchange_2 : decode cX1_exchange 2 = .ok (.invokevirtual 26, 3) := by decide +kernel
theorem dX1_exchange_5 : decode cX1_exchange 5 = .ok (.istore_n 3, 1) := by decide +kernel
theorem dX1_exchange_6 : decode cX1_exchange 6 = .ok (.aload_n 0, 1) := by decide +kernel
theorem dX1_exchange_7 : decode cX1_exchange 7 = .ok (.iload_n 1, 1) := by decide +kernel
theorem dX1_exchange_8 : decode cX1_exchange 8 = .ok (.aload_n 0, 1) := by decide +kernel
theorem dX1_exchange_9 : decode cX1_exchange 9 = .ok (.iload_n 2, 1) := by decide +kernel
theorem dX1_exchange_10 : decode cX1_exchange 10 = .ok (.invokevirtual 26, 3) := by decide +kernel
theorem dX1_exchange_13 : decode cX1_exchange 13 = .ok (.invokevirtual 30, 3) := by decide +kernel
theorem dX1_exchange_16 : decode cX1_exchange 16 = .ok (.aload_n 0, 1) := by decide +kernel
theorem dX1_exchange_17 : decode cX1_exchange 17 = .ok (.iload_n 2, 1) := by decide +kernel
theorem dX1_exchange_18 : decode cX1_exchange 18 = .ok (.iload_n 3, 1) := by decide +kernel
theorem dX1_exchange_19 : decode cX1_exchange 19 = .ok (.invokevirtual 30, 3) := by decide +kernel
theorem dX1_exchange_22 : decode cX1_exchange 22 = .ok (.return_, 1) := by decide +kernel
theorem dX1_clockPeriod_0 : decode cX1_clockPeriod 0 = .ok (.aload_n 0, 1) := by decide +kernel
theorem dX1_clockPeriod_1 : decode cX1_clockPeriod 1 = .ok (.getfield 34, 3) := by decide +kernel
theorem dX1_clockPeriod_4 : decode cX1_clockPeriod 4 = .ok (.ifCond .eq 17, 3) := by decide +kernel
theorem dX1_clockPeriod_7 : decode cX1_clockPeriod 7 = .ok (.aload_n 0, 1) := by decide +kernel
theorem dX1_clockPeriod_8 : decode cX1_clockPeriod 8 = .ok (.getfield 15, 3) := by decide +kernel
theorem dX1_clockPeriod_11 : decode cX1_clockPeriod 11 = .ok (.invokestatic 38, 3) := by decide +kernel
theorem dX1_clockPeriod_14 : decode cX1_clockPeriod 14 = .ok (.sipush 640, 3) := by decide +kernel
theorem dX1_clockPeriod_17 : decode cX1_clockPeriod 17 = .ok (.idiv, 1) := by decide +kernel
theorem dX1_clockPeriod_18 : decode cX1_clockPeriod 18 = .ok (.goto 7, 3) := by decide +kernel
theorem dX1_clockPeriod_21 : decode cX1_clockPeriod 21 = .ok (.aload_n 0, 1) := by decide +kernel
theorem dX1_clockPeriod_22 : decode cX1_clockPeriod 22 = .ok (.getfield 23, 3) := by decide +kernel
theorem dX1_clockPeriod_25 : decode cX1_clockPeriod 25 = .ok (.ireturn, 1) := by decide +kernel
theorem dX1_drift_0 : decode cX1_drift 0 = .ok (.iconst 0, 1) := by decide +kernel
theorem dX1_drift_1 : decode cX1_drift 1 = .ok (.istore_n 1, 1) := by decide +kernel
theorem dX1_drift_2 : decode cX1_drift 2 = .ok (.iload_n 1, 1) := by decide +kernel
theorem dX1_drift_3 : decode cX1_drift 3 = .ok (.bipush 8, 2) := by decide +kernel
theorem dX1_drift_5 : decode cX1_drift 5 = .ok (.if_icmp .ge 31, 3) := by decide +kernel
theorem dX1_drift_8 : decode cX1_drift 8 = .ok (.aload_n 0, 1) := by decide +kernel
theorem dX1_drift_9 : decode cX1_drift 9 = .ok (.iload_n 1, 1) := by decide +kernel
theorem dX1_drift_10 : decode cX1_drift 10 = .ok (.invokevirtual 26, 3) := by decide +kernel
theorem dX1_drift_13 : decode cX1_drift 13 = .ok (.istore_n 2, 1) := by decide +kernel
theorem dX1_drift_14 : decode cX1_drift 14 = .ok (.aload_n 0, 1) := by decide +kernel
theorem dX1_drift_15 : decode cX1_drift 15 = .ok (.iload_n 1, 1) := by decide +kernel
theorem dX1_drift_16 : decode cX1_drift 16 = .ok (.iload_n 2, 1) := by decide +kernel
theorem dX1_drift_17 : decode cX1_drift 17 = .ok (.aload_n 0, 1) := by decide +kernel
theorem dX1_drift_18 : decode cX1_drift 18 = .ok (.getfield 19, 3) := by decide +kernel
theorem dX1_drift_21 : decode cX1_drift 21 = .ok (.iload_n 2, 1) := by decide +kernel
theorem dX1_drift_22 : decode cX1_drift 22 = .ok (.isub, 1) := by decide +kernel
theorem dX1_drift_23 : decode cX1_drift 23 = .ok (.bipush 8, 2) := by decide +kernel
theorem dX1_drift_25 : decode cX1_drift 25 = .ok (.idiv, 1) := by decide +kernel
theorem dX1_drift_26 : decode cX1_drift 26 = .ok (.iadd, 1) := by decide +kernel
theorem dX1_drift_27 : decode cX1_drift 27 = .ok (.invokevirtual 30, 3) := by decide +kernel
theorem dX1_drift_30 : decode cX1_drift 30 = .ok (.iinc 1 1, 3) := by decide +kernel
theorem dX1_drift_33 : decode cX1_drift 33 = .ok (.goto (-31), 3) := by decide +kernel
theorem dX1_drift_36 : decode cX1_drift 36 = .ok (.aload_n 0, 1) := by decide +kernel
theorem dX1_drift_37 : decode cX1_drift 37 = .ok (.dup, 1) := by decide +kernel
theorem dX1_drift_38 : decode cX1_drift 38 = .ok (.getfield 15, 3) := by decide +kernel
theorem dX1_drift_41 : decode cX1_drift 41 = .ok (.aload_n 0, 1) := by decide +kernel
theorem dX1_drift_42 : decode cX1_drift 42 = .ok (.getfield 19, 3) := by decide +kernel
theorem dX1_drift_45 : decode cX1_drift 45 = .ok (.aload_n 0, 1) := by decide +kernel
theorem dX1_drift_46 : decode cX1_drift 46 = .ok (.getfield 15, 3) := by decide +kernel
theorem dX1_drift_49 : decode cX1_drift 49 = .ok (.isub, 1) := by decide +kernel
theorem dX1_drift_50 : decode cX1_drift 50 = .ok (.bipush 8, 2) := by decide +kernel
theorem dX1_drift_52 : decode cX1_drift 52 = .ok (.idiv, 1) := by decide +kernel
theorem dX1_drift_53 : decode cX1_drift 53 = .ok (.iadd, 1) := by decide +kernel
theorem dX1_drift_54 : decode cX1_drift 54 = .ok (.putfield 15, 3) := by decide +kernel
theorem dX1_drift_57 : decode cX1_drift 57 = .ok (.return_, 1) := by decide +kernel
theorem dX1_copyFrom_0 : decode cX1_copyFrom 0 = .ok (.aload_n 1, 1) := by decide +kernel
theorem dX1_copyFrom_1 : decode cX1_copyFrom 1 = .ok (.getfield 9, 3) := by decide +kernel
theorem dX1_copyFrom_4 : decode cX1_copyFrom 4 = .ok (.aload_n 0, 1) := by decide +kernel
theorem dX1_copyFrom_5 : decode cX1_copyFrom 5 = .ok (.getfield 9, 3) := by decide +kernel
theorem dX1_copyFrom_8 : decode cX1_copyFrom 8 = .ok (.invokestatic 49, 3) := by decide +kernel
theorem dX1_copyFrom_11 : decode cX1_copyFrom 11 = .ok (.aload_n 0, 1) := by decide +kernel
theorem dX1_copyFrom_12 : decode cX1_copyFrom 12 = .ok (.aload_n 1, 1) := by decide +kernel
theorem dX1_copyFrom_13 : decode cX1_copyFrom 13 = .ok (.getfield 15, 3) := by decide +kernel
theorem dX1_copyFrom_16 : decode cX1_copyFrom 16 = .ok (.putfield 15, 3) := by decide +kernel
theorem dX1_copyFrom_19 : decode cX1_copyFrom 19 = .ok (.aload_n 0, 1) := by decide +kernel
theorem dX1_copyFrom_20 : decode cX1_copyFrom 20 = .ok (.aload_n 1, 1) := by decide +kernel
theorem dX1_copyFrom_21 : decode cX1_copyFrom 21 = .ok (.getfield 19, 3) := by decide +kernel
theorem dX1_copyFrom_24 : decode cX1_copyFrom 24 = .ok (.putfield 19, 3) := by decide +kernel
theorem dX1_copyFrom_27 : decode cX1_copyFrom 27 = .ok (.aload_n 0, 1) := by decide +kernel
theorem dX1_copyFrom_28 : decode cX1_copyFrom 28 = .ok (.aload_n 1, 1) := by decide +kernel
theorem dX1_copyFrom_29 : decode cX1_copyFrom 29 = .ok (.getfield 23, 3) := by decide +kernel
theorem dX1_copyFrom_32 : decode cX1_copyFrom 32 = .ok (.putfield 23, 3) := by decide +kernel
theorem dX1_copyFrom_35 : decode cX1_copyFrom 35 = .ok (.aload_n 0, 1) := by decide +kernel
theorem dX1_copyFrom_36 : decode cX1_copyFrom 36 = .ok (.aload_n 1, 1) := by decide +kernel
theorem dX1_copyFrom_37 : decode cX1_copyFrom 37 = .ok (.getfield 34, 3) := by decide +kernel
theorem dX1_copyFrom_40 : decode cX1_copyFrom 40 = .ok (.putfield 34, 3) := by decide +kernel
theorem dX1_copyFrom_43 : decode cX1_copyFrom 43 = .ok (.return_, 1) := by decide +kernel
theorem dX2_init_0 : decode cX2_init 0 = .ok (.aload_n 0, 1) := by decide +kernel
theorem dX2_init_1 : decode cX2_init 1 = .ok (.invokespecial 3, 3) := by decide +kernel
theorem dX2_init_4 : decode cX2_init 4 = .ok (.aload_n 0, 1) := by decide +kernel
theorem dX2_init_5 : decode cX2_init 5 = .ok (.new 9, 3) := by decide +kernel
theorem dX2_init_8 : decode cX2_init 8 = .ok (.dup, 1) := by decide +kernel
theorem dX2_init_9 : decode cX2_init 9 = .ok (.invokespecial 11, 3) := by decide +kernel
theorem dX2_init_12 : decode cX2_init 12 = .ok (.putfield 12, 3) := by decide +kernel
theorem dX2_init_15 : decode cX2_init 15 = .ok (.aload_n 0, 1) := by decide +kernel
theorem dX2_init_16 : decode cX2_init 16 = .ok (.new 18, 3) := by decide +kernel
theorem dX2_init_19 : decode cX2_init 19 = .ok (.dup, 1) := by decide +kernel
theorem dX2_init_20 : decode cX2_init 20 = .ok (.invokespecial 20, 3) := by decide +kernel
theorem dX2_init_23 : decode cX2_init 23 = .ok (.putfield 21, 3) := by decide +kernel
theorem dX2_init_26 : decode cX2_init 26 = .ok (.aload_n 0, 1) := by decide +kernel
theorem dX2_init_27 : decode cX2_init 27 = .ok (.new 25, 3) := by decide +kernel
theorem dX2_init_30 : decode cX2_init 30 = .ok (.dup, 1) := by decide +kernel
theorem dX2_init_31 : decode cX2_init 31 = .ok (.invokespecial 27, 3) := by decide +kernel
theorem dX2_init_34 : decode cX2_init 34 = .ok (.putfield 28, 3) := by decide +kernel
theorem dX2_init_37 : decode cX2_init 37 = .ok (.aload_n 0, 1) := by decide +kernel
theorem dX2_init_38 : decode cX2_init 38 = .ok (.new 25, 3) := by decide +kernel
theorem dX2_init_41 : decode cX2_init 41 = .ok (.dup, 1) := by decide +kernel
theorem dX2_init_42 : decode cX2_init 42 = .ok (.invokespecial 27, 3) := by decide +kernel
theorem dX2_init_45 : decode cX2_init 45 = .ok (.putfield 32, 3) := by decide +kernel
theorem dX2_init_48 : decode cX2_init 48 = .ok (.aload_n 0, 1) := by decide +kernel
theorem dX2_init_49 : decode cX2_init 49 = .ok (.sipush 256, 3) := by decide +kernel
theorem dX2_init_52 : decode cX2_init 52 = .ok (.newarray .int, 2) := by decide +kernel
theorem dX2_init_54 : decode cX2_init 54 = .ok (.putfield 35, 3) := by decide +kernel
theorem dX2_init_57 : decode cX2_init 57 = .ok (.aload_n 0, 1) := by decide +kernel
theorem dX2_init_58 : decode cX2_init 58 = .ok (.iconst 1, 1) := by decide +kernel
theorem dX2_init_59 : decode cX2_init 59 = .ok (.putfield 39, 3) := by decide +kernel
theorem dX2_init_62 : decode cX2_init 62 = .ok (.return_, 1) := by decide +kernel
theorem dX2_makeReadyAt_0 : decode cX2_makeReadyAt 0 = .ok (.aload_n 0, 1) := by decide +kernel
theorem dX2_makeReadyAt_1 : decode cX2_makeReadyAt 1 = .ok (.iload_n 1, 1) := by decide +kernel
theorem dX2_makeReadyAt_2 : decode cX2_makeReadyAt 2 = .ok (.putfield 43, 3) := by decide +kernel
theorem dX2_makeReadyAt_5 : decode cX2_makeReadyAt 5 = .ok (.aload_n 0, 1) := by decide +kernel
theorem dX2_makeReadyAt_6 : decode cX2_makeReadyAt 6 = .ok (.iconst 0, 1) := by decide +kernel
theorem dX2_makeReadyAt_7 : decode cX2_makeReadyAt 7 = .ok (.putfield 39, 3) := by decide +kernel
theorem dX2_makeReadyAt_10 : decode cX2_makeReadyAt 10 = .ok (.return_, 1) := by decide +kernel
theorem dX2_executedCountAt_0 : decode cX2_executedCountAt 0 = .ok (.aload_n 0, 1) := by decide +kernel
theorem dX2_executedCountAt_1 : decode cX2_executedCountAt 1 = .ok (.getfield 35, 3) := by decide +kernel
theorem dX2_executedCountAt_4 : decode cX2_executedCountAt 4 = .ok (.iload_n 1, 1) := by decide +kernel
theorem dX2_executedCountAt_5 : decode cX2_executedCountAt 5 = .ok (.sipush 255, 3) := by decide +kernel
theorem dX2_executedCountAt_8 : decode cX2_executedCountAt 8 = .ok (.iand, 1) := by decide +kernel
theorem dX2_executedCountAt_9 : decode cX2_executedCountAt 9 = .ok (.iaload, 1) := by decide +kernel
theorem dX2_executedCountAt_10 : decode cX2_executedCountAt 10 = .ok (.ireturn, 1) := by decide +kernel
theorem dX2_executeUpTo_0 : decode cX2_executeUpTo 0 = .ok (.aload_n 0, 1) := by decide +kernel
theorem dX2_executeUpTo_1 : decode cX2_executeUpTo 1 = .ok (.getfield 46, 3) := by decide +kernel
theorem dX2_executeUpTo_4 : decode cX2_executeUpTo 4 = .ok (.istore_n 2, 1) := by decide +kernel
theorem dX2_executeUpTo_5 : decode cX2_executeUpTo 5 = .ok (.iconst 0, 1) := by decide +kernel
theorem dX2_executeUpTo_6 : decode cX2_executeUpTo 6 = .ok (.istore_n 3, 1) := by decide +kernel
theorem dX2_executeUpTo_7 : decode cX2_executeUpTo 7 = .ok (.iload_n 3, 1) := by decide +kernel
theorem dX2_executeUpTo_8 : decode cX2_executeUpTo 8 = .ok (.iload_n 1, 1) := by decide +kernel
theorem dX2_executeUpTo_9 : decode cX2_executeUpTo 9 = .ok (.if_icmp .ge 20, 3) := by decide +kernel
theorem dX2_executeUpTo_12 : decode cX2_executeUpTo 12 = .ok (.aload_n 0, 1) := by decide +kernel
theorem dX2_executeUpTo_13 : decode cX2_executeUpTo 13 = .ok (.getfield 39, 3) := by decide +kernel
theorem dX2_executeUpTo_16 : decode cX2_executeUpTo 16 = .ok (.ifCond .ne 13, 3) := by decide +kernel
theorem dX2_executeUpTo_19 : decode cX2_executeUpTo 19 = .ok (.aload_n 0, 1) := by decide +kernel
theorem dX2_executeUpTo_20 : decode cX2_executeUpTo 20 = .ok (.invokevirtual 49, 3) := by decide +kernel
theorem dX2_executeUpTo_23 : decode cX2_executeUpTo 23 = .ok (.iinc 3 1, 3) := by decide +kernel
theorem dX2_executeUpTo_26 : decode cX2_executeUpTo 26 = .ok (.goto (-19), 3) := by decide +kernel
theorem dX2_executeUpTo_29 : decode cX2_executeUpTo 29 = .ok (.aload_n 0, 1) := by decide +kernel
theorem dX2_executeUpTo_30 : decode cX2_executeUpTo 30 = .ok (.getfield 46, 3) := by decide +kernel
theorem dX2_executeUpTo_33 : decode cX2_executeUpTo 33 = .ok (.iload_n 2, 1) := by decide +kernel
theorem dX2_executeUpTo_34 : decode cX2_executeUpTo 34 = .ok (.isub, 1) := by decide +kernel
theorem dX2_executeUpTo_35 : decode cX2_executeUpTo 35 = .ok (.ireturn, 1) := by decide +kernel
theorem dX2_executeNext_0 : decode cX2_executeNext 0 = .ok (.aload_n 0, 1) := by decide +kernel
theorem dX2_executeNext_1 : decode cX2_executeNext 1 = .ok (.aload_n 0, 1) := by decide +kernel
theorem dX2_executeNext_2 : decode cX2_executeNext 2 = .ok (.getfield 43, 3) := by decide +kernel
theorem dX2_executeNext_5 : decode cX2_executeNext 5 = .ok (.invokevirtual 52, 3) := by decide +kernel
theorem dX2_executeNext_8 : decode cX2_executeNext 8 = .ok (.aload_n 0, 1) := by decide +kernel
theorem dX2_executeNext_9 : decode cX2_executeNext 9 = .ok (.getfield 12, 3) := by decide +kernel
theorem dX2_executeNext_12 : decode cX2_executeNext 12 = .ok (.aload_n 0, 1) := by decide +kernel
theorem dX2_executeNext_13 : decode cX2_executeNext 13 = .ok (.getfield 43, 3) := by decide +kernel
theorem dX2_executeNext_16 : decode cX2_executeNext 16 = .ok (.invokevirtual 56, 3) := by decide +kernel
theorem dX2_executeNext_19 : decode cX2_executeNext 19 = .ok (.istore_n 1, 1) := by decide +kernel
theorem dX2_executeNext_20 : decode cX2_executeNext 20 = .ok (.aload_n 0, 1) := by decide +kernel
theorem dX2_executeNext_21 : decode cX2_executeNext 21 = .ok (.iconst 1, 1) := by decide +kernel
theorem dX2_executeNext_22 : decode cX2_executeNext 22 = .ok (.invokevirtual 60, 3) := by decide +kernel
theorem dX2_executeNext_25 : decode cX2_executeNext 25 = .ok (.iload_n 1, 1) := by decide +kernel
theorem dX2_executeNext_26 : decode cX2_executeNext 26 = .ok (.invokestatic 63, 3) := by decide +kernel
theorem dX2_executeNext_29 : decode cX2_executeNext 29 = .ok (.istore_n 2, 1) := by decide +kernel
theorem dX2_executeNext_30 : decode cX2_executeNext 30 = .ok (.iload_n 2, 1) := by decide +kernel
theorem dX2_executeNext_31 : decode cX2_executeNext 31 = .ok (.bipush 13, 2) := by decide +kernel
theorem dX2_executeNext_33 : decode cX2_executeNext 33 = .ok (.if_icmp .ne 19, 3) := by decide +kernel
theorem dX2_executeNext_36 : decode cX2_executeNext 36 = .ok (.aload_n 0, 1) := by decide +kernel
theorem dX2_executeNext_37 : decode cX2_executeNext 37 = .ok (.getfield 28, 3) := by decide +kernel
theorem dX2_executeNext_40 : decode cX2_executeNext 40 = .ok (.getfield 68, 3) := by decide +kernel
theorem dX2_executeNext_43 : decode cX2_executeNext 43 = .ok (.ifCond .ne 9, 3) := by decide +kernel
theorem dX2_executeNext_46 : decode cX2_executeNext 46 = .ok (.aload_n 0, 1) := by decide +kernel
theorem dX2_executeNext_47 : decode cX2_executeNext 47 = .ok (.iconst 2, 1) := by decide +kernel
theorem dX2_executeNext_48 : decode cX2_executeNext 48 = .ok (.putfield 39, 3) := by decide +kernel
theorem dX2_executeNext_51 : decode cX2_executeNext 51 = .ok (.return_, 1) := by decide +kernel
theorem dX2_executeNext_52 : decode cX2_executeNext 52 = .ok (.iload_n 2, 1) := by decide +kernel
theorem dX2_executeNext_53 : decode cX2_executeNext 53 = .ok (.bipush 14, 2) := by decide +kernel
theorem dX2_executeNext_55 : decode cX2_executeNext 55 = .ok (.if_icmp .ne 19, 3) := by decide +kernel
theorem dX2_executeNext_58 : decode cX2_executeNext 58 = .ok (.aload_n 0, 1) := by decide +kernel
theorem dX2_executeNext_59 : decode cX2_executeNext 59 = .ok (.getfield 32, 3) := by decide +kernel
theorem dX2_executeNext_62 : decode cX2_executeNext 62 = .ok (.invokevirtual 71, 3) := by decide +kernel
theorem dX2_executeNext_65 : decode cX2_executeNext 65 = .ok (.ifCond .eq 9, 3) := by decide +kernel
theorem dX2_executeNext_68 : decode cX2_executeNext 68 = .ok (.aload_n 0, 1) := by decide +kernel
theorem dX2_executeNext_69 : decode cX2_executeNext 69 = .ok (.iconst 3, 1) := by decide +kernel
theorem dX2_executeNext_70 : decode cX2_executeNext 70 = .ok (.putfield 39, 3) := by decide +kernel
theorem dX2_executeNext_73 : decode cX2_executeNext 73 = .ok (.return_, 1) := by decide +kernel
theorem dX2_executeNext_74 : decode cX2_executeNext 74 = .ok (.iload_n 1, 1) := by decide +kernel
theorem dX2_executeNext_75 : decode cX2_executeNext 75 = .ok (.invokestatic 75, 3) := by decide +kernel
theorem dX2_executeNext_78 : decode cX2_executeNext 78 = .ok (.istore_n 3, 1) := by decide +kernel
theorem dX2_executeNext_79 : decode cX2_executeNext 79 = .ok (.iload_n 2, 1) := by decide +kernel
theorem dX2_executeNext_80 : decode cX2_executeNext 80 = .ok (.invokestatic 78, 3) := by decide +kernel
theorem dX2_executeNext_83 : decode cX2_executeNext 83 = .ok (.ifCond .eq 8, 3) := by decide +kernel
theorem dX2_executeNext_86 : decode cX2_executeNext 86 = .ok (.aload_n 0, 1) := by decide +kernel
theorem dX2_executeNext_87 : decode cX2_executeNext 87 = .ok (.iload_n 3, 1) := by decide +kernel
theorem dX2_executeNext_88 : decode cX2_executeNext 88 = .ok (.invokevirtual 52, 3) := by decide +kernel
theorem dX2_executeNext_91 : decode cX2_executeNext 91 = .ok (.aload_n 0, 1) := by decide +kernel
theorem dX2_executeNext_92 : decode cX2_executeNext 92 = .ok (.iload_n 2, 1) := by decide +kernel
theorem dX2_executeNext_93 : decode cX2_executeNext 93 = .ok (.invokevirtual 82, 3) := by decide +kernel
theorem dX2_executeNext_96 : decode cX2_executeNext 96 = .ok (.istore 4, 2) := by decide +kernel
theorem dX2_executeNext_98 : decode cX2_executeNext 98 = .ok (.aload_n 0, 1) := by decide +kernel
theorem dX2_executeNext_99 : decode cX2_executeNext 99 = .ok (.iload_n 2, 1) := by decide +kernel
theorem dX2_executeNext_100 : decode cX2_executeNext 100 = .ok (.iload_n 3, 1) := by decide +kernel
theorem dX2_executeNext_101 : decode cX2_executeNext 101 = .ok (.invokevirtual 85, 3) := by decide +kernel
theorem dX2_executeNext_104 : decode cX2_executeNext 104 = .ok (.iload_n 2, 1) := by decide +kernel
theorem dX2_executeNext_105 : decode cX2_executeNext 105 = .ok (.bipush 15, 2) := by decide +kernel
theorem dX2_executeNext_107 : decode cX2_executeNext 107 = .ok (.if_icmp .ne 29, 3) := by decide +kernel
theorem dX2_executeNext_110 : decode cX2_executeNext 110 = .ok (.aload_n 0, 1) := by decide +kernel
theorem dX2_executeNext_111 : decode cX2_executeNext 111 = .ok (.bipush 32, 2) := by decide +kernel
theorem dX2_executeNext_113 : decode cX2_executeNext 113 = .ok (.invokevirtual 60, 3) := by decide +kernel
theorem dX2_executeNext_116 : decode cX2_executeNext 116 = .ok (.aload_n 0, 1) := by decide +kernel
theorem dX2_executeNext_117 : decode cX2_executeNext 117 = .ok (.getfield 12, 3) := by decide +kernel
theorem dX2_executeNext_120 : decode cX2_executeNext 120 = .ok (.iload_n 3, 1) := by decide +kernel
theorem dX2_executeNext_121 : decode cX2_executeNext 121 = .ok (.aload_n 0, 1) := by decide +kernel
theorem dX2_executeNext_122 : decode cX2_executeNext 122 = .ok (.getfield 89, 3) := by decide +kernel
theorem dX2_executeNext_125 : decode cX2_executeNext 125 = .ok (.invokevirtual 92, 3) := by decide +kernel
theorem dX2_executeNext_128 : decode cX2_executeNext 128 = .ok (.aload_n 0, 1) := by decide +kernel
theorem dX2_executeNext_129 : decode cX2_executeNext 129 = .ok (.iconst 1, 1) := by decide +kernel
theorem dX2_executeNext_130 : decode cX2_executeNext 130 = .ok (.invokevirtual 60, 3) := by decide +kernel
theorem dX2_executeNext_133 : decode cX2_executeNext 133 = .ok (.goto 11, 3) := by decide +kernel
theorem dX2_executeNext_136 : decode cX2_executeNext 136 = .ok (.aload_n 0, 1) := by decide +kernel
theorem dX2_executeNext_137 : decode cX2_executeNext 137 = .ok (.iload_n 1, 1) := by decide +kernel
theorem dX2_executeNext_138 : decode cX2_executeNext 138 = .ok (.invokestatic 95, 3) := by decide +kernel
theorem dX2_executeNext_141 : decode cX2_executeNext 141 = .ok (.invokevirtual 60, 3) := by decide +kernel
theorem dX2_executeNext_144 : decode cX2_executeNext 144 = .ok (.aload_n 0, 1) := by decide +kernel
theorem dX2_executeNext_145 : decode cX2_executeNext 145 = .ok (.dup, 1) := by decide +kernel
theorem dX2_executeNext_146 : decode cX2_executeNext 146 = .ok (.getfield 46, 3) := by decide +kernel
theorem dX2_executeNext_149 : decode cX2_executeNext 149 = .ok (.iconst 1, 1) := by decide +kernel
theorem dX2_executeNext_150 : decode cX2_executeNext 150 = .ok (.iadd, 1) := by decide +kernel
theorem dX2_executeNext_151 : decode cX2_executeNext 151 = .ok (.putfield 46, 3) := by decide +kernel
theorem dX2_executeNext_154 : decode cX2_executeNext 154 = .ok (.aload_n 0, 1) := by decide +kernel
theorem dX2_executeNext_155 : decode cX2_executeNext 155 = .ok (.getfield 35, 3) := by decide +kernel
theorem dX2_executeNext_158 : decode cX2_executeNext 158 = .ok (.aload_n 0, 1) := by decide +kernel
theorem dX2_executeNext_159 : decode cX2_executeNext 159 = .ok (.getfield 43, 3) := by decide +kernel
theorem dX2_executeNext_162 : decode cX2_executeNext 162 = .ok (.sipush 255, 3) := by decide +kernel
theorem dX2_executeNext_165 : decode cX2_executeNext 165 = .ok (.iand, 1) := by decide +kernel
theorem dX2_executeNext_166 : decode cX2_executeNext 166 = .ok (.dup2, 1) := by decide +kernel
theorem dX2_executeNext_167 : decode cX2_executeNext 167 = .ok (.iaload, 1) := by decide +kernel
theorem dX2_executeNext_168 : decode cX2_executeNext 168 = .ok (.iconst 1, 1) := by decide +kernel
theorem dX2_executeNext_169 : decode cX2_executeNext 169 = .ok (.iadd, 1) := by decide +kernel
theorem dX2_executeNext_170 : decode cX2_executeNext 170 = .ok (.iastore, 1) := by decide +kernel
theorem dX2_executeNext_171 : decode cX2_executeNext 171 = .ok (.aload_n 0, 1) := by decide +kernel
theorem dX2_executeNext_172 : decode cX2_executeNext 172 = .ok (.iload 4, 2) := by decide +kernel
theorem dX2_executeNext_174 : decode cX2_executeNext 174 = .ok (.ifCond .eq 7, 3) := by decide +kernel
theorem dX2_executeNext_177 : decode cX2_executeNext 177 = .ok (.iload_n 3, 1) := by decide +kernel
theorem dX2_executeNext_178 : decode cX2_executeNext 178 = .ok (.goto 7, 3) := by decide +kernel
theorem dX2_executeNext_181 : decode cX2_executeNext 181 = .ok (.iload_n 1, 1) := by decide +kernel
theorem dX2_executeNext_182 : decode cX2_executeNext 182 = .ok (.invokestatic 98, 3) := by decide +kernel
theorem dX2_executeNext_185 : decode cX2_executeNext 185 = .ok (.putfield 43, 3) := by decide +kernel
theorem dX2_executeNext_188 : decode cX2_executeNext 188 = .ok (.return_, 1) := by decide +kernel
theorem dX2_isJumpTaken_0 : decode cX2_isJumpTaken 0 = .ok (.iload_n 1, 1) := by decide +kernel
theorem dX2_isJumpTaken_1 : decode cX2_isJumpTaken 1 = .ok (.tableswitch 58 10 12 #[27, 40, 53], 27) := by decide +kernel
theorem dX2_isJumpTaken_28 : decode cX2_isJumpTaken 28 = .ok (.aload_n 0, 1) := by decide +kernel
theorem dX2_isJumpTaken_29 : decode cX2_isJumpTaken 29 = .ok (.getfield 89, 3) := by decide +kernel
theorem dX2_isJumpTaken_32 : decode cX2_isJumpTaken 32 = .ok (.ifCond .ge 7, 3) := by decide +kernel
theorem dX2_isJumpTaken_35 : decode cX2_isJumpTaken 35 = .ok (.iconst 1, 1) := by decide +kernel
theorem dX2_isJumpTaken_36 : decode cX2_isJumpTaken 36 = .ok (.goto 4, 3) := by decide +kernel
theorem dX2_isJumpTaken_39 : decode cX2_isJumpTaken 39 = .ok (.iconst 0, 1) := by decide +kernel
theorem dX2_isJumpTaken_40 : decode cX2_isJumpTaken 40 = .ok (.ireturn, 1) := by decide +kernel
theorem dX2_isJumpTaken_41 : decode cX2_isJumpTaken 41 = .ok (.aload_n 0, 1) := by decide +kernel
theorem dX2_isJumpTaken_42 : decode cX2_isJumpTaken 42 = .ok (.getfield 89, 3) := by decide +kernel
theorem dX2_isJumpTaken_45 : decode cX2_isJumpTaken 45 = .ok (.ifCond .ne 7, 3) := by decide +kernel
theorem dX2_isJumpTaken_48 : decode cX2_isJumpTaken 48 = .ok (.iconst 1, 1) := by decide +kernel
theorem dX2_isJumpTaken_49 : decode cX2_isJumpTaken 49 = .ok (.goto 4, 3) := by decide +kernel
theorem dX2_isJumpTaken_52 : decode cX2_isJumpTaken 52 = .ok (.iconst 0, 1) := by decide +kernel
theorem dX2_isJumpTaken_53 : decode cX2_isJumpTaken 53 = .ok (.ireturn, 1) := by decide +kernel
theorem dX2_isJumpTaken_54 : decode cX2_isJumpTaken 54 = .ok (.aload_n 0, 1) := by decide +kernel
theorem dX2_isJumpTaken_55 : decode cX2_isJumpTaken 55 = .ok (.getfield 101, 3) := by decide +kernel
theorem dX2_isJumpTaken_58 : decode cX2_isJumpTaken 58 = .ok (.ireturn, 1) := by decide +kernel
theorem dX2_isJumpTaken_59 : decode cX2_isJumpTaken 59 = .ok (.iconst 0, 1) := by decide +kernel
theorem dX2_isJumpTaken_60 : decode cX2_isJumpTaken 60 = .ok (.ireturn, 1) := by decide +kernel
theorem dX2_perform_0 : decode cX2_perform 0 = .ok (.iload_n 1, 1) := by decide +kernel
theorem dX2_perform_1 : decode cX2_perform 1 = .ok (.tableswitch 170 0 14 #[75, 170, 83, 170, 170, 170, 170, 170, 98, 118, 170, 170, 134, 142, 156], 75) := by decide +kernel
theorem dX2_perform_76 : decode cX2_perform 76 = .ok (.aload_n 0, 1) := by decide +kernel
theorem dX2_perform_77 : decode cX2_perform 77 = .ok (.iconst 1, 1) := by decide +kernel
theorem dX2_perform_78 : decode cX2_perform 78 = .ok (.putfield 39, 3) := by decide +kernel
theorem dX2_perform_81 : decode cX2_perform 81 = .ok (.goto 103, 3) := by decide +kernel
theorem dX2_perform_84 : decode cX2_perform 84 = .ok (.aload_n 0, 1) := by decide +kernel
theorem dX2_perform_85 : decode cX2_perform 85 = .ok (.getfield 12, 3) := by decide +kernel
theorem dX2_perform_88 : decode cX2_perform 88 = .ok (.iload_n 2, 1) := by decide +kernel
theorem dX2_perform_89 : decode cX2_perform 89 = .ok (.aload_n 0, 1) := by decide +kernel
theorem dX2_perform_90 : decode cX2_perform 90 = .ok (.getfield 89, 3) := by decide +kernel
theorem dX2_perform_93 : decode cX2_perform 93 = .ok (.invokevirtual 92, 3) := by decide +kernel
theorem dX2_perform_96 : decode cX2_perform 96 = .ok (.goto 88, 3) := by decide +kernel
theorem dX2_perform_99 : decode cX2_perform 99 = .ok (.aload_n 0, 1) := by decide +kernel
theorem dX2_perform_100 : decode cX2_perform 100 = .ok (.aload_n 0, 1) := by decide +kernel
theorem dX2_perform_101 : decode cX2_perform 101 = .ok (.getfield 89, 3) := by decide +kernel
theorem dX2_perform_104 : decode cX2_perform 104 = .ok (.i2l, 1) := by decide +kernel
theorem dX2_perform_105 : decode cX2_perform 105 = .ok (.iload_n 2, 1) := by decide +kernel
theorem dX2_perform_106 : decode cX2_perform 106 = .ok (.invokestatic 105, 3) := by decide +kernel
theorem dX2_perform_109 : decode cX2_perform 109 = .ok (.lshl, 1) := by decide +kernel
theorem dX2_perform_110 : decode cX2_perform 110 = .ok (.invokestatic 108, 3) := by decide +kernel
theorem dX2_perform_113 : decode cX2_perform 113 = .ok (.putfield 89, 3) := by decide +kernel
theorem dX2_perform_116 : decode cX2_perform 116 = .ok (.goto 68, 3) := by decide +kernel
theorem dX2_perform_119 : decode cX2_perform 119 = .ok (.aload_n 0, 1) := by decide +kernel
theorem dX2_perform_120 : decode cX2_perform 120 = .ok (.aload_n 0, 1) := by decide +kernel
theorem dX2_perform_121 : decode cX2_perform 121 = .ok (.getfield 89, 3) := by decide +kernel
theorem dX2_perform_124 : decode cX2_perform 124 = .ok (.iload_n 2, 1) := by decide +kernel
theorem dX2_perform_125 : decode cX2_perform 125 = .ok (.invokestatic 105, 3) := by decide +kernel
theorem dX2_perform_128 : decode cX2_perform 128 = .ok (.ishr, 1) := by decide +kernel
theorem dX2_perform_129 : decode cX2_perform 129 = .ok (.putfield 89, 3) := by decide +kernel
theorem dX2_perform_132 : decode cX2_perform 132 = .ok (.goto 52, 3) := by decide +kernel
theorem dX2_perform_135 : decode cX2_perform 135 = .ok (.aload_n 0, 1) := by decide +kernel
theorem dX2_perform_136 : decode cX2_perform 136 = .ok (.iconst 0, 1) := by decide +kernel
theorem dX2_perform_137 : decode cX2_perform 137 = .ok (.putfield 101, 3) := by decide +kernel
theorem dX2_perform_140 : decode cX2_perform 140 = .ok (.goto 44, 3) := by decide +kernel
theorem dX2_perform_143 : decode cX2_perform 143 = .ok (.aload_n 0, 1) := by decide +kernel
theorem dX2_perform_144 : decode cX2_perform 144 = .ok (.aload_n 0, 1) := by decide +kernel
theorem dX2_perform_145 : decode cX2_perform 145 = .ok (.getfield 28, 3) := by decide +kernel
theorem dX2_perform_148 : decode cX2_perform 148 = .ok (.invokevirtual 112, 3) := by decide +kernel
theorem dX2_perform_151 : decode cX2_perform 151 = .ok (.putfield 89, 3) := by decide +kernel
theorem dX2_perform_154 : decode cX2_perform 154 = .ok (.goto 30, 3) := by decide +kernel
theorem dX2_perform_157 : decode cX2_perform 157 = .ok (.aload_n 0, 1) := by decide +kernel
theorem dX2_perform_158 : decode cX2_perform 158 = .ok (.getfield 32, 3) := by decide +kernel
theorem dX2_perform_161 : decode cX2_perform 161 = .ok (.aload_n 0, 1) := by decide +kernel
theorem dX2_perform_162 : decode cX2_perform 162 = .ok (.getfield 89, 3) := by decide +kernel
theorem dX2_perform_165 : decode cX2_perform 165 = .ok (.invokevirtual 116, 3) := by decide +kernel
theorem dX2_perform_168 : decode cX2_perform 168 = .ok (.goto 16, 3) := by decide +kernel
theorem dX2_perform_171 : decode cX2_perform 171 = .ok (.aload_n 0, 1) := by decide +kernel
theorem dX2_perform_172 : decode cX2_perform 172 = .ok (.iload_n 1, 1) := by decide +kernel
theorem dX2_perform_173 : decode cX2_perform 173 = .ok (.aload_n 0, 1) := by decide +kernel
theorem dX2_perform_174 : decode cX2_perform 174 = .ok (.getfield 12, 3) := by decide +kernel
theorem dX2_perform_177 : decode cX2_perform 177 = .ok (.iload_n 2, 1) := by decide +kernel
theorem dX2_perform_178 : decode cX2_perform 178 = .ok (.invokevirtual 56, 3) := by decide +kernel
theorem dX2_perform_181 : decode cX2_perform 181 = .ok (.invokevirtual 119, 3) := by decide +kernel
theorem dX2_perform_184 : decode cX2_perform 184 = .ok (.return_, 1) := by decide +kernel
theorem dX2_combine_0 : decode cX2_combine 0 = .ok (.iload_n 1, 1) := by decide +kernel
theorem dX2_combine_1 : decode cX2_combine 1 = .ok (.tableswitch 168 1 15 #[75, 168, 83, 98, 113, 126, 139, 168, 168, 168, 168, 168, 168, 168, 154], 75) := by decide +kernel
theorem dX2_combine_76 : decode cX2_combine 76 = .ok (.aload_n 0, 1) := by decide +kernel
theorem dX2_combine_77 : decode cX2_combine 77 = .ok (.iload_n 2, 1) := by decide +kernel
theorem dX2_combine_78 : decode cX2_combine 78 = .ok (.putfield 89, 3) := by decide +kernel
theorem dX2_combine_81 : decode cX2_combine 81 = .ok (.goto 88, 3) := by decide +kernel
theorem dX2_combine_84 : decode cX2_combine 84 = .ok (.aload_n 0, 1) := by decide +kernel
theorem dX2_combine_85 : decode cX2_combine 85 = .ok (.aload_n 0, 1) := by decide +kernel
theorem dX2_combine_86 : decode cX2_combine 86 = .ok (.getfield 89, 3) := by decide +kernel
theorem dX2_combine_89 : decode cX2_combine 89 = .ok (.i2l, 1) := by decide +kernel
theorem dX2_combine_90 : decode cX2_combine 90 = .ok (.iload_n 2, 1) := by decide +kernel
theorem dX2_combine_91 : decode cX2_combine 91 = .ok (.i2l, 1) := by decide +kernel
theorem dX2_combine_92 : decode cX2_combine 92 = .ok (.ladd, 1) := by decide +kernel
theorem dX2_combine_93 : decode cX2_combine 93 = .ok (.invokevirtual 122, 3) := by decide +kernel
theorem dX2_combine_96 : decode cX2_combine 96 = .ok (.goto 73, 3) := by decide +kernel
theorem dX2_combine_99 : decode cX2_combine 99 = .ok (.aload_n 0, 1) := by decide +kernel
theorem dX2_combine_100 : decode cX2_combine 100 = .ok (.aload_n 0, 1) := by decide +kernel
theorem dX2_combine_101 : decode cX2_combine 101 = .ok (.getfield 89, 3) := by decide +kernel
theorem dX2_combine_104 : decode cX2_combine 104 = .ok (.i2l, 1) := by decide +kernel
theorem dX2_combine_105 : decode cX2_combine 105 = .ok (.iload_n 2, 1) := by decide +kernel
theorem dX2_combine_106 : decode cX2_combine 106 = .ok (.i2l, 1) := by decide +kernel
theorem dX2_combine_107 : decode cX2_combine 107 = .ok (.lsub, 1) := by decide +kernel
theorem dX2_combine_108 : decode cX2_combine 108 = .ok (.invokevirtual 122, 3) := by decide +kernel
theorem dX2_combine_111 : decode cX2_combine 111 = .ok (.goto 58, 3) := by decide +kernel
theorem dX2_combine_114 : decode cX2_combine 114 = .ok (.aload_n 0, 1) := by decide +kernel
theorem dX2_combine_115 : decode cX2_combine 115 = .ok (.dup, 1) := by decide +kernel
theorem dX2_combine_116 : decode cX2_combine 116 = .ok (.getfield 89, 3) := by decide +kernel
theorem dX2_combine_119 : decode cX2_combine 119 = .ok (.iload_n 2, 1) := by decide +kernel
theorem dX2_combine_120 : decode cX2_combine 120 = .ok (.iand, 1) := by decide +kernel
theorem dX2_combine_121 : decode cX2_combine 121 = .ok (.putfield 89, 3) := by decide +kernel
theorem dX2_combine_124 : decode cX2_combine 124 = .ok (.goto 45, 3) := by decide +kernel
theorem dX2_combine_127 : decode cX2_combine 127 = .ok (.aload_n 0, 1) := by decide +kernel
theorem dX2_combine_128 : decode cX2_combine 128 = .ok (.dup, 1) := by decide +kernel
theorem dX2_combine_129 : decode cX2_combine 129 = .ok (.getfield 89, 3) := by decide +kernel
theorem dX2_combine_132 : decode cX2_combine 132 = .ok (.iload_n 2, 1) := by decide +kernel
theorem dX2_combine_133 : decode cX2_combine 133 = .ok (.ixor, 1) := by decide +kernel
theorem dX2_combine_134 : decode cX2_combine 134 = .ok (.putfield 89, 3) := by decide +kernel
theorem dX2_combine_137 : decode cX2_combine 137 = .ok (.goto 32, 3) := by decide +kernel
theorem dX2_combine_140 : decode cX2_combine 140 = .ok (.aload_n 0, 1) := by decide +kernel
theorem dX2_combine_141 : decode cX2_combine 141 = .ok (.aload_n 0, 1) := by decide +kernel
theorem dX2_combine_142 : decode cX2_combine 142 = .ok (.getfield 89, 3) := by decide +kernel
theorem dX2_combine_145 : decode cX2_combine 145 = .ok (.i2l, 1) := by decide +kernel
theorem dX2_combine_146 : decode cX2_combine 146 = .ok (.iload_n 2, 1) := by decide +kernel
theorem dX2_combine_147 : decode cX2_combine 147 = .ok (.i2l, 1) := by decide +kernel
theorem dX2_combine_148 : decode cX2_combine 148 = .ok (.lmul, 1) := by decide +kernel
theorem dX2_combine_149 : decode cX2_combine 149 = .ok (.invokevirtual 122, 3) := by decide +kernel
theorem dX2_combine_152 : decode cX2_combine 152 = .ok (.goto 17, 3) := by decide +kernel
theorem dX2_combine_155 : decode cX2_combine 155 = .ok (.aload_n 0, 1) := by decide +kernel
theorem dX2_combine_156 : decode cX2_combine 156 = .ok (.iload_n 2, 1) := by decide +kernel
theorem dX2_combine_157 : decode cX2_combine 157 = .ok (.i2l, 1) := by decide +kernel
theorem dX2_combine_158 : decode cX2_combine 158 = .ok (.lconst 1, 1) := by decide +kernel
theorem dX2_combine_159 : decode cX2_combine 159 = .ok (.lsub, 1) := by decide +kernel
theorem dX2_combine_160 : decode cX2_combine 160 = .ok (.invokestatic 108, 3) := by decide +kernel
theorem dX2_combine_163 : decode cX2_combine 163 = .ok (.putfield 89, 3) := by decide +kernel
theorem dX2_combine_166 : decode cX2_combine 166 = .ok (.goto 3, 3) := by decide +kernel
theorem dX2_combine_169 : decode cX2_combine 169 = .ok (.return_, 1) := by decide +kernel
theorem dX2_putResult_0 : decode cX2_putResult 0 = .ok (.aload_n 0, 1) := by decide +kernel
theorem dX2_putResult_1 : decode cX2_putResult 1 = .ok (.lload_n 1, 1) := by decide +kernel
theorem dX2_putResult_2 : decode cX2_putResult 2 = .ok (.invokestatic 108, 3) := by decide +kernel
theorem dX2_putResult_5 : decode cX2_putResult 5 = .ok (.putfield 89, 3) := by decide +kernel
theorem dX2_putResult_8 : decode cX2_putResult 8 = .ok (.aload_n 0, 1) := by decide +kernel
theorem dX2_putResult_9 : decode cX2_putResult 9 = .ok (.getfield 89, 3) := by decide +kernel
theorem dX2_putResult_12 : decode cX2_putResult 12 = .ok (.i2l, 1) := by decide +kernel
theorem dX2_putResult_13 : decode cX2_putResult 13 = .ok (.lload_n 1, 1) := by decide +kernel
theorem dX2_putResult_14 : decode cX2_putResult 14 = .ok (.lcmp, 1) := by decide +kernel
theorem dX2_putResult_15 : decode cX2_putResult 15 = .ok (.ifCond .eq 8, 3) := by decide +kernel
theorem dX2_putResult_18 : decode cX2_putResult 18 = .ok (.aload_n 0, 1) := by decide +kernel
theorem dX2_putResult_19 : decode cX2_putResult 19 = .ok (.iconst 1, 1) := by decide +kernel
theorem dX2_putResult_20 : decode cX2_putResult 20 = .ok (.putfield 101, 3) := by decide +kernel
theorem dX2_putResult_23 : decode cX2_putResult 23 = .ok (.return_, 1) := by decide +kernel
theorem dX2_awaitCycle_0 : decode cX2_awaitCycle 0 = .ok (.iload_n 1, 1) := by decide +kernel
theorem dX2_awaitCycle_1 : decode cX2_awaitCycle 1 = .ok (.aload_n 0, 1) := by decide +kernel
theorem dX2_awaitCycle_2 : decode cX2_awaitCycle 2 = .ok (.getfield 126, 3) := by decide +kernel
theorem dX2_awaitCycle_5 : decode cX2_awaitCycle 5 = .ok (.invokestatic 129, 3) := by decide +kernel
theorem dX2_awaitCycle_8 : decode cX2_awaitCycle 8 = .ok (.istore_n 2, 1) := by decide +kernel
theorem dX2_awaitCycle_9 : decode cX2_awaitCycle 9 = .ok (.aload_n 0, 1) := by decide +kernel
theorem dX2_awaitCycle_10 : decode cX2_awaitCycle 10 = .ok (.dup, 1) := by decide +kernel
theorem dX2_awaitCycle_11 : decode cX2_awaitCycle 11 = .ok (.getfield 133, 3) := by decide +kernel
theorem dX2_awaitCycle_14 : decode cX2_awaitCycle 14 = .ok (.iload_n 2, 1) := by decide +kernel
theorem dX2_awaitCycle_15 : decode cX2_awaitCycle 15 = .ok (.iadd, 1) := by decide +kernel
theorem dX2_awaitCycle_16 : decode cX2_awaitCycle 16 = .ok (.putfield 133, 3) := by decide +kernel
theorem dX2_awaitCycle_19 : decode cX2_awaitCycle 19 = .ok (.aload_n 0, 1) := by decide +kernel
theorem dX2_awaitCycle_20 : decode cX2_awaitCycle 20 = .ok (.iload_n 2, 1) := by decide +kernel
theorem dX2_awaitCycle_21 : decode cX2_awaitCycle 21 = .ok (.invokevirtual 60, 3) := by decide +kernel
theorem dX2_awaitCycle_24 : decode cX2_awaitCycle 24 = .ok (.return_, 1) := by decide +kernel
theorem dX2_pass_0 : decode cX2_pass 0 = .ok (.aload_n 0, 1) := by decide +kernel
theorem dX2_pass_1 : decode cX2_pass 1 = .ok (.getfield 126, 3) := by decide +kernel
theorem dX2_pass_4 : decode cX2_pass 4 = .ok (.iload_n 1, 1) := by decide +kernel
theorem dX2_pass_5 : decode cX2_pass 5 = .ok (.iadd, 1) := by decide +kernel
theorem dX2_pass_6 : decode cX2_pass 6 = .ok (.istore_n 2, 1) := by decide +kernel
theorem dX2_pass_7 : decode cX2_pass 7 = .ok (.aload_n 0, 1) := by decide +kernel
theorem dX2_pass_8 : decode cX2_pass 8 = .ok (.getfield 126, 3) := by decide +kernel
theorem dX2_pass_11 : decode cX2_pass 11 = .ok (.bipush 32, 2) := by decide +kernel
theorem dX2_pass_13 : decode cX2_pass 13 = .ok (.idiv, 1) := by decide +kernel
theorem dX2_pass_14 : decode cX2_pass 14 = .ok (.iconst 1, 1) := by decide +kernel
theorem dX2_pass_15 : decode cX2_pass 15 = .ok (.iadd, 1) := by decide +kernel
theorem dX2_pass_16 : decode cX2_pass 16 = .ok (.istore_n 3, 1) := by decide +kernel
theorem dX2_pass_17 : decode cX2_pass 17 = .ok (.iload_n 3, 1) := by decide +kernel
theorem dX2_pass_18 : decode cX2_pass 18 = .ok (.iload_n 2, 1) := by decide +kernel
theorem dX2_pass_19 : decode cX2_pass 19 = .ok (.bipush 32, 2) := by decide +kernel
theorem dX2_pass_21 : decode cX2_pass 21 = .ok (.idiv, 1) := by decide +kernel
theorem dX2_pass_22 : decode cX2_pass 22 = .ok (.if_icmp .gt 14, 3) := by decide +kernel
theorem dX2_pass_25 : decode cX2_pass 25 = .ok (.aload_n 0, 1) := by decide +kernel
theorem dX2_pass_26 : decode cX2_pass 26 = .ok (.iload_n 3, 1) := by decide +kernel
theorem dX2_pass_27 : decode cX2_pass 27 = .ok (.invokevirtual 136, 3) := by decide +kernel
theorem dX2_pass_30 : decode cX2_pass 30 = .ok (.iinc 3 1, 3) := by decide +kernel
theorem dX2_pass_33 : decode cX2_pass 33 = .ok (.goto (-16), 3) := by decide +kernel
theorem dX2_pass_36 : decode cX2_pass 36 = .ok (.aload_n 0, 1) := by decide +kernel
theorem dX2_pass_37 : decode cX2_pass 37 = .ok (.iload_n 2, 1) := by decide +kernel
theorem dX2_pass_38 : decode cX2_pass 38 = .ok (.putfield 126, 3) := by decide +kernel
theorem dX2_pass_41 : decode cX2_pass 41 = .ok (.return_, 1) := by decide +kernel
theorem dX2_endMajorCycle_0 : decode cX2_endMajorCycle 0 = .ok (.aload_n 0, 1) := by decide +kernel
theorem dX2_endMajorCycle_1 : decode cX2_endMajorCycle 1 = .ok (.getfield 21, 3) := by decide +kernel
theorem dX2_endMajorCycle_4 : decode cX2_endMajorCycle 4 = .ok (.invokevirtual 139, 3) := by decide +kernel
theorem dX2_endMajorCycle_7 : decode cX2_endMajorCycle 7 = .ok (.istore_n 2, 1) := by decide +kernel
theorem dX2_endMajorCycle_8 : decode cX2_endMajorCycle 8 = .ok (.iload_n 2, 1) := by decide +kernel
theorem dX2_endMajorCycle_9 : decode cX2_endMajorCycle 9 = .ok (.ifCond .gt 4, 3) := by decide +kernel
theorem dX2_endMajorCycle_12 : decode cX2_endMajorCycle 12 = .ok (.return_, 1) := by decide +kernel
theorem dX2_endMajorCycle_13 : decode cX2_endMajorCycle 13 = .ok (.iconst 0, 1) := by decide +kernel
theorem dX2_endMajorCycle_14 : decode cX2_endMajorCycle 14 = .ok (.istore_n 3, 1) := by decide +kernel
theorem dX2_endMajorCycle_15 : decode cX2_endMajorCycle 15 = .ok (.iload_n 3, 1) := by decide +kernel
theorem dX2_endMajorCycle_16 : decode cX2_endMajorCycle 16 = .ok (.bipush 8, 2) := by decide +kernel
theorem dX2_endMajorCycle_18 : decode cX2_endMajorCycle 18 = .ok (.if_icmp .ge 79, 3) := by decide +kernel
theorem dX2_endMajorCycle_21 : decode cX2_endMajorCycle 21 = .ok (.aload_n 0, 1) := by decide +kernel
theorem dX2_endMajorCycle_22 : decode cX2_endMajorCycle 22 = .ok (.getfield 21, 3) := by decide +kernel
theorem dX2_endMajorCycle_25 : decode cX2_endMajorCycle 25 = .ok (.iload_n 3, 1) := by decide +kernel
theorem dX2_endMajorCycle_26 : decode cX2_endMajorCycle 26 = .ok (.invokevirtual 142, 3) := by decide +kernel
theorem dX2_endMajorCycle_29 : decode cX2_endMajorCycle 29 = .ok (.iload_n 2, 1) := by decide +kernel
theorem dX2_endMajorCycle_30 : decode cX2_endMajorCycle 30 = .ok (.invokestatic 145, 3) := by decide +kernel
theorem dX2_endMajorCycle_33 : decode cX2_endMajorCycle 33 = .ok (.istore 4, 2) := by decide +kernel
theorem dX2_endMajorCycle_35 : decode cX2_endMajorCycle 35 = .ok (.iload 4, 2) := by decide +kernel
theorem dX2_endMajorCycle_37 : decode cX2_endMajorCycle 37 = .ok (.iload_n 2, 1) := by decide +kernel
theorem dX2_endMajorCycle_38 : decode cX2_endMajorCycle 38 = .ok (.iconst 2, 1) := by decide +kernel
theorem dX2_endMajorCycle_39 : decode cX2_endMajorCycle 39 = .ok (.idiv, 1) := by decide +kernel
theorem dX2_endMajorCycle_40 : decode cX2_endMajorCycle 40 = .ok (.iadd, 1) := by decide +kernel
theorem dX2_endMajorCycle_41 : decode cX2_endMajorCycle 41 = .ok (.iload_n 2, 1) := by decide +kernel
theorem dX2_endMajorCycle_42 : decode cX2_endMajorCycle 42 = .ok (.invokestatic 148, 3) := by decide +kernel
theorem dX2_endMajorCycle_45 : decode cX2_endMajorCycle 45 = .ok (.istore 5, 2) := by decide +kernel
theorem dX2_endMajorCycle_47 : decode cX2_endMajorCycle 47 = .ok (.aload_n 0, 1) := by decide +kernel
theorem dX2_endMajorCycle_48 : decode cX2_endMajorCycle 48 = .ok (.getfield 12, 3) := by decide +kernel
theorem dX2_endMajorCycle_51 : decode cX2_endMajorCycle 51 = .ok (.iload_n 3, 1) := by decide +kernel
theorem dX2_endMajorCycle_52 : decode cX2_endMajorCycle 52 = .ok (.iload 5, 2) := by decide +kernel
theorem dX2_endMajorCycle_54 : decode cX2_endMajorCycle 54 = .ok (.invokevirtual 153, 3) := by decide +kernel
theorem dX2_endMajorCycle_57 : decode cX2_endMajorCycle 57 = .ok (.iload 4, 2) := by decide +kernel
theorem dX2_endMajorCycle_59 : decode cX2_endMajorCycle 59 = .ok (.iload 5, 2) := by decide +kernel
theorem dX2_endMajorCycle_61 : decode cX2_endMajorCycle 61 = .ok (.iload_n 2, 1) := by decide +kernel
theorem dX2_endMajorCycle_62 : decode cX2_endMajorCycle 62 = .ok (.imul, 1) := by decide +kernel
theorem dX2_endMajorCycle_63 : decode cX2_endMajorCycle 63 = .ok (.isub, 1) := by decide +kernel
theorem dX2_endMajorCycle_64 : decode cX2_endMajorCycle 64 = .ok (.invokestatic 156, 3) := by decide +kernel
theorem dX2_endMajorCycle_67 : decode cX2_endMajorCycle 67 = .ok (.iload_n 2, 1) := by decide +kernel
theorem dX2_endMajorCycle_68 : decode cX2_endMajorCycle 68 = .ok (.iconst 4, 1) := by decide +kernel
theorem dX2_endMajorCycle_69 : decode cX2_endMajorCycle 69 = .ok (.idiv, 1) := by decide +kernel
theorem dX2_endMajorCycle_70 : decode cX2_endMajorCycle 70 = .ok (.if_icmp .le 21, 3) := by decide +kernel
theorem dX2_endMajorCycle_73 : decode cX2_endMajorCycle 73 = .ok (.aload_n 0, 1) := by decide +kernel
theorem dX2_endMajorCycle_74 : decode cX2_endMajorCycle 74 = .ok (.getfield 12, 3) := by decide +kernel
theorem dX2_endMajorCycle_77 : decode cX2_endMajorCycle 77 = .ok (.iload_n 3, 1) := by decide +kernel
theorem dX2_endMajorCycle_78 : decode cX2_endMajorCycle 78 = .ok (.bipush 7, 2) := by decide +kernel
theorem dX2_endMajorCycle_80 : decode cX2_endMajorCycle 80 = .ok (.iload_n 1, 1) := by decide +kernel
theorem dX2_endMajorCycle_81 : decode cX2_endMajorCycle 81 = .ok (.imul, 1) := by decide +kernel
theorem dX2_endMajorCycle_82 : decode cX2_endMajorCycle 82 = .ok (.iload_n 3, 1) := by decide +kernel
theorem dX2_endMajorCycle_83 : decode cX2_endMajorCycle 83 = .ok (.iadd, 1) := by decide +kernel
theorem dX2_endMajorCycle_84 : decode cX2_endMajorCycle 84 = .ok (.sipush 640, 3) := by decide +kernel
theorem dX2_endMajorCycle_87 : decode cX2_endMajorCycle 87 = .ok (.irem, 1) := by decide +kernel
theorem dX2_endMajorCycle_88 : decode cX2_endMajorCycle 88 = .ok (.invokevirtual 159, 3) := by decide +kernel
theorem dX2_endMajorCycle_91 : decode cX2_endMajorCycle 91 = .ok (.iinc 3 1, 3) := by decide +kernel
theorem dX2_endMajorCycle_94 : decode cX2_endMajorCycle 94 = .ok (.goto (-79), 3) := by decide +kernel
theorem dX2_endMajorCycle_97 : decode cX2_endMajorCycle 97 = .ok (.aload_n 0, 1) := by decide +kernel
theorem dX2_endMajorCycle_98 : decode cX2_endMajorCycle 98 = .ok (.getfield 21, 3) := by decide +kernel
theorem dX2_endMajorCycle_101 : decode cX2_endMajorCycle 101 = .ok (.invokevirtual 162, 3) := by decide +kernel
theorem dX2_endMajorCycle_104 : decode cX2_endMajorCycle 104 = .ok (.return_, 1) := by decide +kernel
theorem dX2_copyFrom_0 : decode cX2_copyFrom 0 = .ok (.aload_n 0, 1) := by decide +kernel
theorem dX2_copyFrom_1 : decode cX2_copyFrom 1 = .ok (.getfield 12, 3) := by decide +kernel
theorem dX2_copyFrom_4 : decode cX2_copyFrom 4 = .ok (.aload_n 1, 1) := by decide +kernel
theorem dX2_copyFrom_5 : decode cX2_copyFrom 5 = .ok (.getfield 12, 3) := by decide +kernel
theorem dX2_copyFrom_8 : decode cX2_copyFrom 8 = .ok (.invokevirtual 165, 3) := by decide +kernel
theorem dX2_copyFrom_11 : decode cX2_copyFrom 11 = .ok (.aload_n 0, 1) := by decide +kernel
theorem dX2_copyFrom_12 : decode cX2_copyFrom 12 = .ok (.getfield 21, 3) := by decide +kernel
theorem dX2_copyFrom_15 : decode cX2_copyFrom 15 = .ok (.aload_n 1, 1) := by decide +kernel
theorem dX2_copyFrom_16 : decode cX2_copyFrom 16 = .ok (.getfield 21, 3) := by decide +kernel
theorem dX2_copyFrom_19 : decode cX2_copyFrom 19 = .ok (.invokevirtual 169, 3) := by decide +kernel
theorem dX2_copyFrom_22 : decode cX2_copyFrom 22 = .ok (.aload_n 0, 1) := by decide +kernel
theorem dX2_copyFrom_23 : decode cX2_copyFrom 23 = .ok (.getfield 28, 3) := by decide +kernel
theorem dX2_copyFrom_26 : decode cX2_copyFrom 26 = .ok (.aload_n 1, 1) := by decide +kernel
theorem dX2_copyFrom_27 : decode cX2_copyFrom 27 = .ok (.getfield 28, 3) := by decide +kernel
theorem dX2_copyFrom_30 : decode cX2_copyFrom 30 = .ok (.invokevirtual 172, 3) := by decide +kernel
theorem dX2_copyFrom_33 : decode cX2_copyFrom 33 = .ok (.aload_n 0, 1) := by decide +kernel
theorem dX2_copyFrom_34 : decode cX2_copyFrom 34 = .ok (.getfield 32, 3) := by decide +kernel
theorem dX2_copyFrom_37 : decode cX2_copyFrom 37 = .ok (.aload_n 1, 1) := by decide +kernel
theorem dX2_copyFrom_38 : decode cX2_copyFrom 38 = .ok (.getfield 32, 3) := by decide +kernel
theorem dX2_copyFrom_41 : decode cX2_copyFrom 41 = .ok (.invokevirtual 172, 3) := by decide +kernel
theorem dX2_copyFrom_44 : decode cX2_copyFrom 44 = .ok (.aload_n 1, 1) := by decide +kernel
theorem dX2_copyFrom_45 : decode cX2_copyFrom 45 = .ok (.getfield 35, 3) := by decide +kernel
theorem dX2_copyFrom_48 : decode cX2_copyFrom 48 = .ok (.aload_n 0, 1) := by decide +kernel
theorem dX2_copyFrom_49 : decode cX2_copyFrom 49 = .ok (.getfield 35, 3) := by decide +kernel
theorem dX2_copyFrom_52 : decode cX2_copyFrom 52 = .ok (.invokestatic 175, 3) := by decide +kernel
theorem dX2_copyFrom_55 : decode cX2_copyFrom 55 = .ok (.aload_n 0, 1) := by decide +kernel
theorem dX2_copyFrom_56 : decode cX2_copyFrom 56 = .ok (.aload_n 1, 1) := by decide +kernel
theorem dX2_copyFrom_57 : decode cX2_copyFrom 57 = .ok (.getfield 46, 3) := by decide +kernel
theorem dX2_copyFrom_60 : decode cX2_copyFrom 60 = .ok (.putfield 46, 3) := by decide +kernel
theorem dX2_copyFrom_63 : decode cX2_copyFrom 63 = .ok (.aload_n 0, 1) := by decide +kernel
theorem dX2_copyFrom_64 : decode cX2_copyFrom 64 = .ok (.aload_n 1, 1) := by decide +kernel
theorem dX2_copyFrom_65 : decode cX2_copyFrom 65 = .ok (.getfield 133, 3) := by decide +kernel
theorem dX2_copyFrom_68 : decode cX2_copyFrom 68 = .ok (.putfield 133, 3) := by decide +kernel
theorem dX2_copyFrom_71 : decode cX2_copyFrom 71 = .ok (.aload_n 0, 1) := by decide +kernel
theorem dX2_copyFrom_72 : decode cX2_copyFrom 72 = .ok (.aload_n 1, 1) := by decide +kernel
theorem dX2_copyFrom_73 : decode cX2_copyFrom 73 = .ok (.getfield 126, 3) := by decide +kernel
theorem dX2_copyFrom_76 : decode cX2_copyFrom 76 = .ok (.putfield 126, 3) := by decide +kernel
theorem dX2_copyFrom_79 : decode cX2_copyFrom 79 = .ok (.aload_n 0, 1) := by decide +kernel
theorem dX2_copyFrom_80 : decode cX2_copyFrom 80 = .ok (.aload_n 1, 1) := by decide +kernel
theorem dX2_copyFrom_81 : decode cX2_copyFrom 81 = .ok (.getfield 39, 3) := by decide +kernel
theorem dX2_copyFrom_84 : decode cX2_copyFrom 84 = .ok (.putfield 39, 3) := by decide +kernel
theorem dX2_copyFrom_87 : decode cX2_copyFrom 87 = .ok (.aload_n 0, 1) := by decide +kernel
theorem dX2_copyFrom_88 : decode cX2_copyFrom 88 = .ok (.aload_n 1, 1) := by decide +kernel
theorem dX2_copyFrom_89 : decode cX2_copyFrom 89 = .ok (.getfield 43, 3) := by decide +kernel
theorem dX2_copyFrom_92 : decode cX2_copyFrom 92 = .ok (.putfield 43, 3) := by decide +kernel
theorem dX2_copyFrom_95 : decode cX2_copyFrom 95 = .ok (.aload_n 0, 1) := by decide +kernel
theorem dX2_copyFrom_96 : decode cX2_copyFrom 96 = .ok (.aload_n 1, 1) := by decide +kernel
theorem dX2_copyFrom_97 : decode cX2_copyFrom 97 = .ok (.getfield 89, 3) := by decide +kernel
theorem dX2_copyFrom_100 : decode cX2_copyFrom 100 = .ok (.putfield 89, 3) := by decide +kernel
theorem dX2_copyFrom_103 : decode cX2_copyFrom 103 = .ok (.aload_n 0, 1) := by decide +kernel
theorem dX2_copyFrom_104 : decode cX2_copyFrom 104 = .ok (.aload_n 1, 1) := by decide +kernel
theorem dX2_copyFrom_105 : decode cX2_copyFrom 105 = .ok (.getfield 101, 3) := by decide +kernel
theorem dX2_copyFrom_108 : decode cX2_copyFrom 108 = .ok (.putfield 101, 3) := by decide +kernel
theorem dX2_copyFrom_111 : decode cX2_copyFrom 111 = .ok (.return_, 1) := by decide +kernel
theorem dX3_opcode_0 : decode cX3_opcode 0 = .ok (.iload_n 0, 1) := by decide +kernel
theorem dX3_opcode_1 : decode cX3_opcode 1 = .ok (.bipush 15, 2) := by decide +kernel
theorem dX3_opcode_3 : decode cX3_opcode 3 = .ok (.iand, 1) := by decide +kernel
theorem dX3_opcode_4 : decode cX3_opcode 4 = .ok (.ireturn, 1) := by decide +kernel
theorem dX3_operand_0 : decode cX3_operand 0 = .ok (.iload_n 0, 1) := by decide +kernel
theorem dX3_operand_1 : decode cX3_operand 1 = .ok (.iconst 4, 1) := by decide +kernel
theorem dX3_operand_2 : decode cX3_operand 2 = .ok (.ishr, 1) := by decide +kernel
theorem dX3_operand_3 : decode cX3_operand 3 = .ok (.bipush 7, 2) := by decide +kernel
theorem dX3_operand_5 : decode cX3_operand 5 = .ok (.iand, 1) := by decide +kernel
theorem dX3_operand_6 : decode cX3_operand 6 = .ok (.iload_n 0, 1) := by decide +kernel
theorem dX3_operand_7 : decode cX3_operand 7 = .ok (.bipush 7, 2) := by decide +kernel
theorem dX3_operand_9 : decode cX3_operand 9 = .ok (.ishr, 1) := by decide +kernel
theorem dX3_operand_10 : decode cX3_operand 10 = .ok (.bipush 31, 2) := by decide +kernel
theorem dX3_operand_12 : decode cX3_operand 12 = .ok (.iand, 1) := by decide +kernel
theorem dX3_operand_13 : decode cX3_operand 13 = .ok (.invokestatic 9, 3) := by decide +kernel
theorem dX3_operand_16 : decode cX3_operand 16 = .ok (.ireturn, 1) := by decide +kernel
theorem dX3_next_0 : decode cX3_next 0 = .ok (.iload_n 0, 1) := by decide +kernel
theorem dX3_next_1 : decode cX3_next 1 = .ok (.bipush 12, 2) := by decide +kernel
theorem dX3_next_3 : decode cX3_next 3 = .ok (.ishr, 1) := by decide +kernel
theorem dX3_next_4 : decode cX3_next 4 = .ok (.bipush 7, 2) := by decide +kernel
theorem dX3_next_6 : decode cX3_next 6 = .ok (.iand, 1) := by decide +kernel
theorem dX3_next_7 : decode cX3_next 7 = .ok (.iload_n 0, 1) := by decide +kernel
theorem dX3_next_8 : decode cX3_next 8 = .ok (.bipush 15, 2) := by decide +kernel
theorem dX3_next_10 : decode cX3_next 10 = .ok (.ishr, 1) := by decide +kernel
theorem dX3_next_11 : decode cX3_next 11 = .ok (.bipush 31, 2) := by decide +kernel
theorem dX3_next_13 : decode cX3_next 13 = .ok (.iand, 1) := by decide +kernel
theorem dX3_next_14 : decode cX3_next 14 = .ok (.invokestatic 9, 3) := by decide +kernel
theorem dX3_next_17 : decode cX3_next 17 = .ok (.ireturn, 1) := by decide +kernel
theorem dX3_operandForm_0 : decode cX3_operandForm 0 = .ok (.iload_n 0, 1) := by decide +kernel
theorem dX3_operandForm_1 : decode cX3_operandForm 1 = .ok (.tableswitch 79 0 14 #[75, 79, 79, 79, 79, 79, 79, 79, 77, 77, 79, 79, 79, 75, 75], 75) := by decide +kernel
theorem dX3_operandForm_76 : decode cX3_operandForm 76 = .ok (.iconst 0, 1) := by decide +kernel
theorem dX3_operandForm_77 : decode cX3_operandForm 77 = .ok (.ireturn, 1) := by decide +kernel
theorem dX3_operandForm_78 : decode cX3_operandForm 78 = .ok (.iconst 2, 1) := by decide +kernel
theorem dX3_operandForm_79 : decode cX3_operandForm 79 = .ok (.ireturn, 1) := by decide +kernel
theorem dX3_operandForm_80 : decode cX3_operandForm 80 = .ok (.iconst 1, 1) := by decide +kernel
theorem dX3_operandForm_81 : decode cX3_operandForm 81 = .ok (.ireturn, 1) := by decide +kernel
theorem dX3_isJump_0 : decode cX3_isJump 0 = .ok (.iload_n 0, 1) := by decide +kernel
theorem dX3_isJump_1 : decode cX3_isJump 1 = .ok (.bipush 10, 2) := by decide +kernel
theorem dX3_isJump_3 : decode cX3_isJump 3 = .ok (.if_icmp .eq 15, 3) := by decide +kernel
theorem dX3_isJump_6 : decode cX3_isJump 6 = .ok (.iload_n 0, 1) := by decide +kernel
theorem dX3_isJump_7 : decode cX3_isJump 7 = .ok (.bipush 11, 2) := by decide +kernel
theorem dX3_isJump_9 : decode cX3_isJump 9 = .ok (.if_icmp .eq 9, 3) := by decide +kernel
theorem dX3_isJump_12 : decode cX3_isJump 12 = .ok (.iload_n 0, 1) := by decide +kernel
theorem dX3_isJump_13 : decode cX3_isJump 13 = .ok (.bipush 12, 2) := by decide +kernel
theorem dX3_isJump_15 : decode cX3_isJump 15 = .ok (.if_icmp .ne 7, 3) := by decide +kernel
theorem dX3_isJump_18 : decode cX3_isJump 18 = .ok (.iconst 1, 1) := by decide +kernel
theorem dX3_isJump_19 : decode cX3_isJump 19 = .ok (.goto 4, 3) := by decide +kernel
theorem dX3_isJump_22 : decode cX3_isJump 22 = .ok (.iconst 0, 1) := by decide +kernel
theorem dX3_isJump_23 : decode cX3_isJump 23 = .ok (.ireturn, 1) := by decide +kernel
theorem dX3_waitsForOperand_0 : decode cX3_waitsForOperand 0 = .ok (.iload_n 0, 1) := by decide +kernel
theorem dX3_waitsForOperand_1 : decode cX3_waitsForOperand 1 = .ok (.invokestatic 58, 3) := by decide +kernel
theorem dX3_waitsForOperand_4 : decode cX3_waitsForOperand 4 = .ok (.iconst 1, 1) := by decide +kernel
theorem dX3_waitsForOperand_5 : decode cX3_waitsForOperand 5 = .ok (.if_icmp .ne 14, 3) := by decide +kernel
theorem dX3_waitsForOperand_8 : decode cX3_waitsForOperand 8 = .ok (.iload_n 0, 1) := by decide +kernel
theorem dX3_waitsForOperand_9 : decode cX3_waitsForOperand 9 = .ok (.invokestatic 61, 3) := by decide +kernel
theorem dX3_waitsForOperand_12 : decode cX3_waitsForOperand 12 = .ok (.ifCond .ne 7, 3) := by decide +kernel
theorem dX3_waitsForOperand_15 : decode cX3_waitsForOperand 15 = .ok (.iconst 1, 1) := by decide +kernel
theorem dX3_waitsForOperand_16 : decode cX3_waitsForOperand 16 = .ok (.goto 4, 3) := by decide +kernel
theorem dX3_waitsForOperand_19 : decode cX3_waitsForOperand 19 = .ok (.iconst 0, 1) := by decide +kernel
theorem dX3_waitsForOperand_20 : decode cX3_waitsForOperand 20 = .ok (.ireturn, 1) := by decide +kernel
theorem dX3_ownTime_0 : decode cX3_ownTime 0 = .ok (.iload_n 0, 1) := by decide +kernel
theorem dX3_ownTime_1 : decode cX3_ownTime 1 = .ok (.invokestatic 65, 3) := by decide +kernel
theorem dX3_ownTime_4 : decode cX3_ownTime 4 = .ok (.lookupswitch 80 #[(0, 52), (7, 54), (8, 57), (9, 67), (15, 77)], 52) := by decide +kernel
theorem dX3_ownTime_56 : decode cX3_ownTime 56 = .ok (.iconst 0, 1) := by decide +kernel
theorem dX3_ownTime_57 : decode cX3_ownTime 57 = .ok (.ireturn, 1) := by decide +kernel
theorem dX3_ownTime_58 : decode cX3_ownTime 58 = .ok (.bipush 21, 2) := by decide +kernel
theorem dX3_ownTime_60 : decode cX3_ownTime 60 = .ok (.ireturn, 1) := by decide +kernel
theorem dX3_ownTime_61 : decode cX3_ownTime 61 = .ok (.iconst 1, 1) := by decide +kernel
theorem dX3_ownTime_62 : decode cX3_ownTime 62 = .ok (.iload_n 0, 1) := by decide +kernel
theorem dX3_ownTime_63 : decode cX3_ownTime 63 = .ok (.invokestatic 68, 3) := by decide +kernel
theorem dX3_ownTime_66 : decode cX3_ownTime 66 = .ok (.invokestatic 13, 3) := by decide +kernel
theorem dX3_ownTime_69 : decode cX3_ownTime 69 = .ok (.iadd, 1) := by decide +kernel
theorem dX3_ownTime_70 : decode cX3_ownTime 70 = .ok (.ireturn, 1) := by decide +kernel
theorem dX3_ownTime_71 : decode cX3_ownTime 71 = .ok (.iconst 1, 1) := by decide +kernel
theorem dX3_ownTime_72 : decode cX3_ownTime 72 = .ok (.iload_n 0, 1) := by decide +kernel
theorem dX3_ownTime_73 : decode cX3_ownTime 73 = .ok (.invokestatic 68, 3) := by decide +kernel
theorem dX3_ownTime_76 : decode cX3_ownTime 76 = .ok (.invokestatic 13, 3) := by decide +kernel
theorem dX3_ownTime_79 : decode cX3_ownTime 79 = .ok (.iadd, 1) := by decide +kernel
theorem dX3_ownTime_80 : decode cX3_ownTime 80 = .ok (.ireturn, 1) := by decide +kernel
theorem dX3_ownTime_81 : decode cX3_ownTime 81 = .ok (.bipush 33, 2) := by decide +kernel
theorem dX3_ownTime_83 : decode cX3_ownTime 83 = .ok (.ireturn, 1) := by decide +kernel
theorem dX3_ownTime_84 : decode cX3_ownTime 84 = .ok (.iconst 1, 1) := by decide +kernel
theorem dX3_ownTime_85 : decode cX3_ownTime 85 = .ok (.ireturn, 1) := by decide +kernel
theorem dX4_init_0 : decode cX4_init 0 = .ok (.aload_n 0, 1) := by decide +kernel
theorem dX4_init_1 : decode cX4_init 1 = .ok (.invokespecial 3, 3) := by decide +kernel
theorem dX4_init_4 : decode cX4_init 4 = .ok (.aload_n 0, 1) := by decide +kernel
theorem dX4_init_5 : decode cX4_init 5 = .ok (.bipush 64, 2) := by decide +kernel
theorem dX4_init_7 : decode cX4_init 7 = .ok (.newarray .int, 2) := by decide +kernel
theorem dX4_init_9 : decode cX4_init 9 = .ok (.putfield 9, 3) := by decide +kernel
theorem dX4_init_12 : decode cX4_init 12 = .ok (.return_, 1) := by decide +kernel
theorem dX4_isFull_0 : decode cX4_isFull 0 = .ok (.aload_n 0, 1) := by decide +kernel
theorem dX4_isFull_1 : decode cX4_isFull 1 = .ok (.getfield 15, 3) := by decide +kernel
theorem dX4_isFull_4 : decode cX4_isFull 4 = .ok (.bipush 64, 2) := by decide +kernel
theorem dX4_isFull_6 : decode cX4_isFull 6 = .ok (.if_icmp .lt 7, 3) := by decide +kernel
theorem dX4_isFull_9 : decode cX4_isFull 9 = .ok (.iconst 1, 1) := by decide +kernel
theorem dX4_isFull_10 : decode cX4_isFull 10 = .ok (.goto 4, 3) := by decide +kernel
theorem dX4_isFull_13 : decode cX4_isFull 13 = .ok (.iconst 0, 1) := by decide +kernel
theorem dX4_isFull_14 : decode cX4_isFull 14 = .ok (.ireturn, 1) := by decide +kernel
theorem dX4_addLast_0 : decode cX4_addLast 0 = .ok (.aload_n 0, 1) := by decide +kernel
theorem dX4_addLast_1 : decode cX4_addLast 1 = .ok (.getfield 9, 3) := by decide +kernel
theorem dX4_addLast_4 : decode cX4_addLast 4 = .ok (.aload_n 0, 1) := by decide +kernel
theorem dX4_addLast_5 : decode cX4_addLast 5 = .ok (.getfield 19, 3) := by decide +kernel
theorem dX4_addLast_8 : decode cX4_addLast 8 = .ok (.aload_n 0, 1) := by decide +kernel
theorem dX4_addLast_9 : decode cX4_addLast 9 = .ok (.getfield 15, 3) := by decide +kernel
theorem dX4_addLast_12 : decode cX4_addLast 12 = .ok (.iadd, 1) := by decide +kernel
theorem dX4_addLast_13 : decode cX4_addLast 13 = .ok (.bipush 63, 2) := by decide +kernel
theorem dX4_addLast_15 : decode cX4_addLast 15 = .ok (.iand, 1) := by decide +kernel
theorem dX4_addLast_16 : decode cX4_addLast 16 = .ok (.iload_n 1, 1) := by decide +kernel
theorem dX4_addLast_17 : decode cX4_addLast 17 = .ok (.iastore, 1) := by decide +kernel
theorem dX4_addLast_18 : decode cX4_addLast 18 = .ok (.aload_n 0, 1) := by decide +kernel
theorem dX4_addLast_19 : decode cX4_addLast 19 = .ok (.dup, 1) := by decide +kernel
theorem dX4_addLast_20 : decode cX4_addLast 20 = .ok (.getfield 15, 3) := by decide +kernel
theorem dX4_addLast_23 : decode cX4_addLast 23 = .ok (.iconst 1, 1) := by decide +kernel
theorem dX4_addLast_24 : decode cX4_addLast 24 = .ok (.iadd, 1) := by decide +kernel
theorem dX4_addLast_25 : decode cX4_addLast 25 = .ok (.putfield 15, 3) := by decide +kernel
theorem dX4_addLast_28 : decode cX4_addLast 28 = .ok (.return_, 1) := by decide +kernel
theorem dX4_removeFirst_0 : decode cX4_removeFirst 0 = .ok (.aload_n 0, 1) := by decide +kernel
theorem dX4_removeFirst_1 : decode cX4_removeFirst 1 = .ok (.getfield 9, 3) := by decide +kernel
theorem dX4_removeFirst_4 : decode cX4_removeFirst 4 = .ok (.aload_n 0, 1) := by decide +kernel
theorem dX4_removeFirst_5 : decode cX4_removeFirst 5 = .ok (.getfield 19, 3) := by decide +kernel
theorem dX4_removeFirst_8 : decode cX4_removeFirst 8 = .ok (.bipush 63, 2) := by decide +kernel
theorem dX4_removeFirst_10 : decode cX4_removeFirst 10 = .ok (.iand, 1) := by decide +kernel
theorem dX4_removeFirst_11 : decode cX4_removeFirst 11 = .ok (.iaload, 1) := by decide +kernel
theorem dX4_removeFirst_12 : decode cX4_removeFirst 12 = .ok (.istore_n 1, 1) := by decide +kernel
theorem dX4_removeFirst_13 : decode cX4_removeFirst 13 = .ok (.aload_n 0, 1) := by decide +kernel
theorem dX4_removeFirst_14 : decode cX4_removeFirst 14 = .ok (.aload_n 0, 1) := by decide +kernel
theorem dX4_removeFirst_15 : decode cX4_removeFirst 15 = .ok (.getfield 19, 3) := by decide +kernel
theorem dX4_removeFirst_18 : decode cX4_removeFirst 18 = .ok (.iconst 1, 1) := by decide +kernel
theorem dX4_removeFirst_19 : decode cX4_removeFirst 19 = .ok (.iadd, 1) := by decide +kernel
theorem dX4_removeFirst_20 : decode cX4_removeFirst 20 = .ok (.bipush 63, 2) := by decide +kernel
theorem dX4_removeFirst_22 : decode cX4_removeFirst 22 = .ok (.iand, 1) := by decide +kernel
theorem dX4_removeFirst_23 : decode cX4_removeFirst 23 = .ok (.putfield 19, 3) := by decide +kernel
theorem dX4_removeFirst_26 : decode cX4_removeFirst 26 = .ok (.aload_n 0, 1) := by decide +kernel
theorem dX4_removeFirst_27 : decode cX4_removeFirst 27 = .ok (.dup, 1) := by decide +kernel
theorem dX4_removeFirst_28 : decode cX4_removeFirst 28 = .ok (.getfield 15, 3) := by decide +kernel
theorem dX4_removeFirst_31 : decode cX4_removeFirst 31 = .ok (.iconst 1, 1) := by decide +kernel
theorem dX4_removeFirst_32 : decode cX4_removeFirst 32 = .ok (.isub, 1) := by decide +kernel
theorem dX4_removeFirst_33 : decode cX4_removeFirst 33 = .ok (.putfield 15, 3) := by decide +kernel
theorem dX4_removeFirst_36 : decode cX4_removeFirst 36 = .ok (.iload_n 1, 1) := by decide +kernel
theorem dX4_removeFirst_37 : decode cX4_removeFirst 37 = .ok (.ireturn, 1) := by decide +kernel
theorem dX4_copyFrom_0 : decode cX4_copyFrom 0 = .ok (.aload_n 1, 1) := by decide +kernel
theorem dX4_copyFrom_1 : decode cX4_copyFrom 1 = .ok (.getfield 9, 3) := by decide +kernel
theorem dX4_copyFrom_4 : decode cX4_copyFrom 4 = .ok (.aload_n 0, 1) := by decide +kernel
theorem dX4_copyFrom_5 : decode cX4_copyFrom 5 = .ok (.getfield 9, 3) := by decide +kernel
theorem dX4_copyFrom_8 : decode cX4_copyFrom 8 = .ok (.invokestatic 22, 3) := by decide +kernel
theorem dX4_copyFrom_11 : decode cX4_copyFrom 11 = .ok (.aload_n 0, 1) := by decide +kernel
theorem dX4_copyFrom_12 : decode cX4_copyFrom 12 = .ok (.aload_n 1, 1) := by decide +kernel
theorem dX4_copyFrom_13 : decode cX4_copyFrom 13 = .ok (.getfield 19, 3) := by decide +kernel
theorem dX4_copyFrom_16 : decode cX4_copyFrom 16 = .ok (.putfield 19, 3) := by decide +kernel
theorem dX4_copyFrom_19 : decode cX4_copyFrom 19 = .ok (.aload_n 0, 1) := by decide +kernel
theorem dX4_copyFrom_20 : decode cX4_copyFrom 20 = .ok (.aload_n 1, 1) := by decide +kernel
theorem dX4_copyFrom_21 : decode cX4_copyFrom 21 = .ok (.getfield 15, 3) := by decide +kernel
theorem dX4_copyFrom_24 : decode cX4_copyFrom 24 = .ok (.putfield 15, 3) := by decide +kernel
theorem dX4_copyFrom_27 : decode cX4_copyFrom 27 = .ok (.return_, 1) := by decide +kernel
theorem dX5_init_0 : decode cX5_init 0 = .ok (.aload_n 0, 1) := by decide +kernel
theorem dX5_init_1 : decode cX5_init 1 = .ok (.invokespecial 3, 3) := by decide +kernel
theorem dX5_init_4 : decode cX5_init 4 = .ok (.aload_n 0, 1) := by decide +kernel
theorem dX5_init_5 : decode cX5_init 5 = .ok (.sipush 256, 3) := by decide +kernel
theorem dX5_init_8 : decode cX5_init 8 = .ok (.newarray .int, 2) := by decide +kernel
theorem dX5_init_10 : decode cX5_init 10 = .ok (.putfield 9, 3) := by decide +kernel
theorem dX5_init_13 : decode cX5_init 13 = .ok (.aload_n 0, 1) := by decide +kernel
theorem dX5_init_14 : decode cX5_init 14 = .ok (.bipush 32, 2) := by decide +kernel
theorem dX5_init_16 : decode cX5_init 16 = .ok (.newarray .int, 2) := by decide +kernel
theorem dX5_init_18 : decode cX5_init 18 = .ok (.putfield 15, 3) := by decide +kernel
theorem dX5_init_21 : decode cX5_init 21 = .ok (.aload_n 0, 1) := by decide +kernel
theorem dX5_init_22 : decode cX5_init 22 = .ok (.bipush 8, 2) := by decide +kernel
theorem dX5_init_24 : decode cX5_init 24 = .ok (.newarray .int, 2) := by decide +kernel
theorem dX5_init_26 : decode cX5_init 26 = .ok (.putfield 18, 3) := by decide +kernel
theorem dX5_init_29 : decode cX5_init 29 = .ok (.return_, 1) := by decide +kernel
theorem dX5_wordAt_0 : decode cX5_wordAt 0 = .ok (.aload_n 0, 1) := by decide +kernel
theorem dX5_wordAt_1 : decode cX5_wordAt 1 = .ok (.getfield 9, 3) := by decide +kernel
theorem dX5_wordAt_4 : decode cX5_wordAt 4 = .ok (.iload_n 1, 1) := by decide +kernel
theorem dX5_wordAt_5 : decode cX5_wordAt 5 = .ok (.sipush 255, 3) := by decide +kernel
theorem dX5_wordAt_8 : decode cX5_wordAt 8 = .ok (.iand, 1) := by decide +kernel
theorem dX5_wordAt_9 : decode cX5_wordAt 9 = .ok (.iaload, 1) := by decide +kernel
theorem dX5_wordAt_10 : decode cX5_wordAt 10 = .ok (.i2l, 1) := by decide +kernel
theorem dX5_wordAt_11 : decode cX5_wordAt 11 = .ok (.invokestatic 21, 3) := by decide +kernel
theorem dX5_wordAt_14 : decode cX5_wordAt 14 = .ok (.ireturn, 1) := by decide +kernel
theorem dX5_putWord_0 : decode cX5_putWord 0 = .ok (.aload_n 0, 1) := by decide +kernel
theorem dX5_putWord_1 : decode cX5_putWord 1 = .ok (.getfield 9, 3) := by decide +kernel
theorem dX5_putWord_4 : decode cX5_putWord 4 = .ok (.iload_n 1, 1) := by decide +kernel
theorem dX5_putWord_5 : decode cX5_putWord 5 = .ok (.sipush 255, 3) := by decide +kernel
theorem dX5_putWord_8 : decode cX5_putWord 8 = .ok (.iand, 1) := by decide +kernel
theorem dX5_putWord_9 : decode cX5_putWord 9 = .ok (.iload_n 2, 1) := by decide +kernel
theorem dX5_putWord_10 : decode cX5_putWord 10 = .ok (.ldc 25, 2) := by decide +kernel
theorem dX5_putWord_12 : decode cX5_putWord 12 = .ok (.iand, 1) := by decide +kernel
theorem dX5_putWord_13 : decode cX5_putWord 13 = .ok (.iastore, 1) := by decide +kernel
theorem dX5_putWord_14 : decode cX5_putWord 14 = .ok (.return_, 1) := by decide +kernel
theorem dX5_slipCountOf_0 : decode cX5_slipCountOf 0 = .ok (.aload_n 0, 1) := by decide +kernel
theorem dX5_slipCountOf_1 : decode cX5_slipCountOf 1 = .ok (.getfield 18, 3) := by decide +kernel
theorem dX5_slipCountOf_4 : decode cX5_slipCountOf 4 = .ok (.iload_n 1, 1) := by decide +kernel
theorem dX5_slipCountOf_5 : decode cX5_slipCountOf 5 = .ok (.bipush 7, 2) := by decide +kernel
theorem dX5_slipCountOf_7 : decode cX5_slipCountOf 7 = .ok (.iand, 1) := by decide +kernel
theorem dX5_slipCountOf_8 : decode cX5_slipCountOf 8 = .ok (.iaload, 1) := by decide +kernel
theorem dX5_slipCountOf_9 : decode cX5_slipCountOf 9 = .ok (.ireturn, 1) := by decide +kernel
theorem dX5_countOnes_0 : decode cX5_countOnes 0 = .ok (.iconst 0, 1) := by decide +kernel
theorem dX5_countOnes_1 : decode cX5_countOnes 1 = .ok (.istore_n 2, 1) := by decide +kernel
theorem dX5_countOnes_2 : decode cX5_countOnes 2 = .ok (.iconst 0, 1) := by decide +kernel
theorem dX5_countOnes_3 : decode cX5_countOnes 3 = .ok (.istore_n 3, 1) := by decide +kernel
theorem dX5_countOnes_4 : decode cX5_countOnes 4 = .ok (.iload_n 3, 1) := by decide +kernel
theorem dX5_countOnes_5 : decode cX5_countOnes 5 = .ok (.bipush 32, 2) := by decide +kernel
theorem dX5_countOnes_7 : decode cX5_countOnes 7 = .ok (.if_icmp .ge 29, 3) := by decide +kernel
theorem dX5_countOnes_10 : decode cX5_countOnes 10 = .ok (.iload_n 2, 1) := by decide +kernel
theorem dX5_countOnes_11 : decode cX5_countOnes 11 = .ok (.aload_n 0, 1) := by decide +kernel
theorem dX5_countOnes_12 : decode cX5_countOnes 12 = .ok (.getfield 9, 3) := by decide +kernel
theorem dX5_countOnes_15 : decode cX5_countOnes 15 = .ok (.iload_n 1, 1) := by decide +kernel
theorem dX5_countOnes_16 : decode cX5_countOnes 16 = .ok (.iload_n 3, 1) := by decide +kernel
theorem dX5_countOnes_17 : decode cX5_countOnes 17 = .ok (.invokestatic 26, 3) := by decide +kernel
theorem dX5_countOnes_20 : decode cX5_countOnes 20 = .ok (.sipush 255, 3) := by decide +kernel
theorem dX5_countOnes_23 : decode cX5_countOnes 23 = .ok (.iand, 1) := by decide +kernel
theorem dX5_countOnes_24 : decode cX5_countOnes 24 = .ok (.iaload, 1) := by decide +kernel
theorem dX5_countOnes_25 : decode cX5_countOnes 25 = .ok (.invokestatic 30, 3) := by decide +kernel
theorem dX5_countOnes_28 : decode cX5_countOnes 28 = .ok (.iadd, 1) := by decide +kernel
theorem dX5_countOnes_29 : decode cX5_countOnes 29 = .ok (.istore_n 2, 1) := by decide +kernel
theorem dX5_countOnes_30 : decode cX5_countOnes 30 = .ok (.iinc 3 1, 3) := by decide +kernel
theorem dX5_countOnes_33 : decode cX5_countOnes 33 = .ok (.goto (-29), 3) := by decide +kernel
theorem dX5_countOnes_36 : decode cX5_countOnes 36 = .ok (.iload_n 2, 1) := by decide +kernel
theorem dX5_countOnes_37 : decode cX5_countOnes 37 = .ok (.ireturn, 1) := by decide +kernel
theorem dX5_clearBits_0 : decode cX5_clearBits 0 = .ok (.iconst 0, 1) := by decide +kernel
theorem dX5_clearBits_1 : decode cX5_clearBits 1 = .ok (.istore_n 2, 1) := by decide +kernel
theorem dX5_clearBits_2 : decode cX5_clearBits 2 = .ok (.iload_n 2, 1) := by decide +kernel
theorem dX5_clearBits_3 : decode cX5_clearBits 3 = .ok (.bipush 32, 2) := by decide +kernel
theorem dX5_clearBits_5 : decode cX5_clearBits 5 = .ok (.if_icmp .ge 19, 3) := by decide +kernel
theorem dX5_clearBits_8 : decode cX5_clearBits 8 = .ok (.aload_n 0, 1) := by decide +kernel
theorem dX5_clearBits_9 : decode cX5_clearBits 9 = .ok (.iload_n 1, 1) := by decide +kernel
theorem dX5_clearBits_10 : decode cX5_clearBits 10 = .ok (.iload_n 2, 1) := by decide +kernel
theorem dX5_clearBits_11 : decode cX5_clearBits 11 = .ok (.invokestatic 26, 3) := by decide +kernel
theorem dX5_clearBits_14 : decode cX5_clearBits 14 = .ok (.iconst 0, 1) := by decide +kernel
theorem dX5_clearBits_15 : decode cX5_clearBits 15 = .ok (.invokevirtual 36, 3) := by decide +kernel
theorem dX5_clearBits_18 : decode cX5_clearBits 18 = .ok (.iinc 2 1, 3) := by decide +kernel
theorem dX5_clearBits_21 : decode cX5_clearBits 21 = .ok (.goto (-19), 3) := by decide +kernel
theorem dX5_clearBits_24 : decode cX5_clearBits 24 = .ok (.return_, 1) := by decide +kernel
theorem dX5_exchange_0 : decode cX5_exchange 0 = .ok (.iconst 0, 1) := by decide +kernel
theorem dX5_exchange_1 : decode cX5_exchange 1 = .ok (.istore_n 3, 1) := by decide +kernel
theorem dX5_exchange_2 : decode cX5_exchange 2 = .ok (.iload_n 3, 1) := by decide +kernel
theorem dX5_exchange_3 : decode cX5_exchange 3 = .ok (.bipush 32, 2) := by decide +kernel
theorem dX5_exchange_5 : decode cX5_exchange 5 = .ok (.if_icmp .ge 49, 3) := by decide +kernel
theorem dX5_exchange_8 : decode cX5_exchange 8 = .ok (.aload_n 0, 1) := by decide +kernel
theorem dX5_exchange_9 : decode cX5_exchange 9 = .ok (.iload_n 1, 1) := by decide +kernel
theorem dX5_exchange_10 : decode cX5_exchange 10 = .ok (.iload_n 3, 1) := by decide +kernel
theorem dX5_exchange_11 : decode cX5_exchange 11 = .ok (.invokestatic 26, 3) := by decide +kernel
theorem dX5_exchange_14 : decode cX5_exchange 14 = .ok (.invokevirtual 40, 3) := by decide +kernel
theorem dX5_exchange_17 : decode cX5_exchange 17 = .ok (.istore 4, 2) := by decide +kernel
theorem dX5_exchange_19 : decode cX5_exchange 19 = .ok (.aload_n 0, 1) := by decide +kernel
theorem dX5_exchange_20 : decode cX5_exchange 20 = .ok (.iload_n 1, 1) := by decide +kernel
theorem dX5_exchange_21 : decode cX5_exchange 21 = .ok (.iload_n 3, 1) := by decide +kernel
theorem dX5_exchange_22 : decode cX5_exchange 22 = .ok (.invokestatic 26, 3) := by decide +kernel
theorem dX5_exchange_25 : decode cX5_exchange 25 = .ok (.aload_n 0, 1) := by decide +kernel
theorem dX5_exchange_26 : decode cX5_exchange 26 = .ok (.iload_n 2, 1) := by decide +kernel
theorem dX5_exchange_27 : decode cX5_exchange 27 = .ok (.iload_n 3, 1) := by decide +kernel
theorem dX5_exchange_28 : decode cX5_exchange 28 = .ok (.invokestatic 26, 3) := by decide +kernel
theorem dX5_exchange_31 : decode cX5_exchange 31 = .ok (.invokevirtual 40, 3) := by decide +kernel
theorem dX5_exchange_34 : decode cX5_exchange 34 = .ok (.invokevirtual 36, 3) := by decide +kernel
theorem dX5_exchange_37 : decode cX5_exchange 37 = .ok (.aload_n 0, 1) := by decide +kernel
theorem dX5_exchange_38 : decode cX5_exchange 38 = .ok (.iload_n 2, 1) := by decide +kernel
theorem dX5_exchange_39 : decode cX5_exchange 39 = .ok (.iload_n 3, 1) := by decide +kernel
theorem dX5_exchange_40 : decode cX5_exchange 40 = .ok (.invokestatic 26, 3) := by decide +kernel
theorem dX5_exchange_43 : decode cX5_exchange 43 = .ok (.iload 4, 2) := by decide +kernel
theorem dX5_exchange_45 : decode cX5_exchange 45 = .ok (.invokevirtual 36, 3) := by decide +kernel
theorem dX5_exchange_48 : decode cX5_exchange 48 = .ok (.iinc 3 1, 3) := by decide +kernel
theorem dX5_exchange_51 : decode cX5_exchange 51 = .ok (.goto (-49), 3) := by decide +kernel
theorem dX5_exchange_54 : decode cX5_exchange 54 = .ok (.aload_n 0, 1) := by decide +kernel
theorem dX5_exchange_55 : decode cX5_exchange 55 = .ok (.iload_n 1, 1) := by decide +kernel
theorem dX5_exchange_56 : decode cX5_exchange 56 = .ok (.invokevirtual 43, 3) := by decide +kernel
theorem dX5_exchange_59 : decode cX5_exchange 59 = .ok (.istore_n 3, 1) := by decide +kernel
theorem dX5_exchange_60 : decode cX5_exchange 60 = .ok (.aload_n 0, 1) := by decide +kernel
theorem dX5_exchange_61 : decode cX5_exchange 61 = .ok (.getfield 18, 3) := by decide +kernel
theorem dX5_exchange_64 : decode cX5_exchange 64 = .ok (.iload_n 1, 1) := by decide +kernel
theorem dX5_exchange_65 : decode cX5_exchange 65 = .ok (.bipush 7, 2) := by decide +kernel
theorem dX5_exchange_67 : decode cX5_exchange 67 = .ok (.iand, 1) := by decide +kernel
theorem dX5_exchange_68 : decode cX5_exchange 68 = .ok (.aload_n 0, 1) := by decide +kernel
theorem dX5_exchange_69 : decode cX5_exchange 69 = .ok (.iload_n 2, 1) := by decide +kernel
theorem dX5_exchange_70 : decode cX5_exchange 70 = .ok (.invokevirtual 43, 3) := by decide +kernel
theorem dX5_exchange_73 : decode cX5_exchange 73 = .ok (.iastore, 1) := by decide +kernel
theorem dX5_exchange_74 : decode cX5_exchange 74 = .ok (.aload_n 0, 1) := by decide +kernel
theorem dX5_exchange_75 : decode cX5_exchange 75 = .ok (.getfield 18, 3) := by decide +kernel
theorem dX5_exchange_78 : decode cX5_exchange 78 = .ok (.iload_n 2, 1) := by decide +kernel
theorem dX5_exchange_79 : decode cX5_exchange 79 = .ok (.bipush 7, 2) := by decide +kernel
theorem dX5_exchange_81 : decode cX5_exchange 81 = .ok (.iand, 1) := by decide +kernel
theorem dX5_exchange_82 : decode cX5_exchange 82 = .ok (.iload_n 3, 1) := by decide +kernel
theorem dX5_exchange_83 : decode cX5_exchange 83 = .ok (.iastore, 1) := by decide +kernel
theorem dX5_exchange_84 : decode cX5_exchange 84 = .ok (.return_, 1) := by decide +kernel
theorem dX5_moveBits_0 : decode cX5_moveBits 0 = .ok (.iload_n 2, 1) := by decide +kernel
theorem dX5_moveBits_1 : decode cX5_moveBits 1 = .ok (.ifCond .ne 4, 3) := by decide +kernel
theorem dX5_moveBits_4 : decode cX5_moveBits 4 = .ok (.return_, 1) := by decide +kernel
theorem dX5_moveBits_5 : decode cX5_moveBits 5 = .ok (.iload_n 2, 1) := by decide +kernel
theorem dX5_moveBits_6 : decode cX5_moveBits 6 = .ok (.sipush 640, 3) := by decide +kernel
theorem dX5_moveBits_9 : decode cX5_moveBits 9 = .ok (.invokestatic 46, 3) := by decide +kernel
theorem dX5_moveBits_12 : decode cX5_moveBits 12 = .ok (.istore_n 3, 1) := by decide +kernel
theorem dX5_moveBits_13 : decode cX5_moveBits 13 = .ok (.iload_n 3, 1) := by decide +kernel
theorem dX5_moveBits_14 : decode cX5_moveBits 14 = .ok (.bipush 20, 2) := by decide +kernel
theorem dX5_moveBits_16 : decode cX5_moveBits 16 = .ok (.idiv, 1) := by decide +kernel
theorem dX5_moveBits_17 : decode cX5_moveBits 17 = .ok (.istore 4, 2) := by decide +kernel
theorem dX5_moveBits_19 : decode cX5_moveBits 19 = .ok (.iload_n 3, 1) := by decide +kernel
theorem dX5_moveBits_20 : decode cX5_moveBits 20 = .ok (.bipush 20, 2) := by decide +kernel
theorem dX5_moveBits_22 : decode cX5_moveBits 22 = .ok (.irem, 1) := by decide +kernel
theorem dX5_moveBits_23 : decode cX5_moveBits 23 = .ok (.istore 5, 2) := by decide +kernel
theorem dX5_moveBits_25 : decode cX5_moveBits 25 = .ok (.iconst 0, 1) := by decide +kernel
theorem dX5_moveBits_26 : decode cX5_moveBits 26 = .ok (.istore 6, 2) := by decide +kernel
theorem dX5_moveBits_28 : decode cX5_moveBits 28 = .ok (.iload 6, 2) := by decide +kernel
theorem dX5_moveBits_30 : decode cX5_moveBits 30 = .ok (.bipush 32, 2) := by decide +kernel
theorem dX5_moveBits_32 : decode cX5_moveBits 32 = .ok (.if_icmp .ge 31, 3) := by decide +kernel
theorem dX5_moveBits_35 : decode cX5_moveBits 35 = .ok (.aload_n 0, 1) := by decide +kernel
theorem dX5_moveBits_36 : decode cX5_moveBits 36 = .ok (.getfield 15, 3) := by decide +kernel
theorem dX5_moveBits_39 : decode cX5_moveBits 39 = .ok (.iload 6, 2) := by decide +kernel
theorem dX5_moveBits_41 : decode cX5_moveBits 41 = .ok (.aload_n 0, 1) := by decide +kernel
theorem dX5_moveBits_42 : decode cX5_moveBits 42 = .ok (.getfield 9, 3) := by decide +kernel
theorem dX5_moveBits_45 : decode cX5_moveBits 45 = .ok (.iload_n 1, 1) := by decide +kernel
theorem dX5_moveBits_46 : decode cX5_moveBits 46 = .ok (.iload 6, 2) := by decide +kernel
theorem dX5_moveBits_48 : decode cX5_moveBits 48 = .ok (.invokestatic 26, 3) := by decide +kernel
theorem dX5_moveBits_51 : decode cX5_moveBits 51 = .ok (.sipush 255, 3) := by decide +kernel
theorem dX5_moveBits_54 : decode cX5_moveBits 54 = .ok (.iand, 1) := by decide +kernel
theorem dX5_moveBits_55 : decode cX5_moveBits 55 = .ok (.iaload, 1) := by decide +kernel
theorem dX5_moveBits_56 : decode cX5_moveBits 56 = .ok (.iastore, 1) := by decide +kernel
theorem dX5_moveBits_57 : decode cX5_moveBits 57 = .ok (.iinc 6 1, 3) := by decide +kernel
theorem dX5_moveBits_60 : decode cX5_moveBits 60 = .ok (.goto (-32), 3) := by decide +kernel
theorem dX5_moveBits_63 : decode cX5_moveBits 63 = .ok (.iconst 0, 1) := by decide +kernel
theorem dX5_moveBits_64 : decode cX5_moveBits 64 = .ok (.istore 6, 2) := by decide +kernel
theorem dX5_moveBits_66 : decode cX5_moveBits 66 = .ok (.iload 6, 2) := by decide +kernel
theorem dX5_moveBits_68 : decode cX5_moveBits 68 = .ok (.bipush 32, 2) := by decide +kernel
theorem dX5_moveBits_70 : decode cX5_moveBits 70 = .ok (.if_icmp .ge 73, 3) := by decide +kernel
theorem dX5_moveBits_73 : decode cX5_moveBits 73 = .ok (.aload_n 0, 1) := by decide +kernel
theorem dX5_moveBits_74 : decode cX5_moveBits 74 = .ok (.getfield 15, 3) := by decide +kernel
theorem dX5_moveBits_77 : decode cX5_moveBits 77 = .ok (.iload 6, 2) := by decide +kernel
theorem dX5_moveBits_79 : decode cX5_moveBits 79 = .ok (.iload 4, 2) := by decide +kernel
theorem dX5_moveBits_81 : decode cX5_moveBits 81 = .ok (.isub, 1) := by decide +kernel
theorem dX5_moveBits_82 : decode cX5_moveBits 82 = .ok (.invokestatic 51, 3) := by decide +kernel
theorem dX5_moveBits_85 : decode cX5_moveBits 85 = .ok (.iaload, 1) := by decide +kernel
theorem dX5_moveBits_86 : decode cX5_moveBits 86 = .ok (.iload 5, 2) := by decide +kernel
theorem dX5_moveBits_88 : decode cX5_moveBits 88 = .ok (.ishl, 1) := by decide +kernel
theorem dX5_moveBits_89 : decode cX5_moveBits 89 = .ok (.istore 7, 2) := by decide +kernel
theorem dX5_moveBits_91 : decode cX5_moveBits 91 = .ok (.aload_n 0, 1) := by decide +kernel
theorem dX5_moveBits_92 : decode cX5_moveBits 92 = .ok (.getfield 15, 3) := by decide +kernel
theorem dX5_moveBits_95 : decode cX5_moveBits 95 = .ok (.iload 6, 2) := by decide +kernel
theorem dX5_moveBits_97 : decode cX5_moveBits 97 = .ok (.iload 4, 2) := by decide +kernel
theorem dX5_moveBits_99 : decode cX5_moveBits 99 = .ok (.isub, 1) := by decide +kernel
theorem dX5_moveBits_100 : decode cX5_moveBits 100 = .ok (.iconst 1, 1) := by decide +kernel
theorem dX5_moveBits_101 : decode cX5_moveBits 101 = .ok (.isub, 1) := by decide +kernel
theorem dX5_moveBits_102 : decode cX5_moveBits 102 = .ok (.invokestatic 51, 3) := by decide +kernel
theorem dX5_moveBits_105 : decode cX5_moveBits 105 = .ok (.iaload, 1) := by decide +kernel
theorem dX5_moveBits_106 : decode cX5_moveBits 106 = .ok (.bipush 20, 2) := by decide +kernel
theorem dX5_moveBits_108 : decode cX5_moveBits 108 = .ok (.iload 5, 2) := by decide +kernel
theorem dX5_moveBits_110 : decode cX5_moveBits 110 = .ok (.isub, 1) := by decide +kernel
theorem dX5_moveBits_111 : decode cX5_moveBits 111 = .ok (.ishr, 1) := by decide +kernel
theorem dX5_moveBits_112 : decode cX5_moveBits 112 = .ok (.istore 8, 2) := by decide +kernel
theorem dX5_moveBits_114 : decode cX5_moveBits 114 = .ok (.aload_n 0, 1) := by decide +kernel
theorem dX5_moveBits_115 : decode cX5_moveBits 115 = .ok (.getfield 9, 3) := by decide +kernel
theorem dX5_moveBits_118 : decode cX5_moveBits 118 = .ok (.iload_n 1, 1) := by decide +kernel
theorem dX5_moveBits_119 : decode cX5_moveBits 119 = .ok (.iload 6, 2) := by decide +kernel
theorem dX5_moveBits_121 : decode cX5_moveBits 121 = .ok (.invokestatic 26, 3) := by decide +kernel
theorem dX5_moveBits_124 : decode cX5_moveBits 124 = .ok (.sipush 255, 3) := by decide +kernel
theorem dX5_moveBits_127 : decode cX5_moveBits 127 = .ok (.iand, 1) := by decide +kernel
theorem dX5_moveBits_128 : decode cX5_moveBits 128 = .ok (.iload 7, 2) := by decide +kernel
theorem dX5_moveBits_130 : decode cX5_moveBits 130 = .ok (.iload 8, 2) := by decide +kernel
theorem dX5_moveBits_132 : decode cX5_moveBits 132 = .ok (.ior, 1) := by decide +kernel
theorem dX5_moveBits_133 : decode cX5_moveBits 133 = .ok (.ldc 25, 2) := by decide +kernel
theorem dX5_moveBits_135 : decode cX5_moveBits 135 = .ok (.iand, 1) := by decide +kernel
theorem dX5_moveBits_136 : decode cX5_moveBits 136 = .ok (.iastore, 1) := by decide +kernel
theorem dX5_moveBits_137 : decode cX5_moveBits 137 = .ok (.iinc 6 1, 3) := by decide +kernel
theorem dX5_moveBits_140 : decode cX5_moveBits 140 = .ok (.goto (-74), 3) := by decide +kernel
theorem dX5_moveBits_143 : decode cX5_moveBits 143 = .ok (.aload_n 0, 1) := by decide +kernel
theorem dX5_moveBits_144 : decode cX5_moveBits 144 = .ok (.getfield 18, 3) := by decide +kernel
theorem dX5_moveBits_147 : decode cX5_moveBits 147 = .ok (.iload_n 1, 1) := by decide +kernel
theorem dX5_moveBits_148 : decode cX5_moveBits 148 = .ok (.bipush 7, 2) := by decide +kernel
theorem dX5_moveBits_150 : decode cX5_moveBits 150 = .ok (.iand, 1) := by decide +kernel
theorem dX5_moveBits_151 : decode cX5_moveBits 151 = .ok (.dup2, 1) := by decide +kernel
theorem dX5_moveBits_152 : decode cX5_moveBits 152 = .ok (.iaload, 1) := by decide +kernel
theorem dX5_moveBits_153 : decode cX5_moveBits 153 = .ok (.iload_n 2, 1) := by decide +kernel
theorem dX5_moveBits_154 : decode cX5_moveBits 154 = .ok (.invokestatic 54, 3) := by decide +kernel
theorem dX5_moveBits_157 : decode cX5_moveBits 157 = .ok (.iadd, 1) := by decide +kernel
theorem dX5_moveBits_158 : decode cX5_moveBits 158 = .ok (.iastore, 1) := by decide +kernel
theorem dX5_moveBits_159 : decode cX5_moveBits 159 = .ok (.return_, 1) := by decide +kernel
theorem dX5_dropBit_0 : decode cX5_dropBit 0 = .ok (.iload_n 1, 1) := by decide +kernel
theorem dX5_dropBit_1 : decode cX5_dropBit 1 = .ok (.iload_n 2, 1) := by decide +kernel
theorem dX5_dropBit_2 : decode cX5_dropBit 2 = .ok (.bipush 20, 2) := by decide +kernel
theorem dX5_dropBit_4 : decode cX5_dropBit 4 = .ok (.idiv, 1) := by decide +kernel
theorem dX5_dropBit_5 : decode cX5_dropBit 5 = .ok (.invokestatic 26, 3) := by decide +kernel
theorem dX5_dropBit_8 : decode cX5_dropBit 8 = .ok (.sipush 255, 3) := by decide +kernel
theorem dX5_dropBit_11 : decode cX5_dropBit 11 = .ok (.iand, 1) := by decide +kernel
theorem dX5_dropBit_12 : decode cX5_dropBit 12 = .ok (.istore_n 3, 1) := by decide +kernel
theorem dX5_dropBit_13 : decode cX5_dropBit 13 = .ok (.iconst 1, 1) := by decide +kernel
theorem dX5_dropBit_14 : decode cX5_dropBit 14 = .ok (.iload_n 2, 1) := by decide +kernel
theorem dX5_dropBit_15 : decode cX5_dropBit 15 = .ok (.bipush 20, 2) := by decide +kernel
theorem dX5_dropBit_17 : decode cX5_dropBit 17 = .ok (.irem, 1) := by decide +kernel
theorem dX5_dropBit_18 : decode cX5_dropBit 18 = .ok (.ishl, 1) := by decide +kernel
theorem dX5_dropBit_19 : decode cX5_dropBit 19 = .ok (.istore 4, 2) := by decide +kernel
theorem dX5_dropBit_21 : decode cX5_dropBit 21 = .ok (.aload_n 0, 1) := by decide +kernel
theorem dX5_dropBit_22 : decode cX5_dropBit 22 = .ok (.getfield 9, 3) := by decide +kernel
theorem dX5_dropBit_25 : decode cX5_dropBit 25 = .ok (.iload_n 3, 1) := by decide +kernel
theorem dX5_dropBit_26 : decode cX5_dropBit 26 = .ok (.iaload, 1) := by decide +kernel
theorem dX5_dropBit_27 : decode cX5_dropBit 27 = .ok (.iload 4, 2) := by decide +kernel
theorem dX5_dropBit_29 : decode cX5_dropBit 29 = .ok (.iand, 1) := by decide +kernel
theorem dX5_dropBit_30 : decode cX5_dropBit 30 = .ok (.ifCond .eq 26, 3) := by decide +kernel
theorem dX5_dropBit_33 : decode cX5_dropBit 33 = .ok (.aload_n 0, 1) := by decide +kernel
theorem dX5_dropBit_34 : decode cX5_dropBit 34 = .ok (.getfield 9, 3) := by decide +kernel
theorem dX5_dropBit_37 : decode cX5_dropBit 37 = .ok (.iload_n 3, 1) := by decide +kernel
theorem dX5_dropBit_38 : decode cX5_dropBit 38 = .ok (.dup2, 1) := by decide +kernel
theorem dX5_dropBit_39 : decode cX5_dropBit 39 = .ok (.iaload, 1) := by decide +kernel
theorem dX5_dropBit_40 : decode cX5_dropBit 40 = .ok (.iload 4, 2) := by decide +kernel
theorem dX5_dropBit_42 : decode cX5_dropBit 42 = .ok (.iconst (-1), 1) := by decide +kernel
theorem dX5_dropBit_43 : decode cX5_dropBit 43 = .ok (.ixor, 1) := by decide +kernel
theorem dX5_dropBit_44 : decode cX5_dropBit 44 = .ok (.iand, 1) := by decide +kernel
theorem dX5_dropBit_45 : decode cX5_dropBit 45 = .ok (.iastore, 1) := by decide +kernel
theorem dX5_dropBit_46 : decode cX5_dropBit 46 = .ok (.aload_n 0, 1) := by decide +kernel
theorem dX5_dropBit_47 : decode cX5_dropBit 47 = .ok (.dup, 1) := by decide +kernel
theorem dX5_dropBit_48 : decode cX5_dropBit 48 = .ok (.getfield 57, 3) := by decide +kernel
theorem dX5_dropBit_51 : decode cX5_dropBit 51 = .ok (.iconst 1, 1) := by decide +kernel
theorem dX5_dropBit_52 : decode cX5_dropBit 52 = .ok (.iadd, 1) := by decide +kernel
theorem dX5_dropBit_53 : decode cX5_dropBit 53 = .ok (.putfield 57, 3) := by decide +kernel
theorem dX5_dropBit_56 : decode cX5_dropBit 56 = .ok (.return_, 1) := by decide +kernel
theorem dX5_copyFrom_0 : decode cX5_copyFrom 0 = .ok (.aload_n 1, 1) := by decide +kernel
theorem dX5_copyFrom_1 : decode cX5_copyFrom 1 = .ok (.getfield 9, 3) := by decide +kernel
theorem dX5_copyFrom_4 : decode cX5_copyFrom 4 = .ok (.aload_n 0, 1) := by decide +kernel
theorem dX5_copyFrom_5 : decode cX5_copyFrom 5 = .ok (.getfield 9, 3) := by decide +kernel
theorem dX5_copyFrom_8 : decode cX5_copyFrom 8 = .ok (.invokestatic 61, 3) := by decide +kernel
theorem dX5_copyFrom_11 : decode cX5_copyFrom 11 = .ok (.aload_n 1, 1) := by decide +kernel
theorem dX5_copyFrom_12 : decode cX5_copyFrom 12 = .ok (.getfield 18, 3) := by decide +kernel
theorem dX5_copyFrom_15 : decode cX5_copyFrom 15 = .ok (.aload_n 0, 1) := by decide +kernel
theorem dX5_copyFrom_16 : decode cX5_copyFrom 16 = .ok (.getfield 18, 3) := by decide +kernel
theorem dX5_copyFrom_19 : decode cX5_copyFrom 19 = .ok (.invokestatic 61, 3) := by decide +kernel
theorem dX5_copyFrom_22 : decode cX5_copyFrom 22 = .ok (.aload_n 0, 1) := by decide +kernel
theorem dX5_copyFrom_23 : decode cX5_copyFrom 23 = .ok (.aload_n 1, 1) := by decide +kernel
theorem dX5_copyFrom_24 : decode cX5_copyFrom 24 = .ok (.getfield 57, 3) := by decide +kernel
theorem dX5_copyFrom_27 : decode cX5_copyFrom 27 = .ok (.putfield 57, 3) := by decide +kernel
theorem dX5_copyFrom_30 : decode cX5_copyFrom 30 = .ok (.return_, 1) := by decide +kernel
theorem dX6_init_0 : decode cX6_init 0 = .ok (.aload_n 0, 1) := by decide +kernel
theorem dX6_init_1 : decode cX6_init 1 = .ok (.invokespecial 3, 3) := by decide +kernel
theorem dX6_init_4 : decode cX6_init 4 = .ok (.aload_n 0, 1) := by decide +kernel
theorem dX6_init_5 : decode cX6_init 5 = .ok (.new 9, 3) := by decide +kernel
theorem dX6_init_8 : decode cX6_init 8 = .ok (.dup, 1) := by decide +kernel
theorem dX6_init_9 : decode cX6_init 9 = .ok (.invokespecial 11, 3) := by decide +kernel
theorem dX6_init_12 : decode cX6_init 12 = .ok (.putfield 12, 3) := by decide +kernel
theorem dX6_init_15 : decode cX6_init 15 = .ok (.aload_n 0, 1) := by decide +kernel
theorem dX6_init_16 : decode cX6_init 16 = .ok (.new 9, 3) := by decide +kernel
theorem dX6_init_19 : decode cX6_init 19 = .ok (.dup, 1) := by decide +kernel
theorem dX6_init_20 : decode cX6_init 20 = .ok (.invokespecial 11, 3) := by decide +kernel
theorem dX6_init_23 : decode cX6_init 23 = .ok (.putfield 16, 3) := by decide +kernel
theorem dX6_init_26 : decode cX6_init 26 = .ok (.aload_n 0, 1) := by decide +kernel
theorem dX6_init_27 : decode cX6_init 27 = .ok (.new 9, 3) := by decide +kernel
theorem dX6_init_30 : decode cX6_init 30 = .ok (.dup, 1) := by decide +kernel
theorem dX6_init_31 : decode cX6_init 31 = .ok (.invokespecial 11, 3) := by decide +kernel
theorem dX6_init_34 : decode cX6_init 34 = .ok (.putfield 19, 3) := by decide +kernel
theorem dX6_init_37 : decode cX6_init 37 = .ok (.aload_n 0, 1) := by decide +kernel
theorem dX6_init_38 : decode cX6_init 38 = .ok (.new 9, 3) := by decide +kernel
theorem dX6_init_41 : decode cX6_init 41 = .ok (.dup, 1) := by decide +kernel
theorem dX6_init_42 : decode cX6_init 42 = .ok (.invokespecial 11, 3) := by decide +kernel
theorem dX6_init_45 : decode cX6_init 45 = .ok (.putfield 22, 3) := by decide +kernel
theorem dX6_init_48 : decode cX6_init 48 = .ok (.aload_n 0, 1) := by decide +kernel
theorem dX6_init_49 : decode cX6_init 49 = .ok (.new 25, 3) := by decide +kernel
theorem dX6_init_52 : decode cX6_init 52 = .ok (.dup, 1) := by decide +kernel
theorem dX6_init_53 : decode cX6_init 53 = .ok (.invokespecial 27, 3) := by decide +kernel
theorem dX6_init_56 : decode cX6_init 56 = .ok (.putfield 28, 3) := by decide +kernel
theorem dX6_init_59 : decode cX6_init 59 = .ok (.aload_n 0, 1) := by decide +kernel
theorem dX6_init_60 : decode cX6_init 60 = .ok (.new 32, 3) := by decide +kernel
theorem dX6_init_63 : decode cX6_init 63 = .ok (.dup, 1) := by decide +kernel
theorem dX6_init_64 : decode cX6_init 64 = .ok (.invokespecial 34, 3) := by decide +kernel
theorem dX6_init_67 : decode cX6_init 67 = .ok (.putfield 35, 3) := by decide +kernel
theorem dX6_init_70 : decode cX6_init 70 = .ok (.return_, 1) := by decide +kernel
theorem dX6_readWord_0 : decode cX6_readWord 0 = .ok (.iload_n 1, 1) := by decide +kernel
theorem dX6_readWord_1 : decode cX6_readWord 1 = .ok (.iload_n 2, 1) := by decide +kernel
theorem dX6_readWord_2 : decode cX6_readWord 2 = .ok (.invokestatic 101, 3) := by decide +kernel
theorem dX6_readWord_5 : decode cX6_readWord 5 = .ok (.aload_n 0, 1) := by decide +kernel
theorem dX6_readWord_6 : decode cX6_readWord 6 = .ok (.getfield 12, 3) := by decide +kernel
theorem dX6_readWord_9 : decode cX6_readWord 9 = .ok (.getfield 72, 3) := by decide +kernel
theorem dX6_readWord_12 : decode cX6_readWord 12 = .ok (.iload_n 1, 1) := by decide +kernel
theorem dX6_readWord_13 : decode cX6_readWord 13 = .ok (.iload_n 2, 1) := by decide +kernel
theorem dX6_readWord_14 : decode cX6_readWord 14 = .ok (.invokestatic 104, 3) := by decide +kernel
theorem dX6_readWord_17 : decode cX6_readWord 17 = .ok (.invokevirtual 108, 3) := by decide +kernel
theorem dX6_readWord_20 : decode cX6_readWord 20 = .ok (.ireturn, 1) := by decide +kernel
theorem dX6_writeWord_0 : decode cX6_writeWord 0 = .ok (.iload_n 1, 1) := by decide +kernel
theorem dX6_writeWord_1 : decode cX6_writeWord 1 = .ok (.iload_n 2, 1) := by decide +kernel
theorem dX6_writeWord_2 : decode cX6_writeWord 2 = .ok (.invokestatic 101, 3) := by decide +kernel
theorem dX6_writeWord_5 : decode cX6_writeWord 5 = .ok (.iload_n 3, 1) := by decide +kernel
theorem dX6_writeWord_6 : decode cX6_writeWord 6 = .ok (.invokestatic 111, 3) := by decide +kernel
theorem dX6_writeWord_9 : decode cX6_writeWord 9 = .ok (.iload_n 1, 1) := by decide +kernel
theorem dX6_writeWord_10 : decode cX6_writeWord 10 = .ok (.iload_n 2, 1) := by decide +kernel
theorem dX6_writeWord_11 : decode cX6_writeWord 11 = .ok (.invokestatic 104, 3) := by decide +kernel
theorem dX6_writeWord_14 : decode cX6_writeWord 14 = .ok (.istore 4, 2) := by decide +kernel
theorem dX6_writeWord_16 : decode cX6_writeWord 16 = .ok (.aload_n 0, 1) := by decide +kernel
theorem dX6_writeWord_17 : decode cX6_writeWord 17 = .ok (.getfield 12, 3) := by decide +kernel
theorem dX6_writeWord_20 : decode cX6_writeWord 20 = .ok (.getfield 72, 3) := by decide +kernel
theorem dX6_writeWord_23 : decode cX6_writeWord 23 = .ok (.iload 4, 2) := by decide +kernel
theorem dX6_writeWord_25 : decode cX6_writeWord 25 = .ok (.invokevirtual 108, 3) := by decide +kernel
theorem dX6_writeWord_28 : decode cX6_writeWord 28 = .ok (.istore 5, 2) := by decide +kernel
theorem dX6_writeWord_30 : decode cX6_writeWord 30 = .ok (.aload_n 0, 1) := by decide +kernel
theorem dX6_writeWord_31 : decode cX6_writeWord 31 = .ok (.getfield 12, 3) := by decide +kernel
theorem dX6_writeWord_34 : decode cX6_writeWord 34 = .ok (.getfield 72, 3) := by decide +kernel
theorem dX6_writeWord_37 : decode cX6_writeWord 37 = .ok (.iload 4, 2) := by decide +kernel
theorem dX6_writeWord_39 : decode cX6_writeWord 39 = .ok (.iload_n 3, 1) := by decide +kernel
theorem dX6_writeWord_40 : decode cX6_writeWord 40 = .ok (.invokevirtual 80, 3) := by decide +kernel
theorem dX6_writeWord_43 : decode cX6_writeWord 43 = .ok (.iload 5, 2) := by decide +kernel
theorem dX6_writeWord_45 : decode cX6_writeWord 45 = .ok (.ireturn, 1) := by decide +kernel
theorem dX6_clearTank_0 : decode cX6_clearTank 0 = .ok (.iload_n 1, 1) := by decide +kernel
theorem dX6_clearTank_1 : decode cX6_clearTank 1 = .ok (.invokestatic 114, 3) := by decide +kernel
theorem dX6_clearTank_4 : decode cX6_clearTank 4 = .ok (.aload_n 0, 1) := by decide +kernel
theorem dX6_clearTank_5 : decode cX6_clearTank 5 = .ok (.getfield 12, 3) := by decide +kernel
theorem dX6_clearTank_8 : decode cX6_clearTank 8 = .ok (.getfield 72, 3) := by decide +kernel
theorem dX6_clearTank_11 : decode cX6_clearTank 11 = .ok (.iload_n 1, 1) := by decide +kernel
theorem dX6_clearTank_12 : decode cX6_clearTank 12 = .ok (.invokevirtual 117, 3) := by decide +kernel
theorem dX6_clearTank_15 : decode cX6_clearTank 15 = .ok (.istore_n 2, 1) := by decide +kernel
theorem dX6_clearTank_16 : decode cX6_clearTank 16 = .ok (.aload_n 0, 1) := by decide +kernel
theorem dX6_clearTank_17 : decode cX6_clearTank 17 = .ok (.getfield 12, 3) := by decide +kernel
theorem dX6_clearTank_20 : decode cX6_clearTank 20 = .ok (.getfield 72, 3) := by decide +kernel
theorem dX6_clearTank_23 : decode cX6_clearTank 23 = .ok (.iload_n 1, 1) := by decide +kernel
theorem dX6_clearTank_24 : decode cX6_clearTank 24 = .ok (.invokevirtual 120, 3) := by decide +kernel
theorem dX6_clearTank_27 : decode cX6_clearTank 27 = .ok (.iload_n 2, 1) := by decide +kernel
theorem dX6_clearTank_28 : decode cX6_clearTank 28 = .ok (.ireturn, 1) := by decide +kernel
theorem dX6_swapTanks_0 : decode cX6_swapTanks 0 = .ok (.iload_n 1, 1) := by decide +kernel
theorem dX6_swapTanks_1 : decode cX6_swapTanks 1 = .ok (.invokestatic 114, 3) := by decide +kernel
theorem dX6_swapTanks_4 : decode cX6_swapTanks 4 = .ok (.iload_n 2, 1) := by decide +kernel
theorem dX6_swapTanks_5 : decode cX6_swapTanks 5 = .ok (.invokestatic 114, 3) := by decide +kernel
theorem dX6_swapTanks_8 : decode cX6_swapTanks 8 = .ok (.aload_n 0, 1) := by decide +kernel
theorem dX6_swapTanks_9 : decode cX6_swapTanks 9 = .ok (.getfield 12, 3) := by decide +kernel
theorem dX6_swapTanks_12 : decode cX6_swapTanks 12 = .ok (.getfield 72, 3) := by decide +kernel
theorem dX6_swapTanks_15 : decode cX6_swapTanks 15 = .ok (.iload_n 1, 1) := by decide +kernel
theorem dX6_swapTanks_16 : decode cX6_swapTanks 16 = .ok (.iload_n 2, 1) := by decide +kernel
theorem dX6_swapTanks_17 : decode cX6_swapTanks 17 = .ok (.invokevirtual 123, 3) := by decide +kernel
theorem dX6_swapTanks_20 : decode cX6_swapTanks 20 = .ok (.aload_n 0, 1) := by decide +kernel
theorem dX6_swapTanks_21 : decode cX6_swapTanks 21 = .ok (.getfield 12, 3) := by decide +kernel
theorem dX6_swapTanks_24 : decode cX6_swapTanks 24 = .ok (.getfield 126, 3) := by decide +kernel
theorem dX6_swapTanks_27 : decode cX6_swapTanks 27 = .ok (.iload_n 1, 1) := by decide +kernel
theorem dX6_swapTanks_28 : decode cX6_swapTanks 28 = .ok (.iload_n 2, 1) := by decide +kernel
theorem dX6_swapTanks_29 : decode cX6_swapTanks 29 = .ok (.invokevirtual 130, 3) := by decide +kernel
theorem dX6_swapTanks_32 : decode cX6_swapTanks 32 = .ok (.return_, 1) := by decide +kernel
theorem dX6_bitCount_0 : decode cX6_bitCount 0 = .ok (.iload_n 1, 1) := by decide +kernel
theorem dX6_bitCount_1 : decode cX6_bitCount 1 = .ok (.invokestatic 114, 3) := by decide +kernel
theorem dX6_bitCount_4 : decode cX6_bitCount 4 = .ok (.aload_n 0, 1) := by decide +kernel
theorem dX6_bitCount_5 : decode cX6_bitCount 5 = .ok (.getfield 12, 3) := by decide +kernel
theorem dX6_bitCount_8 : decode cX6_bitCount 8 = .ok (.getfield 72, 3) := by decide +kernel
theorem dX6_bitCount_11 : decode cX6_bitCount 11 = .ok (.iload_n 1, 1) := by decide +kernel
theorem dX6_bitCount_12 : decode cX6_bitCount 12 = .ok (.invokevirtual 117, 3) := by decide +kernel
theorem dX6_bitCount_15 : decode cX6_bitCount 15 = .ok (.ireturn, 1) := by decide +kernel
theorem dX6_slips_0 : decode cX6_slips 0 = .ok (.iload_n 1, 1) := by decide +kernel
theorem dX6_slips_1 : decode cX6_slips 1 = .ok (.invokestatic 114, 3) := by decide +kernel
theorem dX6_slips_4 : decode cX6_slips 4 = .ok (.aload_n 0, 1) := by decide +kernel
theorem dX6_slips_5 : decode cX6_slips 5 = .ok (.getfield 12, 3) := by decide +kernel
theorem dX6_slips_8 : decode cX6_slips 8 = .ok (.getfield 72, 3) := by decide +kernel
theorem dX6_slips_11 : decode cX6_slips 11 = .ok (.iload_n 1, 1) := by decide +kernel
theorem dX6_slips_12 : decode cX6_slips 12 = .ok (.invokevirtual 133, 3) := by decide +kernel
theorem dX6_slips_15 : decode cX6_slips 15 = .ok (.ireturn, 1) := by decide +kernel
theorem dX6_dropouts_0 : decode cX6_dropouts 0 = .ok (.aload_n 0, 1) := by decide +kernel
theorem dX6_dropouts_1 : decode cX6_dropouts 1 = .ok (.getfield 12, 3) := by decide +kernel
theorem dX6_dropouts_4 : decode cX6_dropouts 4 = .ok (.getfield 72, 3) := by decide +kernel
theorem dX6_dropouts_7 : decode cX6_dropouts 7 = .ok (.getfield 136, 3) := by decide +kernel
theorem dX6_dropouts_10 : decode cX6_dropouts 10 = .ok (.ireturn, 1) := by decide +kernel
theorem dX6_setTemperature_0 : decode cX6_setTemperature 0 = .ok (.iload_n 1, 1) := by decide +kernel
theorem dX6_setTemperature_1 : decode cX6_setTemperature 1 = .ok (.invokestatic 114, 3) := by decide +kernel
theorem dX6_setTemperature_4 : decode cX6_setTemperature 4 = .ok (.iload_n 2, 1) := by decide +kernel
theorem dX6_setTemperature_5 : decode cX6_setTemperature 5 = .ok (.invokestatic 139, 3) := by decide +kernel
theorem dX6_setTemperature_8 : decode cX6_setTemperature 8 = .ok (.aload_n 0, 1) := by decide +kernel
theorem dX6_setTemperature_9 : decode cX6_setTemperature 9 = .ok (.getfield 12, 3) := by decide +kernel
theorem dX6_setTemperature_12 : decode cX6_setTemperature 12 = .ok (.getfield 126, 3) := by decide +kernel
theorem dX6_setTemperature_15 : decode cX6_setTemperature 15 = .ok (.iload_n 1, 1) := by decide +kernel
theorem dX6_setTemperature_16 : decode cX6_setTemperature 16 = .ok (.invokevirtual 142, 3) := by decide +kernel
theorem dX6_setTemperature_19 : decode cX6_setTemperature 19 = .ok (.istore_n 3, 1) := by decide +kernel
theorem dX6_setTemperature_20 : decode cX6_setTemperature 20 = .ok (.aload_n 0, 1) := by decide +kernel
theorem dX6_setTemperature_21 : decode cX6_setTemperature 21 = .ok (.getfield 12, 3) := by decide +kernel
theorem dX6_setTemperature_24 : decode cX6_setTemperature 24 = .ok (.getfield 126, 3) := by decide +kernel
theorem dX6_setTemperature_27 : decode cX6_setTemperature 27 = .ok (.iload_n 1, 1) := by decide +kernel
theorem dX6_setTemperature_28 : decode cX6_setTemperature 28 = .ok (.iload_n 2, 1) := by decide +kernel
theorem dX6_setTemperature_29 : decode cX6_setTemperature 29 = .ok (.invokevirtual 145, 3) := by decide +kernel
theorem dX6_setTemperature_32 : decode cX6_setTemperature 32 = .ok (.iload_n 3, 1) := by decide +kernel
theorem dX6_setTemperature_33 : decode cX6_setTemperature 33 = .ok (.ireturn, 1) := by decide +kernel
theorem dX6_temperature_0 : decode cX6_temperature 0 = .ok (.iload_n 1, 1) := by decide +kernel
theorem dX6_temperature_1 : decode cX6_temperature 1 = .ok (.invokestatic 114, 3) := by decide +kernel
theorem dX6_temperature_4 : decode cX6_temperature 4 = .ok (.aload_n 0, 1) := by decide +kernel
theorem dX6_temperature_5 : decode cX6_temperature 5 = .ok (.getfield 12, 3) := by decide +kernel
theorem dX6_temperature_8 : decode cX6_temperature 8 = .ok (.getfield 126, 3) := by decide +kernel
theorem dX6_temperature_11 : decode cX6_temperature 11 = .ok (.iload_n 1, 1) := by decide +kernel
theorem dX6_temperature_12 : decode cX6_temperature 12 = .ok (.invokevirtual 142, 3) := by decide +kernel
theorem dX6_temperature_15 : decode cX6_temperature 15 = .ok (.ireturn, 1) := by decide +kernel
theorem dX6_setOven_0 : decode cX6_setOven 0 = .ok (.iload_n 1, 1) := by decide +kernel
theorem dX6_setOven_1 : decode cX6_setOven 1 = .ok (.invokestatic 139, 3) := by decide +kernel
theorem dX6_setOven_4 : decode cX6_setOven 4 = .ok (.aload_n 0, 1) := by decide +kernel
theorem dX6_setOven_5 : decode cX6_setOven 5 = .ok (.getfield 12, 3) := by decide +kernel
theorem dX6_setOven_8 : decode cX6_setOven 8 = .ok (.getfield 126, 3) := by decide +kernel
theorem dX6_setOven_11 : decode cX6_setOven 11 = .ok (.getfield 148, 3) := by decide +kernel
theorem dX6_setOven_14 : decode cX6_setOven 14 = .ok (.istore_n 2, 1) := by decide +kernel
theorem dX6_setOven_15 : decode cX6_setOven 15 = .ok (.aload_n 0, 1) := by decide +kernel
theorem dX6_setOven_16 : decode cX6_setOven 16 = .ok (.getfield 12, 3) := by decide +kernel
theorem dX6_setOven_19 : decode cX6_setOven 19 = .ok (.getfield 126, 3) := by decide +kernel
theorem dX6_setOven_22 : decode cX6_setOven 22 = .ok (.iload_n 1, 1) := by decide +kernel
theorem dX6_setOven_23 : decode cX6_setOven 23 = .ok (.putfield 148, 3) := by decide +kernel
theorem dX6_setOven_26 : decode cX6_setOven 26 = .ok (.iload_n 2, 1) := by decide +kernel
theorem dX6_setOven_27 : decode cX6_setOven 27 = .ok (.ireturn, 1) := by decide +kernel
theorem dX6_setPilotTemperature_0 : decode cX6_setPilotTemperature 0 = .ok (.iload_n 1, 1) := by decide +kernel
theorem dX6_setPilotTemperature_1 : decode cX6_setPilotTemperature 1 = .ok (.invokestatic 139, 3) := by decide +kernel
theorem dX6_setPilotTemperature_4 : decode cX6_setPilotTemperature 4 = .ok (.aload_n 0, 1) := by decide +kernel
theorem dX6_setPilotTemperature_5 : decode cX6_setPilotTemperature 5 = .ok (.getfield 12, 3) := by decide +kernel
theorem dX6_setPilotTemperature_8 : decode cX6_setPilotTemperature 8 = .ok (.getfield 126, 3) := by decide +kernel
theorem dX6_setPilotTemperature_11 : decode cX6_setPilotTemperature 11 = .ok (.getfield 151, 3) := by decide +kernel
theorem dX6_setPilotTemperature_14 : decode cX6_setPilotTemperature 14 = .ok (.istore_n 2, 1) := by decide +kernel
theorem dX6_setPilotTemperature_15 : decode cX6_setPilotTemperature 15 = .ok (.aload_n 0, 1) := by decide +kernel
theorem dX6_setPilotTemperature_16 : decode cX6_setPilotTemperature 16 = .ok (.getfield 12, 3) := by decide +kernel
theorem dX6_setPilotTemperature_19 : decode cX6_setPilotTemperature 19 = .ok (.getfield 126, 3) := by decide +kernel
theorem dX6_setPilotTemperature_22 : decode cX6_setPilotTemperature 22 = .ok (.iload_n 1, 1) := by decide +kernel
theorem dX6_setPilotTemperature_23 : decode cX6_setPilotTemperature 23 = .ok (.putfield 151, 3) := by decide +kernel
theorem dX6_setPilotTemperature_26 : decode cX6_setPilotTemperature 26 = .ok (.iload_n 2, 1) := by decide +kernel
theorem dX6_setPilotTemperature_27 : decode cX6_setPilotTemperature 27 = .ok (.ireturn, 1) := by decide +kernel
theorem dX6_setPilot_0 : decode cX6_setPilot 0 = .ok (.aload_n 0, 1) := by decide +kernel
theorem dX6_setPilot_1 : decode cX6_setPilot 1 = .ok (.getfield 12, 3) := by decide +kernel
theorem dX6_setPilot_4 : decode cX6_setPilot 4 = .ok (.getfield 126, 3) := by decide +kernel
theorem dX6_setPilot_7 : decode cX6_setPilot 7 = .ok (.getfield 154, 3) := by decide +kernel
theorem dX6_setPilot_10 : decode cX6_setPilot 10 = .ok (.istore_n 2, 1) := by decide +kernel
theorem dX6_setPilot_11 : decode cX6_setPilot 11 = .ok (.aload_n 0, 1) := by decide +kernel
theorem dX6_setPilot_12 : decode cX6_setPilot 12 = .ok (.getfield 12, 3) := by decide +kernel
theorem dX6_setPilot_15 : decode cX6_setPilot 15 = .ok (.getfield 126, 3) := by decide +kernel
theorem dX6_setPilot_18 : decode cX6_setPilot 18 = .ok (.iload_n 1, 1) := by decide +kernel
theorem dX6_setPilot_19 : decode cX6_setPilot 19 = .ok (.putfield 154, 3) := by decide +kernel
theorem dX6_setPilot_22 : decode cX6_setPilot 22 = .ok (.iload_n 2, 1) := by decide +kernel
theorem dX6_setPilot_23 : decode cX6_setPilot 23 = .ok (.ireturn, 1) := by decide +kernel
theorem dX6_setFixedPeriod_0 : decode cX6_setFixedPeriod 0 = .ok (.iload_n 1, 1) := by decide +kernel
theorem dX6_setFixedPeriod_1 : decode cX6_setFixedPeriod 1 = .ok (.ldc 158, 2) := by decide +kernel
theorem dX6_setFixedPeriod_3 : decode cX6_setFixedPeriod 3 = .ok (.if_icmp .lt 9, 3) := by decide +kernel
theorem dX6_setFixedPeriod_6 : decode cX6_setFixedPeriod 6 = .ok (.iload_n 1, 1) := by decide +kernel
theorem dX6_setFixedPeriod_7 : decode cX6_setFixedPeriod 7 = .ok (.ldc 159, 2) := by decide +kernel
theorem dX6_setFixedPeriod_9 : decode cX6_setFixedPeriod 9 = .ok (.if_icmp .le 13, 3) := by decide +kernel
theorem dX6_setFixedPeriod_12 : decode cX6_setFixedPeriod 12 = .ok (.new 63, 3) := by decide +kernel
theorem dX6_setFixedPeriod_15 : decode cX6_setFixedPeriod 15 = .ok (.dup, 1) := by decide +kernel
theorem dX6_setFixedPeriod_16 : decode cX6_setFixedPeriod 16 = .ok (.ldc 160, 2) := by decide +kernel
theorem dX6_setFixedPeriod_18 : decode cX6_setFixedPeriod 18 = .ok (.invokespecial 67, 3) := by decide +kernel
theorem dX6_setFixedPeriod_21 : decode cX6_setFixedPeriod 21 = .ok (.athrow, 1) := by decide +kernel
theorem dX6_setFixedPeriod_22 : decode cX6_setFixedPeriod 22 = .ok (.aload_n 0, 1) := by decide +kernel
theorem dX6_setFixedPeriod_23 : decode cX6_setFixedPeriod 23 = .ok (.getfield 12, 3) := by decide +kernel
theorem dX6_setFixedPeriod_26 : decode cX6_setFixedPeriod 26 = .ok (.getfield 126, 3) := by decide +kernel
theorem dX6_setFixedPeriod_29 : decode cX6_setFixedPeriod 29 = .ok (.getfield 162, 3) := by decide +kernel
theorem dX6_setFixedPeriod_32 : decode cX6_setFixedPeriod 32 = .ok (.istore_n 2, 1) := by decide +kernel
theorem dX6_setFixedPeriod_33 : decode cX6_setFixedPeriod 33 = .ok (.aload_n 0, 1) := by decide +kernel
theorem dX6_setFixedPeriod_34 : decode cX6_setFixedPeriod 34 = .ok (.getfield 12, 3) := by decide +kernel
theorem dX6_setFixedPeriod_37 : decode cX6_setFixedPeriod 37 = .ok (.getfield 126, 3) := by decide +kernel
theorem dX6_setFixedPeriod_40 : decode cX6_setFixedPeriod 40 = .ok (.iload_n 1, 1) := by decide +kernel
theorem dX6_setFixedPeriod_41 : decode cX6_setFixedPeriod 41 = .ok (.putfield 162, 3) := by decide +kernel
theorem dX6_setFixedPeriod_44 : decode cX6_setFixedPeriod 44 = .ok (.iload_n 2, 1) := by decide +kernel
theorem dX6_setFixedPeriod_45 : decode cX6_setFixedPeriod 45 = .ok (.ireturn, 1) := by decide +kernel
theorem dX6_period_0 : decode cX6_period 0 = .ok (.aload_n 0, 1) := by decide +kernel
theorem dX6_period_1 : decode cX6_period 1 = .ok (.getfield 12, 3) := by decide +kernel
theorem dX6_period_4 : decode cX6_period 4 = .ok (.getfield 126, 3) := by decide +kernel
theorem dX6_period_7 : decode cX6_period 7 = .ok (.invokevirtual 165, 3) := by decide +kernel
theorem dX6_period_10 : decode cX6_period 10 = .ok (.ireturn, 1) := by decide +kernel
theorem dX6_mismatch_0 : decode cX6_mismatch 0 = .ok (.iload_n 1, 1) := by decide +kernel
theorem dX6_mismatch_1 : decode cX6_mismatch 1 = .ok (.invokestatic 114, 3) := by decide +kernel
theorem dX6_mismatch_4 : decode cX6_mismatch 4 = .ok (.aload_n 0, 1) := by decide +kernel
theorem dX6_mismatch_5 : decode cX6_mismatch 5 = .ok (.getfield 12, 3) := by decide +kernel
theorem dX6_mismatch_8 : decode cX6_mismatch 8 = .ok (.getfield 126, 3) := by decide +kernel
theorem dX6_mismatch_11 : decode cX6_mismatch 11 = .ok (.astore_n 2, 1) := by decide +kernel
theorem dX6_mismatch_12 : decode cX6_mismatch 12 = .ok (.aload_n 2, 1) := by decide +kernel
theorem dX6_mismatch_13 : decode cX6_mismatch 13 = .ok (.iload_n 1, 1) := by decide +kernel
theorem dX6_mismatch_14 : decode cX6_mismatch 14 = .ok (.invokevirtual 142, 3) := by decide +kernel
theorem dX6_mismatch_17 : decode cX6_mismatch 17 = .ok (.aload_n 2, 1) := by decide +kernel
theorem dX6_mismatch_18 : decode cX6_mismatch 18 = .ok (.invokevirtual 165, 3) := by decide +kernel
theorem dX6_mismatch_21 : decode cX6_mismatch 21 = .ok (.invokestatic 169, 3) := by decide +kernel
theorem dX6_mismatch_24 : decode cX6_mismatch 24 = .ok (.ireturn, 1) := by decide +kernel
theorem dX6_start_0 : decode cX6_start 0 = .ok (.iload_n 1, 1) := by decide +kernel
theorem dX6_start_1 : decode cX6_start 1 = .ok (.iload_n 2, 1) := by decide +kernel
theorem dX6_start_2 : decode cX6_start 2 = .ok (.invokestatic 101, 3) := by decide +kernel
theorem dX6_start_5 : decode cX6_start 5 = .ok (.aload_n 0, 1) := by decide +kernel
theorem dX6_start_6 : decode cX6_start 6 = .ok (.getfield 12, 3) := by decide +kernel
theorem dX6_start_9 : decode cX6_start 9 = .ok (.iload_n 1, 1) := by decide +kernel
theorem dX6_start_10 : decode cX6_start 10 = .ok (.iload_n 2, 1) := by decide +kernel
theorem dX6_start_11 : decode cX6_start 11 = .ok (.invokestatic 104, 3) := by decide +kernel
theorem dX6_start_14 : decode cX6_start 14 = .ok (.invokevirtual 89, 3) := by decide +kernel
theorem dX6_start_17 : decode cX6_start 17 = .ok (.return_, 1) := by decide +kernel
theorem dX6_run_0 : decode cX6_run 0 = .ok (.iload_n 1, 1) := by decide +kernel
theorem dX6_run_1 : decode cX6_run 1 = .ok (.sipush 500, 3) := by decide +kernel
theorem dX6_run_4 : decode cX6_run 4 = .ok (.invokestatic 186, 3) := by decide +kernel
theorem dX6_run_7 : decode cX6_run 7 = .ok (.aload_n 0, 1) := by decide +kernel
theorem dX6_run_8 : decode cX6_run 8 = .ok (.invokevirtual 189, 3) := by decide +kernel
theorem dX6_run_11 : decode cX6_run 11 = .ok (.aload_n 0, 1) := by decide +kernel
theorem dX6_run_12 : decode cX6_run 12 = .ok (.getfield 12, 3) := by decide +kernel
theorem dX6_run_15 : decode cX6_run 15 = .ok (.iload_n 1, 1) := by decide +kernel
theorem dX6_run_16 : decode cX6_run 16 = .ok (.invokevirtual 192, 3) := by decide +kernel
theorem dX6_run_19 : decode cX6_run 19 = .ok (.ireturn, 1) := by decide +kernel
theorem dX6_idle_0 : decode cX6_idle 0 = .ok (.iload_n 1, 1) := by decide +kernel
theorem dX6_idle_1 : decode cX6_idle 1 = .ok (.sipush 3200, 3) := by decide +kernel
theorem dX6_idle_4 : decode cX6_idle 4 = .ok (.invokestatic 186, 3) := by decide +kernel
theorem dX6_idle_7 : decode cX6_idle 7 = .ok (.aload_n 0, 1) := by decide +kernel
theorem dX6_idle_8 : decode cX6_idle 8 = .ok (.getfield 12, 3) := by decide +kernel
theorem dX6_idle_11 : decode cX6_idle 11 = .ok (.iload_n 1, 1) := by decide +kernel
theorem dX6_idle_12 : decode cX6_idle 12 = .ok (.invokevirtual 195, 3) := by decide +kernel
theorem dX6_idle_15 : decode cX6_idle 15 = .ok (.aload_n 0, 1) := by decide +kernel
theorem dX6_idle_16 : decode cX6_idle 16 = .ok (.getfield 12, 3) := by decide +kernel
theorem dX6_idle_19 : decode cX6_idle 19 = .ok (.getfield 198, 3) := by decide +kernel
theorem dX6_idle_22 : decode cX6_idle 22 = .ok (.ireturn, 1) := by decide +kernel
theorem dX6_time_0 : decode cX6_time 0 = .ok (.aload_n 0, 1) := by decide +kernel
theorem dX6_time_1 : decode cX6_time 1 = .ok (.getfield 12, 3) := by decide +kernel
theorem dX6_time_4 : decode cX6_time 4 = .ok (.getfield 198, 3) := by decide +kernel
theorem dX6_time_7 : decode cX6_time 7 = .ok (.ireturn, 1) := by decide +kernel
theorem dX6_state_0 : decode cX6_state 0 = .ok (.aload_n 0, 1) := by decide +kernel
theorem dX6_state_1 : decode cX6_state 1 = .ok (.getfield 12, 3) := by decide +kernel
theorem dX6_state_4 : decode cX6_state 4 = .ok (.getfield 201, 3) := by decide +kernel
theorem dX6_state_7 : decode cX6_state 7 = .ok (.ireturn, 1) := by decide +kernel
theorem dX6_accumulator_0 : decode cX6_accumulator 0 = .ok (.aload_n 0, 1) := by decide +kernel
theorem dX6_accumulator_1 : decode cX6_accumulator 1 = .ok (.getfield 12, 3) := by decide +kernel
theorem dX6_accumulator_4 : decode cX6_accumulator 4 = .ok (.getfield 204, 3) := by decide +kernel
theorem dX6_accumulator_7 : decode cX6_accumulator 7 = .ok (.ireturn, 1) := by decide +kernel
theorem dX6_hasOverflow_0 : decode cX6_hasOverflow 0 = .ok (.aload_n 0, 1) := by decide +kernel
theorem dX6_hasOverflow_1 : decode cX6_hasOverflow 1 = .ok (.getfield 12, 3) := by decide +kernel
theorem dX6_hasOverflow_4 : decode cX6_hasOverflow 4 = .ok (.getfield 207, 3) := by decide +kernel
theorem dX6_hasOverflow_7 : decode cX6_hasOverflow 7 = .ok (.ireturn, 1) := by decide +kernel
theorem dX6_location_0 : decode cX6_location 0 = .ok (.aload_n 0, 1) := by decide +kernel
theorem dX6_location_1 : decode cX6_location 1 = .ok (.getfield 12, 3) := by decide +kernel
theorem dX6_location_4 : decode cX6_location 4 = .ok (.getfield 210, 3) := by decide +kernel
theorem dX6_location_7 : decode cX6_location 7 = .ok (.ireturn, 1) := by decide +kernel
theorem dX6_offerInput_0 : decode cX6_offerInput 0 = .ok (.iload_n 1, 1) := by decide +kernel
theorem dX6_offerInput_1 : decode cX6_offerInput 1 = .ok (.invokestatic 111, 3) := by decide +kernel
theorem dX6_offerInput_4 : decode cX6_offerInput 4 = .ok (.aload_n 0, 1) := by decide +kernel
theorem dX6_offerInput_5 : decode cX6_offerInput 5 = .ok (.getfield 12, 3) := by decide +kernel
theorem dX6_offerInput_8 : decode cX6_offerInput 8 = .ok (.getfield 213, 3) := by decide +kernel
theorem dX6_offerInput_11 : decode cX6_offerInput 11 = .ok (.invokevirtual 217, 3) := by decide +kernel
theorem dX6_offerInput_14 : decode cX6_offerInput 14 = .ok (.ifCond .eq 13, 3) := by decide +kernel
theorem dX6_offerInput_17 : decode cX6_offerInput 17 = .ok (.new 43, 3) := by decide +kernel
theorem dX6_offerInput_20 : decode cX6_offerInput 20 = .ok (.dup, 1) := by decide +kernel
theorem dX6_offerInput_21 : decode cX6_offerInput 21 = .ok (.ldc 222, 2) := by decide +kernel
theorem dX6_offerInput_23 : decode cX6_offerInput 23 = .ok (.invokespecial 47, 3) := by decide +kernel
theorem dX6_offerInput_26 : decode cX6_offerInput 26 = .ok (.athrow, 1) := by decide +kernel
theorem dX6_offerInput_27 : decode cX6_offerInput 27 = .ok (.aload_n 0, 1) := by decide +kernel
theorem dX6_offerInput_28 : decode cX6_offerInput 28 = .ok (.getfield 12, 3) := by decide +kernel
theorem dX6_offerInput_31 : decode cX6_offerInput 31 = .ok (.getfield 213, 3) := by decide +kernel
theorem dX6_offerInput_34 : decode cX6_offerInput 34 = .ok (.iload_n 1, 1) := by decide +kernel
theorem dX6_offerInput_35 : decode cX6_offerInput 35 = .ok (.invokevirtual 224, 3) := by decide +kernel
theorem dX6_offerInput_38 : decode cX6_offerInput 38 = .ok (.aload_n 0, 1) := by decide +kernel
theorem dX6_offerInput_39 : decode cX6_offerInput 39 = .ok (.getfield 12, 3) := by decide +kernel
theorem dX6_offerInput_42 : decode cX6_offerInput 42 = .ok (.getfield 201, 3) := by decide +kernel
theorem dX6_offerInput_45 : decode cX6_offerInput 45 = .ok (.iconst 2, 1) := by decide +kernel
theorem dX6_offerInput_46 : decode cX6_offerInput 46 = .ok (.if_icmp .ne 11, 3) := by decide +kernel
theorem dX6_offerInput_49 : decode cX6_offerInput 49 = .ok (.aload_n 0, 1) := by decide +kernel
theorem dX6_offerInput_50 : decode cX6_offerInput 50 = .ok (.getfield 12, 3) := by decide +kernel
theorem dX6_offerInput_53 : decode cX6_offerInput 53 = .ok (.iconst 0, 1) := by decide +kernel
theorem dX6_offerInput_54 : decode cX6_offerInput 54 = .ok (.putfield 201, 3) := by decide +kernel
theorem dX6_offerInput_57 : decode cX6_offerInput 57 = .ok (.aload_n 0, 1) := by decide +kernel
theorem dX6_offerInput_58 : decode cX6_offerInput 58 = .ok (.getfield 12, 3) := by decide +kernel
theorem dX6_offerInput_61 : decode cX6_offerInput 61 = .ok (.getfield 213, 3) := by decide +kernel
theorem dX6_offerInput_64 : decode cX6_offerInput 64 = .ok (.getfield 227, 3) := by decide +kernel
theorem dX6_offerInput_67 : decode cX6_offerInput 67 = .ok (.ireturn, 1) := by decide +kernel
theorem dX6_takeOutput_0 : decode cX6_takeOutput 0 = .ok (.aload_n 0, 1) := by decide +kernel
theorem dX6_takeOutput_1 : decode cX6_takeOutput 1 = .ok (.getfield 12, 3) := by decide +kernel
theorem dX6_takeOutput_4 : decode cX6_takeOutput 4 = .ok (.getfield 228, 3) := by decide +kernel
theorem dX6_takeOutput_7 : decode cX6_takeOutput 7 = .ok (.getfield 227, 3) := by decide +kernel
theorem dX6_takeOutput_10 : decode cX6_takeOutput 10 = .ok (.ifCond .ne 13, 3) := by decide +kernel
theorem dX6_takeOutput_13 : decode cX6_takeOutput 13 = .ok (.new 231, 3) := by decide +kernel
theorem dX6_takeOutput_16 : decode cX6_takeOutput 16 = .ok (.dup, 1) := by decide +kernel
theorem dX6_takeOutput_17 : decode cX6_takeOutput 17 = .ok (.ldc 233, 2) := by decide +kernel
theorem dX6_takeOutput_19 : decode cX6_takeOutput 19 = .ok (.invokespecial 235, 3) := by decide +kernel
theorem dX6_takeOutput_22 : decode cX6_takeOutput 22 = .ok (.athrow, 1) := by decide +kernel
theorem dX6_takeOutput_23 : decode cX6_takeOutput 23 = .ok (.aload_n 0, 1) := by decide +kernel
theorem dX6_takeOutput_24 : decode cX6_takeOutput 24 = .ok (.getfield 12, 3) := by decide +kernel
theorem dX6_takeOutput_27 : decode cX6_takeOutput 27 = .ok (.getfield 201, 3) := by decide +kernel
theorem dX6_takeOutput_30 : decode cX6_takeOutput 30 = .ok (.iconst 3, 1) := by decide +kernel
theorem dX6_takeOutput_31 : decode cX6_takeOutput 31 = .ok (.if_icmp .ne 11, 3) := by decide +kernel
theorem dX6_takeOutput_34 : decode cX6_takeOutput 34 = .ok (.aload_n 0, 1) := by decide +kernel
theorem dX6_takeOutput_35 : decode cX6_takeOutput 35 = .ok (.getfield 12, 3) := by decide +kernel
theorem dX6_takeOutput_38 : decode cX6_takeOutput 38 = .ok (.iconst 0, 1) := by decide +kernel
theorem dX6_takeOutput_39 : decode cX6_takeOutput 39 = .ok (.putfield 201, 3) := by decide +kernel
theorem dX6_takeOutput_42 : decode cX6_takeOutput 42 = .ok (.aload_n 0, 1) := by decide +kernel
theorem dX6_takeOutput_43 : decode cX6_takeOutput 43 = .ok (.getfield 12, 3) := by decide +kernel
theorem dX6_takeOutput_46 : decode cX6_takeOutput 46 = .ok (.getfield 228, 3) := by decide +kernel
theorem dX6_takeOutput_49 : decode cX6_takeOutput 49 = .ok (.invokevirtual 236, 3) := by decide +kernel
theorem dX6_takeOutput_52 : decode cX6_takeOutput 52 = .ok (.ireturn, 1) := by decide +kernel
theorem dX6_outputLength_0 : decode cX6_outputLength 0 = .ok (.aload_n 0, 1) := by decide +kernel
theorem dX6_outputLength_1 : decode cX6_outputLength 1 = .ok (.getfield 12, 3) := by decide +kernel
theorem dX6_outputLength_4 : decode cX6_outputLength 4 = .ok (.getfield 228, 3) := by decide +kernel
theorem dX6_outputLength_7 : decode cX6_outputLength 7 = .ok (.getfield 227, 3) := by decide +kernel
theorem dX6_outputLength_10 : decode cX6_outputLength 10 = .ok (.ireturn, 1) := by decide +kernel
theorem dX6_executed_0 : decode cX6_executed 0 = .ok (.aload_n 0, 1) := by decide +kernel
theorem dX6_executed_1 : decode cX6_executed 1 = .ok (.getfield 12, 3) := by decide +kernel
theorem dX6_executed_4 : decode cX6_executed 4 = .ok (.getfield 239, 3) := by decide +kernel
theorem dX6_executed_7 : decode cX6_executed 7 = .ok (.ireturn, 1) := by decide +kernel
theorem dX6_executedAt_0 : decode cX6_executedAt 0 = .ok (.iload_n 1, 1) := by decide +kernel
theorem dX6_executedAt_1 : decode cX6_executedAt 1 = .ok (.iload_n 2, 1) := by decide +kernel
theorem dX6_executedAt_2 : decode cX6_executedAt 2 = .ok (.invokestatic 101, 3) := by decide +kernel
theorem dX6_executedAt_5 : decode cX6_executedAt 5 = .ok (.aload_n 0, 1) := by decide +kernel
theorem dX6_executedAt_6 : decode cX6_executedAt 6 = .ok (.getfield 12, 3) := by decide +kernel
theorem dX6_executedAt_9 : decode cX6_executedAt 9 = .ok (.iload_n 1, 1) := by decide +kernel
theorem dX6_executedAt_10 : decode cX6_executedAt 10 = .ok (.iload_n 2, 1) := by decide +kernel
theorem dX6_executedAt_11 : decode cX6_executedAt 11 = .ok (.invokestatic 104, 3) := by decide +kernel
theorem dX6_executedAt_14 : decode cX6_executedAt 14 = .ok (.invokevirtual 242, 3) := by decide +kernel
theorem dX6_executedAt_17 : decode cX6_executedAt 17 = .ok (.ireturn, 1) := by decide +kernel
theorem dX6_waited_0 : decode cX6_waited 0 = .ok (.aload_n 0, 1) := by decide +kernel
theorem dX6_waited_1 : decode cX6_waited 1 = .ok (.getfield 12, 3) := by decide +kernel
theorem dX6_waited_4 : decode cX6_waited 4 = .ok (.getfield 245, 3) := by decide +kernel
theorem dX6_waited_7 : decode cX6_waited 7 = .ok (.ireturn, 1) := by decide +kernel
theorem dX6_predictTime_0 : decode cX6_predictTime 0 = .ok (.iload_n 1, 1) := by decide +kernel
theorem dX6_predictTime_1 : decode cX6_predictTime 1 = .ok (.sipush 500, 3) := by decide +kernel
theorem dX6_predictTime_4 : decode cX6_predictTime 4 = .ok (.invokestatic 186, 3) := by decide +kernel
theorem dX6_predictTime_7 : decode cX6_predictTime 7 = .ok (.aload_n 0, 1) := by decide +kernel
theorem dX6_predictTime_8 : decode cX6_predictTime 8 = .ok (.invokevirtual 189, 3) := by decide +kernel
theorem dX6_predictTime_11 : decode cX6_predictTime 11 = .ok (.aload_n 0, 1) := by decide +kernel
theorem dX6_predictTime_12 : decode cX6_predictTime 12 = .ok (.getfield 16, 3) := by decide +kernel
theorem dX6_predictTime_15 : decode cX6_predictTime 15 = .ok (.aload_n 0, 1) := by decide +kernel
theorem dX6_predictTime_16 : decode cX6_predictTime 16 = .ok (.getfield 12, 3) := by decide +kernel
theorem dX6_predictTime_19 : decode cX6_predictTime 19 = .ok (.invokevirtual 248, 3) := by decide +kernel
theorem dX6_predictTime_22 : decode cX6_predictTime 22 = .ok (.aload_n 0, 1) := by decide +kernel
theorem dX6_predictTime_23 : decode cX6_predictTime 23 = .ok (.getfield 16, 3) := by decide +kernel
theorem dX6_predictTime_26 : decode cX6_predictTime 26 = .ok (.iload_n 1, 1) := by decide +kernel
theorem dX6_predictTime_27 : decode cX6_predictTime 27 = .ok (.invokevirtual 192, 3) := by decide +kernel
theorem dX6_predictTime_30 : decode cX6_predictTime 30 = .ok (.pop, 1) := by decide +kernel
theorem dX6_predictTime_31 : decode cX6_predictTime 31 = .ok (.aload_n 0, 1) := by decide +kernel
theorem dX6_predictTime_32 : decode cX6_predictTime 32 = .ok (.getfield 16, 3) := by decide +kernel
theorem dX6_predictTime_35 : decode cX6_predictTime 35 = .ok (.getfield 198, 3) := by decide +kernel
theorem dX6_predictTime_38 : decode cX6_predictTime 38 = .ok (.aload_n 0, 1) := by decide +kernel
theorem dX6_predictTime_39 : decode cX6_predictTime 39 = .ok (.getfield 12, 3) := by decide +kernel
theorem dX6_predictTime_42 : decode cX6_predictTime 42 = .ok (.getfield 198, 3) := by decide +kernel
theorem dX6_predictTime_45 : decode cX6_predictTime 45 = .ok (.isub, 1) := by decide +kernel
theorem dX6_predictTime_46 : decode cX6_predictTime 46 = .ok (.ireturn, 1) := by decide +kernel
theorem dX6_requireTank_0 : decode cX6_requireTank 0 = .ok (.iload_n 0, 1) := by decide +kernel
theorem dX6_requireTank_1 : decode cX6_requireTank 1 = .ok (.ifCond .lt 9, 3) := by decide +kernel
theorem dX6_requireTank_4 : decode cX6_requireTank 4 = .ok (.iload_n 0, 1) := by decide +kernel
theorem dX6_requireTank_5 : decode cX6_requireTank 5 = .ok (.bipush 8, 2) := by decide +kernel
theorem dX6_requireTank_7 : decode cX6_requireTank 7 = .ok (.if_icmp .lt 14, 3) := by decide +kernel
theorem dX6_requireTank_10 : decode cX6_requireTank 10 = .ok (.new 54, 3) := by decide +kernel
theorem dX6_requireTank_13 : decode cX6_requireTank 13 = .ok (.dup, 1) := by decide +kernel
theorem dX6_requireTank_14 : decode cX6_requireTank 14 = .ok (.ldc_w 326, 3) := by decide +kernel
theorem dX6_requireTank_17 : decode cX6_requireTank 17 = .ok (.invokespecial 58, 3) := by decide +kernel
theorem dX6_requireTank_20 : decode cX6_requireTank 20 = .ok (.athrow, 1) := by decide +kernel
theorem dX6_requireTank_21 : decode cX6_requireTank 21 = .ok (.return_, 1) := by decide +kernel
theorem dX6_requireLocation_0 : decode cX6_requireLocation 0 = .ok (.iload_n 0, 1) := by decide +kernel
theorem dX6_requireLocation_1 : decode cX6_requireLocation 1 = .ok (.ifCond .lt 19, 3) := by decide +kernel
theorem dX6_requireLocation_4 : decode cX6_requireLocation 4 = .ok (.iload_n 0, 1) := by decide +kernel
theorem dX6_requireLocation_5 : decode cX6_requireLocation 5 = .ok (.bipush 8, 2) := by decide +kernel
theorem dX6_requireLocation_7 : decode cX6_requireLocation 7 = .ok (.if_icmp .ge 13, 3) := by decide +kernel
theorem dX6_requireLocation_10 : decode cX6_requireLocation 10 = .ok (.iload_n 1, 1) := by decide +kernel
theorem dX6_requireLocation_11 : decode cX6_requireLocation 11 = .ok (.ifCond .lt 9, 3) := by decide +kernel
theorem dX6_requireLocation_14 : decode cX6_requireLocation 14 = .ok (.iload_n 1, 1) := by decide +kernel
theorem dX6_requireLocation_15 : decode cX6_requireLocation 15 = .ok (.bipush 32, 2) := by decide +kernel
theorem dX6_requireLocation_17 : decode cX6_requireLocation 17 = .ok (.if_icmp .lt 14, 3) := by decide +kernel
theorem dX6_requireLocation_20 : decode cX6_requireLocation 20 = .ok (.new 54, 3) := by decide +kernel
theorem dX6_requireLocation_23 : decode cX6_requireLocation 23 = .ok (.dup, 1) := by decide +kernel
theorem dX6_requireLocation_24 : decode cX6_requireLocation 24 = .ok (.ldc_w 328, 3) := by decide +kernel
theorem dX6_requireLocation_27 : decode cX6_requireLocation 27 = .ok (.invokespecial 58, 3) := by decide +kernel
theorem dX6_requireLocation_30 : decode cX6_requireLocation 30 = .ok (.athrow, 1) := by decide +kernel
theorem dX6_requireLocation_31 : decode cX6_requireLocation 31 = .ok (.return_, 1) := by decide +kernel
theorem dX6_requireWord_0 : decode cX6_requireWord 0 = .ok (.iload_n 0, 1) := by decide +kernel
theorem dX6_requireWord_1 : decode cX6_requireWord 1 = .ok (.ldc_w 330, 3) := by decide +kernel
theorem dX6_requireWord_4 : decode cX6_requireWord 4 = .ok (.if_icmp .lt 10, 3) := by decide +kernel
theorem dX6_requireWord_7 : decode cX6_requireWord 7 = .ok (.iload_n 0, 1) := by decide +kernel
theorem dX6_requireWord_8 : decode cX6_requireWord 8 = .ok (.ldc_w 331, 3) := by decide +kernel
theorem dX6_requireWord_11 : decode cX6_requireWord 11 = .ok (.if_icmp .le 14, 3) := by decide +kernel
theorem dX6_requireWord_14 : decode cX6_requireWord 14 = .ok (.new 63, 3) := by decide +kernel
theorem dX6_requireWord_17 : decode cX6_requireWord 17 = .ok (.dup, 1) := by decide +kernel
theorem dX6_requireWord_18 : decode cX6_requireWord 18 = .ok (.ldc_w 332, 3) := by decide +kernel
theorem dX6_requireWord_21 : decode cX6_requireWord 21 = .ok (.invokespecial 67, 3) := by decide +kernel
theorem dX6_requireWord_24 : decode cX6_requireWord 24 = .ok (.athrow, 1) := by decide +kernel
theorem dX6_requireWord_25 : decode cX6_requireWord 25 = .ok (.return_, 1) := by decide +kernel
theorem dX6_requireTemperature_0 : decode cX6_requireTemperature 0 = .ok (.iload_n 0, 1) := by decide +kernel
theorem dX6_requireTemperature_1 : decode cX6_requireTemperature 1 = .ok (.ifCond .lt 10, 3) := by decide +kernel
theorem dX6_requireTemperature_4 : decode cX6_requireTemperature 4 = .ok (.iload_n 0, 1) := by decide +kernel
theorem dX6_requireTemperature_5 : decode cX6_requireTemperature 5 = .ok (.sipush 1000, 3) := by decide +kernel
theorem dX6_requireTemperature_8 : decode cX6_requireTemperature 8 = .ok (.if_icmp .le 14, 3) := by decide +kernel
theorem dX6_requireTemperature_11 : decode cX6_requireTemperature 11 = .ok (.new 63, 3) := by decide +kernel
theorem dX6_requireTemperature_14 : decode cX6_requireTemperature 14 = .ok (.dup, 1) := by decide +kernel
theorem dX6_requireTemperature_15 : decode cX6_requireTemperature 15 = .ok (.ldc_w 334, 3) := by decide +kernel
theorem dX6_requireTemperature_18 : decode cX6_requireTemperature 18 = .ok (.invokespecial 67, 3) := by decide +kernel
theorem dX6_requireTemperature_21 : decode cX6_requireTemperature 21 = .ok (.athrow, 1) := by decide +kernel
theorem dX6_requireTemperature_22 : decode cX6_requireTemperature 22 = .ok (.return_, 1) := by decide +kernel
theorem dX6_requireCount_0 : decode cX6_requireCount 0 = .ok (.iload_n 0, 1) := by decide +kernel
theorem dX6_requireCount_1 : decode cX6_requireCount 1 = .ok (.iconst 1, 1) := by decide +kernel
theorem dX6_requireCount_2 : decode cX6_requireCount 2 = .ok (.if_icmp .lt 8, 3) := by decide +kernel
theorem dX6_requireCount_5 : decode cX6_requireCount 5 = .ok (.iload_n 0, 1) := by decide +kernel
theorem dX6_requireCount_6 : decode cX6_requireCount 6 = .ok (.iload_n 1, 1) := by decide +kernel
theorem dX6_requireCount_7 : decode cX6_requireCount 7 = .ok (.if_icmp .le 14, 3) := by decide +kernel
theorem dX6_requireCount_10 : decode cX6_requireCount 10 = .ok (.new 63, 3) := by decide +kernel
theorem dX6_requireCount_13 : decode cX6_requireCount 13 = .ok (.dup, 1) := by decide +kernel
theorem dX6_requireCount_14 : decode cX6_requireCount 14 = .ok (.ldc_w 336, 3) := by decide +kernel
theorem dX6_requireCount_17 : decode cX6_requireCount 17 = .ok (.invokespecial 67, 3) := by decide +kernel
theorem dX6_requireCount_20 : decode cX6_requireCount 20 = .ok (.athrow, 1) := by decide +kernel
theorem dX6_requireCount_21 : decode cX6_requireCount 21 = .ok (.return_, 1) := by decide +kernel
theorem dX6_requireReady_0 : decode cX6_requireReady 0 = .ok (.aload_n 0, 1) := by decide +kernel
theorem dX6_requireReady_1 : decode cX6_requireReady 1 = .ok (.getfield 12, 3) := by decide +kernel
theorem dX6_requireReady_4 : decode cX6_requireReady 4 = .ok (.getfield 201, 3) := by decide +kernel
theorem dX6_requireReady_7 : decode cX6_requireReady 7 = .ok (.ifCond .eq 14, 3) := by decide +kernel
theorem dX6_requireReady_10 : decode cX6_requireReady 10 = .ok (.new 43, 3) := by decide +kernel
theorem dX6_requireReady_13 : decode cX6_requireReady 13 = .ok (.dup, 1) := by decide +kernel
theorem dX6_requireReady_14 : decode cX6_requireReady 14 = .ok (.ldc_w 340, 3) := by decide +kernel
theorem dX6_requireReady_17 : decode cX6_requireReady 17 = .ok (.invokespecial 47, 3) := by decide +kernel
theorem dX6_requireReady_20 : decode cX6_requireReady 20 = .ok (.athrow, 1) := by decide +kernel
theorem dX6_requireReady_21 : decode cX6_requireReady 21 = .ok (.return_, 1) := by decide +kernel
theorem dX6_locationOf_0 : decode cX6_locationOf 0 = .ok (.bipush 32, 2) := by decide +kernel
theorem dX6_locationOf_2 : decode cX6_locationOf 2 = .ok (.iload_n 0, 1) := by decide +kernel
theorem dX6_locationOf_3 : decode cX6_locationOf 3 = .ok (.imul, 1) := by decide +kernel
theorem dX6_locationOf_4 : decode cX6_locationOf 4 = .ok (.iload_n 1, 1) := by decide +kernel
theorem dX6_locationOf_5 : decode cX6_locationOf 5 = .ok (.iadd, 1) := by decide +kernel
theorem dX6_locationOf_6 : decode cX6_locationOf 6 = .ok (.ireturn, 1) := by decide +kernel
theorem dX6_cycleOf_0 : decode cX6_cycleOf 0 = .ok (.iload_n 0, 1) := by decide +kernel
theorem dX6_cycleOf_1 : decode cX6_cycleOf 1 = .ok (.bipush 31, 2) := by decide +kernel
theorem dX6_cycleOf_3 : decode cX6_cycleOf 3 = .ok (.iand, 1) := by decide +kernel
theorem dX6_cycleOf_4 : decode cX6_cycleOf 4 = .ok (.ireturn, 1) := by decide +kernel
theorem dX6_waitingUntil_0 : decode cX6_waitingUntil 0 = .ok (.iload_n 0, 1) := by decide +kernel
theorem dX6_waitingUntil_1 : decode cX6_waitingUntil 1 = .ok (.iload_n 1, 1) := by decide +kernel
theorem dX6_waitingUntil_2 : decode cX6_waitingUntil 2 = .ok (.isub, 1) := by decide +kernel
theorem dX6_waitingUntil_3 : decode cX6_waitingUntil 3 = .ok (.bipush 31, 2) := by decide +kernel
theorem dX6_waitingUntil_5 : decode cX6_waitingUntil 5 = .ok (.iand, 1) := by decide +kernel
theorem dX6_waitingUntil_6 : decode cX6_waitingUntil 6 = .ok (.ireturn, 1) := by decide +kernel
theorem dX6_wrap_0 : decode cX6_wrap 0 = .ok (.bipush 44, 2) := by decide +kernel
theorem dX6_wrap_2 : decode cX6_wrap 2 = .ok (.istore_n 2, 1) := by decide +kernel
theorem dX6_wrap_3 : decode cX6_wrap 3 = .ok (.lload_n 0, 1) := by decide +kernel
theorem dX6_wrap_4 : decode cX6_wrap 4 = .ok (.iload_n 2, 1) := by decide +kernel
theorem dX6_wrap_5 : decode cX6_wrap 5 = .ok (.lshl, 1) := by decide +kernel
theorem dX6_wrap_6 : decode cX6_wrap 6 = .ok (.iload_n 2, 1) := by decide +kernel
theorem dX6_wrap_7 : decode cX6_wrap 7 = .ok (.lshr, 1) := by decide +kernel
theorem dX6_wrap_8 : decode cX6_wrap 8 = .ok (.l2i, 1) := by decide +kernel
theorem dX6_wrap_9 : decode cX6_wrap 9 = .ok (.ireturn, 1) := by decide +kernel
theorem dX6_delayOf_0 : decode cX6_delayOf 0 = .ok (.ldc_w 342, 3) := by decide +kernel
theorem dX6_delayOf_3 : decode cX6_delayOf 3 = .ok (.sipush 19200, 3) := by decide +kernel
theorem dX6_delayOf_6 : decode cX6_delayOf 6 = .ok (.iload_n 0, 1) := by decide +kernel
theorem dX6_delayOf_7 : decode cX6_delayOf 7 = .ok (.sipush 400, 3) := by decide +kernel
theorem dX6_delayOf_10 : decode cX6_delayOf 10 = .ok (.isub, 1) := by decide +kernel
theorem dX6_delayOf_11 : decode cX6_delayOf 11 = .ok (.imul, 1) := by decide +kernel
theorem dX6_delayOf_12 : decode cX6_delayOf 12 = .ok (.iadd, 1) := by decide +kernel
theorem dX6_delayOf_13 : decode cX6_delayOf 13 = .ok (.ireturn, 1) := by decide +kernel
theorem dX6_mismatchOf_0 : decode cX6_mismatchOf 0 = .ok (.iload_n 0, 1) := by decide +kernel
theorem dX6_mismatchOf_1 : decode cX6_mismatchOf 1 = .ok (.invokestatic 343, 3) := by decide +kernel
theorem dX6_mismatchOf_4 : decode cX6_mismatchOf 4 = .ok (.sipush 640, 3) := by decide +kernel
theorem dX6_mismatchOf_7 : decode cX6_mismatchOf 7 = .ok (.iload_n 1, 1) := by decide +kernel
theorem dX6_mismatchOf_8 : decode cX6_mismatchOf 8 = .ok (.imul, 1) := by decide +kernel
theorem dX6_mismatchOf_9 : decode cX6_mismatchOf 9 = .ok (.isub, 1) := by decide +kernel
theorem dX6_mismatchOf_10 : decode cX6_mismatchOf 10 = .ok (.ireturn, 1) := by decide +kernel
theorem dX6_copyRow_0 : decode cX6_copyRow 0 = .ok (.aload_n 0, 1) := by decide +kernel
theorem dX6_copyRow_1 : decode cX6_copyRow 1 = .ok (.iconst 0, 1) := by decide +kernel
theorem dX6_copyRow_2 : decode cX6_copyRow 2 = .ok (.aload_n 1, 1) := by decide +kernel
theorem dX6_copyRow_3 : decode cX6_copyRow 3 = .ok (.iconst 0, 1) := by decide +kernel
theorem dX6_copyRow_4 : decode cX6_copyRow 4 = .ok (.aload_n 0, 1) := by decide +kernel
theorem dX6_copyRow_5 : decode cX6_copyRow 5 = .ok (.arraylength, 1) := by decide +kernel
theorem dX6_copyRow_6 : decode cX6_copyRow 6 = .ok (.aload_n 1, 1) := by decide +kernel
theorem dX6_copyRow_7 : decode cX6_copyRow 7 = .ok (.arraylength, 1) := by decide +kernel
theorem dX6_copyRow_8 : decode cX6_copyRow 8 = .ok (.invokestatic 351, 3) := by decide +kernel
theorem dX6_copyRow_11 : decode cX6_copyRow 11 = .ok (.invokestatic 354, 3) := by decide +kernel
theorem dX6_copyRow_14 : decode cX6_copyRow 14 = .ok (.return_, 1) := by decide +kernel
theorem dX7_init_0 : decode cX7_init 0 = .ok (.aload_n 0, 1) := by decide +kernel
theorem dX7_init_1 : decode cX7_init 1 = .ok (.invokespecial 1, 3) := by decide +kernel
theorem dX7_init_4 : decode cX7_init 4 = .ok (.aload_n 0, 1) := by decide +kernel
theorem dX7_init_5 : decode cX7_init 5 = .ok (.iload_n 1, 1) := by decide +kernel
theorem dX7_init_6 : decode cX7_init 6 = .ok (.putfield 7, 3) := by decide +kernel
theorem dX7_init_9 : decode cX7_init 9 = .ok (.return_, 1) := by decide +kernel
theorem dX7_next_0 : decode cX7_next 0 = .ok (.aload_n 0, 1) := by decide +kernel
theorem dX7_next_1 : decode cX7_next 1 = .ok (.aload_n 0, 1) := by decide +kernel
theorem dX7_next_2 : decode cX7_next 2 = .ok (.getfield 7, 3) := by decide +kernel
theorem dX7_next_5 : decode cX7_next 5 = .ok (.ldc 13, 2) := by decide +kernel
theorem dX7_next_7 : decode cX7_next 7 = .ok (.imul, 1) := by decide +kernel
theorem dX7_next_8 : decode cX7_next 8 = .ok (.sipush 12345, 3) := by decide +kernel
theorem dX7_next_11 : decode cX7_next 11 = .ok (.iadd, 1) := by decide +kernel
theorem dX7_next_12 : decode cX7_next 12 = .ok (.putfield 7, 3) := by decide +kernel
theorem dX7_next_15 : decode cX7_next 15 = .ok (.aload_n 0, 1) := by decide +kernel
theorem dX7_next_16 : decode cX7_next 16 = .ok (.getfield 7, 3) := by decide +kernel
theorem dX7_next_19 : decode cX7_next 19 = .ok (.bipush 16, 2) := by decide +kernel
theorem dX7_next_21 : decode cX7_next 21 = .ok (.iushr, 1) := by decide +kernel
theorem dX7_next_22 : decode cX7_next 22 = .ok (.iload_n 1, 1) := by decide +kernel
theorem dX7_next_23 : decode cX7_next 23 = .ok (.irem, 1) := by decide +kernel
theorem dX7_next_24 : decode cX7_next 24 = .ok (.ireturn, 1) := by decide +kernel
theorem dX8_init_0 : decode cX8_init 0 = .ok (.aload_n 0, 1) := by decide +kernel
theorem dX8_init_1 : decode cX8_init 1 = .ok (.invokespecial 1, 3) := by decide +kernel
theorem dX8_init_4 : decode cX8_init 4 = .ok (.aload_n 0, 1) := by decide +kernel
theorem dX8_init_5 : decode cX8_init 5 = .ok (.bipush 8, 2) := by decide +kernel
theorem dX8_init_7 : decode cX8_init 7 = .ok (.sipush 640, 3) := by decide +kernel
theorem dX8_init_10 : decode cX8_init 10 = .ok (.multianewarray 7 2, 4) := by decide +kernel
theorem dX8_init_14 : decode cX8_init 14 = .ok (.putfield 9, 3) := by decide +kernel
theorem dX8_init_17 : decode cX8_init 17 = .ok (.aload_n 0, 1) := by decide +kernel
theorem dX8_init_18 : decode cX8_init 18 = .ok (.bipush 8, 2) := by decide +kernel
theorem dX8_init_20 : decode cX8_init 20 = .ok (.newarray .int, 2) := by decide +kernel
theorem dX8_init_22 : decode cX8_init 22 = .ok (.dup, 1) := by decide +kernel
theorem dX8_init_23 : decode cX8_init 23 = .ok (.iconst 0, 1) := by decide +kernel
theorem dX8_init_24 : decode cX8_init 24 = .ok (.sipush 400, 3) := by decide +kernel
theorem dX8_init_27 : decode cX8_init 27 = .ok (.iastore, 1) := by decide +kernel
theorem dX8_init_28 : decode cX8_init 28 = .ok (.dup, 1) := by decide +kernel
theorem dX8_init_29 : decode cX8_init 29 = .ok (.iconst 1, 1) := by decide +kernel
theorem dX8_init_30 : decode cX8_init 30 = .ok (.sipush 400, 3) := by decide +kernel
theorem dX8_init_33 : decode cX8_init 33 = .ok (.iastore, 1) := by decide +kernel
theorem dX8_init_34 : decode cX8_init 34 = .ok (.dup, 1) := by decide +kernel
theorem dX8_init_35 : decode cX8_init 35 = .ok (.iconst 2, 1) := by decide +kernel
theorem dX8_init_36 : decode cX8_init 36 = .ok (.sipush 400, 3) := by decide +kernel
theorem dX8_init_39 : decode cX8_init 39 = .ok (.iastore, 1) := by decide +kernel
theorem dX8_init_40 : decode cX8_init 40 = .ok (.dup, 1) := by decide +kernel
theorem dX8_init_41 : decode cX8_init 41 = .ok (.iconst 3, 1) := by decide +kernel
theorem dX8_init_42 : decode cX8_init 42 = .ok (.sipush 400, 3) := by decide +kernel
theorem dX8_init_45 : decode cX8_init 45 = .ok (.iastore, 1) := by decide +kernel
theorem dX8_init_46 : decode cX8_init 46 = .ok (.dup, 1) := by decide +kernel
theorem dX8_init_47 : decode cX8_init 47 = .ok (.iconst 4, 1) := by decide +kernel
theorem dX8_init_48 : decode cX8_init 48 = .ok (.sipush 400, 3) := by decide +kernel
theorem dX8_init_51 : decode cX8_init 51 = .ok (.iastore, 1) := by decide +kernel
theorem dX8_init_52 : decode cX8_init 52 = .ok (.dup, 1) := by decide +kernel
theorem dX8_init_53 : decode cX8_init 53 = .ok (.iconst 5, 1) := by decide +kernel
theorem dX8_init_54 : decode cX8_init 54 = .ok (.sipush 400, 3) := by decide +kernel
theorem dX8_init_57 : decode cX8_init 57 = .ok (.iastore, 1) := by decide +kernel
theorem dX8_init_58 : decode cX8_init 58 = .ok (.dup, 1) := by decide +kernel
theorem dX8_init_59 : decode cX8_init 59 = .ok (.bipush 6, 2) := by decide +kernel
theorem dX8_init_61 : decode cX8_init 61 = .ok (.sipush 400, 3) := by decide +kernel
theorem dX8_init_64 : decode cX8_init 64 = .ok (.iastore, 1) := by decide +kernel
theorem dX8_init_65 : decode cX8_init 65 = .ok (.dup, 1) := by decide +kernel
theorem dX8_init_66 : decode cX8_init 66 = .ok (.bipush 7, 2) := by decide +kernel
theorem dX8_init_68 : decode cX8_init 68 = .ok (.sipush 400, 3) := by decide +kernel
theorem dX8_init_71 : decode cX8_init 71 = .ok (.iastore, 1) := by decide +kernel
theorem dX8_init_72 : decode cX8_init 72 = .ok (.putfield 14, 3) := by decide +kernel
theorem dX8_init_75 : decode cX8_init 75 = .ok (.aload_n 0, 1) := by decide +kernel
theorem dX8_init_76 : decode cX8_init 76 = .ok (.bipush 8, 2) := by decide +kernel
theorem dX8_init_78 : decode cX8_init 78 = .ok (.newarray .int, 2) := by decide +kernel
theorem dX8_init_80 : decode cX8_init 80 = .ok (.putfield 18, 3) := by decide +kernel
theorem dX8_init_83 : decode cX8_init 83 = .ok (.aload_n 0, 1) := by decide +kernel
theorem dX8_init_84 : decode cX8_init 84 = .ok (.bipush 8, 2) := by decide +kernel
theorem dX8_init_86 : decode cX8_init 86 = .ok (.bipush 32, 2) := by decide +kernel
theorem dX8_init_88 : decode cX8_init 88 = .ok (.multianewarray 21 2, 4) := by decide +kernel
theorem dX8_init_92 : decode cX8_init 92 = .ok (.putfield 23, 3) := by decide +kernel
theorem dX8_init_95 : decode cX8_init 95 = .ok (.aload_n 0, 1) := by decide +kernel
theorem dX8_init_96 : decode cX8_init 96 = .ok (.new 26, 3) := by decide +kernel
theorem dX8_init_99 : decode cX8_init 99 = .ok (.dup, 1) := by decide +kernel
theorem dX8_init_100 : decode cX8_init 100 = .ok (.invokespecial 28, 3) := by decide +kernel
theorem dX8_init_103 : decode cX8_init 103 = .ok (.putfield 29, 3) := by decide +kernel
theorem dX8_init_106 : decode cX8_init 106 = .ok (.aload_n 0, 1) := by decide +kernel
theorem dX8_init_107 : decode cX8_init 107 = .ok (.new 26, 3) := by decide +kernel
theorem dX8_init_110 : decode cX8_init 110 = .ok (.dup, 1) := by decide +kernel
theorem dX8_init_111 : decode cX8_init 111 = .ok (.invokespecial 28, 3) := by decide +kernel
theorem dX8_init_114 : decode cX8_init 114 = .ok (.putfield 33, 3) := by decide +kernel
theorem dX8_init_117 : decode cX8_init 117 = .ok (.aload_n 0, 1) := by decide +kernel
theorem dX8_init_118 : decode cX8_init 118 = .ok (.iconst 1, 1) := by decide +kernel
theorem dX8_init_119 : decode cX8_init 119 = .ok (.putfield 36, 3) := by decide +kernel
theorem dX8_init_122 : decode cX8_init 122 = .ok (.aload_n 0, 1) := by decide +kernel
theorem dX8_init_123 : decode cX8_init 123 = .ok (.sipush 400, 3) := by decide +kernel
theorem dX8_init_126 : decode cX8_init 126 = .ok (.putfield 40, 3) := by decide +kernel
theorem dX8_init_129 : decode cX8_init 129 = .ok (.aload_n 0, 1) := by decide +kernel
theorem dX8_init_130 : decode cX8_init 130 = .ok (.sipush 400, 3) := by decide +kernel
theorem dX8_init_133 : decode cX8_init 133 = .ok (.putfield 43, 3) := by decide +kernel
theorem dX8_init_136 : decode cX8_init 136 = .ok (.aload_n 0, 1) := by decide +kernel
theorem dX8_init_137 : decode cX8_init 137 = .ok (.ldc 46, 2) := by decide +kernel
theorem dX8_init_139 : decode cX8_init 139 = .ok (.putfield 47, 3) := by decide +kernel
theorem dX8_init_142 : decode cX8_init 142 = .ok (.return_, 1) := by decide +kernel
theorem dX8_copy_0 : decode cX8_copy 0 = .ok (.new 10, 3) := by decide +kernel
theorem dX8_copy_3 : decode cX8_copy 3 = .ok (.dup, 1) := by decide +kernel
theorem dX8_copy_4 : decode cX8_copy 4 = .ok (.invokespecial 50, 3) := by decide +kernel
theorem dX8_copy_7 : decode cX8_copy 7 = .ok (.astore_n 1, 1) := by decide +kernel
theorem dX8_copy_8 : decode cX8_copy 8 = .ok (.iconst 0, 1) := by decide +kernel
theorem dX8_copy_9 : decode cX8_copy 9 = .ok (.istore_n 2, 1) := by decide +kernel
theorem dX8_copy_10 : decode cX8_copy 10 = .ok (.iload_n 2, 1) := by decide +kernel
theorem dX8_copy_11 : decode cX8_copy 11 = .ok (.bipush 8, 2) := by decide +kernel
theorem dX8_copy_13 : decode cX8_copy 13 = .ok (.if_icmp .ge 69, 3) := by decide +kernel
theorem dX8_copy_16 : decode cX8_copy 16 = .ok (.aload_n 1, 1) := by decide +kernel
theorem dX8_copy_17 : decode cX8_copy 17 = .ok (.getfield 9, 3) := by decide +kernel
theorem dX8_copy_20 : decode cX8_copy 20 = .ok (.iload_n 2, 1) := by decide +kernel
theorem dX8_copy_21 : decode cX8_copy 21 = .ok (.aload_n 0, 1) := by decide +kernel
theorem dX8_copy_22 : decode cX8_copy 22 = .ok (.getfield 9, 3) := by decide +kernel
theorem dX8_copy_25 : decode cX8_copy 25 = .ok (.iload_n 2, 1) := by decide +kernel
theorem dX8_copy_26 : decode cX8_copy 26 = .ok (.aaload, 1) := by decide +kernel
theorem dX8_copy_27 : decode cX8_copy 27 = .ok (.invokevirtual 51, 3) := by decide +kernel
theorem dX8_copy_30 : decode cX8_copy 30 = .ok (.checkcast 52, 3) := by decide +kernel
theorem dX8_copy_33 : decode cX8_copy 33 = .ok (.aastore, 1) := by decide +kernel
theorem dX8_copy_34 : decode cX8_copy 34 = .ok (.aload_n 1, 1) := by decide +kernel
theorem dX8_copy_35 : decode cX8_copy 35 = .ok (.getfield 23, 3) := by decide +kernel
theorem dX8_copy_38 : decode cX8_copy 38 = .ok (.iload_n 2, 1) := by decide +kernel
theorem dX8_copy_39 : decode cX8_copy 39 = .ok (.aload_n 0, 1) := by decide +kernel
theorem dX8_copy_40 : decode cX8_copy 40 = .ok (.getfield 23, 3) := by decide +kernel
theorem dX8_copy_43 : decode cX8_copy 43 = .ok (.iload_n 2, 1) := by decide +kernel
theorem dX8_copy_44 : decode cX8_copy 44 = .ok (.aaload, 1) := by decide +kernel
theorem dX8_copy_45 : decode cX8_copy 45 = .ok (.invokevirtual 57, 3) := by decide +kernel
theorem dX8_copy_48 : decode cX8_copy 48 = .ok (.checkcast 58, 3) := by decide +kernel
theorem dX8_copy_51 : decode cX8_copy 51 = .ok (.aastore, 1) := by decide +kernel
theorem dX8_copy_52 : decode cX8_copy 52 = .ok (.aload_n 1, 1) := by decide +kernel
theorem dX8_copy_53 : decode cX8_copy 53 = .ok (.getfield 14, 3) := by decide +kernel
theorem dX8_copy_56 : decode cX8_copy 56 = .ok (.iload_n 2, 1) := by decide +kernel
theorem dX8_copy_57 : decode cX8_copy 57 = .ok (.aload_n 0, 1) := by decide +kernel
theorem dX8_copy_58 : decode cX8_copy 58 = .ok (.getfield 14, 3) := by decide +kernel
theorem dX8_copy_61 : decode cX8_copy 61 = .ok (.iload_n 2, 1) := by decide +kernel
theorem dX8_copy_62 : decode cX8_copy 62 = .ok (.iaload, 1) := by decide +kernel
theorem dX8_copy_63 : decode cX8_copy 63 = .ok (.iastore, 1) := by decide +kernel
theorem dX8_copy_64 : decode cX8_copy 64 = .ok (.aload_n 1, 1) := by decide +kernel
theorem dX8_copy_65 : decode cX8_copy 65 = .ok (.getfield 18, 3) := by decide +kernel
theorem dX8_copy_68 : decode cX8_copy 68 = .ok (.iload_n 2, 1) := by decide +kernel
theorem dX8_copy_69 : decode cX8_copy 69 = .ok (.aload_n 0, 1) := by decide +kernel
theorem dX8_copy_70 : decode cX8_copy 70 = .ok (.getfield 18, 3) := by decide +kernel
theorem dX8_copy_73 : decode cX8_copy 73 = .ok (.iload_n 2, 1) := by decide +kernel
theorem dX8_copy_74 : decode cX8_copy 74 = .ok (.iaload, 1) := by decide +kernel
theorem dX8_copy_75 : decode cX8_copy 75 = .ok (.iastore, 1) := by decide +kernel
theorem dX8_copy_76 : decode cX8_copy 76 = .ok (.iinc 2 1, 3) := by decide +kernel
theorem dX8_copy_79 : decode cX8_copy 79 = .ok (.goto (-69), 3) := by decide +kernel
theorem dX8_copy_82 : decode cX8_copy 82 = .ok (.aload_n 1, 1) := by decide +kernel
theorem dX8_copy_83 : decode cX8_copy 83 = .ok (.getfield 29, 3) := by decide +kernel
theorem dX8_copy_86 : decode cX8_copy 86 = .ok (.aload_n 0, 1) := by decide +kernel
theorem dX8_copy_87 : decode cX8_copy 87 = .ok (.getfield 29, 3) := by decide +kernel
theorem dX8_copy_90 : decode cX8_copy 90 = .ok (.invokevirtual 59, 3) := by decide +kernel
theorem dX8_copy_93 : decode cX8_copy 93 = .ok (.pop, 1) := by decide +kernel
theorem dX8_copy_94 : decode cX8_copy 94 = .ok (.aload_n 1, 1) := by decide +kernel
theorem dX8_copy_95 : decode cX8_copy 95 = .ok (.getfield 33, 3) := by decide +kernel
theorem dX8_copy_98 : decode cX8_copy 98 = .ok (.aload_n 0, 1) := by decide +kernel
theorem dX8_copy_99 : decode cX8_copy 99 = .ok (.getfield 33, 3) := by decide +kernel
theorem dX8_copy_102 : decode cX8_copy 102 = .ok (.invokevirtual 59, 3) := by decide +kernel
theorem dX8_copy_105 : decode cX8_copy 105 = .ok (.pop, 1) := by decide +kernel
theorem dX8_copy_106 : decode cX8_copy 106 = .ok (.aload_n 1, 1) := by decide +kernel
theorem dX8_copy_107 : decode cX8_copy 107 = .ok (.aload_n 0, 1) := by decide +kernel
theorem dX8_copy_108 : decode cX8_copy 108 = .ok (.getfield 63, 3) := by decide +kernel
theorem dX8_copy_111 : decode cX8_copy 111 = .ok (.putfield 63, 3) := by decide +kernel
theorem dX8_copy_114 : decode cX8_copy 114 = .ok (.aload_n 1, 1) := by decide +kernel
theorem dX8_copy_115 : decode cX8_copy 115 = .ok (.aload_n 0, 1) := by decide +kernel
theorem dX8_copy_116 : decode cX8_copy 116 = .ok (.getfield 66, 3) := by decide +kernel
theorem dX8_copy_119 : decode cX8_copy 119 = .ok (.putfield 66, 3) := by decide +kernel
theorem dX8_copy_122 : decode cX8_copy 122 = .ok (.aload_n 1, 1) := by decide +kernel
theorem dX8_copy_123 : decode cX8_copy 123 = .ok (.aload_n 0, 1) := by decide +kernel
theorem dX8_copy_124 : decode cX8_copy 124 = .ok (.getfield 69, 3) := by decide +kernel
theorem dX8_copy_127 : decode cX8_copy 127 = .ok (.putfield 69, 3) := by decide +kernel
theorem dX8_copy_130 : decode cX8_copy 130 = .ok (.aload_n 1, 1) := by decide +kernel
theorem dX8_copy_131 : decode cX8_copy 131 = .ok (.aload_n 0, 1) := by decide +kernel
theorem dX8_copy_132 : decode cX8_copy 132 = .ok (.getfield 72, 3) := by decide +kernel
theorem dX8_copy_135 : decode cX8_copy 135 = .ok (.putfield 72, 3) := by decide +kernel
theorem dX8_copy_138 : decode cX8_copy 138 = .ok (.aload_n 1, 1) := by decide +kernel
theorem dX8_copy_139 : decode cX8_copy 139 = .ok (.aload_n 0, 1) := by decide +kernel
theorem dX8_copy_140 : decode cX8_copy 140 = .ok (.getfield 36, 3) := by decide +kernel
theorem dX8_copy_143 : decode cX8_copy 143 = .ok (.putfield 36, 3) := by decide +kernel
theorem dX8_copy_146 : decode cX8_copy 146 = .ok (.aload_n 1, 1) := by decide +kernel
theorem dX8_copy_147 : decode cX8_copy 147 = .ok (.aload_n 0, 1) := by decide +kernel
theorem dX8_copy_148 : decode cX8_copy 148 = .ok (.getfield 75, 3) := by decide +kernel
theorem dX8_copy_151 : decode cX8_copy 151 = .ok (.putfield 75, 3) := by decide +kernel
theorem dX8_copy_154 : decode cX8_copy 154 = .ok (.aload_n 1, 1) := by decide +kernel
theorem dX8_copy_155 : decode cX8_copy 155 = .ok (.aload_n 0, 1) := by decide +kernel
theorem dX8_copy_156 : decode cX8_copy 156 = .ok (.getfield 78, 3) := by decide +kernel
theorem dX8_copy_159 : decode cX8_copy 159 = .ok (.putfield 78, 3) := by decide +kernel
theorem dX8_copy_162 : decode cX8_copy 162 = .ok (.aload_n 1, 1) := by decide +kernel
theorem dX8_copy_163 : decode cX8_copy 163 = .ok (.aload_n 0, 1) := by decide +kernel
theorem dX8_copy_164 : decode cX8_copy 164 = .ok (.getfield 81, 3) := by decide +kernel
theorem dX8_copy_167 : decode cX8_copy 167 = .ok (.putfield 81, 3) := by decide +kernel
theorem dX8_copy_170 : decode cX8_copy 170 = .ok (.aload_n 1, 1) := by decide +kernel
theorem dX8_copy_171 : decode cX8_copy 171 = .ok (.aload_n 0, 1) := by decide +kernel
theorem dX8_copy_172 : decode cX8_copy 172 = .ok (.getfield 40, 3) := by decide +kernel
theorem dX8_copy_175 : decode cX8_copy 175 = .ok (.putfield 40, 3) := by decide +kernel
theorem dX8_copy_178 : decode cX8_copy 178 = .ok (.aload_n 1, 1) := by decide +kernel
theorem dX8_copy_179 : decode cX8_copy 179 = .ok (.aload_n 0, 1) := by decide +kernel
theorem dX8_copy_180 : decode cX8_copy 180 = .ok (.getfield 43, 3) := by decide +kernel
theorem dX8_copy_183 : decode cX8_copy 183 = .ok (.putfield 43, 3) := by decide +kernel
theorem dX8_copy_186 : decode cX8_copy 186 = .ok (.aload_n 1, 1) := by decide +kernel
theorem dX8_copy_187 : decode cX8_copy 187 = .ok (.aload_n 0, 1) := by decide +kernel
theorem dX8_copy_188 : decode cX8_copy 188 = .ok (.getfield 47, 3) := by decide +kernel
theorem dX8_copy_191 : decode cX8_copy 191 = .ok (.putfield 47, 3) := by decide +kernel
theorem dX8_copy_194 : decode cX8_copy 194 = .ok (.aload_n 1, 1) := by decide +kernel
theorem dX8_copy_195 : decode cX8_copy 195 = .ok (.aload_n 0, 1) := by decide +kernel
theorem dX8_copy_196 : decode cX8_copy 196 = .ok (.getfield 84, 3) := by decide +kernel
theorem dX8_copy_199 : decode cX8_copy 199 = .ok (.putfield 84, 3) := by decide +kernel
theorem dX8_copy_202 : decode cX8_copy 202 = .ok (.aload_n 1, 1) := by decide +kernel
theorem dX8_copy_203 : decode cX8_copy 203 = .ok (.aload_n 0, 1) := by decide +kernel
theorem dX8_copy_204 : decode cX8_copy 204 = .ok (.getfield 88, 3) := by decide +kernel
theorem dX8_copy_207 : decode cX8_copy 207 = .ok (.putfield 88, 3) := by decide +kernel
theorem dX8_copy_210 : decode cX8_copy 210 = .ok (.aload_n 1, 1) := by decide +kernel
theorem dX8_copy_211 : decode cX8_copy 211 = .ok (.areturn, 1) := by decide +kernel
theorem dX8_word_0 : decode cX8_word 0 = .ok (.aload_n 0, 1) := by decide +kernel
theorem dX8_word_1 : decode cX8_word 1 = .ok (.getfield 9, 3) := by decide +kernel
theorem dX8_word_4 : decode cX8_word 4 = .ok (.iload_n 1, 1) := by decide +kernel
theorem dX8_word_5 : decode cX8_word 5 = .ok (.aaload, 1) := by decide +kernel
theorem dX8_word_6 : decode cX8_word 6 = .ok (.bipush 20, 2) := by decide +kernel
theorem dX8_word_8 : decode cX8_word 8 = .ok (.iload_n 2, 1) := by decide +kernel
theorem dX8_word_9 : decode cX8_word 9 = .ok (.imul, 1) := by decide +kernel
theorem dX8_word_10 : decode cX8_word 10 = .ok (.bipush 19, 2) := by decide +kernel
theorem dX8_word_12 : decode cX8_word 12 = .ok (.iadd, 1) := by decide +kernel
theorem dX8_word_13 : decode cX8_word 13 = .ok (.baload, 1) := by decide +kernel
theorem dX8_word_14 : decode cX8_word 14 = .ok (.ifCond .eq 7, 3) := by decide +kernel
theorem dX8_word_17 : decode cX8_word 17 = .ok (.iconst (-1), 1) := by decide +kernel
theorem dX8_word_18 : decode cX8_word 18 = .ok (.goto 4, 3) := by decide +kernel
theorem dX8_word_21 : decode cX8_word 21 = .ok (.iconst 0, 1) := by decide +kernel
theorem dX8_word_22 : decode cX8_word 22 = .ok (.istore_n 3, 1) := by decide +kernel
theorem dX8_word_23 : decode cX8_word 23 = .ok (.bipush 18, 2) := by decide +kernel
theorem dX8_word_25 : decode cX8_word 25 = .ok (.istore 4, 2) := by decide +kernel
theorem dX8_word_27 : decode cX8_word 27 = .ok (.iload 4, 2) := by decide +kernel
theorem dX8_word_29 : decode cX8_word 29 = .ok (.ifCond .lt 36, 3) := by decide +kernel
theorem dX8_word_32 : decode cX8_word 32 = .ok (.iload_n 3, 1) := by decide +kernel
theorem dX8_word_33 : decode cX8_word 33 = .ok (.iconst 2, 1) := by decide +kernel
theorem dX8_word_34 : decode cX8_word 34 = .ok (.imul, 1) := by decide +kernel
theorem dX8_word_35 : decode cX8_word 35 = .ok (.aload_n 0, 1) := by decide +kernel
theorem dX8_word_36 : decode cX8_word 36 = .ok (.getfield 9, 3) := by decide +kernel
theorem dX8_word_39 : decode cX8_word 39 = .ok (.iload_n 1, 1) := by decide +kernel
theorem dX8_word_40 : decode cX8_word 40 = .ok (.aaload, 1) := by decide +kernel
theorem dX8_word_41 : decode cX8_word 41 = .ok (.bipush 20, 2) := by decide +kernel
theorem dX8_word_43 : decode cX8_word 43 = .ok (.iload_n 2, 1) := by decide +kernel
theorem dX8_word_44 : decode cX8_word 44 = .ok (.imul, 1) := by decide +kernel
theorem dX8_word_45 : decode cX8_word 45 = .ok (.iload 4, 2) := by decide +kernel
theorem dX8_word_47 : decode cX8_word 47 = .ok (.iadd, 1) := by decide +kernel
theorem dX8_word_48 : decode cX8_word 48 = .ok (.baload, 1) := by decide +kernel
theorem dX8_word_49 : decode cX8_word 49 = .ok (.ifCond .eq 7, 3) := by decide +kernel
theorem dX8_word_52 : decode cX8_word 52 = .ok (.iconst 1, 1) := by decide +kernel
theorem dX8_word_53 : decode cX8_word 53 = .ok (.goto 4, 3) := by decide +kernel
theorem dX8_word_56 : decode cX8_word 56 = .ok (.iconst 0, 1) := by decide +kernel
theorem dX8_word_57 : decode cX8_word 57 = .ok (.iadd, 1) := by decide +kernel
theorem dX8_word_58 : decode cX8_word 58 = .ok (.istore_n 3, 1) := by decide +kernel
theorem dX8_word_59 : decode cX8_word 59 = .ok (.iinc 4 (-1), 3) := by decide +kernel
theorem dX8_word_62 : decode cX8_word 62 = .ok (.goto (-35), 3) := by decide +kernel
theorem dX8_word_65 : decode cX8_word 65 = .ok (.iload_n 3, 1) := by decide +kernel
theorem dX8_word_66 : decode cX8_word 66 = .ok (.ireturn, 1) := by decide +kernel
theorem dX8_set_0 : decode cX8_set 0 = .ok (.iconst 0, 1) := by decide +kernel
theorem dX8_set_1 : decode cX8_set 1 = .ok (.istore 4, 2) := by decide +kernel
theorem dX8_set_3 : decode cX8_set 3 = .ok (.iload 4, 2) := by decide +kernel
theorem dX8_set_5 : decode cX8_set 5 = .ok (.bipush 20, 2) := by decide +kernel
theorem dX8_set_7 : decode cX8_set 7 = .ok (.if_icmp .ge 38, 3) := by decide +kernel
theorem dX8_set_10 : decode cX8_set 10 = .ok (.aload_n 0, 1) := by decide +kernel
theorem dX8_set_11 : decode cX8_set 11 = .ok (.getfield 9, 3) := by decide +kernel
theorem dX8_set_14 : decode cX8_set 14 = .ok (.iload_n 1, 1) := by decide +kernel
theorem dX8_set_15 : decode cX8_set 15 = .ok (.aaload, 1) := by decide +kernel
theorem dX8_set_16 : decode cX8_set 16 = .ok (.bipush 20, 2) := by decide +kernel
theorem dX8_set_18 : decode cX8_set 18 = .ok (.iload_n 2, 1) := by decide +kernel
theorem dX8_set_19 : decode cX8_set 19 = .ok (.imul, 1) := by decide +kernel
theorem dX8_set_20 : decode cX8_set 20 = .ok (.iload 4, 2) := by decide +kernel
theorem dX8_set_22 : decode cX8_set 22 = .ok (.iadd, 1) := by decide +kernel
theorem dX8_set_23 : decode cX8_set 23 = .ok (.iload_n 3, 1) := by decide +kernel
theorem dX8_set_24 : decode cX8_set 24 = .ok (.iload 4, 2) := by decide +kernel
theorem dX8_set_26 : decode cX8_set 26 = .ok (.ishr, 1) := by decide +kernel
theorem dX8_set_27 : decode cX8_set 27 = .ok (.iconst 1, 1) := by decide +kernel
theorem dX8_set_28 : decode cX8_set 28 = .ok (.iand, 1) := by decide +kernel
theorem dX8_set_29 : decode cX8_set 29 = .ok (.iconst 1, 1) := by decide +kernel
theorem dX8_set_30 : decode cX8_set 30 = .ok (.if_icmp .ne 7, 3) := by decide +kernel
theorem dX8_set_33 : decode cX8_set 33 = .ok (.iconst 1, 1) := by decide +kernel
theorem dX8_set_34 : decode cX8_set 34 = .ok (.goto 4, 3) := by decide +kernel
theorem dX8_set_37 : decode cX8_set 37 = .ok (.iconst 0, 1) := by decide +kernel
theorem dX8_set_38 : decode cX8_set 38 = .ok (.bastore, 1) := by decide +kernel
theorem dX8_set_39 : decode cX8_set 39 = .ok (.iinc 4 1, 3) := by decide +kernel
theorem dX8_set_42 : decode cX8_set 42 = .ok (.goto (-39), 3) := by decide +kernel
theorem dX8_set_45 : decode cX8_set 45 = .ok (.return_, 1) := by decide +kernel
theorem dX8_ones_0 : decode cX8_ones 0 = .ok (.iconst 0, 1) := by decide +kernel
theorem dX8_ones_1 : decode cX8_ones 1 = .ok (.istore_n 2, 1) := by decide +kernel
theorem dX8_ones_2 : decode cX8_ones 2 = .ok (.aload_n 0, 1) := by decide +kernel
theorem dX8_ones_3 : decode cX8_ones 3 = .ok (.getfield 9, 3) := by decide +kernel
theorem dX8_ones_6 : decode cX8_ones 6 = .ok (.iload_n 1, 1) := by decide +kernel
theorem dX8_ones_7 : decode cX8_ones 7 = .ok (.aaload, 1) := by decide +kernel
theorem dX8_ones_8 : decode cX8_ones 8 = .ok (.astore_n 3, 1) := by decide +kernel
theorem dX8_ones_9 : decode cX8_ones 9 = .ok (.aload_n 3, 1) := by decide +kernel
theorem dX8_ones_10 : decode cX8_ones 10 = .ok (.arraylength, 1) := by decide +kernel
theorem dX8_ones_11 : decode cX8_ones 11 = .ok (.istore 4, 2) := by decide +kernel
theorem dX8_ones_13 : decode cX8_ones 13 = .ok (.iconst 0, 1) := by decide +kernel
theorem dX8_ones_14 : decode cX8_ones 14 = .ok (.istore 5, 2) := by decide +kernel
theorem dX8_ones_16 : decode cX8_ones 16 = .ok (.iload 5, 2) := by decide +kernel
theorem dX8_ones_18 : decode cX8_ones 18 = .ok (.iload 4, 2) := by decide +kernel
theorem dX8_ones_20 : decode cX8_ones 20 = .ok (.if_icmp .ge 28, 3) := by decide +kernel
theorem dX8_ones_23 : decode cX8_ones 23 = .ok (.aload_n 3, 1) := by decide +kernel
theorem dX8_ones_24 : decode cX8_ones 24 = .ok (.iload 5, 2) := by decide +kernel
theorem dX8_ones_26 : decode cX8_ones 26 = .ok (.baload, 1) := by decide +kernel
theorem dX8_ones_27 : decode cX8_ones 27 = .ok (.istore 6, 2) := by decide +kernel
theorem dX8_ones_29 : decode cX8_ones 29 = .ok (.iload_n 2, 1) := by decide +kernel
theorem dX8_ones_30 : decode cX8_ones 30 = .ok (.iload 6, 2) := by decide +kernel
theorem dX8_ones_32 : decode cX8_ones 32 = .ok (.ifCond .eq 7, 3) := by decide +kernel
theorem dX8_ones_35 : decode cX8_ones 35 = .ok (.iconst 1, 1) := by decide +kernel
theorem dX8_ones_36 : decode cX8_ones 36 = .ok (.goto 4, 3) := by decide +kernel
theorem dX8_ones_39 : decode cX8_ones 39 = .ok (.iconst 0, 1) := by decide +kernel
theorem dX8_ones_40 : decode cX8_ones 40 = .ok (.iadd, 1) := by decide +kernel
theorem dX8_ones_41 : decode cX8_ones 41 = .ok (.istore_n 2, 1) := by decide +kernel
theorem dX8_ones_42 : decode cX8_ones 42 = .ok (.iinc 5 1, 3) := by decide +kernel
theorem dX8_ones_45 : decode cX8_ones 45 = .ok (.goto (-29), 3) := by decide +kernel
theorem dX8_ones_48 : decode cX8_ones 48 = .ok (.iload_n 2, 1) := by decide +kernel
theorem dX8_ones_49 : decode cX8_ones 49 = .ok (.ireturn, 1) := by decide +kernel
theorem dX8_period_0 : decode cX8_period 0 = .ok (.aload_n 0, 1) := by decide +kernel
theorem dX8_period_1 : decode cX8_period 1 = .ok (.getfield 84, 3) := by decide +kernel
theorem dX8_period_4 : decode cX8_period 4 = .ok (.ifCond .eq 25, 3) := by decide +kernel
theorem dX8_period_7 : decode cX8_period 7 = .ok (.ldc 91, 2) := by decide +kernel
theorem dX8_period_9 : decode cX8_period 9 = .ok (.sipush 19200, 3) := by decide +kernel
theorem dX8_period_12 : decode cX8_period 12 = .ok (.aload_n 0, 1) := by decide +kernel
theorem dX8_period_13 : decode cX8_period 13 = .ok (.getfield 43, 3) := by decide +kernel
theorem dX8_period_16 : decode cX8_period 16 = .ok (.sipush 400, 3) := by decide +kernel
theorem dX8_period_19 : decode cX8_period 19 = .ok (.isub, 1) := by decide +kernel
theorem dX8_period_20 : decode cX8_period 20 = .ok (.imul, 1) := by decide +kernel
theorem dX8_period_21 : decode cX8_period 21 = .ok (.iadd, 1) := by decide +kernel
theorem dX8_period_22 : decode cX8_period 22 = .ok (.sipush 640, 3) := by decide +kernel
theorem dX8_period_25 : decode cX8_period 25 = .ok (.idiv, 1) := by decide +kernel
theorem dX8_period_26 : decode cX8_period 26 = .ok (.goto 7, 3) := by decide +kernel
theorem dX8_period_29 : decode cX8_period 29 = .ok (.aload_n 0, 1) := by decide +kernel
theorem dX8_period_30 : decode cX8_period 30 = .ok (.getfield 47, 3) := by decide +kernel
theorem dX8_period_33 : decode cX8_period 33 = .ok (.ireturn, 1) := by decide +kernel
theorem dX8_mismatch_0 : decode cX8_mismatch 0 = .ok (.ldc 91, 2) := by decide +kernel
theorem dX8_mismatch_2 : decode cX8_mismatch 2 = .ok (.sipush 19200, 3) := by decide +kernel
theorem dX8_mismatch_5 : decode cX8_mismatch 5 = .ok (.iload_n 1, 1) := by decide +kernel
theorem dX8_mismatch_6 : decode cX8_mismatch 6 = .ok (.sipush 400, 3) := by decide +kernel
theorem dX8_mismatch_9 : decode cX8_mismatch 9 = .ok (.isub, 1) := by decide +kernel
theorem dX8_mismatch_10 : decode cX8_mismatch 10 = .ok (.imul, 1) := by decide +kernel
theorem dX8_mismatch_11 : decode cX8_mismatch 11 = .ok (.iadd, 1) := by decide +kernel
theorem dX8_mismatch_12 : decode cX8_mismatch 12 = .ok (.sipush 640, 3) := by decide +kernel
theorem dX8_mismatch_15 : decode cX8_mismatch 15 = .ok (.aload_n 0, 1) := by decide +kernel
theorem dX8_mismatch_16 : decode cX8_mismatch 16 = .ok (.invokevirtual 92, 3) := by decide +kernel
theorem dX8_mismatch_19 : decode cX8_mismatch 19 = .ok (.imul, 1) := by decide +kernel
theorem dX8_mismatch_20 : decode cX8_mismatch 20 = .ok (.isub, 1) := by decide +kernel
theorem dX8_mismatch_21 : decode cX8_mismatch 21 = .ok (.ireturn, 1) := by decide +kernel
theorem dX8_isSafe_0 : decode cX8_isSafe 0 = .ok (.aload_n 0, 1) := by decide +kernel
theorem dX8_isSafe_1 : decode cX8_isSafe 1 = .ok (.iload_n 1, 1) := by decide +kernel
theorem dX8_isSafe_2 : decode cX8_isSafe 2 = .ok (.invokevirtual 96, 3) := by decide +kernel
theorem dX8_isSafe_5 : decode cX8_isSafe 5 = .ok (.invokestatic 100, 3) := by decide +kernel
theorem dX8_isSafe_8 : decode cX8_isSafe 8 = .ok (.aload_n 0, 1) := by decide +kernel
theorem dX8_isSafe_9 : decode cX8_isSafe 9 = .ok (.invokevirtual 92, 3) := by decide +kernel
theorem dX8_isSafe_12 : decode cX8_isSafe 12 = .ok (.iconst 4, 1) := by decide +kernel
theorem dX8_isSafe_13 : decode cX8_isSafe 13 = .ok (.idiv, 1) := by decide +kernel
theorem dX8_isSafe_14 : decode cX8_isSafe 14 = .ok (.if_icmp .gt 7, 3) := by decide +kernel
theorem dX8_isSafe_17 : decode cX8_isSafe 17 = .ok (.iconst 1, 1) := by decide +kernel
theorem dX8_isSafe_18 : decode cX8_isSafe 18 = .ok (.goto 4, 3) := by decide +kernel
theorem dX8_isSafe_21 : decode cX8_isSafe 21 = .ok (.iconst 0, 1) := by decide +kernel
theorem dX8_isSafe_22 : decode cX8_isSafe 22 = .ok (.ireturn, 1) := by decide +kernel
theorem dX8_areSafe_0 : decode cX8_areSafe 0 = .ok (.aload_n 0, 1) := by decide +kernel
theorem dX8_areSafe_1 : decode cX8_areSafe 1 = .ok (.getfield 14, 3) := by decide +kernel
theorem dX8_areSafe_4 : decode cX8_areSafe 4 = .ok (.astore_n 1, 1) := by decide +kernel
theorem dX8_areSafe_5 : decode cX8_areSafe 5 = .ok (.aload_n 1, 1) := by decide +kernel
theorem dX8_areSafe_6 : decode cX8_areSafe 6 = .ok (.arraylength, 1) := by decide +kernel
theorem dX8_areSafe_7 : decode cX8_areSafe 7 = .ok (.istore_n 2, 1) := by decide +kernel
theorem dX8_areSafe_8 : decode cX8_areSafe 8 = .ok (.iconst 0, 1) := by decide +kernel
theorem dX8_areSafe_9 : decode cX8_areSafe 9 = .ok (.istore_n 3, 1) := by decide +kernel
theorem dX8_areSafe_10 : decode cX8_areSafe 10 = .ok (.iload_n 3, 1) := by decide +kernel
theorem dX8_areSafe_11 : decode cX8_areSafe 11 = .ok (.iload_n 2, 1) := by decide +kernel
theorem dX8_areSafe_12 : decode cX8_areSafe 12 = .ok (.if_icmp .ge 25, 3) := by decide +kernel
theorem dX8_areSafe_15 : decode cX8_areSafe 15 = .ok (.aload_n 1, 1) := by decide +kernel
theorem dX8_areSafe_16 : decode cX8_areSafe 16 = .ok (.iload_n 3, 1) := by decide +kernel
theorem dX8_areSafe_17 : decode cX8_areSafe 17 = .ok (.iaload, 1) := by decide +kernel
theorem dX8_areSafe_18 : decode cX8_areSafe 18 = .ok (.istore 4, 2) := by decide +kernel
theorem dX8_areSafe_20 : decode cX8_areSafe 20 = .ok (.aload_n 0, 1) := by decide +kernel
theorem dX8_areSafe_21 : decode cX8_areSafe 21 = .ok (.iload 4, 2) := by decide +kernel
theorem dX8_areSafe_23 : decode cX8_areSafe 23 = .ok (.invokevirtual 105, 3) := by decide +kernel
theorem dX8_areSafe_26 : decode cX8_areSafe 26 = .ok (.ifCond .ne 5, 3) := by decide +kernel
theorem dX8_areSafe_29 : decode cX8_areSafe 29 = .ok (.iconst 0, 1) := by decide +kernel
theorem dX8_areSafe_30 : decode cX8_areSafe 30 = .ok (.ireturn, 1) := by decide +kernel
theorem dX8_areSafe_31 : decode cX8_areSafe 31 = .ok (.iinc 3 1, 3) := by decide +kernel
theorem dX8_areSafe_34 : decode cX8_areSafe 34 = .ok (.goto (-24), 3) := by decide +kernel
theorem dX8_areSafe_37 : decode cX8_areSafe 37 = .ok (.iconst 1, 1) := by decide +kernel
theorem dX8_areSafe_38 : decode cX8_areSafe 38 = .ok (.ireturn, 1) := by decide +kernel
theorem dX8_warms_0 : decode cX8_warms 0 = .ok (.iconst 0, 1) := by decide +kernel
theorem dX8_warms_1 : decode cX8_warms 1 = .ok (.istore_n 1, 1) := by decide +kernel
theorem dX8_warms_2 : decode cX8_warms 2 = .ok (.iload_n 1, 1) := by decide +kernel
theorem dX8_warms_3 : decode cX8_warms 3 = .ok (.bipush 8, 2) := by decide +kernel
theorem dX8_warms_5 : decode cX8_warms 5 = .ok (.if_icmp .ge 32, 3) := by decide +kernel
theorem dX8_warms_8 : decode cX8_warms 8 = .ok (.aload_n 0, 1) := by decide +kernel
theorem dX8_warms_9 : decode cX8_warms 9 = .ok (.getfield 14, 3) := by decide +kernel
theorem dX8_warms_12 : decode cX8_warms 12 = .ok (.iload_n 1, 1) := by decide +kernel
theorem dX8_warms_13 : decode cX8_warms 13 = .ok (.dup2, 1) := by decide +kernel
theorem dX8_warms_14 : decode cX8_warms 14 = .ok (.iaload, 1) := by decide +kernel
theorem dX8_warms_15 : decode cX8_warms 15 = .ok (.aload_n 0, 1) := by decide +kernel
theorem dX8_warms_16 : decode cX8_warms 16 = .ok (.getfield 40, 3) := by decide +kernel
theorem dX8_warms_19 : decode cX8_warms 19 = .ok (.aload_n 0, 1) := by decide +kernel
theorem dX8_warms_20 : decode cX8_warms 20 = .ok (.getfield 14, 3) := by decide +kernel
theorem dX8_warms_23 : decode cX8_warms 23 = .ok (.iload_n 1, 1) := by decide +kernel
theorem dX8_warms_24 : decode cX8_warms 24 = .ok (.iaload, 1) := by decide +kernel
theorem dX8_warms_25 : decode cX8_warms 25 = .ok (.isub, 1) := by decide +kernel
theorem dX8_warms_26 : decode cX8_warms 26 = .ok (.bipush 8, 2) := by decide +kernel
theorem dX8_warms_28 : decode cX8_warms 28 = .ok (.idiv, 1) := by decide +kernel
theorem dX8_warms_29 : decode cX8_warms 29 = .ok (.iadd, 1) := by decide +kernel
theorem dX8_warms_30 : decode cX8_warms 30 = .ok (.iastore, 1) := by decide +kernel
theorem dX8_warms_31 : decode cX8_warms 31 = .ok (.iinc 1 1, 3) := by decide +kernel
theorem dX8_warms_34 : decode cX8_warms 34 = .ok (.goto (-32), 3) := by decide +kernel
theorem dX8_warms_37 : decode cX8_warms 37 = .ok (.aload_n 0, 1) := by decide +kernel
theorem dX8_warms_38 : decode cX8_warms 38 = .ok (.dup, 1) := by decide +kernel
theorem dX8_warms_39 : decode cX8_warms 39 = .ok (.getfield 43, 3) := by decide +kernel
theorem dX8_warms_42 : decode cX8_warms 42 = .ok (.aload_n 0, 1) := by decide +kernel
theorem dX8_warms_43 : decode cX8_warms 43 = .ok (.getfield 40, 3) := by decide +kernel
theorem dX8_warms_46 : decode cX8_warms 46 = .ok (.aload_n 0, 1) := by decide +kernel
theorem dX8_warms_47 : decode cX8_warms 47 = .ok (.getfield 43, 3) := by decide +kernel
theorem dX8_warms_50 : decode cX8_warms 50 = .ok (.isub, 1) := by decide +kernel
theorem dX8_warms_51 : decode cX8_warms 51 = .ok (.bipush 8, 2) := by decide +kernel
theorem dX8_warms_53 : decode cX8_warms 53 = .ok (.idiv, 1) := by decide +kernel
theorem dX8_warms_54 : decode cX8_warms 54 = .ok (.iadd, 1) := by decide +kernel
theorem dX8_warms_55 : decode cX8_warms 55 = .ok (.putfield 43, 3) := by decide +kernel
theorem dX8_warms_58 : decode cX8_warms 58 = .ok (.return_, 1) := by decide +kernel
theorem dX8_passes_0 : decode cX8_passes 0 = .ok (.iconst 0, 1) := by decide +kernel
theorem dX8_passes_1 : decode cX8_passes 1 = .ok (.istore_n 2, 1) := by decide +kernel
theorem dX8_passes_2 : decode cX8_passes 2 = .ok (.iload_n 2, 1) := by decide +kernel
theorem dX8_passes_3 : decode cX8_passes 3 = .ok (.iload_n 1, 1) := by decide +kernel
theorem dX8_passes_4 : decode cX8_passes 4 = .ok (.if_icmp .ge 227, 3) := by decide +kernel
theorem dX8_passes_7 : decode cX8_passes 7 = .ok (.aload_n 0, 1) := by decide +kernel
theorem dX8_passes_8 : decode cX8_passes 8 = .ok (.dup, 1) := by decide +kernel
theorem dX8_passes_9 : decode cX8_passes 9 = .ok (.getfield 63, 3) := by decide +kernel
theorem dX8_passes_12 : decode cX8_passes 12 = .ok (.iconst 1, 1) := by decide +kernel
theorem dX8_passes_13 : decode cX8_passes 13 = .ok (.iadd, 1) := by decide +kernel
theorem dX8_passes_14 : decode cX8_passes 14 = .ok (.putfield 63, 3) := by decide +kernel
theorem dX8_passes_17 : decode cX8_passes 17 = .ok (.aload_n 0, 1) := by decide +kernel
theorem dX8_passes_18 : decode cX8_passes 18 = .ok (.getfield 63, 3) := by decide +kernel
theorem dX8_passes_21 : decode cX8_passes 21 = .ok (.bipush 32, 2) := by decide +kernel
theorem dX8_passes_23 : decode cX8_passes 23 = .ok (.irem, 1) := by decide +kernel
theorem dX8_passes_24 : decode cX8_passes 24 = .ok (.ifCond .eq 6, 3) := by decide +kernel
theorem dX8_passes_27 : decode cX8_passes 27 = .ok (.goto 198, 3) := by decide +kernel
theorem dX8_passes_30 : decode cX8_passes 30 = .ok (.aload_n 0, 1) := by decide +kernel
theorem dX8_passes_31 : decode cX8_passes 31 = .ok (.invokevirtual 92, 3) := by decide +kernel
theorem dX8_passes_34 : decode cX8_passes 34 = .ok (.istore_n 3, 1) := by decide +kernel
theorem dX8_passes_35 : decode cX8_passes 35 = .ok (.iconst 0, 1) := by decide +kernel
theorem dX8_passes_36 : decode cX8_passes 36 = .ok (.istore 4, 2) := by decide +kernel
theorem dX8_passes_38 : decode cX8_passes 38 = .ok (.iload 4, 2) := by decide +kernel
theorem dX8_passes_40 : decode cX8_passes 40 = .ok (.bipush 8, 2) := by decide +kernel
theorem dX8_passes_42 : decode cX8_passes 42 = .ok (.if_icmp .ge 179, 3) := by decide +kernel
theorem dX8_passes_45 : decode cX8_passes 45 = .ok (.aload_n 0, 1) := by decide +kernel
theorem dX8_passes_46 : decode cX8_passes 46 = .ok (.aload_n 0, 1) := by decide +kernel
theorem dX8_passes_47 : decode cX8_passes 47 = .ok (.getfield 14, 3) := by decide +kernel
theorem dX8_passes_50 : decode cX8_passes 50 = .ok (.iload 4, 2) := by decide +kernel
theorem dX8_passes_52 : decode cX8_passes 52 = .ok (.iaload, 1) := by decide +kernel
theorem dX8_passes_53 : decode cX8_passes 53 = .ok (.invokevirtual 96, 3) := by decide +kernel
theorem dX8_passes_56 : decode cX8_passes 56 = .ok (.istore 5, 2) := by decide +kernel
theorem dX8_passes_58 : decode cX8_passes 58 = .ok (.iload 5, 2) := by decide +kernel
theorem dX8_passes_60 : decode cX8_passes 60 = .ok (.iload_n 3, 1) := by decide +kernel
theorem dX8_passes_61 : decode cX8_passes 61 = .ok (.iconst 2, 1) := by decide +kernel
theorem dX8_passes_62 : decode cX8_passes 62 = .ok (.idiv, 1) := by decide +kernel
theorem dX8_passes_63 : decode cX8_passes 63 = .ok (.iadd, 1) := by decide +kernel
theorem dX8_passes_64 : decode cX8_passes 64 = .ok (.iload_n 3, 1) := by decide +kernel
theorem dX8_passes_65 : decode cX8_passes 65 = .ok (.invokestatic 109, 3) := by decide +kernel
theorem dX8_passes_68 : decode cX8_passes 68 = .ok (.istore 6, 2) := by decide +kernel
theorem dX8_passes_70 : decode cX8_passes 70 = .ok (.sipush 640, 3) := by decide +kernel
theorem dX8_passes_73 : decode cX8_passes 73 = .ok (.newarray .boolean, 2) := by decide +kernel
theorem dX8_passes_75 : decode cX8_passes 75 = .ok (.astore 7, 2) := by decide +kernel
theorem dX8_passes_77 : decode cX8_passes 77 = .ok (.iconst 0, 1) := by decide +kernel
theorem dX8_passes_78 : decode cX8_passes 78 = .ok (.istore 8, 2) := by decide +kernel
theorem dX8_passes_80 : decode cX8_passes 80 = .ok (.iload 8, 2) := by decide +kernel
theorem dX8_passes_82 : decode cX8_passes 82 = .ok (.sipush 640, 3) := by decide +kernel
theorem dX8_passes_85 : decode cX8_passes 85 = .ok (.if_icmp .ge 33, 3) := by decide +kernel
theorem dX8_passes_88 : decode cX8_passes 88 = .ok (.aload 7, 2) := by decide +kernel
theorem dX8_passes_90 : decode cX8_passes 90 = .ok (.iload 8, 2) := by decide +kernel
theorem dX8_passes_92 : decode cX8_passes 92 = .ok (.iload 6, 2) := by decide +kernel
theorem dX8_passes_94 : decode cX8_passes 94 = .ok (.iadd, 1) := by decide +kernel
theorem dX8_passes_95 : decode cX8_passes 95 = .ok (.sipush 640, 3) := by decide +kernel
theorem dX8_passes_98 : decode cX8_passes 98 = .ok (.invokestatic 113, 3) := by decide +kernel
theorem dX8_passes_101 : decode cX8_passes 101 = .ok (.aload_n 0, 1) := by decide +kernel
theorem dX8_passes_102 : decode cX8_passes 102 = .ok (.getfield 9, 3) := by decide +kernel
theorem dX8_passes_105 : decode cX8_passes 105 = .ok (.iload 4, 2) := by decide +kernel
theorem dX8_passes_107 : decode cX8_passes 107 = .ok (.aaload, 1) := by decide +kernel
theorem dX8_passes_108 : decode cX8_passes 108 = .ok (.iload 8, 2) := by decide +kernel
theorem dX8_passes_110 : decode cX8_passes 110 = .ok (.baload, 1) := by decide +kernel
theorem dX8_passes_111 : decode cX8_passes 111 = .ok (.bastore, 1) := by decide +kernel
theorem dX8_passes_112 : decode cX8_passes 112 = .ok (.iinc 8 1, 3) := by decide +kernel
theorem dX8_passes_115 : decode cX8_passes 115 = .ok (.goto (-35), 3) := by decide +kernel
theorem dX8_passes_118 : decode cX8_passes 118 = .ok (.aload_n 0, 1) := by decide +kernel
theorem dX8_passes_119 : decode cX8_passes 119 = .ok (.getfield 9, 3) := by decide +kernel
theorem dX8_passes_122 : decode cX8_passes 122 = .ok (.iload 4, 2) := by decide +kernel
theorem dX8_passes_124 : decode cX8_passes 124 = .ok (.aload 7, 2) := by decide +kernel
theorem dX8_passes_126 : decode cX8_passes 126 = .ok (.aastore, 1) := by decide +kernel
theorem dX8_passes_127 : decode cX8_passes 127 = .ok (.aload_n 0, 1) := by decide +kernel
theorem dX8_passes_128 : decode cX8_passes 128 = .ok (.getfield 18, 3) := by decide +kernel
theorem dX8_passes_131 : decode cX8_passes 131 = .ok (.iload 4, 2) := by decide +kernel
theorem dX8_passes_133 : decode cX8_passes 133 = .ok (.dup2, 1) := by decide +kernel
theorem dX8_passes_134 : decode cX8_passes 134 = .ok (.iaload, 1) := by decide +kernel
theorem dX8_passes_135 : decode cX8_passes 135 = .ok (.iload 6, 2) := by decide +kernel
theorem dX8_passes_137 : decode cX8_passes 137 = .ok (.invokestatic 100, 3) := by decide +kernel
theorem dX8_passes_140 : decode cX8_passes 140 = .ok (.iadd, 1) := by decide +kernel
theorem dX8_passes_141 : decode cX8_passes 141 = .ok (.iastore, 1) := by decide +kernel
theorem dX8_passes_142 : decode cX8_passes 142 = .ok (.bipush 7, 2) := by decide +kernel
theorem dX8_passes_144 : decode cX8_passes 144 = .ok (.aload_n 0, 1) := by decide +kernel
theorem dX8_passes_145 : decode cX8_passes 145 = .ok (.getfield 63, 3) := by decide +kernel
theorem dX8_passes_148 : decode cX8_passes 148 = .ok (.bipush 32, 2) := by decide +kernel
theorem dX8_passes_150 : decode cX8_passes 150 = .ok (.idiv, 1) := by decide +kernel
theorem dX8_passes_151 : decode cX8_passes 151 = .ok (.imul, 1) := by decide +kernel
theorem dX8_passes_152 : decode cX8_passes 152 = .ok (.iload 4, 2) := by decide +kernel
theorem dX8_passes_154 : decode cX8_passes 154 = .ok (.iadd, 1) := by decide +kernel
theorem dX8_passes_155 : decode cX8_passes 155 = .ok (.sipush 640, 3) := by decide +kernel
theorem dX8_passes_158 : decode cX8_passes 158 = .ok (.irem, 1) := by decide +kernel
theorem dX8_passes_159 : decode cX8_passes 159 = .ok (.istore 8, 2) := by decide +kernel
theorem dX8_passes_161 : decode cX8_passes 161 = .ok (.iload 5, 2) := by decide +kernel
theorem dX8_passes_163 : decode cX8_passes 163 = .ok (.iload 6, 2) := by decide +kernel
theorem dX8_passes_165 : decode cX8_passes 165 = .ok (.iload_n 3, 1) := by decide +kernel
theorem dX8_passes_166 : decode cX8_passes 166 = .ok (.imul, 1) := by decide +kernel
theorem dX8_passes_167 : decode cX8_passes 167 = .ok (.isub, 1) := by decide +kernel
theorem dX8_passes_168 : decode cX8_passes 168 = .ok (.invokestatic 100, 3) := by decide +kernel
theorem dX8_passes_171 : decode cX8_passes 171 = .ok (.iload_n 3, 1) := by decide +kernel
theorem dX8_passes_172 : decode cX8_passes 172 = .ok (.iconst 4, 1) := by decide +kernel
theorem dX8_passes_173 : decode cX8_passes 173 = .ok (.idiv, 1) := by decide +kernel
theorem dX8_passes_174 : decode cX8_passes 174 = .ok (.if_icmp .le 41, 3) := by decide +kernel
theorem dX8_passes_177 : decode cX8_passes 177 = .ok (.aload_n 0, 1) := by decide +kernel
theorem dX8_passes_178 : decode cX8_passes 178 = .ok (.dup, 1) := by decide +kernel
theorem dX8_passes_179 : decode cX8_passes 179 = .ok (.getfield 81, 3) := by decide +kernel
theorem dX8_passes_182 : decode cX8_passes 182 = .ok (.aload_n 0, 1) := by decide +kernel
theorem dX8_passes_183 : decode cX8_passes 183 = .ok (.getfield 9, 3) := by decide +kernel
theorem dX8_passes_186 : decode cX8_passes 186 = .ok (.iload 4, 2) := by decide +kernel
theorem dX8_passes_188 : decode cX8_passes 188 = .ok (.aaload, 1) := by decide +kernel
theorem dX8_passes_189 : decode cX8_passes 189 = .ok (.iload 8, 2) := by decide +kernel
theorem dX8_passes_191 : decode cX8_passes 191 = .ok (.baload, 1) := by decide +kernel
theorem dX8_passes_192 : decode cX8_passes 192 = .ok (.ifCond .eq 7, 3) := by decide +kernel
theorem dX8_passes_195 : decode cX8_passes 195 = .ok (.iconst 1, 1) := by decide +kernel
theorem dX8_passes_196 : decode cX8_passes 196 = .ok (.goto 4, 3) := by decide +kernel
theorem dX8_passes_199 : decode cX8_passes 199 = .ok (.iconst 0, 1) := by decide +kernel
theorem dX8_passes_200 : decode cX8_passes 200 = .ok (.iadd, 1) := by decide +kernel
theorem dX8_passes_201 : decode cX8_passes 201 = .ok (.putfield 81, 3) := by decide +kernel
theorem dX8_passes_204 : decode cX8_passes 204 = .ok (.aload_n 0, 1) := by decide +kernel
theorem dX8_passes_205 : decode cX8_passes 205 = .ok (.getfield 9, 3) := by decide +kernel
theorem dX8_passes_208 : decode cX8_passes 208 = .ok (.iload 4, 2) := by decide +kernel
theorem dX8_passes_210 : decode cX8_passes 210 = .ok (.aaload, 1) := by decide +kernel
theorem dX8_passes_211 : decode cX8_passes 211 = .ok (.iload 8, 2) := by decide +kernel
theorem dX8_passes_213 : decode cX8_passes 213 = .ok (.iconst 0, 1) := by decide +kernel
theorem dX8_passes_214 : decode cX8_passes 214 = .ok (.bastore, 1) := by decide +kernel
theorem dX8_passes_215 : decode cX8_passes 215 = .ok (.iinc 4 1, 3) := by decide +kernel
theorem dX8_passes_218 : decode cX8_passes 218 = .ok (.goto (-180), 3) := by decide +kernel
theorem dX8_passes_221 : decode cX8_passes 221 = .ok (.aload_n 0, 1) := by decide +kernel
theorem dX8_passes_222 : decode cX8_passes 222 = .ok (.invokevirtual 116, 3) := by decide +kernel
theorem dX8_passes_225 : decode cX8_passes 225 = .ok (.iinc 2 1, 3) := by decide +kernel
theorem dX8_passes_228 : decode cX8_passes 228 = .ok (.goto (-226), 3) := by decide +kernel
theorem dX8_passes_231 : decode cX8_passes 231 = .ok (.return_, 1) := by decide +kernel
theorem dX8_waitsFor_0 : decode cX8_waitsFor 0 = .ok (.aload_n 0, 1) := by decide +kernel
theorem dX8_waitsFor_1 : decode cX8_waitsFor 1 = .ok (.getfield 63, 3) := by decide +kernel
theorem dX8_waitsFor_4 : decode cX8_waitsFor 4 = .ok (.bipush 32, 2) := by decide +kernel
theorem dX8_waitsFor_6 : decode cX8_waitsFor 6 = .ok (.irem, 1) := by decide +kernel
theorem dX8_waitsFor_7 : decode cX8_waitsFor 7 = .ok (.iload_n 1, 1) := by decide +kernel
theorem dX8_waitsFor_8 : decode cX8_waitsFor 8 = .ok (.if_icmp .eq 21, 3) := by decide +kernel
theorem dX8_waitsFor_11 : decode cX8_waitsFor 11 = .ok (.aload_n 0, 1) := by decide +kernel
theorem dX8_waitsFor_12 : decode cX8_waitsFor 12 = .ok (.dup, 1) := by decide +kernel
theorem dX8_waitsFor_13 : decode cX8_waitsFor 13 = .ok (.getfield 78, 3) := by decide +kernel
theorem dX8_waitsFor_16 : decode cX8_waitsFor 16 = .ok (.iconst 1, 1) := by decide +kernel
theorem dX8_waitsFor_17 : decode cX8_waitsFor 17 = .ok (.iadd, 1) := by decide +kernel
theorem dX8_waitsFor_18 : decode cX8_waitsFor 18 = .ok (.putfield 78, 3) := by decide +kernel
theorem dX8_waitsFor_21 : decode cX8_waitsFor 21 = .ok (.aload_n 0, 1) := by decide +kernel
theorem dX8_waitsFor_22 : decode cX8_waitsFor 22 = .ok (.iconst 1, 1) := by decide +kernel
theorem dX8_waitsFor_23 : decode cX8_waitsFor 23 = .ok (.invokevirtual 119, 3) := by decide +kernel
theorem dX8_waitsFor_26 : decode cX8_waitsFor 26 = .ok (.goto (-26), 3) := by decide +kernel
theorem dX8_waitsFor_29 : decode cX8_waitsFor 29 = .ok (.return_, 1) := by decide +kernel
theorem dX8_wrap_0 : decode cX8_wrap 0 = .ok (.lload_n 0, 1) := by decide +kernel
theorem dX8_wrap_1 : decode cX8_wrap 1 = .ok (.bipush 44, 2) := by decide +kernel
theorem dX8_wrap_3 : decode cX8_wrap 3 = .ok (.lshl, 1) := by decide +kernel
theorem dX8_wrap_4 : decode cX8_wrap 4 = .ok (.bipush 44, 2) := by decide +kernel
theorem dX8_wrap_6 : decode cX8_wrap 6 = .ok (.lshr, 1) := by decide +kernel
theorem dX8_wrap_7 : decode cX8_wrap 7 = .ok (.l2i, 1) := by decide +kernel
theorem dX8_wrap_8 : decode cX8_wrap 8 = .ok (.ireturn, 1) := by decide +kernel
theorem dX8_result_0 : decode cX8_result 0 = .ok (.aload_n 0, 1) := by decide +kernel
theorem dX8_result_1 : decode cX8_result 1 = .ok (.lload_n 1, 1) := by decide +kernel
theorem dX8_result_2 : decode cX8_result 2 = .ok (.invokestatic 123, 3) := by decide +kernel
theorem dX8_result_5 : decode cX8_result 5 = .ok (.putfield 66, 3) := by decide +kernel
theorem dX8_result_8 : decode cX8_result 8 = .ok (.aload_n 0, 1) := by decide +kernel
theorem dX8_result_9 : decode cX8_result 9 = .ok (.aload_n 0, 1) := by decide +kernel
theorem dX8_result_10 : decode cX8_result 10 = .ok (.getfield 88, 3) := by decide +kernel
theorem dX8_result_13 : decode cX8_result 13 = .ok (.ifCond .ne 17, 3) := by decide +kernel
theorem dX8_result_16 : decode cX8_result 16 = .ok (.iload_n 3, 1) := by decide +kernel
theorem dX8_result_17 : decode cX8_result 17 = .ok (.ifCond .eq 17, 3) := by decide +kernel
theorem dX8_result_20 : decode cX8_result 20 = .ok (.aload_n 0, 1) := by decide +kernel
theorem dX8_result_21 : decode cX8_result 21 = .ok (.getfield 66, 3) := by decide +kernel
theorem dX8_result_24 : decode cX8_result 24 = .ok (.i2l, 1) := by decide +kernel
theorem dX8_result_25 : decode cX8_result 25 = .ok (.lload_n 1, 1) := by decide +kernel
theorem dX8_result_26 : decode cX8_result 26 = .ok (.lcmp, 1) := by decide +kernel
theorem dX8_result_27 : decode cX8_result 27 = .ok (.ifCond .eq 7, 3) := by decide +kernel
theorem dX8_result_30 : decode cX8_result 30 = .ok (.iconst 1, 1) := by decide +kernel
theorem dX8_result_31 : decode cX8_result 31 = .ok (.goto 4, 3) := by decide +kernel
theorem dX8_result_34 : decode cX8_result 34 = .ok (.iconst 0, 1) := by decide +kernel
theorem dX8_result_35 : decode cX8_result 35 = .ok (.putfield 88, 3) := by decide +kernel
theorem dX8_result_38 : decode cX8_result 38 = .ok (.return_, 1) := by decide +kernel
theorem dX8_step_0 : decode cX8_step 0 = .ok (.aload_n 0, 1) := by decide +kernel
theorem dX8_step_1 : decode cX8_step 1 = .ok (.aload_n 0, 1) := by decide +kernel
theorem dX8_step_2 : decode cX8_step 2 = .ok (.getfield 72, 3) := by decide +kernel
theorem dX8_step_5 : decode cX8_step 5 = .ok (.invokevirtual 127, 3) := by decide +kernel
theorem dX8_step_8 : decode cX8_step 8 = .ok (.aload_n 0, 1) := by decide +kernel
theorem dX8_step_9 : decode cX8_step 9 = .ok (.aload_n 0, 1) := by decide +kernel
theorem dX8_step_10 : decode cX8_step 10 = .ok (.getfield 69, 3) := by decide +kernel
theorem dX8_step_13 : decode cX8_step 13 = .ok (.aload_n 0, 1) := by decide +kernel
theorem dX8_step_14 : decode cX8_step 14 = .ok (.getfield 72, 3) := by decide +kernel
theorem dX8_step_17 : decode cX8_step 17 = .ok (.invokevirtual 130, 3) := by decide +kernel
theorem dX8_step_20 : decode cX8_step 20 = .ok (.istore_n 1, 1) := by decide +kernel
theorem dX8_step_21 : decode cX8_step 21 = .ok (.aload_n 0, 1) := by decide +kernel
theorem dX8_step_22 : decode cX8_step 22 = .ok (.iconst 1, 1) := by decide +kernel
theorem dX8_step_23 : decode cX8_step 23 = .ok (.invokevirtual 119, 3) := by decide +kernel
theorem dX8_step_26 : decode cX8_step 26 = .ok (.iload_n 1, 1) := by decide +kernel
theorem dX8_step_27 : decode cX8_step 27 = .ok (.bipush 15, 2) := by decide +kernel
theorem dX8_step_29 : decode cX8_step 29 = .ok (.iand, 1) := by decide +kernel
theorem dX8_step_30 : decode cX8_step 30 = .ok (.istore_n 2, 1) := by decide +kernel
theorem dX8_step_31 : decode cX8_step 31 = .ok (.iload_n 1, 1) := by decide +kernel
theorem dX8_step_32 : decode cX8_step 32 = .ok (.iconst 4, 1) := by decide +kernel
theorem dX8_step_33 : decode cX8_step 33 = .ok (.ishr, 1) := by decide +kernel
theorem dX8_step_34 : decode cX8_step 34 = .ok (.bipush 7, 2) := by decide +kernel
theorem dX8_step_36 : decode cX8_step 36 = .ok (.iand, 1) := by decide +kernel
theorem dX8_step_37 : decode cX8_step 37 = .ok (.istore_n 3, 1) := by decide +kernel
theorem dX8_step_38 : decode cX8_step 38 = .ok (.iload_n 1, 1) := by decide +kernel
theorem dX8_step_39 : decode cX8_step 39 = .ok (.bipush 7, 2) := by decide +kernel
theorem dX8_step_41 : decode cX8_step 41 = .ok (.ishr, 1) := by decide +kernel
theorem dX8_step_42 : decode cX8_step 42 = .ok (.bipush 31, 2) := by decide +kernel
theorem dX8_step_44 : decode cX8_step 44 = .ok (.iand, 1) := by decide +kernel
theorem dX8_step_45 : decode cX8_step 45 = .ok (.istore 4, 2) := by decide +kernel
theorem dX8_step_47 : decode cX8_step 47 = .ok (.iload_n 2, 1) := by decide +kernel
theorem dX8_step_48 : decode cX8_step 48 = .ok (.bipush 13, 2) := by decide +kernel
theorem dX8_step_50 : decode cX8_step 50 = .ok (.if_icmp .ne 13, 3) := by decide +kernel
theorem dX8_step_53 : decode cX8_step 53 = .ok (.aload_n 0, 1) := by decide +kernel
theorem dX8_step_54 : decode cX8_step 54 = .ok (.getfield 29, 3) := by decide +kernel
theorem dX8_step_57 : decode cX8_step 57 = .ok (.invokevirtual 133, 3) := by decide +kernel
theorem dX8_step_60 : decode cX8_step 60 = .ok (.ifCond .ne 21, 3) := by decide +kernel
theorem dX8_step_63 : decode cX8_step 63 = .ok (.iload_n 2, 1) := by decide +kernel
theorem dX8_step_64 : decode cX8_step 64 = .ok (.bipush 14, 2) := by decide +kernel
theorem dX8_step_66 : decode cX8_step 66 = .ok (.if_icmp .ne 32, 3) := by decide +kernel
theorem dX8_step_69 : decode cX8_step 69 = .ok (.aload_n 0, 1) := by decide +kernel
theorem dX8_step_70 : decode cX8_step 70 = .ok (.getfield 33, 3) := by decide +kernel
theorem dX8_step_73 : decode cX8_step 73 = .ok (.invokevirtual 137, 3) := by decide +kernel
theorem dX8_step_76 : decode cX8_step 76 = .ok (.bipush 64, 2) := by decide +kernel
theorem dX8_step_78 : decode cX8_step 78 = .ok (.if_icmp .ne 20, 3) := by decide +kernel
theorem dX8_step_81 : decode cX8_step 81 = .ok (.aload_n 0, 1) := by decide +kernel
theorem dX8_step_82 : decode cX8_step 82 = .ok (.iload_n 2, 1) := by decide +kernel
theorem dX8_step_83 : decode cX8_step 83 = .ok (.bipush 13, 2) := by decide +kernel
theorem dX8_step_85 : decode cX8_step 85 = .ok (.if_icmp .ne 7, 3) := by decide +kernel
theorem dX8_step_88 : decode cX8_step 88 = .ok (.iconst 2, 1) := by decide +kernel
theorem dX8_step_89 : decode cX8_step 89 = .ok (.goto 4, 3) := by decide +kernel
theorem dX8_step_92 : decode cX8_step 92 = .ok (.iconst 3, 1) := by decide +kernel
theorem dX8_step_93 : decode cX8_step 93 = .ok (.putfield 36, 3) := by decide +kernel
theorem dX8_step_96 : decode cX8_step 96 = .ok (.iconst 0, 1) := by decide +kernel
theorem dX8_step_97 : decode cX8_step 97 = .ok (.ireturn, 1) := by decide +kernel
theorem dX8_step_98 : decode cX8_step 98 = .ok (.iconst 0, 1) := by decide +kernel
theorem dX8_step_99 : decode cX8_step 99 = .ok (.istore 5, 2) := by decide +kernel
theorem dX8_step_101 : decode cX8_step 101 = .ok (.iload_n 2, 1) := by decide +kernel
theorem dX8_step_102 : decode cX8_step 102 = .ok (.ifCond .le 9, 3) := by decide +kernel
theorem dX8_step_105 : decode cX8_step 105 = .ok (.iload_n 2, 1) := by decide +kernel
theorem dX8_step_106 : decode cX8_step 106 = .ok (.bipush 8, 2) := by decide +kernel
theorem dX8_step_108 : decode cX8_step 108 = .ok (.if_icmp .lt 9, 3) := by decide +kernel
theorem dX8_step_111 : decode cX8_step 111 = .ok (.iload_n 2, 1) := by decide +kernel
theorem dX8_step_112 : decode cX8_step 112 = .ok (.bipush 15, 2) := by decide +kernel
theorem dX8_step_114 : decode cX8_step 114 = .ok (.if_icmp .ne 9, 3) := by decide +kernel
theorem dX8_step_117 : decode cX8_step 117 = .ok (.aload_n 0, 1) := by decide +kernel
theorem dX8_step_118 : decode cX8_step 118 = .ok (.iload 4, 2) := by decide +kernel
theorem dX8_step_120 : decode cX8_step 120 = .ok (.invokevirtual 127, 3) := by decide +kernel
theorem dX8_step_123 : decode cX8_step 123 = .ok (.aload_n 0, 1) := by decide +kernel
theorem dX8_step_124 : decode cX8_step 124 = .ok (.iload_n 3, 1) := by decide +kernel
theorem dX8_step_125 : decode cX8_step 125 = .ok (.iload 4, 2) := by decide +kernel
theorem dX8_step_127 : decode cX8_step 127 = .ok (.invokevirtual 130, 3) := by decide +kernel
theorem dX8_step_130 : decode cX8_step 130 = .ok (.istore 6, 2) := by decide +kernel
theorem dX8_step_132 : decode cX8_step 132 = .ok (.iload_n 2, 1) := by decide +kernel
theorem dX8_step_133 : decode cX8_step 133 = .ok (.tableswitch 310 0 14 #[75, 83, 92, 106, 123, 140, 154, 168, 185, 203, 223, 240, 257, 271, 292], 75) := by decide +kernel
theorem dX8_step_208 : decode cX8_step 208 = .ok (.aload_n 0, 1) := by decide +kernel
theorem dX8_step_209 : decode cX8_step 209 = .ok (.iconst 1, 1) := by decide +kernel
theorem dX8_step_210 : decode cX8_step 210 = .ok (.putfield 36, 3) := by decide +kernel
theorem dX8_step_213 : decode cX8_step 213 = .ok (.goto 259, 3) := by decide +kernel
theorem dX8_step_216 : decode cX8_step 216 = .ok (.aload_n 0, 1) := by decide +kernel
theorem dX8_step_217 : decode cX8_step 217 = .ok (.iload 6, 2) := by decide +kernel
theorem dX8_step_219 : decode cX8_step 219 = .ok (.putfield 66, 3) := by decide +kernel
theorem dX8_step_222 : decode cX8_step 222 = .ok (.goto 250, 3) := by decide +kernel
theorem dX8_step_225 : decode cX8_step 225 = .ok (.aload_n 0, 1) := by decide +kernel
theorem dX8_step_226 : decode cX8_step 226 = .ok (.iload_n 3, 1) := by decide +kernel
theorem dX8_step_227 : decode cX8_step 227 = .ok (.iload 4, 2) := by decide +kernel
theorem dX8_step_229 : decode cX8_step 229 = .ok (.aload_n 0, 1) := by decide +kernel
theorem dX8_step_230 : decode cX8_step 230 = .ok (.getfield 66, 3) := by decide +kernel
theorem dX8_step_233 : decode cX8_step 233 = .ok (.invokevirtual 140, 3) := by decide +kernel
theorem dX8_step_236 : decode cX8_step 236 = .ok (.goto 236, 3) := by decide +kernel
theorem dX8_step_239 : decode cX8_step 239 = .ok (.aload_n 0, 1) := by decide +kernel
theorem dX8_step_240 : decode cX8_step 240 = .ok (.aload_n 0, 1) := by decide +kernel
theorem dX8_step_241 : decode cX8_step 241 = .ok (.getfield 66, 3) := by decide +kernel
theorem dX8_step_244 : decode cX8_step 244 = .ok (.i2l, 1) := by decide +kernel
theorem dX8_step_245 : decode cX8_step 245 = .ok (.iload 6, 2) := by decide +kernel
theorem dX8_step_247 : decode cX8_step 247 = .ok (.i2l, 1) := by decide +kernel
theorem dX8_step_248 : decode cX8_step 248 = .ok (.ladd, 1) := by decide +kernel
theorem dX8_step_249 : decode cX8_step 249 = .ok (.iconst 1, 1) := by decide +kernel
theorem dX8_step_250 : decode cX8_step 250 = .ok (.invokevirtual 144, 3) := by decide +kernel
theorem dX8_step_253 : decode cX8_step 253 = .ok (.goto 219, 3) := by decide +kernel
theorem dX8_step_256 : decode cX8_step 256 = .ok (.aload_n 0, 1) := by decide +kernel
theorem dX8_step_257 : decode cX8_step 257 = .ok (.aload_n 0, 1) := by decide +kernel
theorem dX8_step_258 : decode cX8_step 258 = .ok (.getfield 66, 3) := by decide +kernel
theorem dX8_step_261 : decode cX8_step 261 = .ok (.i2l, 1) := by decide +kernel
theorem dX8_step_262 : decode cX8_step 262 = .ok (.iload 6, 2) := by decide +kernel
theorem dX8_step_264 : decode cX8_step 264 = .ok (.i2l, 1) := by decide +kernel
theorem dX8_step_265 : decode cX8_step 265 = .ok (.lsub, 1) := by decide +kernel
theorem dX8_step_266 : decode cX8_step 266 = .ok (.iconst 1, 1) := by decide +kernel
theorem dX8_step_267 : decode cX8_step 267 = .ok (.invokevirtual 144, 3) := by decide +kernel
theorem dX8_step_270 : decode cX8_step 270 = .ok (.goto 202, 3) := by decide +kernel
theorem dX8_step_273 : decode cX8_step 273 = .ok (.aload_n 0, 1) := by decide +kernel
theorem dX8_step_274 : decode cX8_step 274 = .ok (.dup, 1) := by decide +kernel
theorem dX8_step_275 : decode cX8_step 275 = .ok (.getfield 66, 3) := by decide +kernel
theorem dX8_step_278 : decode cX8_step 278 = .ok (.iload 6, 2) := by decide +kernel
theorem dX8_step_280 : decode cX8_step 280 = .ok (.iand, 1) := by decide +kernel
theorem dX8_step_281 : decode cX8_step 281 = .ok (.putfield 66, 3) := by decide +kernel
theorem dX8_step_284 : decode cX8_step 284 = .ok (.goto 188, 3) := by decide +kernel
theorem dX8_step_287 : decode cX8_step 287 = .ok (.aload_n 0, 1) := by decide +kernel
theorem dX8_step_288 : decode cX8_step 288 = .ok (.dup, 1) := by decide +kernel
theorem dX8_step_289 : decode cX8_step 289 = .ok (.getfield 66, 3) := by decide +kernel
theorem dX8_step_292 : decode cX8_step 292 = .ok (.iload 6, 2) := by decide +kernel
theorem dX8_step_294 : decode cX8_step 294 = .ok (.ixor, 1) := by decide +kernel
theorem dX8_step_295 : decode cX8_step 295 = .ok (.putfield 66, 3) := by decide +kernel
theorem dX8_step_298 : decode cX8_step 298 = .ok (.goto 174, 3) := by decide +kernel
theorem dX8_step_301 : decode cX8_step 301 = .ok (.aload_n 0, 1) := by decide +kernel
theorem dX8_step_302 : decode cX8_step 302 = .ok (.aload_n 0, 1) := by decide +kernel
theorem dX8_step_303 : decode cX8_step 303 = .ok (.getfield 66, 3) := by decide +kernel
theorem dX8_step_306 : decode cX8_step 306 = .ok (.i2l, 1) := by decide +kernel
theorem dX8_step_307 : decode cX8_step 307 = .ok (.iload 6, 2) := by decide +kernel
theorem dX8_step_309 : decode cX8_step 309 = .ok (.i2l, 1) := by decide +kernel
theorem dX8_step_310 : decode cX8_step 310 = .ok (.lmul, 1) := by decide +kernel
theorem dX8_step_311 : decode cX8_step 311 = .ok (.iconst 1, 1) := by decide +kernel
theorem dX8_step_312 : decode cX8_step 312 = .ok (.invokevirtual 144, 3) := by decide +kernel
theorem dX8_step_315 : decode cX8_step 315 = .ok (.goto 157, 3) := by decide +kernel
theorem dX8_step_318 : decode cX8_step 318 = .ok (.aload_n 0, 1) := by decide +kernel
theorem dX8_step_319 : decode cX8_step 319 = .ok (.aload_n 0, 1) := by decide +kernel
theorem dX8_step_320 : decode cX8_step 320 = .ok (.getfield 66, 3) := by decide +kernel
theorem dX8_step_323 : decode cX8_step 323 = .ok (.i2l, 1) := by decide +kernel
theorem dX8_step_324 : decode cX8_step 324 = .ok (.lconst 1, 1) := by decide +kernel
theorem dX8_step_325 : decode cX8_step 325 = .ok (.iload 4, 2) := by decide +kernel
theorem dX8_step_327 : decode cX8_step 327 = .ok (.lshl, 1) := by decide +kernel
theorem dX8_step_328 : decode cX8_step 328 = .ok (.lmul, 1) := by decide +kernel
theorem dX8_step_329 : decode cX8_step 329 = .ok (.iconst 0, 1) := by decide +kernel
theorem dX8_step_330 : decode cX8_step 330 = .ok (.invokevirtual 144, 3) := by decide +kernel
theorem dX8_step_333 : decode cX8_step 333 = .ok (.goto 139, 3) := by decide +kernel
theorem dX8_step_336 : decode cX8_step 336 = .ok (.aload_n 0, 1) := by decide +kernel
theorem dX8_step_337 : decode cX8_step 337 = .ok (.aload_n 0, 1) := by decide +kernel
theorem dX8_step_338 : decode cX8_step 338 = .ok (.getfield 66, 3) := by decide +kernel
theorem dX8_step_341 : decode cX8_step 341 = .ok (.i2l, 1) := by decide +kernel
theorem dX8_step_342 : decode cX8_step 342 = .ok (.lconst 1, 1) := by decide +kernel
theorem dX8_step_343 : decode cX8_step 343 = .ok (.iload 4, 2) := by decide +kernel
theorem dX8_step_345 : decode cX8_step 345 = .ok (.lshl, 1) := by decide +kernel
theorem dX8_step_346 : decode cX8_step 346 = .ok (.invokestatic 148, 3) := by decide +kernel
theorem dX8_step_349 : decode cX8_step 349 = .ok (.iconst 0, 1) := by decide +kernel
theorem dX8_step_350 : decode cX8_step 350 = .ok (.invokevirtual 144, 3) := by decide +kernel
theorem dX8_step_353 : decode cX8_step 353 = .ok (.goto 119, 3) := by decide +kernel
theorem dX8_step_356 : decode cX8_step 356 = .ok (.aload_n 0, 1) := by decide +kernel
theorem dX8_step_357 : decode cX8_step 357 = .ok (.getfield 66, 3) := by decide +kernel
theorem dX8_step_360 : decode cX8_step 360 = .ok (.ifCond .ge 7, 3) := by decide +kernel
theorem dX8_step_363 : decode cX8_step 363 = .ok (.iconst 1, 1) := by decide +kernel
theorem dX8_step_364 : decode cX8_step 364 = .ok (.goto 4, 3) := by decide +kernel
theorem dX8_step_367 : decode cX8_step 367 = .ok (.iconst 0, 1) := by decide +kernel
theorem dX8_step_368 : decode cX8_step 368 = .ok (.istore 5, 2) := by decide +kernel
theorem dX8_step_370 : decode cX8_step 370 = .ok (.goto 102, 3) := by decide +kernel
theorem dX8_step_373 : decode cX8_step 373 = .ok (.aload_n 0, 1) := by decide +kernel
theorem dX8_step_374 : decode cX8_step 374 = .ok (.getfield 66, 3) := by decide +kernel
theorem dX8_step_377 : decode cX8_step 377 = .ok (.ifCond .ne 7, 3) := by decide +kernel
theorem dX8_step_380 : decode cX8_step 380 = .ok (.iconst 1, 1) := by decide +kernel
theorem dX8_step_381 : decode cX8_step 381 = .ok (.goto 4, 3) := by decide +kernel
theorem dX8_step_384 : decode cX8_step 384 = .ok (.iconst 0, 1) := by decide +kernel
theorem dX8_step_385 : decode cX8_step 385 = .ok (.istore 5, 2) := by decide +kernel
theorem dX8_step_387 : decode cX8_step 387 = .ok (.goto 85, 3) := by decide +kernel
theorem dX8_step_390 : decode cX8_step 390 = .ok (.aload_n 0, 1) := by decide +kernel
theorem dX8_step_391 : decode cX8_step 391 = .ok (.getfield 88, 3) := by decide +kernel
theorem dX8_step_394 : decode cX8_step 394 = .ok (.istore 5, 2) := by decide +kernel
theorem dX8_step_396 : decode cX8_step 396 = .ok (.aload_n 0, 1) := by decide +kernel
theorem dX8_step_397 : decode cX8_step 397 = .ok (.iconst 0, 1) := by decide +kernel
theorem dX8_step_398 : decode cX8_step 398 = .ok (.putfield 88, 3) := by decide +kernel
theorem dX8_step_401 : decode cX8_step 401 = .ok (.goto 71, 3) := by decide +kernel
theorem dX8_step_404 : decode cX8_step 404 = .ok (.aload_n 0, 1) := by decide +kernel
theorem dX8_step_405 : decode cX8_step 405 = .ok (.aload_n 0, 1) := by decide +kernel
theorem dX8_step_406 : decode cX8_step 406 = .ok (.getfield 29, 3) := by decide +kernel
theorem dX8_step_409 : decode cX8_step 409 = .ok (.iconst 0, 1) := by decide +kernel
theorem dX8_step_410 : decode cX8_step 410 = .ok (.invokevirtual 151, 3) := by decide +kernel
theorem dX8_step_413 : decode cX8_step 413 = .ok (.checkcast 155, 3) := by decide +kernel
theorem dX8_step_416 : decode cX8_step 416 = .ok (.invokevirtual 157, 3) := by decide +kernel
theorem dX8_step_419 : decode cX8_step 419 = .ok (.putfield 66, 3) := by decide +kernel
theorem dX8_step_422 : decode cX8_step 422 = .ok (.goto 50, 3) := by decide +kernel
theorem dX8_step_425 : decode cX8_step 425 = .ok (.aload_n 0, 1) := by decide +kernel
theorem dX8_step_426 : decode cX8_step 426 = .ok (.getfield 33, 3) := by decide +kernel
theorem dX8_step_429 : decode cX8_step 429 = .ok (.aload_n 0, 1) := by decide +kernel
theorem dX8_step_430 : decode cX8_step 430 = .ok (.getfield 66, 3) := by decide +kernel
theorem dX8_step_433 : decode cX8_step 433 = .ok (.invokestatic 160, 3) := by decide +kernel
theorem dX8_step_436 : decode cX8_step 436 = .ok (.invokevirtual 164, 3) := by decide +kernel
theorem dX8_step_439 : decode cX8_step 439 = .ok (.pop, 1) := by decide +kernel
theorem dX8_step_440 : decode cX8_step 440 = .ok (.goto 32, 3) := by decide +kernel
theorem dX8_step_443 : decode cX8_step 443 = .ok (.aload_n 0, 1) := by decide +kernel
theorem dX8_step_444 : decode cX8_step 444 = .ok (.iload 6, 2) := by decide +kernel
theorem dX8_step_446 : decode cX8_step 446 = .ok (.i2l, 1) := by decide +kernel
theorem dX8_step_447 : decode cX8_step 447 = .ok (.lconst 1, 1) := by decide +kernel
theorem dX8_step_448 : decode cX8_step 448 = .ok (.lsub, 1) := by decide +kernel
theorem dX8_step_449 : decode cX8_step 449 = .ok (.invokestatic 123, 3) := by decide +kernel
theorem dX8_step_452 : decode cX8_step 452 = .ok (.putfield 66, 3) := by decide +kernel
theorem dX8_step_455 : decode cX8_step 455 = .ok (.aload_n 0, 1) := by decide +kernel
theorem dX8_step_456 : decode cX8_step 456 = .ok (.bipush 32, 2) := by decide +kernel
theorem dX8_step_458 : decode cX8_step 458 = .ok (.invokevirtual 119, 3) := by decide +kernel
theorem dX8_step_461 : decode cX8_step 461 = .ok (.aload_n 0, 1) := by decide +kernel
theorem dX8_step_462 : decode cX8_step 462 = .ok (.iload_n 3, 1) := by decide +kernel
theorem dX8_step_463 : decode cX8_step 463 = .ok (.iload 4, 2) := by decide +kernel
theorem dX8_step_465 : decode cX8_step 465 = .ok (.aload_n 0, 1) := by decide +kernel
theorem dX8_step_466 : decode cX8_step 466 = .ok (.getfield 66, 3) := by decide +kernel
theorem dX8_step_469 : decode cX8_step 469 = .ok (.invokevirtual 140, 3) := by decide +kernel
theorem dX8_step_472 : decode cX8_step 472 = .ok (.aload_n 0, 1) := by decide +kernel
theorem dX8_step_473 : decode cX8_step 473 = .ok (.iload_n 2, 1) := by decide +kernel
theorem dX8_step_474 : decode cX8_step 474 = .ok (.ifCond .ne 7, 3) := by decide +kernel
theorem dX8_step_477 : decode cX8_step 477 = .ok (.iconst 0, 1) := by decide +kernel
theorem dX8_step_478 : decode cX8_step 478 = .ok (.goto 34, 3) := by decide +kernel
theorem dX8_step_481 : decode cX8_step 481 = .ok (.iload_n 2, 1) := by decide +kernel
theorem dX8_step_482 : decode cX8_step 482 = .ok (.bipush 7, 2) := by decide +kernel
theorem dX8_step_484 : decode cX8_step 484 = .ok (.if_icmp .ne 8, 3) := by decide +kernel
theorem dX8_step_487 : decode cX8_step 487 = .ok (.bipush 21, 2) := by decide +kernel
theorem dX8_step_489 : decode cX8_step 489 = .ok (.goto 23, 3) := by decide +kernel
theorem dX8_step_492 : decode cX8_step 492 = .ok (.iload_n 2, 1) := by decide +kernel
theorem dX8_step_493 : decode cX8_step 493 = .ok (.bipush 8, 2) := by decide +kernel
theorem dX8_step_495 : decode cX8_step 495 = .ok (.if_icmp .eq 9, 3) := by decide +kernel
theorem dX8_step_498 : decode cX8_step 498 = .ok (.iload_n 2, 1) := by decide +kernel
theorem dX8_step_499 : decode cX8_step 499 = .ok (.bipush 9, 2) := by decide +kernel
theorem dX8_step_501 : decode cX8_step 501 = .ok (.if_icmp .ne 10, 3) := by decide +kernel
theorem dX8_step_504 : decode cX8_step 504 = .ok (.iconst 1, 1) := by decide +kernel
theorem dX8_step_505 : decode cX8_step 505 = .ok (.iload 4, 2) := by decide +kernel
theorem dX8_step_507 : decode cX8_step 507 = .ok (.iadd, 1) := by decide +kernel
theorem dX8_step_508 : decode cX8_step 508 = .ok (.goto 4, 3) := by decide +kernel
theorem dX8_step_511 : decode cX8_step 511 = .ok (.iconst 1, 1) := by decide +kernel
theorem dX8_step_512 : decode cX8_step 512 = .ok (.invokevirtual 119, 3) := by decide +kernel
theorem dX8_step_515 : decode cX8_step 515 = .ok (.aload_n 0, 1) := by decide +kernel
theorem dX8_step_516 : decode cX8_step 516 = .ok (.getfield 23, 3) := by decide +kernel
theorem dX8_step_519 : decode cX8_step 519 = .ok (.aload_n 0, 1) := by decide +kernel
theorem dX8_step_520 : decode cX8_step 520 = .ok (.getfield 69, 3) := by decide +kernel
theorem dX8_step_523 : decode cX8_step 523 = .ok (.aaload, 1) := by decide +kernel
theorem dX8_step_524 : decode cX8_step 524 = .ok (.aload_n 0, 1) := by decide +kernel
theorem dX8_step_525 : decode cX8_step 525 = .ok (.getfield 72, 3) := by decide +kernel
theorem dX8_step_528 : decode cX8_step 528 = .ok (.dup2, 1) := by decide +kernel
theorem dX8_step_529 : decode cX8_step 529 = .ok (.iaload, 1) := by decide +kernel
theorem dX8_step_530 : decode cX8_step 530 = .ok (.iconst 1, 1) := by decide +kernel
theorem dX8_step_531 : decode cX8_step 531 = .ok (.iadd, 1) := by decide +kernel
theorem dX8_step_532 : decode cX8_step 532 = .ok (.iastore, 1) := by decide +kernel
theorem dX8_step_533 : decode cX8_step 533 = .ok (.aload_n 0, 1) := by decide +kernel
theorem dX8_step_534 : decode cX8_step 534 = .ok (.dup, 1) := by decide +kernel
theorem dX8_step_535 : decode cX8_step 535 = .ok (.getfield 75, 3) := by decide +kernel
theorem dX8_step_538 : decode cX8_step 538 = .ok (.iconst 1, 1) := by decide +kernel
theorem dX8_step_539 : decode cX8_step 539 = .ok (.iadd, 1) := by decide +kernel
theorem dX8_step_540 : decode cX8_step 540 = .ok (.putfield 75, 3) := by decide +kernel
theorem dX8_step_543 : decode cX8_step 543 = .ok (.aload_n 0, 1) := by decide +kernel
theorem dX8_step_544 : decode cX8_step 544 = .ok (.iload 5, 2) := by decide +kernel
theorem dX8_step_546 : decode cX8_step 546 = .ok (.ifCond .eq 7, 3) := by decide +kernel
theorem dX8_step_549 : decode cX8_step 549 = .ok (.iload_n 3, 1) := by decide +kernel
theorem dX8_step_550 : decode cX8_step 550 = .ok (.goto 10, 3) := by decide +kernel
theorem dX8_step_553 : decode cX8_step 553 = .ok (.iload_n 1, 1) := by decide +kernel
theorem dX8_step_554 : decode cX8_step 554 = .ok (.bipush 12, 2) := by decide +kernel
theorem dX8_step_556 : decode cX8_step 556 = .ok (.ishr, 1) := by decide +kernel
theorem dX8_step_557 : decode cX8_step 557 = .ok (.bipush 7, 2) := by decide +kernel
theorem dX8_step_559 : decode cX8_step 559 = .ok (.iand, 1) := by decide +kernel
theorem dX8_step_560 : decode cX8_step 560 = .ok (.putfield 69, 3) := by decide +kernel
theorem dX8_step_563 : decode cX8_step 563 = .ok (.aload_n 0, 1) := by decide +kernel
theorem dX8_step_564 : decode cX8_step 564 = .ok (.iload 5, 2) := by decide +kernel
theorem dX8_step_566 : decode cX8_step 566 = .ok (.ifCond .eq 8, 3) := by decide +kernel
theorem dX8_step_569 : decode cX8_step 569 = .ok (.iload 4, 2) := by decide +kernel
theorem dX8_step_571 : decode cX8_step 571 = .ok (.goto 10, 3) := by decide +kernel
theorem dX8_step_574 : decode cX8_step 574 = .ok (.iload_n 1, 1) := by decide +kernel
theorem dX8_step_575 : decode cX8_step 575 = .ok (.bipush 15, 2) := by decide +kernel
theorem dX8_step_577 : decode cX8_step 577 = .ok (.ishr, 1) := by decide +kernel
theorem dX8_step_578 : decode cX8_step 578 = .ok (.bipush 31, 2) := by decide +kernel
theorem dX8_step_580 : decode cX8_step 580 = .ok (.iand, 1) := by decide +kernel
theorem dX8_step_581 : decode cX8_step 581 = .ok (.putfield 72, 3) := by decide +kernel
theorem dX8_step_584 : decode cX8_step 584 = .ok (.iconst 1, 1) := by decide +kernel
theorem dX8_step_585 : decode cX8_step 585 = .ok (.ireturn, 1) := by decide +kernel
theorem dX8_run_0 : decode cX8_run 0 = .ok (.iconst 0, 1) := by decide +kernel
theorem dX8_run_1 : decode cX8_run 1 = .ok (.istore_n 2, 1) := by decide +kernel
theorem dX8_run_2 : decode cX8_run 2 = .ok (.iload_n 2, 1) := by decide +kernel
theorem dX8_run_3 : decode cX8_run 3 = .ok (.iload_n 1, 1) := by decide +kernel
theorem dX8_run_4 : decode cX8_run 4 = .ok (.if_icmp .ge 23, 3) := by decide +kernel
theorem dX8_run_7 : decode cX8_run 7 = .ok (.aload_n 0, 1) := by decide +kernel
theorem dX8_run_8 : decode cX8_run 8 = .ok (.getfield 36, 3) := by decide +kernel
theorem dX8_run_11 : decode cX8_run 11 = .ok (.ifCond .ne 16, 3) := by decide +kernel
theorem dX8_run_14 : decode cX8_run 14 = .ok (.aload_n 0, 1) := by decide +kernel
theorem dX8_run_15 : decode cX8_run 15 = .ok (.invokevirtual 168, 3) := by decide +kernel
theorem dX8_run_18 : decode cX8_run 18 = .ok (.ifCond .eq 9, 3) := by decide +kernel
theorem dX8_run_21 : decode cX8_run 21 = .ok (.iinc 2 1, 3) := by decide +kernel
theorem dX8_run_24 : decode cX8_run 24 = .ok (.goto (-22), 3) := by decide +kernel
theorem dX8_run_27 : decode cX8_run 27 = .ok (.iload_n 2, 1) := by decide +kernel
theorem dX8_run_28 : decode cX8_run 28 = .ok (.ireturn, 1) := by decide +kernel
end
section
theorem dL_isSo_0 : decode cL_isSo 0 = .ok (.aload_n 0, 1) := by decide +kernel
theorem dL_isSo_1 : decode cL_isSo 1 = .ok (.invokevirtual 33, 3) := by decide +kernel
theorem dL_isSo_4 : decode cL_isSo 4 = .ok (.aload_n 1, 1) := by decide +kernel
theorem dL_isSo_5 : decode cL_isSo 5 = .ok (.getfield 36, 3) := by decide +kernel
theorem dL_isSo_8 : decode cL_isSo 8 = .ok (.if_icmp .ne 113, 3) := by decide +kernel
theorem dL_isSo_11 : decode cL_isSo 11 = .ok (.aload_n 0, 1) := by decide +kernel
theorem dL_isSo_12 : decode cL_isSo 12 = .ok (.invokevirtual 41, 3) := by decide +kernel
theorem dL_isSo_15 : decode cL_isSo 15 = .ok (.aload_n 1, 1) := by decide +kernel
theorem dL_isSo_16 : decode cL_isSo 16 = .ok (.getfield 44, 3) := by decide +kernel
theorem dL_isSo_19 : decode cL_isSo 19 = .ok (.if_icmp .ne 102, 3) := by decide +kernel
theorem dL_isSo_22 : decode cL_isSo 22 = .ok (.aload_n 0, 1) := by decide +kernel
theorem dL_isSo_23 : decode cL_isSo 23 = .ok (.invokevirtual 47, 3) := by decide +kernel
theorem dL_isSo_26 : decode cL_isSo 26 = .ok (.aload_n 1, 1) := by decide +kernel
theorem dL_isSo_27 : decode cL_isSo 27 = .ok (.getfield 50, 3) := by decide +kernel
theorem dL_isSo_30 : decode cL_isSo 30 = .ok (.if_icmp .ne 91, 3) := by decide +kernel
theorem dL_isSo_33 : decode cL_isSo 33 = .ok (.aload_n 0, 1) := by decide +kernel
theorem dL_isSo_34 : decode cL_isSo 34 = .ok (.invokevirtual 52, 3) := by decide +kernel
theorem dL_isSo_37 : decode cL_isSo 37 = .ok (.bipush 32, 2) := by decide +kernel
theorem dL_isSo_39 : decode cL_isSo 39 = .ok (.aload_n 1, 1) := by decide +kernel
theorem dL_isSo_40 : decode cL_isSo 40 = .ok (.getfield 55, 3) := by decide +kernel
theorem dL_isSo_43 : decode cL_isSo 43 = .ok (.imul, 1) := by decide +kernel
theorem dL_isSo_44 : decode cL_isSo 44 = .ok (.aload_n 1, 1) := by decide +kernel
theorem dL_isSo_45 : decode cL_isSo 45 = .ok (.getfield 58, 3) := by decide +kernel
theorem dL_isSo_48 : decode cL_isSo 48 = .ok (.iadd, 1) := by decide +kernel
theorem dL_isSo_49 : decode cL_isSo 49 = .ok (.if_icmp .ne 72, 3) := by decide +kernel
theorem dL_isSo_52 : decode cL_isSo 52 = .ok (.aload_n 0, 1) := by decide +kernel
theorem dL_isSo_53 : decode cL_isSo 53 = .ok (.invokevirtual 61, 3) := by decide +kernel
theorem dL_isSo_56 : decode cL_isSo 56 = .ok (.aload_n 1, 1) := by decide +kernel
theorem dL_isSo_57 : decode cL_isSo 57 = .ok (.getfield 64, 3) := by decide +kernel
theorem dL_isSo_60 : decode cL_isSo 60 = .ok (.if_icmp .ne 61, 3) := by decide +kernel
theorem dL_isSo_63 : decode cL_isSo 63 = .ok (.aload_n 0, 1) := by decide +kernel
theorem dL_isSo_64 : decode cL_isSo 64 = .ok (.invokevirtual 67, 3) := by decide +kernel
theorem dL_isSo_67 : decode cL_isSo 67 = .ok (.aload_n 1, 1) := by decide +kernel
theorem dL_isSo_68 : decode cL_isSo 68 = .ok (.getfield 70, 3) := by decide +kernel
theorem dL_isSo_71 : decode cL_isSo 71 = .ok (.if_icmp .ne 50, 3) := by decide +kernel
theorem dL_isSo_74 : decode cL_isSo 74 = .ok (.aload_n 0, 1) := by decide +kernel
theorem dL_isSo_75 : decode cL_isSo 75 = .ok (.invokevirtual 72, 3) := by decide +kernel
theorem dL_isSo_78 : decode cL_isSo 78 = .ok (.aload_n 1, 1) := by decide +kernel
theorem dL_isSo_79 : decode cL_isSo 79 = .ok (.getfield 75, 3) := by decide +kernel
theorem dL_isSo_82 : decode cL_isSo 82 = .ok (.if_icmp .ne 39, 3) := by decide +kernel
theorem dL_isSo_85 : decode cL_isSo 85 = .ok (.aload_n 0, 1) := by decide +kernel
theorem dL_isSo_86 : decode cL_isSo 86 = .ok (.invokevirtual 77, 3) := by decide +kernel
theorem dL_isSo_89 : decode cL_isSo 89 = .ok (.aload_n 1, 1) := by decide +kernel
theorem dL_isSo_90 : decode cL_isSo 90 = .ok (.getfield 81, 3) := by decide +kernel
theorem dL_isSo_93 : decode cL_isSo 93 = .ok (.if_icmp .ne 28, 3) := by decide +kernel
theorem dL_isSo_96 : decode cL_isSo 96 = .ok (.aload_n 0, 1) := by decide +kernel
theorem dL_isSo_97 : decode cL_isSo 97 = .ok (.invokevirtual 85, 3) := by decide +kernel
theorem dL_isSo_100 : decode cL_isSo 100 = .ok (.aload_n 1, 1) := by decide +kernel
theorem dL_isSo_101 : decode cL_isSo 101 = .ok (.getfield 88, 3) := by decide +kernel
theorem dL_isSo_104 : decode cL_isSo 104 = .ok (.invokevirtual 92, 3) := by decide +kernel
theorem dL_isSo_107 : decode cL_isSo 107 = .ok (.if_icmp .ne 14, 3) := by decide +kernel
theorem dL_isSo_110 : decode cL_isSo 110 = .ok (.aload_n 0, 1) := by decide +kernel
theorem dL_isSo_111 : decode cL_isSo 111 = .ok (.invokevirtual 97, 3) := by decide +kernel
theorem dL_isSo_114 : decode cL_isSo 114 = .ok (.aload_n 1, 1) := by decide +kernel
theorem dL_isSo_115 : decode cL_isSo 115 = .ok (.invokevirtual 100, 3) := by decide +kernel
theorem dL_isSo_118 : decode cL_isSo 118 = .ok (.if_icmp .eq 5, 3) := by decide +kernel
theorem dL_isSo_121 : decode cL_isSo 121 = .ok (.iconst 0, 1) := by decide +kernel
theorem dL_isSo_122 : decode cL_isSo 122 = .ok (.ireturn, 1) := by decide +kernel
theorem dL_isSo_123 : decode cL_isSo 123 = .ok (.iconst 0, 1) := by decide +kernel
theorem dL_isSo_124 : decode cL_isSo 124 = .ok (.istore_n 2, 1) := by decide +kernel
theorem dL_isSo_125 : decode cL_isSo 125 = .ok (.iload_n 2, 1) := by decide +kernel
theorem dL_isSo_126 : decode cL_isSo 126 = .ok (.bipush 8, 2) := by decide +kernel
theorem dL_isSo_128 : decode cL_isSo 128 = .ok (.if_icmp .ge 118, 3) := by decide +kernel
theorem dL_isSo_131 : decode cL_isSo 131 = .ok (.aload_n 0, 1) := by decide +kernel
theorem dL_isSo_132 : decode cL_isSo 132 = .ok (.iload_n 2, 1) := by decide +kernel
theorem dL_isSo_133 : decode cL_isSo 133 = .ok (.invokevirtual 101, 3) := by decide +kernel
theorem dL_isSo_136 : decode cL_isSo 136 = .ok (.aload_n 1, 1) := by decide +kernel
theorem dL_isSo_137 : decode cL_isSo 137 = .ok (.getfield 104, 3) := by decide +kernel
theorem dL_isSo_140 : decode cL_isSo 140 = .ok (.iload_n 2, 1) := by decide +kernel
theorem dL_isSo_141 : decode cL_isSo 141 = .ok (.iaload, 1) := by decide +kernel
theorem dL_isSo_142 : decode cL_isSo 142 = .ok (.if_icmp .ne 48, 3) := by decide +kernel
theorem dL_isSo_145 : decode cL_isSo 145 = .ok (.aload_n 0, 1) := by decide +kernel
theorem dL_isSo_146 : decode cL_isSo 146 = .ok (.iload_n 2, 1) := by decide +kernel
theorem dL_isSo_147 : decode cL_isSo 147 = .ok (.invokevirtual 108, 3) := by decide +kernel
theorem dL_isSo_150 : decode cL_isSo 150 = .ok (.aload_n 1, 1) := by decide +kernel
theorem dL_isSo_151 : decode cL_isSo 151 = .ok (.getfield 111, 3) := by decide +kernel
theorem dL_isSo_154 : decode cL_isSo 154 = .ok (.iload_n 2, 1) := by decide +kernel
theorem dL_isSo_155 : decode cL_isSo 155 = .ok (.iaload, 1) := by decide +kernel
theorem dL_isSo_156 : decode cL_isSo 156 = .ok (.if_icmp .ne 34, 3) := by decide +kernel
theorem dL_isSo_159 : decode cL_isSo 159 = .ok (.aload_n 0, 1) := by decide +kernel
theorem dL_isSo_160 : decode cL_isSo 160 = .ok (.iload_n 2, 1) := by decide +kernel
theorem dL_isSo_161 : decode cL_isSo 161 = .ok (.invokevirtual 113, 3) := by decide +kernel
theorem dL_isSo_164 : decode cL_isSo 164 = .ok (.aload_n 1, 1) := by decide +kernel
theorem dL_isSo_165 : decode cL_isSo 165 = .ok (.iload_n 2, 1) := by decide +kernel
theorem dL_isSo_166 : decode cL_isSo 166 = .ok (.invokevirtual 116, 3) := by decide +kernel
theorem dL_isSo_169 : decode cL_isSo 169 = .ok (.if_icmp .ne 21, 3) := by decide +kernel
theorem dL_isSo_172 : decode cL_isSo 172 = .ok (.aload_n 0, 1) := by decide +kernel
theorem dL_isSo_173 : decode cL_isSo 173 = .ok (.iload_n 2, 1) := by decide +kernel
theorem dL_isSo_174 : decode cL_isSo 174 = .ok (.invokevirtual 119, 3) := by decide +kernel
theorem dL_isSo_177 : decode cL_isSo 177 = .ok (.aload_n 1, 1) := by decide +kernel
theorem dL_isSo_178 : decode cL_isSo 178 = .ok (.aload_n 1, 1) := by decide +kernel
theorem dL_isSo_179 : decode cL_isSo 179 = .ok (.getfield 104, 3) := by decide +kernel
theorem dL_isSo_182 : decode cL_isSo 182 = .ok (.iload_n 2, 1) := by decide +kernel
theorem dL_isSo_183 : decode cL_isSo 183 = .ok (.iaload, 1) := by decide +kernel
theorem dL_isSo_184 : decode cL_isSo 184 = .ok (.invokevirtual 122, 3) := by decide +kernel
theorem dL_isSo_187 : decode cL_isSo 187 = .ok (.if_icmp .eq 5, 3) := by decide +kernel
theorem dL_isSo_190 : decode cL_isSo 190 = .ok (.iconst 0, 1) := by decide +kernel
theorem dL_isSo_191 : decode cL_isSo 191 = .ok (.ireturn, 1) := by decide +kernel
theorem dL_isSo_192 : decode cL_isSo 192 = .ok (.iconst 0, 1) := by decide +kernel
theorem dL_isSo_193 : decode cL_isSo 193 = .ok (.istore_n 3, 1) := by decide +kernel
theorem dL_isSo_194 : decode cL_isSo 194 = .ok (.iload_n 3, 1) := by decide +kernel
theorem dL_isSo_195 : decode cL_isSo 195 = .ok (.bipush 32, 2) := by decide +kernel
theorem dL_isSo_197 : decode cL_isSo 197 = .ok (.if_icmp .ge 43, 3) := by decide +kernel
theorem dL_isSo_200 : decode cL_isSo 200 = .ok (.aload_n 0, 1) := by decide +kernel
theorem dL_isSo_201 : decode cL_isSo 201 = .ok (.iload_n 2, 1) := by decide +kernel
theorem dL_isSo_202 : decode cL_isSo 202 = .ok (.iload_n 3, 1) := by decide +kernel
theorem dL_isSo_203 : decode cL_isSo 203 = .ok (.invokevirtual 123, 3) := by decide +kernel
theorem dL_isSo_206 : decode cL_isSo 206 = .ok (.aload_n 1, 1) := by decide +kernel
theorem dL_isSo_207 : decode cL_isSo 207 = .ok (.iload_n 2, 1) := by decide +kernel
theorem dL_isSo_208 : decode cL_isSo 208 = .ok (.iload_n 3, 1) := by decide +kernel
theorem dL_isSo_209 : decode cL_isSo 209 = .ok (.invokevirtual 127, 3) := by decide +kernel
theorem dL_isSo_212 : decode cL_isSo 212 = .ok (.if_icmp .ne 20, 3) := by decide +kernel
theorem dL_isSo_215 : decode cL_isSo 215 = .ok (.aload_n 0, 1) := by decide +kernel
theorem dL_isSo_216 : decode cL_isSo 216 = .ok (.iload_n 2, 1) := by decide +kernel
theorem dL_isSo_217 : decode cL_isSo 217 = .ok (.iload_n 3, 1) := by decide +kernel
theorem dL_isSo_218 : decode cL_isSo 218 = .ok (.invokevirtual 130, 3) := by decide +kernel
theorem dL_isSo_221 : decode cL_isSo 221 = .ok (.aload_n 1, 1) := by decide +kernel
theorem dL_isSo_222 : decode cL_isSo 222 = .ok (.getfield 133, 3) := by decide +kernel
theorem dL_isSo_225 : decode cL_isSo 225 = .ok (.iload_n 2, 1) := by decide +kernel
theorem dL_isSo_226 : decode cL_isSo 226 = .ok (.aaload, 1) := by decide +kernel
theorem dL_isSo_227 : decode cL_isSo 227 = .ok (.iload_n 3, 1) := by decide +kernel
theorem dL_isSo_228 : decode cL_isSo 228 = .ok (.iaload, 1) := by decide +kernel
theorem dL_isSo_229 : decode cL_isSo 229 = .ok (.if_icmp .eq 5, 3) := by decide +kernel
theorem dL_isSo_232 : decode cL_isSo 232 = .ok (.iconst 0, 1) := by decide +kernel
theorem dL_isSo_233 : decode cL_isSo 233 = .ok (.ireturn, 1) := by decide +kernel
theorem dL_isSo_234 : decode cL_isSo 234 = .ok (.iinc 3 1, 3) := by decide +kernel
theorem dL_isSo_237 : decode cL_isSo 237 = .ok (.goto (-43), 3) := by decide +kernel
theorem dL_isSo_240 : decode cL_isSo 240 = .ok (.iinc 2 1, 3) := by decide +kernel
theorem dL_isSo_243 : decode cL_isSo 243 = .ok (.goto (-118), 3) := by decide +kernel
theorem dL_isSo_246 : decode cL_isSo 246 = .ok (.iconst 1, 1) := by decide +kernel
theorem dL_isSo_247 : decode cL_isSo 247 = .ok (.ireturn, 1) := by decide +kernel
theorem dL_acts_0 : decode cL_acts 0 = .ok (.aload_n 2, 1) := by decide +kernel
theorem dL_acts_1 : decode cL_acts 1 = .ok (.bipush 8, 2) := by decide +kernel
theorem dL_acts_3 : decode cL_acts 3 = .ok (.invokevirtual 137, 3) := by decide +kernel
theorem dL_acts_6 : decode cL_acts 6 = .ok (.istore_n 3, 1) := by decide +kernel
theorem dL_acts_7 : decode cL_acts 7 = .ok (.aload_n 2, 1) := by decide +kernel
theorem dL_acts_8 : decode cL_acts 8 = .ok (.bipush 32, 2) := by decide +kernel
theorem dL_acts_10 : decode cL_acts 10 = .ok (.invokevirtual 137, 3) := by decide +kernel
theorem dL_acts_13 : decode cL_acts 13 = .ok (.istore 4, 2) := by decide +kernel
theorem dL_acts_15 : decode cL_acts 15 = .ok (.aload_n 2, 1) := by decide +kernel
theorem dL_acts_16 : decode cL_acts 16 = .ok (.ldc 142, 2) := by decide +kernel
theorem dL_acts_18 : decode cL_acts 18 = .ok (.invokevirtual 137, 3) := by decide +kernel
theorem dL_acts_21 : decode cL_acts 21 = .ok (.iconst 4, 1) := by decide +kernel
theorem dL_acts_22 : decode cL_acts 22 = .ok (.ishl, 1) := by decide +kernel
theorem dL_acts_23 : decode cL_acts 23 = .ok (.aload_n 2, 1) := by decide +kernel
theorem dL_acts_24 : decode cL_acts 24 = .ok (.bipush 16, 2) := by decide +kernel
theorem dL_acts_26 : decode cL_acts 26 = .ok (.invokevirtual 137, 3) := by decide +kernel
theorem dL_acts_29 : decode cL_acts 29 = .ok (.ior, 1) := by decide +kernel
theorem dL_acts_30 : decode cL_acts 30 = .ok (.ldc 143, 2) := by decide +kernel
theorem dL_acts_32 : decode cL_acts 32 = .ok (.isub, 1) := by decide +kernel
theorem dL_acts_33 : decode cL_acts 33 = .ok (.istore 5, 2) := by decide +kernel
theorem dL_acts_35 : decode cL_acts 35 = .ok (.aload_n 2, 1) := by decide +kernel
theorem dL_acts_36 : decode cL_acts 36 = .ok (.bipush 13, 2) := by decide +kernel
theorem dL_acts_38 : decode cL_acts 38 = .ok (.invokevirtual 137, 3) := by decide +kernel
theorem dL_acts_41 : decode cL_acts 41 = .ok (.tableswitch 657 0 10 #[59, 59, 97, 161, 218, 275, 317, 378, 422, 529, 598], 59) := by decide +kernel
theorem dL_acts_100 : decode cL_acts 100 = .ok (.aload_n 1, 1) := by decide +kernel
theorem dL_acts_101 : decode cL_acts 101 = .ok (.iload_n 3, 1) := by decide +kernel
theorem dL_acts_102 : decode cL_acts 102 = .ok (.iload 4, 2) := by decide +kernel
theorem dL_acts_104 : decode cL_acts 104 = .ok (.invokevirtual 127, 3) := by decide +kernel
theorem dL_acts_107 : decode cL_acts 107 = .ok (.istore 6, 2) := by decide +kernel
theorem dL_acts_109 : decode cL_acts 109 = .ok (.aload_n 1, 1) := by decide +kernel
theorem dL_acts_110 : decode cL_acts 110 = .ok (.iload_n 3, 1) := by decide +kernel
theorem dL_acts_111 : decode cL_acts 111 = .ok (.iload 4, 2) := by decide +kernel
theorem dL_acts_113 : decode cL_acts 113 = .ok (.iload 5, 2) := by decide +kernel
theorem dL_acts_115 : decode cL_acts 115 = .ok (.invokevirtual 144, 3) := by decide +kernel
theorem dL_acts_118 : decode cL_acts 118 = .ok (.aload_n 0, 1) := by decide +kernel
theorem dL_acts_119 : decode cL_acts 119 = .ok (.iload_n 3, 1) := by decide +kernel
theorem dL_acts_120 : decode cL_acts 120 = .ok (.iload 4, 2) := by decide +kernel
theorem dL_acts_122 : decode cL_acts 122 = .ok (.iload 5, 2) := by decide +kernel
theorem dL_acts_124 : decode cL_acts 124 = .ok (.invokevirtual 148, 3) := by decide +kernel
theorem dL_acts_127 : decode cL_acts 127 = .ok (.iload 6, 2) := by decide +kernel
theorem dL_acts_129 : decode cL_acts 129 = .ok (.if_icmp .ne 7, 3) := by decide +kernel
theorem dL_acts_132 : decode cL_acts 132 = .ok (.iconst 1, 1) := by decide +kernel
theorem dL_acts_133 : decode cL_acts 133 = .ok (.goto 4, 3) := by decide +kernel
theorem dL_acts_136 : decode cL_acts 136 = .ok (.iconst 0, 1) := by decide +kernel
theorem dL_acts_137 : decode cL_acts 137 = .ok (.ireturn, 1) := by decide +kernel
theorem dL_acts_138 : decode cL_acts 138 = .ok (.aload_n 1, 1) := by decide +kernel
theorem dL_acts_139 : decode cL_acts 139 = .ok (.getfield 104, 3) := by decide +kernel
theorem dL_acts_142 : decode cL_acts 142 = .ok (.iload_n 3, 1) := by decide +kernel
theorem dL_acts_143 : decode cL_acts 143 = .ok (.iaload, 1) := by decide +kernel
theorem dL_acts_144 : decode cL_acts 144 = .ok (.istore 6, 2) := by decide +kernel
theorem dL_acts_146 : decode cL_acts 146 = .ok (.aload_n 1, 1) := by decide +kernel
theorem dL_acts_147 : decode cL_acts 147 = .ok (.getfield 104, 3) := by decide +kernel
theorem dL_acts_150 : decode cL_acts 150 = .ok (.iload_n 3, 1) := by decide +kernel
theorem dL_acts_151 : decode cL_acts 151 = .ok (.aload_n 2, 1) := by decide +kernel
theorem dL_acts_152 : decode cL_acts 152 = .ok (.iconst 3, 1) := by decide +kernel
theorem dL_acts_153 : decode cL_acts 153 = .ok (.invokevirtual 137, 3) := by decide +kernel
theorem dL_acts_156 : decode cL_acts 156 = .ok (.ifCond .ne 13, 3) := by decide +kernel
theorem dL_acts_159 : decode cL_acts 159 = .ok (.aload_n 2, 1) := by decide +kernel
theorem dL_acts_160 : decode cL_acts 160 = .ok (.sipush 1001, 3) := by decide +kernel
theorem dL_acts_163 : decode cL_acts 163 = .ok (.invokevirtual 137, 3) := by decide +kernel
theorem dL_acts_166 : decode cL_acts 166 = .ok (.goto 13, 3) := by decide +kernel
theorem dL_acts_169 : decode cL_acts 169 = .ok (.sipush 390, 3) := by decide +kernel
theorem dL_acts_172 : decode cL_acts 172 = .ok (.aload_n 2, 1) := by decide +kernel
theorem dL_acts_173 : decode cL_acts 173 = .ok (.bipush 20, 2) := by decide +kernel
theorem dL_acts_175 : decode cL_acts 175 = .ok (.invokevirtual 137, 3) := by decide +kernel
theorem dL_acts_178 : decode cL_acts 178 = .ok (.iadd, 1) := by decide +kernel
theorem dL_acts_179 : decode cL_acts 179 = .ok (.iastore, 1) := by decide +kernel
theorem dL_acts_180 : decode cL_acts 180 = .ok (.aload_n 0, 1) := by decide +kernel
theorem dL_acts_181 : decode cL_acts 181 = .ok (.iload_n 3, 1) := by decide +kernel
theorem dL_acts_182 : decode cL_acts 182 = .ok (.aload_n 1, 1) := by decide +kernel
theorem dL_acts_183 : decode cL_acts 183 = .ok (.getfield 104, 3) := by decide +kernel
theorem dL_acts_186 : decode cL_acts 186 = .ok (.iload_n 3, 1) := by decide +kernel
theorem dL_acts_187 : decode cL_acts 187 = .ok (.iaload, 1) := by decide +kernel
theorem dL_acts_188 : decode cL_acts 188 = .ok (.invokevirtual 152, 3) := by decide +kernel
theorem dL_acts_191 : decode cL_acts 191 = .ok (.iload 6, 2) := by decide +kernel
theorem dL_acts_193 : decode cL_acts 193 = .ok (.if_icmp .ne 7, 3) := by decide +kernel
theorem dL_acts_196 : decode cL_acts 196 = .ok (.iconst 1, 1) := by decide +kernel
theorem dL_acts_197 : decode cL_acts 197 = .ok (.goto 4, 3) := by decide +kernel
theorem dL_acts_200 : decode cL_acts 200 = .ok (.iconst 0, 1) := by decide +kernel
theorem dL_acts_201 : decode cL_acts 201 = .ok (.ireturn, 1) := by decide +kernel
theorem dL_acts_202 : decode cL_acts 202 = .ok (.aload_n 1, 1) := by decide +kernel
theorem dL_acts_203 : decode cL_acts 203 = .ok (.getfield 155, 3) := by decide +kernel
theorem dL_acts_206 : decode cL_acts 206 = .ok (.istore 6, 2) := by decide +kernel
theorem dL_acts_208 : decode cL_acts 208 = .ok (.aload_n 1, 1) := by decide +kernel
theorem dL_acts_209 : decode cL_acts 209 = .ok (.aload_n 2, 1) := by decide +kernel
theorem dL_acts_210 : decode cL_acts 210 = .ok (.iconst 3, 1) := by decide +kernel
theorem dL_acts_211 : decode cL_acts 211 = .ok (.invokevirtual 137, 3) := by decide +kernel
theorem dL_acts_214 : decode cL_acts 214 = .ok (.ifCond .ne 13, 3) := by decide +kernel
theorem dL_acts_217 : decode cL_acts 217 = .ok (.aload_n 2, 1) := by decide +kernel
theorem dL_acts_218 : decode cL_acts 218 = .ok (.sipush 1001, 3) := by decide +kernel
theorem dL_acts_221 : decode cL_acts 221 = .ok (.invokevirtual 137, 3) := by decide +kernel
theorem dL_acts_224 : decode cL_acts 224 = .ok (.goto 13, 3) := by decide +kernel
theorem dL_acts_227 : decode cL_acts 227 = .ok (.sipush 390, 3) := by decide +kernel
theorem dL_acts_230 : decode cL_acts 230 = .ok (.aload_n 2, 1) := by decide +kernel
theorem dL_acts_231 : decode cL_acts 231 = .ok (.bipush 20, 2) := by decide +kernel
theorem dL_acts_233 : decode cL_acts 233 = .ok (.invokevirtual 137, 3) := by decide +kernel
theorem dL_acts_236 : decode cL_acts 236 = .ok (.iadd, 1) := by decide +kernel
theorem dL_acts_237 : decode cL_acts 237 = .ok (.putfield 155, 3) := by decide +kernel
theorem dL_acts_240 : decode cL_acts 240 = .ok (.aload_n 0, 1) := by decide +kernel
theorem dL_acts_241 : decode cL_acts 241 = .ok (.aload_n 1, 1) := by decide +kernel
theorem dL_acts_242 : decode cL_acts 242 = .ok (.getfield 155, 3) := by decide +kernel
theorem dL_acts_245 : decode cL_acts 245 = .ok (.invokevirtual 158, 3) := by decide +kernel
theorem dL_acts_248 : decode cL_acts 248 = .ok (.iload 6, 2) := by decide +kernel
theorem dL_acts_250 : decode cL_acts 250 = .ok (.if_icmp .ne 7, 3) := by decide +kernel
theorem dL_acts_253 : decode cL_acts 253 = .ok (.iconst 1, 1) := by decide +kernel
theorem dL_acts_254 : decode cL_acts 254 = .ok (.goto 4, 3) := by decide +kernel
theorem dL_acts_257 : decode cL_acts 257 = .ok (.iconst 0, 1) := by decide +kernel
theorem dL_acts_258 : decode cL_acts 258 = .ok (.ireturn, 1) := by decide +kernel
theorem dL_acts_259 : decode cL_acts 259 = .ok (.aload_n 1, 1) := by decide +kernel
theorem dL_acts_260 : decode cL_acts 260 = .ok (.getfield 161, 3) := by decide +kernel
theorem dL_acts_263 : decode cL_acts 263 = .ok (.istore 6, 2) := by decide +kernel
theorem dL_acts_265 : decode cL_acts 265 = .ok (.aload_n 1, 1) := by decide +kernel
theorem dL_acts_266 : decode cL_acts 266 = .ok (.aload_n 2, 1) := by decide +kernel
theorem dL_acts_267 : decode cL_acts 267 = .ok (.iconst 3, 1) := by decide +kernel
theorem dL_acts_268 : decode cL_acts 268 = .ok (.invokevirtual 137, 3) := by decide +kernel
theorem dL_acts_271 : decode cL_acts 271 = .ok (.ifCond .ne 13, 3) := by decide +kernel
theorem dL_acts_274 : decode cL_acts 274 = .ok (.aload_n 2, 1) := by decide +kernel
theorem dL_acts_275 : decode cL_acts 275 = .ok (.sipush 1001, 3) := by decide +kernel
theorem dL_acts_278 : decode cL_acts 278 = .ok (.invokevirtual 137, 3) := by decide +kernel
theorem dL_acts_281 : decode cL_acts 281 = .ok (.goto 13, 3) := by decide +kernel
theorem dL_acts_284 : decode cL_acts 284 = .ok (.sipush 390, 3) := by decide +kernel
theorem dL_acts_287 : decode cL_acts 287 = .ok (.aload_n 2, 1) := by decide +kernel
theorem dL_acts_288 : decode cL_acts 288 = .ok (.bipush 20, 2) := by decide +kernel
theorem dL_acts_290 : decode cL_acts 290 = .ok (.invokevirtual 137, 3) := by decide +kernel
theorem dL_acts_293 : decode cL_acts 293 = .ok (.iadd, 1) := by decide +kernel
theorem dL_acts_294 : decode cL_acts 294 = .ok (.putfield 161, 3) := by decide +kernel
theorem dL_acts_297 : decode cL_acts 297 = .ok (.aload_n 0, 1) := by decide +kernel
theorem dL_acts_298 : decode cL_acts 298 = .ok (.aload_n 1, 1) := by decide +kernel
theorem dL_acts_299 : decode cL_acts 299 = .ok (.getfield 161, 3) := by decide +kernel
theorem dL_acts_302 : decode cL_acts 302 = .ok (.invokevirtual 164, 3) := by decide +kernel
theorem dL_acts_305 : decode cL_acts 305 = .ok (.iload 6, 2) := by decide +kernel
theorem dL_acts_307 : decode cL_acts 307 = .ok (.if_icmp .ne 7, 3) := by decide +kernel
theorem dL_acts_310 : decode cL_acts 310 = .ok (.iconst 1, 1) := by decide +kernel
theorem dL_acts_311 : decode cL_acts 311 = .ok (.goto 4, 3) := by decide +kernel
theorem dL_acts_314 : decode cL_acts 314 = .ok (.iconst 0, 1) := by decide +kernel
theorem dL_acts_315 : decode cL_acts 315 = .ok (.ireturn, 1) := by decide +kernel
theorem dL_acts_316 : decode cL_acts 316 = .ok (.aload_n 1, 1) := by decide +kernel
theorem dL_acts_317 : decode cL_acts 317 = .ok (.getfield 167, 3) := by decide +kernel
theorem dL_acts_320 : decode cL_acts 320 = .ok (.istore 6, 2) := by decide +kernel
theorem dL_acts_322 : decode cL_acts 322 = .ok (.aload_n 1, 1) := by decide +kernel
theorem dL_acts_323 : decode cL_acts 323 = .ok (.aload_n 2, 1) := by decide +kernel
theorem dL_acts_324 : decode cL_acts 324 = .ok (.iconst 2, 1) := by decide +kernel
theorem dL_acts_325 : decode cL_acts 325 = .ok (.invokevirtual 137, 3) := by decide +kernel
theorem dL_acts_328 : decode cL_acts 328 = .ok (.ifCond .ne 7, 3) := by decide +kernel
theorem dL_acts_331 : decode cL_acts 331 = .ok (.iconst 1, 1) := by decide +kernel
theorem dL_acts_332 : decode cL_acts 332 = .ok (.goto 4, 3) := by decide +kernel
theorem dL_acts_335 : decode cL_acts 335 = .ok (.iconst 0, 1) := by decide +kernel
theorem dL_acts_336 : decode cL_acts 336 = .ok (.putfield 167, 3) := by decide +kernel
theorem dL_acts_339 : decode cL_acts 339 = .ok (.aload_n 0, 1) := by decide +kernel
theorem dL_acts_340 : decode cL_acts 340 = .ok (.aload_n 1, 1) := by decide +kernel
theorem dL_acts_341 : decode cL_acts 341 = .ok (.getfield 167, 3) := by decide +kernel
theorem dL_acts_344 : decode cL_acts 344 = .ok (.invokevirtual 170, 3) := by decide +kernel
theorem dL_acts_347 : decode cL_acts 347 = .ok (.iload 6, 2) := by decide +kernel
theorem dL_acts_349 : decode cL_acts 349 = .ok (.if_icmp .ne 7, 3) := by decide +kernel
theorem dL_acts_352 : decode cL_acts 352 = .ok (.iconst 1, 1) := by decide +kernel
theorem dL_acts_353 : decode cL_acts 353 = .ok (.goto 4, 3) := by decide +kernel
theorem dL_acts_356 : decode cL_acts 356 = .ok (.iconst 0, 1) := by decide +kernel
theorem dL_acts_357 : decode cL_acts 357 = .ok (.ireturn, 1) := by decide +kernel
theorem dL_acts_358 : decode cL_acts 358 = .ok (.aload_n 1, 1) := by decide +kernel
theorem dL_acts_359 : decode cL_acts 359 = .ok (.getfield 174, 3) := by decide +kernel
theorem dL_acts_362 : decode cL_acts 362 = .ok (.istore 6, 2) := by decide +kernel
theorem dL_acts_364 : decode cL_acts 364 = .ok (.aload_n 1, 1) := by decide +kernel
theorem dL_acts_365 : decode cL_acts 365 = .ok (.aload_n 2, 1) := by decide +kernel
theorem dL_acts_366 : decode cL_acts 366 = .ok (.iconst 3, 1) := by decide +kernel
theorem dL_acts_367 : decode cL_acts 367 = .ok (.invokevirtual 137, 3) := by decide +kernel
theorem dL_acts_370 : decode cL_acts 370 = .ok (.ifCond .ne 17, 3) := by decide +kernel
theorem dL_acts_373 : decode cL_acts 373 = .ok (.ldc 177, 2) := by decide +kernel
theorem dL_acts_375 : decode cL_acts 375 = .ok (.iconst 3, 1) := by decide +kernel
theorem dL_acts_376 : decode cL_acts 376 = .ok (.aload_n 2, 1) := by decide +kernel
theorem dL_acts_377 : decode cL_acts 377 = .ok (.ldc 142, 2) := by decide +kernel
theorem dL_acts_379 : decode cL_acts 379 = .ok (.invokevirtual 137, 3) := by decide +kernel
theorem dL_acts_382 : decode cL_acts 382 = .ok (.imul, 1) := by decide +kernel
theorem dL_acts_383 : decode cL_acts 383 = .ok (.iadd, 1) := by decide +kernel
theorem dL_acts_384 : decode cL_acts 384 = .ok (.goto 13, 3) := by decide +kernel
theorem dL_acts_387 : decode cL_acts 387 = .ok (.ldc 178, 2) := by decide +kernel
theorem dL_acts_389 : decode cL_acts 389 = .ok (.aload_n 2, 1) := by decide +kernel
theorem dL_acts_390 : decode cL_acts 390 = .ok (.sipush 200, 3) := by decide +kernel
theorem dL_acts_393 : decode cL_acts 393 = .ok (.invokevirtual 137, 3) := by decide +kernel
theorem dL_acts_396 : decode cL_acts 396 = .ok (.iadd, 1) := by decide +kernel
theorem dL_acts_397 : decode cL_acts 397 = .ok (.putfield 174, 3) := by decide +kernel
theorem dL_acts_400 : decode cL_acts 400 = .ok (.aload_n 0, 1) := by decide +kernel
theorem dL_acts_401 : decode cL_acts 401 = .ok (.aload_n 1, 1) := by decide +kernel
theorem dL_acts_402 : decode cL_acts 402 = .ok (.getfield 174, 3) := by decide +kernel
theorem dL_acts_405 : decode cL_acts 405 = .ok (.invokevirtual 179, 3) := by decide +kernel
theorem dL_acts_408 : decode cL_acts 408 = .ok (.iload 6, 2) := by decide +kernel
theorem dL_acts_410 : decode cL_acts 410 = .ok (.if_icmp .ne 7, 3) := by decide +kernel
theorem dL_acts_413 : decode cL_acts 413 = .ok (.iconst 1, 1) := by decide +kernel
theorem dL_acts_414 : decode cL_acts 414 = .ok (.goto 4, 3) := by decide +kernel
theorem dL_acts_417 : decode cL_acts 417 = .ok (.iconst 0, 1) := by decide +kernel
theorem dL_acts_418 : decode cL_acts 418 = .ok (.ireturn, 1) := by decide +kernel
theorem dL_acts_419 : decode cL_acts 419 = .ok (.aload_n 2, 1) := by decide +kernel
theorem dL_acts_420 : decode cL_acts 420 = .ok (.iconst 4, 1) := by decide +kernel
theorem dL_acts_421 : decode cL_acts 421 = .ok (.invokevirtual 137, 3) := by decide +kernel
theorem dL_acts_424 : decode cL_acts 424 = .ok (.ifCond .le 5, 3) := by decide +kernel
theorem dL_acts_427 : decode cL_acts 427 = .ok (.iconst 1, 1) := by decide +kernel
theorem dL_acts_428 : decode cL_acts 428 = .ok (.ireturn, 1) := by decide +kernel
theorem dL_acts_429 : decode cL_acts 429 = .ok (.aload_n 1, 1) := by decide +kernel
theorem dL_acts_430 : decode cL_acts 430 = .ok (.iload_n 3, 1) := by decide +kernel
theorem dL_acts_431 : decode cL_acts 431 = .ok (.invokevirtual 116, 3) := by decide +kernel
theorem dL_acts_434 : decode cL_acts 434 = .ok (.istore 6, 2) := by decide +kernel
theorem dL_acts_436 : decode cL_acts 436 = .ok (.aload_n 1, 1) := by decide +kernel
theorem dL_acts_437 : decode cL_acts 437 = .ok (.getfield 182, 3) := by decide +kernel
theorem dL_acts_440 : decode cL_acts 440 = .ok (.iload_n 3, 1) := by decide +kernel
theorem dL_acts_441 : decode cL_acts 441 = .ok (.sipush 640, 3) := by decide +kernel
theorem dL_acts_444 : decode cL_acts 444 = .ok (.newarray .boolean, 2) := by decide +kernel
theorem dL_acts_446 : decode cL_acts 446 = .ok (.aastore, 1) := by decide +kernel
theorem dL_acts_447 : decode cL_acts 447 = .ok (.aload_n 0, 1) := by decide +kernel
theorem dL_acts_448 : decode cL_acts 448 = .ok (.iload_n 3, 1) := by decide +kernel
theorem dL_acts_449 : decode cL_acts 449 = .ok (.invokevirtual 186, 3) := by decide +kernel
theorem dL_acts_452 : decode cL_acts 452 = .ok (.iload 6, 2) := by decide +kernel
theorem dL_acts_454 : decode cL_acts 454 = .ok (.if_icmp .ne 7, 3) := by decide +kernel
theorem dL_acts_457 : decode cL_acts 457 = .ok (.iconst 1, 1) := by decide +kernel
theorem dL_acts_458 : decode cL_acts 458 = .ok (.goto 4, 3) := by decide +kernel
theorem dL_acts_461 : decode cL_acts 461 = .ok (.iconst 0, 1) := by decide +kernel
theorem dL_acts_462 : decode cL_acts 462 = .ok (.ireturn, 1) := by decide +kernel
theorem dL_acts_463 : decode cL_acts 463 = .ok (.aload_n 2, 1) := by decide +kernel
theorem dL_acts_464 : decode cL_acts 464 = .ok (.bipush 8, 2) := by decide +kernel
theorem dL_acts_466 : decode cL_acts 466 = .ok (.invokevirtual 137, 3) := by decide +kernel
theorem dL_acts_469 : decode cL_acts 469 = .ok (.istore 6, 2) := by decide +kernel
theorem dL_acts_471 : decode cL_acts 471 = .ok (.aload_n 1, 1) := by decide +kernel
theorem dL_acts_472 : decode cL_acts 472 = .ok (.getfield 182, 3) := by decide +kernel
theorem dL_acts_475 : decode cL_acts 475 = .ok (.iload_n 3, 1) := by decide +kernel
theorem dL_acts_476 : decode cL_acts 476 = .ok (.aaload, 1) := by decide +kernel
theorem dL_acts_477 : decode cL_acts 477 = .ok (.astore 7, 2) := by decide +kernel
theorem dL_acts_479 : decode cL_acts 479 = .ok (.aload_n 1, 1) := by decide +kernel
theorem dL_acts_480 : decode cL_acts 480 = .ok (.getfield 182, 3) := by decide +kernel
theorem dL_acts_483 : decode cL_acts 483 = .ok (.iload_n 3, 1) := by decide +kernel
theorem dL_acts_484 : decode cL_acts 484 = .ok (.aload_n 1, 1) := by decide +kernel
theorem dL_acts_485 : decode cL_acts 485 = .ok (.getfield 182, 3) := by decide +kernel
theorem dL_acts_488 : decode cL_acts 488 = .ok (.iload 6, 2) := by decide +kernel
theorem dL_acts_490 : decode cL_acts 490 = .ok (.aaload, 1) := by decide +kernel
theorem dL_acts_491 : decode cL_acts 491 = .ok (.aastore, 1) := by decide +kernel
theorem dL_acts_492 : decode cL_acts 492 = .ok (.aload_n 1, 1) := by decide +kernel
theorem dL_acts_493 : decode cL_acts 493 = .ok (.getfield 182, 3) := by decide +kernel
theorem dL_acts_496 : decode cL_acts 496 = .ok (.iload 6, 2) := by decide +kernel
theorem dL_acts_498 : decode cL_acts 498 = .ok (.aload 7, 2) := by decide +kernel
theorem dL_acts_500 : decode cL_acts 500 = .ok (.aastore, 1) := by decide +kernel
theorem dL_acts_501 : decode cL_acts 501 = .ok (.aload_n 1, 1) := by decide +kernel
theorem dL_acts_502 : decode cL_acts 502 = .ok (.getfield 104, 3) := by decide +kernel
theorem dL_acts_505 : decode cL_acts 505 = .ok (.iload_n 3, 1) := by decide +kernel
theorem dL_acts_506 : decode cL_acts 506 = .ok (.iaload, 1) := by decide +kernel
theorem dL_acts_507 : decode cL_acts 507 = .ok (.istore 8, 2) := by decide +kernel
theorem dL_acts_509 : decode cL_acts 509 = .ok (.aload_n 1, 1) := by decide +kernel
theorem dL_acts_510 : decode cL_acts 510 = .ok (.getfield 104, 3) := by decide +kernel
theorem dL_acts_513 : decode cL_acts 513 = .ok (.iload_n 3, 1) := by decide +kernel
theorem dL_acts_514 : decode cL_acts 514 = .ok (.aload_n 1, 1) := by decide +kernel
theorem dL_acts_515 : decode cL_acts 515 = .ok (.getfield 104, 3) := by decide +kernel
theorem dL_acts_518 : decode cL_acts 518 = .ok (.iload 6, 2) := by decide +kernel
theorem dL_acts_520 : decode cL_acts 520 = .ok (.iaload, 1) := by decide +kernel
theorem dL_acts_521 : decode cL_acts 521 = .ok (.iastore, 1) := by decide +kernel
theorem dL_acts_522 : decode cL_acts 522 = .ok (.aload_n 1, 1) := by decide +kernel
theorem dL_acts_523 : decode cL_acts 523 = .ok (.getfield 104, 3) := by decide +kernel
theorem dL_acts_526 : decode cL_acts 526 = .ok (.iload 6, 2) := by decide +kernel
theorem dL_acts_528 : decode cL_acts 528 = .ok (.iload 8, 2) := by decide +kernel
theorem dL_acts_530 : decode cL_acts 530 = .ok (.iastore, 1) := by decide +kernel
theorem dL_acts_531 : decode cL_acts 531 = .ok (.aload_n 1, 1) := by decide +kernel
theorem dL_acts_532 : decode cL_acts 532 = .ok (.getfield 111, 3) := by decide +kernel
theorem dL_acts_535 : decode cL_acts 535 = .ok (.iload_n 3, 1) := by decide +kernel
theorem dL_acts_536 : decode cL_acts 536 = .ok (.iaload, 1) := by decide +kernel
theorem dL_acts_537 : decode cL_acts 537 = .ok (.istore 9, 2) := by decide +kernel
theorem dL_acts_539 : decode cL_acts 539 = .ok (.aload_n 1, 1) := by decide +kernel
theorem dL_acts_540 : decode cL_acts 540 = .ok (.getfield 111, 3) := by decide +kernel
theorem dL_acts_543 : decode cL_acts 543 = .ok (.iload_n 3, 1) := by decide +kernel
theorem dL_acts_544 : decode cL_acts 544 = .ok (.aload_n 1, 1) := by decide +kernel
theorem dL_acts_545 : decode cL_acts 545 = .ok (.getfield 111, 3) := by decide +kernel
theorem dL_acts_548 : decode cL_acts 548 = .ok (.iload 6, 2) := by decide +kernel
theorem dL_acts_550 : decode cL_acts 550 = .ok (.iaload, 1) := by decide +kernel
theorem dL_acts_551 : decode cL_acts 551 = .ok (.iastore, 1) := by decide +kernel
theorem dL_acts_552 : decode cL_acts 552 = .ok (.aload_n 1, 1) := by decide +kernel
theorem dL_acts_553 : decode cL_acts 553 = .ok (.getfield 111, 3) := by decide +kernel
theorem dL_acts_556 : decode cL_acts 556 = .ok (.iload 6, 2) := by decide +kernel
theorem dL_acts_558 : decode cL_acts 558 = .ok (.iload 9, 2) := by decide +kernel
theorem dL_acts_560 : decode cL_acts 560 = .ok (.iastore, 1) := by decide +kernel
theorem dL_acts_561 : decode cL_acts 561 = .ok (.aload_n 0, 1) := by decide +kernel
theorem dL_acts_562 : decode cL_acts 562 = .ok (.iload_n 3, 1) := by decide +kernel
theorem dL_acts_563 : decode cL_acts 563 = .ok (.iload 6, 2) := by decide +kernel
theorem dL_acts_565 : decode cL_acts 565 = .ok (.invokevirtual 189, 3) := by decide +kernel
theorem dL_acts_568 : decode cL_acts 568 = .ok (.iconst 1, 1) := by decide +kernel
theorem dL_acts_569 : decode cL_acts 569 = .ok (.ireturn, 1) := by decide +kernel
theorem dL_acts_570 : decode cL_acts 570 = .ok (.aload_n 1, 1) := by decide +kernel
theorem dL_acts_571 : decode cL_acts 571 = .ok (.getfield 193, 3) := by decide +kernel
theorem dL_acts_574 : decode cL_acts 574 = .ok (.invokevirtual 92, 3) := by decide +kernel
theorem dL_acts_577 : decode cL_acts 577 = .ok (.bipush 64, 2) := by decide +kernel
theorem dL_acts_579 : decode cL_acts 579 = .ok (.if_icmp .ne 5, 3) := by decide +kernel
theorem dL_acts_582 : decode cL_acts 582 = .ok (.iconst 1, 1) := by decide +kernel
theorem dL_acts_583 : decode cL_acts 583 = .ok (.ireturn, 1) := by decide +kernel
theorem dL_acts_584 : decode cL_acts 584 = .ok (.aload_n 1, 1) := by decide +kernel
theorem dL_acts_585 : decode cL_acts 585 = .ok (.getfield 193, 3) := by decide +kernel
theorem dL_acts_588 : decode cL_acts 588 = .ok (.iload 5, 2) := by decide +kernel
theorem dL_acts_590 : decode cL_acts 590 = .ok (.invokestatic 196, 3) := by decide +kernel
theorem dL_acts_593 : decode cL_acts 593 = .ok (.invokevirtual 202, 3) := by decide +kernel
theorem dL_acts_596 : decode cL_acts 596 = .ok (.pop, 1) := by decide +kernel
theorem dL_acts_597 : decode cL_acts 597 = .ok (.aload_n 1, 1) := by decide +kernel
theorem dL_acts_598 : decode cL_acts 598 = .ok (.aload_n 1, 1) := by decide +kernel
theorem dL_acts_599 : decode cL_acts 599 = .ok (.getfield 50, 3) := by decide +kernel
theorem dL_acts_602 : decode cL_acts 602 = .ok (.iconst 2, 1) := by decide +kernel
theorem dL_acts_603 : decode cL_acts 603 = .ok (.if_icmp .ne 7, 3) := by decide +kernel
theorem dL_acts_606 : decode cL_acts 606 = .ok (.iconst 0, 1) := by decide +kernel
theorem dL_acts_607 : decode cL_acts 607 = .ok (.goto 7, 3) := by decide +kernel
theorem dL_acts_610 : decode cL_acts 610 = .ok (.aload_n 1, 1) := by decide +kernel
theorem dL_acts_611 : decode cL_acts 611 = .ok (.getfield 50, 3) := by decide +kernel
theorem dL_acts_614 : decode cL_acts 614 = .ok (.putfield 50, 3) := by decide +kernel
theorem dL_acts_617 : decode cL_acts 617 = .ok (.aload_n 0, 1) := by decide +kernel
theorem dL_acts_618 : decode cL_acts 618 = .ok (.iload 5, 2) := by decide +kernel
theorem dL_acts_620 : decode cL_acts 620 = .ok (.invokevirtual 206, 3) := by decide +kernel
theorem dL_acts_623 : decode cL_acts 623 = .ok (.aload_n 1, 1) := by decide +kernel
theorem dL_acts_624 : decode cL_acts 624 = .ok (.getfield 193, 3) := by decide +kernel
theorem dL_acts_627 : decode cL_acts 627 = .ok (.invokevirtual 92, 3) := by decide +kernel
theorem dL_acts_630 : decode cL_acts 630 = .ok (.if_icmp .ne 7, 3) := by decide +kernel
theorem dL_acts_633 : decode cL_acts 633 = .ok (.iconst 1, 1) := by decide +kernel
theorem dL_acts_634 : decode cL_acts 634 = .ok (.goto 4, 3) := by decide +kernel
theorem dL_acts_637 : decode cL_acts 637 = .ok (.iconst 0, 1) := by decide +kernel
theorem dL_acts_638 : decode cL_acts 638 = .ok (.ireturn, 1) := by decide +kernel
theorem dL_acts_639 : decode cL_acts 639 = .ok (.aload_n 1, 1) := by decide +kernel
theorem dL_acts_640 : decode cL_acts 640 = .ok (.getfield 88, 3) := by decide +kernel
theorem dL_acts_643 : decode cL_acts 643 = .ok (.invokevirtual 209, 3) := by decide +kernel
theorem dL_acts_646 : decode cL_acts 646 = .ok (.ifCond .eq 5, 3) := by decide +kernel
theorem dL_acts_649 : decode cL_acts 649 = .ok (.iconst 1, 1) := by decide +kernel
theorem dL_acts_650 : decode cL_acts 650 = .ok (.ireturn, 1) := by decide +kernel
theorem dL_acts_651 : decode cL_acts 651 = .ok (.aload_n 1, 1) := by decide +kernel
theorem dL_acts_652 : decode cL_acts 652 = .ok (.aload_n 1, 1) := by decide +kernel
theorem dL_acts_653 : decode cL_acts 653 = .ok (.getfield 50, 3) := by decide +kernel
theorem dL_acts_656 : decode cL_acts 656 = .ok (.iconst 3, 1) := by decide +kernel
theorem dL_acts_657 : decode cL_acts 657 = .ok (.if_icmp .ne 7, 3) := by decide +kernel
theorem dL_acts_660 : decode cL_acts 660 = .ok (.iconst 0, 1) := by decide +kernel
theorem dL_acts_661 : decode cL_acts 661 = .ok (.goto 7, 3) := by decide +kernel
theorem dL_acts_664 : decode cL_acts 664 = .ok (.aload_n 1, 1) := by decide +kernel
theorem dL_acts_665 : decode cL_acts 665 = .ok (.getfield 50, 3) := by decide +kernel
theorem dL_acts_668 : decode cL_acts 668 = .ok (.putfield 50, 3) := by decide +kernel
theorem dL_acts_671 : decode cL_acts 671 = .ok (.aload_n 0, 1) := by decide +kernel
theorem dL_acts_672 : decode cL_acts 672 = .ok (.invokevirtual 212, 3) := by decide +kernel
theorem dL_acts_675 : decode cL_acts 675 = .ok (.aload_n 1, 1) := by decide +kernel
theorem dL_acts_676 : decode cL_acts 676 = .ok (.getfield 88, 3) := by decide +kernel
theorem dL_acts_679 : decode cL_acts 679 = .ok (.iconst 0, 1) := by decide +kernel
theorem dL_acts_680 : decode cL_acts 680 = .ok (.invokevirtual 215, 3) := by decide +kernel
theorem dL_acts_683 : decode cL_acts 683 = .ok (.checkcast 197, 3) := by decide +kernel
theorem dL_acts_686 : decode cL_acts 686 = .ok (.invokevirtual 219, 3) := by decide +kernel
theorem dL_acts_689 : decode cL_acts 689 = .ok (.if_icmp .ne 7, 3) := by decide +kernel
theorem dL_acts_692 : decode cL_acts 692 = .ok (.iconst 1, 1) := by decide +kernel
theorem dL_acts_693 : decode cL_acts 693 = .ok (.goto 4, 3) := by decide +kernel
theorem dL_acts_696 : decode cL_acts 696 = .ok (.iconst 0, 1) := by decide +kernel
theorem dL_acts_697 : decode cL_acts 697 = .ok (.ireturn, 1) := by decide +kernel
theorem dL_acts_698 : decode cL_acts 698 = .ok (.aload_n 1, 1) := by decide +kernel
theorem dL_acts_699 : decode cL_acts 699 = .ok (.getfield 50, 3) := by decide +kernel
theorem dL_acts_702 : decode cL_acts 702 = .ok (.ifCond .ne 5, 3) := by decide +kernel
theorem dL_acts_705 : decode cL_acts 705 = .ok (.iconst 1, 1) := by decide +kernel
theorem dL_acts_706 : decode cL_acts 706 = .ok (.ireturn, 1) := by decide +kernel
theorem dL_acts_707 : decode cL_acts 707 = .ok (.aload_n 1, 1) := by decide +kernel
theorem dL_acts_708 : decode cL_acts 708 = .ok (.iconst 0, 1) := by decide +kernel
theorem dL_acts_709 : decode cL_acts 709 = .ok (.putfield 50, 3) := by decide +kernel
theorem dL_acts_712 : decode cL_acts 712 = .ok (.aload_n 1, 1) := by decide +kernel
theorem dL_acts_713 : decode cL_acts 713 = .ok (.iload_n 3, 1) := by decide +kernel
theorem dL_acts_714 : decode cL_acts 714 = .ok (.putfield 55, 3) := by decide +kernel
theorem dL_acts_717 : decode cL_acts 717 = .ok (.aload_n 1, 1) := by decide +kernel
theorem dL_acts_718 : decode cL_acts 718 = .ok (.iload 4, 2) := by decide +kernel
theorem dL_acts_720 : decode cL_acts 720 = .ok (.putfield 58, 3) := by decide +kernel
theorem dL_acts_723 : decode cL_acts 723 = .ok (.aload_n 0, 1) := by decide +kernel
theorem dL_acts_724 : decode cL_acts 724 = .ok (.iload_n 3, 1) := by decide +kernel
theorem dL_acts_725 : decode cL_acts 725 = .ok (.iload 4, 2) := by decide +kernel
theorem dL_acts_727 : decode cL_acts 727 = .ok (.invokevirtual 222, 3) := by decide +kernel
theorem dL_acts_730 : decode cL_acts 730 = .ok (.iconst 1, 1) := by decide +kernel
theorem dL_acts_731 : decode cL_acts 731 = .ok (.ireturn, 1) := by decide +kernel
theorem dL_fills_0 : decode cL_fills 0 = .ok (.iconst 0, 1) := by decide +kernel
theorem dL_fills_1 : decode cL_fills 1 = .ok (.istore_n 3, 1) := by decide +kernel
theorem dL_fills_2 : decode cL_fills 2 = .ok (.iload_n 3, 1) := by decide +kernel
theorem dL_fills_3 : decode cL_fills 3 = .ok (.bipush 64, 2) := by decide +kernel
theorem dL_fills_5 : decode cL_fills 5 = .ok (.if_icmp .ge 142, 3) := by decide +kernel
theorem dL_fills_8 : decode cL_fills 8 = .ok (.aload_n 2, 1) := by decide +kernel
theorem dL_fills_9 : decode cL_fills 9 = .ok (.bipush 16, 2) := by decide +kernel
theorem dL_fills_11 : decode cL_fills 11 = .ok (.invokevirtual 137, 3) := by decide +kernel
theorem dL_fills_14 : decode cL_fills 14 = .ok (.aload_n 2, 1) := by decide +kernel
theorem dL_fills_15 : decode cL_fills 15 = .ok (.iconst 2, 1) := by decide +kernel
theorem dL_fills_16 : decode cL_fills 16 = .ok (.invokevirtual 137, 3) := by decide +kernel
theorem dL_fills_19 : decode cL_fills 19 = .ok (.iconst 4, 1) := by decide +kernel
theorem dL_fills_20 : decode cL_fills 20 = .ok (.ishl, 1) := by decide +kernel
theorem dL_fills_21 : decode cL_fills 21 = .ok (.ior, 1) := by decide +kernel
theorem dL_fills_22 : decode cL_fills 22 = .ok (.aload_n 2, 1) := by decide +kernel
theorem dL_fills_23 : decode cL_fills 23 = .ok (.bipush 32, 2) := by decide +kernel
theorem dL_fills_25 : decode cL_fills 25 = .ok (.invokevirtual 137, 3) := by decide +kernel
theorem dL_fills_28 : decode cL_fills 28 = .ok (.bipush 7, 2) := by decide +kernel
theorem dL_fills_30 : decode cL_fills 30 = .ok (.ishl, 1) := by decide +kernel
theorem dL_fills_31 : decode cL_fills 31 = .ok (.ior, 1) := by decide +kernel
theorem dL_fills_32 : decode cL_fills 32 = .ok (.aload_n 2, 1) := by decide +kernel
theorem dL_fills_33 : decode cL_fills 33 = .ok (.iconst 2, 1) := by decide +kernel
theorem dL_fills_34 : decode cL_fills 34 = .ok (.invokevirtual 137, 3) := by decide +kernel
theorem dL_fills_37 : decode cL_fills 37 = .ok (.bipush 12, 2) := by decide +kernel
theorem dL_fills_39 : decode cL_fills 39 = .ok (.ishl, 1) := by decide +kernel
theorem dL_fills_40 : decode cL_fills 40 = .ok (.ior, 1) := by decide +kernel
theorem dL_fills_41 : decode cL_fills 41 = .ok (.aload_n 2, 1) := by decide +kernel
theorem dL_fills_42 : decode cL_fills 42 = .ok (.bipush 32, 2) := by decide +kernel
theorem dL_fills_44 : decode cL_fills 44 = .ok (.invokevirtual 137, 3) := by decide +kernel
theorem dL_fills_47 : decode cL_fills 47 = .ok (.bipush 15, 2) := by decide +kernel
theorem dL_fills_49 : decode cL_fills 49 = .ok (.ishl, 1) := by decide +kernel
theorem dL_fills_50 : decode cL_fills 50 = .ok (.ior, 1) := by decide +kernel
theorem dL_fills_51 : decode cL_fills 51 = .ok (.istore 4, 2) := by decide +kernel
theorem dL_fills_53 : decode cL_fills 53 = .ok (.aload_n 2, 1) := by decide +kernel
theorem dL_fills_54 : decode cL_fills 54 = .ok (.iconst 5, 1) := by decide +kernel
theorem dL_fills_55 : decode cL_fills 55 = .ok (.invokevirtual 137, 3) := by decide +kernel
theorem dL_fills_58 : decode cL_fills 58 = .ok (.ifCond .ne 12, 3) := by decide +kernel
theorem dL_fills_61 : decode cL_fills 61 = .ok (.aload_n 2, 1) := by decide +kernel
theorem dL_fills_62 : decode cL_fills 62 = .ok (.ldc 142, 2) := by decide +kernel
theorem dL_fills_64 : decode cL_fills 64 = .ok (.invokevirtual 137, 3) := by decide +kernel
theorem dL_fills_67 : decode cL_fills 67 = .ok (.goto 5, 3) := by decide +kernel
theorem dL_fills_70 : decode cL_fills 70 = .ok (.iload 4, 2) := by decide +kernel
theorem dL_fills_72 : decode cL_fills 72 = .ok (.istore 4, 2) := by decide +kernel
theorem dL_fills_74 : decode cL_fills 74 = .ok (.iload 4, 2) := by decide +kernel
theorem dL_fills_76 : decode cL_fills 76 = .ok (.bipush 15, 2) := by decide +kernel
theorem dL_fills_78 : decode cL_fills 78 = .ok (.iand, 1) := by decide +kernel
theorem dL_fills_79 : decode cL_fills 79 = .ok (.ifCond .ne 18, 3) := by decide +kernel
theorem dL_fills_82 : decode cL_fills 82 = .ok (.aload_n 2, 1) := by decide +kernel
theorem dL_fills_83 : decode cL_fills 83 = .ok (.iconst 4, 1) := by decide +kernel
theorem dL_fills_84 : decode cL_fills 84 = .ok (.invokevirtual 137, 3) := by decide +kernel
theorem dL_fills_87 : decode cL_fills 87 = .ok (.ifCond .le 10, 3) := by decide +kernel
theorem dL_fills_90 : decode cL_fills 90 = .ok (.iload 4, 2) := by decide +kernel
theorem dL_fills_92 : decode cL_fills 92 = .ok (.iconst 1, 1) := by decide +kernel
theorem dL_fills_93 : decode cL_fills 93 = .ok (.ior, 1) := by decide +kernel
theorem dL_fills_94 : decode cL_fills 94 = .ok (.goto 5, 3) := by decide +kernel
theorem dL_fills_97 : decode cL_fills 97 = .ok (.iload 4, 2) := by decide +kernel
theorem dL_fills_99 : decode cL_fills 99 = .ok (.istore 4, 2) := by decide +kernel
theorem dL_fills_101 : decode cL_fills 101 = .ok (.aload_n 1, 1) := by decide +kernel
theorem dL_fills_102 : decode cL_fills 102 = .ok (.iload_n 3, 1) := by decide +kernel
theorem dL_fills_103 : decode cL_fills 103 = .ok (.bipush 32, 2) := by decide +kernel
theorem dL_fills_105 : decode cL_fills 105 = .ok (.idiv, 1) := by decide +kernel
theorem dL_fills_106 : decode cL_fills 106 = .ok (.iload_n 3, 1) := by decide +kernel
theorem dL_fills_107 : decode cL_fills 107 = .ok (.bipush 32, 2) := by decide +kernel
theorem dL_fills_109 : decode cL_fills 109 = .ok (.irem, 1) := by decide +kernel
theorem dL_fills_110 : decode cL_fills 110 = .ok (.iload 4, 2) := by decide +kernel
theorem dL_fills_112 : decode cL_fills 112 = .ok (.invokevirtual 144, 3) := by decide +kernel
theorem dL_fills_115 : decode cL_fills 115 = .ok (.aload_n 0, 1) := by decide +kernel
theorem dL_fills_116 : decode cL_fills 116 = .ok (.iload_n 3, 1) := by decide +kernel
theorem dL_fills_117 : decode cL_fills 117 = .ok (.bipush 32, 2) := by decide +kernel
theorem dL_fills_119 : decode cL_fills 119 = .ok (.idiv, 1) := by decide +kernel
theorem dL_fills_120 : decode cL_fills 120 = .ok (.iload_n 3, 1) := by decide +kernel
theorem dL_fills_121 : decode cL_fills 121 = .ok (.bipush 32, 2) := by decide +kernel
theorem dL_fills_123 : decode cL_fills 123 = .ok (.irem, 1) := by decide +kernel
theorem dL_fills_124 : decode cL_fills 124 = .ok (.aload_n 1, 1) := by decide +kernel
theorem dL_fills_125 : decode cL_fills 125 = .ok (.iload_n 3, 1) := by decide +kernel
theorem dL_fills_126 : decode cL_fills 126 = .ok (.bipush 32, 2) := by decide +kernel
theorem dL_fills_128 : decode cL_fills 128 = .ok (.idiv, 1) := by decide +kernel
theorem dL_fills_129 : decode cL_fills 129 = .ok (.iload_n 3, 1) := by decide +kernel
theorem dL_fills_130 : decode cL_fills 130 = .ok (.bipush 32, 2) := by decide +kernel
theorem dL_fills_132 : decode cL_fills 132 = .ok (.irem, 1) := by decide +kernel
theorem dL_fills_133 : decode cL_fills 133 = .ok (.invokevirtual 127, 3) := by decide +kernel
theorem dL_fills_136 : decode cL_fills 136 = .ok (.invokevirtual 148, 3) := by decide +kernel
theorem dL_fills_139 : decode cL_fills 139 = .ok (.istore 5, 2) := by decide +kernel
theorem dL_fills_141 : decode cL_fills 141 = .ok (.iinc 3 1, 3) := by decide +kernel
theorem dL_fills_144 : decode cL_fills 144 = .ok (.goto (-142), 3) := by decide +kernel
theorem dL_fills_147 : decode cL_fills 147 = .ok (.return_, 1) := by decide +kernel
theorem dL_law_0 : decode cL_law 0 = .ok (.iconst 0, 1) := by decide +kernel
theorem dL_law_1 : decode cL_law 1 = .ok (.istore_n 1, 1) := by decide +kernel
theorem dL_law_2 : decode cL_law 2 = .ok (.iload_n 1, 1) := by decide +kernel
theorem dL_law_3 : decode cL_law 3 = .ok (.iconst 3, 1) := by decide +kernel
theorem dL_law_4 : decode cL_law 4 = .ok (.if_icmp .ge 384, 3) := by decide +kernel
theorem dL_law_7 : decode cL_law 7 = .ok (.new 138, 3) := by decide +kernel
theorem dL_law_10 : decode cL_law 10 = .ok (.dup, 1) := by decide +kernel
theorem dL_law_11 : decode cL_law 11 = .ok (.iload_n 1, 1) := by decide +kernel
theorem dL_law_12 : decode cL_law 12 = .ok (.aload_n 0, 1) := by decide +kernel
theorem dL_law_13 : decode cL_law 13 = .ok (.arraylength, 1) := by decide +kernel
theorem dL_law_14 : decode cL_law 14 = .ok (.if_icmp .ge 9, 3) := by decide +kernel
theorem dL_law_17 : decode cL_law 17 = .ok (.aload_n 0, 1) := by decide +kernel
theorem dL_law_18 : decode cL_law 18 = .ok (.iload_n 1, 1) := by decide +kernel
theorem dL_law_19 : decode cL_law 19 = .ok (.iaload, 1) := by decide +kernel
theorem dL_law_20 : decode cL_law 20 = .ok (.goto 7, 3) := by decide +kernel
theorem dL_law_23 : decode cL_law 23 = .ok (.bipush 37, 2) := by decide +kernel
theorem dL_law_25 : decode cL_law 25 = .ok (.iload_n 1, 1) := by decide +kernel
theorem dL_law_26 : decode cL_law 26 = .ok (.imul, 1) := by decide +kernel
theorem dL_law_27 : decode cL_law 27 = .ok (.invokespecial 225, 3) := by decide +kernel
theorem dL_law_30 : decode cL_law 30 = .ok (.astore_n 2, 1) := by decide +kernel
theorem dL_law_31 : decode cL_law 31 = .ok (.new 24, 3) := by decide +kernel
theorem dL_law_34 : decode cL_law 34 = .ok (.dup, 1) := by decide +kernel
theorem dL_law_35 : decode cL_law 35 = .ok (.invokespecial 228, 3) := by decide +kernel
theorem dL_law_38 : decode cL_law 38 = .ok (.astore_n 3, 1) := by decide +kernel
theorem dL_law_39 : decode cL_law 39 = .ok (.new 37, 3) := by decide +kernel
theorem dL_law_42 : decode cL_law 42 = .ok (.dup, 1) := by decide +kernel
theorem dL_law_43 : decode cL_law 43 = .ok (.invokespecial 229, 3) := by decide +kernel
theorem dL_law_46 : decode cL_law 46 = .ok (.astore 4, 2) := by decide +kernel
theorem dL_law_48 : decode cL_law 48 = .ok (.aload_n 3, 1) := by decide +kernel
theorem dL_law_49 : decode cL_law 49 = .ok (.aload 4, 2) := by decide +kernel
theorem dL_law_51 : decode cL_law 51 = .ok (.invokestatic 230, 3) := by decide +kernel
theorem dL_law_54 : decode cL_law 54 = .ok (.ifCond .ne 5, 3) := by decide +kernel
theorem dL_law_57 : decode cL_law 57 = .ok (.iconst 0, 1) := by decide +kernel
theorem dL_law_58 : decode cL_law 58 = .ok (.ireturn, 1) := by decide +kernel
theorem dL_law_59 : decode cL_law 59 = .ok (.aload_n 3, 1) := by decide +kernel
theorem dL_law_60 : decode cL_law 60 = .ok (.aload 4, 2) := by decide +kernel
theorem dL_law_62 : decode cL_law 62 = .ok (.aload_n 2, 1) := by decide +kernel
theorem dL_law_63 : decode cL_law 63 = .ok (.invokestatic 234, 3) := by decide +kernel
theorem dL_law_66 : decode cL_law 66 = .ok (.iconst 0, 1) := by decide +kernel
theorem dL_law_67 : decode cL_law 67 = .ok (.istore 5, 2) := by decide +kernel
theorem dL_law_69 : decode cL_law 69 = .ok (.iload 5, 2) := by decide +kernel
theorem dL_law_71 : decode cL_law 71 = .ok (.bipush 40, 2) := by decide +kernel
theorem dL_law_73 : decode cL_law 73 = .ok (.if_icmp .ge 309, 3) := by decide +kernel
theorem dL_law_76 : decode cL_law 76 = .ok (.aload_n 3, 1) := by decide +kernel
theorem dL_law_77 : decode cL_law 77 = .ok (.aload 4, 2) := by decide +kernel
theorem dL_law_79 : decode cL_law 79 = .ok (.aload_n 2, 1) := by decide +kernel
theorem dL_law_80 : decode cL_law 80 = .ok (.invokestatic 238, 3) := by decide +kernel
theorem dL_law_83 : decode cL_law 83 = .ok (.ifCond .ne 5, 3) := by decide +kernel
theorem dL_law_86 : decode cL_law 86 = .ok (.iconst 0, 1) := by decide +kernel
theorem dL_law_87 : decode cL_law 87 = .ok (.ireturn, 1) := by decide +kernel
theorem dL_law_88 : decode cL_law 88 = .ok (.aload 4, 2) := by decide +kernel
theorem dL_law_90 : decode cL_law 90 = .ok (.getfield 50, 3) := by decide +kernel
theorem dL_law_93 : decode cL_law 93 = .ok (.ifCond .ne 109, 3) := by decide +kernel
theorem dL_law_96 : decode cL_law 96 = .ok (.iconst 1, 1) := by decide +kernel
theorem dL_law_97 : decode cL_law 97 = .ok (.aload_n 2, 1) := by decide +kernel
theorem dL_law_98 : decode cL_law 98 = .ok (.aload_n 2, 1) := by decide +kernel
theorem dL_law_99 : decode cL_law 99 = .ok (.iconst 3, 1) := by decide +kernel
theorem dL_law_100 : decode cL_law 100 = .ok (.invokevirtual 137, 3) := by decide +kernel
theorem dL_law_103 : decode cL_law 103 = .ok (.ifCond .ne 8, 3) := by decide +kernel
theorem dL_law_106 : decode cL_law 106 = .ok (.bipush 60, 2) := by decide +kernel
theorem dL_law_108 : decode cL_law 108 = .ok (.goto 4, 3) := by decide +kernel
theorem dL_law_111 : decode cL_law 111 = .ok (.iconst 4, 1) := by decide +kernel
theorem dL_law_112 : decode cL_law 112 = .ok (.invokevirtual 137, 3) := by decide +kernel
theorem dL_law_115 : decode cL_law 115 = .ok (.iadd, 1) := by decide +kernel
theorem dL_law_116 : decode cL_law 116 = .ok (.istore 6, 2) := by decide +kernel
theorem dL_law_118 : decode cL_law 118 = .ok (.aload 4, 2) := by decide +kernel
theorem dL_law_120 : decode cL_law 120 = .ok (.getfield 36, 3) := by decide +kernel
theorem dL_law_123 : decode cL_law 123 = .ok (.istore 7, 2) := by decide +kernel
theorem dL_law_125 : decode cL_law 125 = .ok (.aload 4, 2) := by decide +kernel
theorem dL_law_127 : decode cL_law 127 = .ok (.getfield 70, 3) := by decide +kernel
theorem dL_law_130 : decode cL_law 130 = .ok (.istore 8, 2) := by decide +kernel
theorem dL_law_132 : decode cL_law 132 = .ok (.aload_n 3, 1) := by decide +kernel
theorem dL_law_133 : decode cL_law 133 = .ok (.iload 6, 2) := by decide +kernel
theorem dL_law_135 : decode cL_law 135 = .ok (.invokevirtual 242, 3) := by decide +kernel
theorem dL_law_138 : decode cL_law 138 = .ok (.istore 9, 2) := by decide +kernel
theorem dL_law_140 : decode cL_law 140 = .ok (.aload_n 3, 1) := by decide +kernel
theorem dL_law_141 : decode cL_law 141 = .ok (.aload 4, 2) := by decide +kernel
theorem dL_law_143 : decode cL_law 143 = .ok (.invokestatic 230, 3) := by decide +kernel
theorem dL_law_146 : decode cL_law 146 = .ok (.ifCond .ne 5, 3) := by decide +kernel
theorem dL_law_149 : decode cL_law 149 = .ok (.iconst 0, 1) := by decide +kernel
theorem dL_law_150 : decode cL_law 150 = .ok (.ireturn, 1) := by decide +kernel
theorem dL_law_151 : decode cL_law 151 = .ok (.aload 4, 2) := by decide +kernel
theorem dL_law_153 : decode cL_law 153 = .ok (.iload 6, 2) := by decide +kernel
theorem dL_law_155 : decode cL_law 155 = .ok (.invokevirtual 245, 3) := by decide +kernel
theorem dL_law_158 : decode cL_law 158 = .ok (.istore 10, 2) := by decide +kernel
theorem dL_law_160 : decode cL_law 160 = .ok (.aload_n 3, 1) := by decide +kernel
theorem dL_law_161 : decode cL_law 161 = .ok (.iload 6, 2) := by decide +kernel
theorem dL_law_163 : decode cL_law 163 = .ok (.invokevirtual 248, 3) := by decide +kernel
theorem dL_law_166 : decode cL_law 166 = .ok (.iload 10, 2) := by decide +kernel
theorem dL_law_168 : decode cL_law 168 = .ok (.if_icmp .ne 29, 3) := by decide +kernel
theorem dL_law_171 : decode cL_law 171 = .ok (.aload 4, 2) := by decide +kernel
theorem dL_law_173 : decode cL_law 173 = .ok (.getfield 36, 3) := by decide +kernel
theorem dL_law_176 : decode cL_law 176 = .ok (.iload 7, 2) := by decide +kernel
theorem dL_law_178 : decode cL_law 178 = .ok (.isub, 1) := by decide +kernel
theorem dL_law_179 : decode cL_law 179 = .ok (.iload 9, 2) := by decide +kernel
theorem dL_law_181 : decode cL_law 181 = .ok (.if_icmp .ne 16, 3) := by decide +kernel
theorem dL_law_184 : decode cL_law 184 = .ok (.aload 4, 2) := by decide +kernel
theorem dL_law_186 : decode cL_law 186 = .ok (.getfield 70, 3) := by decide +kernel
theorem dL_law_189 : decode cL_law 189 = .ok (.iload 8, 2) := by decide +kernel
theorem dL_law_191 : decode cL_law 191 = .ok (.isub, 1) := by decide +kernel
theorem dL_law_192 : decode cL_law 192 = .ok (.iload 9, 2) := by decide +kernel
theorem dL_law_194 : decode cL_law 194 = .ok (.if_icmp .le 5, 3) := by decide +kernel
theorem dL_law_197 : decode cL_law 197 = .ok (.iconst 0, 1) := by decide +kernel
theorem dL_law_198 : decode cL_law 198 = .ok (.ireturn, 1) := by decide +kernel
theorem dL_law_199 : decode cL_law 199 = .ok (.goto 166, 3) := by decide +kernel
theorem dL_law_202 : decode cL_law 202 = .ok (.iconst 1, 1) := by decide +kernel
theorem dL_law_203 : decode cL_law 203 = .ok (.aload_n 2, 1) := by decide +kernel
theorem dL_law_204 : decode cL_law 204 = .ok (.aload_n 2, 1) := by decide +kernel
theorem dL_law_205 : decode cL_law 205 = .ok (.iconst 3, 1) := by decide +kernel
theorem dL_law_206 : decode cL_law 206 = .ok (.invokevirtual 137, 3) := by decide +kernel
theorem dL_law_209 : decode cL_law 209 = .ok (.ifCond .ne 9, 3) := by decide +kernel
theorem dL_law_212 : decode cL_law 212 = .ok (.sipush 300, 3) := by decide +kernel
theorem dL_law_215 : decode cL_law 215 = .ok (.goto 5, 3) := by decide +kernel
theorem dL_law_218 : decode cL_law 218 = .ok (.bipush 40, 2) := by decide +kernel
theorem dL_law_220 : decode cL_law 220 = .ok (.invokevirtual 137, 3) := by decide +kernel
theorem dL_law_223 : decode cL_law 223 = .ok (.iadd, 1) := by decide +kernel
theorem dL_law_224 : decode cL_law 224 = .ok (.istore 6, 2) := by decide +kernel
theorem dL_law_226 : decode cL_law 226 = .ok (.aload 4, 2) := by decide +kernel
theorem dL_law_228 : decode cL_law 228 = .ok (.invokevirtual 249, 3) := by decide +kernel
theorem dL_law_231 : decode cL_law 231 = .ok (.astore 7, 2) := by decide +kernel
theorem dL_law_233 : decode cL_law 233 = .ok (.aload 7, 2) := by decide +kernel
theorem dL_law_235 : decode cL_law 235 = .ok (.invokevirtual 253, 3) := by decide +kernel
theorem dL_law_238 : decode cL_law 238 = .ok (.istore 8, 2) := by decide +kernel
theorem dL_law_240 : decode cL_law 240 = .ok (.aload 4, 2) := by decide +kernel
theorem dL_law_242 : decode cL_law 242 = .ok (.iload 6, 2) := by decide +kernel
theorem dL_law_244 : decode cL_law 244 = .ok (.invokevirtual 256, 3) := by decide +kernel
theorem dL_law_247 : decode cL_law 247 = .ok (.iconst 0, 1) := by decide +kernel
theorem dL_law_248 : decode cL_law 248 = .ok (.istore 9, 2) := by decide +kernel
theorem dL_law_250 : decode cL_law 250 = .ok (.iload 9, 2) := by decide +kernel
theorem dL_law_252 : decode cL_law 252 = .ok (.iload 6, 2) := by decide +kernel
theorem dL_law_254 : decode cL_law 254 = .ok (.bipush 32, 2) := by decide +kernel
theorem dL_law_256 : decode cL_law 256 = .ok (.idiv, 1) := by decide +kernel
theorem dL_law_257 : decode cL_law 257 = .ok (.iconst 1, 1) := by decide +kernel
theorem dL_law_258 : decode cL_law 258 = .ok (.iadd, 1) := by decide +kernel
theorem dL_law_259 : decode cL_law 259 = .ok (.if_icmp .ge 34, 3) := by decide +kernel
theorem dL_law_262 : decode cL_law 262 = .ok (.aload 7, 2) := by decide +kernel
theorem dL_law_264 : decode cL_law 264 = .ok (.invokevirtual 259, 3) := by decide +kernel
theorem dL_law_267 : decode cL_law 267 = .ok (.iload 8, 2) := by decide +kernel
theorem dL_law_269 : decode cL_law 269 = .ok (.ifCond .eq 15, 3) := by decide +kernel
theorem dL_law_272 : decode cL_law 272 = .ok (.aload 7, 2) := by decide +kernel
theorem dL_law_274 : decode cL_law 274 = .ok (.invokevirtual 253, 3) := by decide +kernel
theorem dL_law_277 : decode cL_law 277 = .ok (.ifCond .eq 7, 3) := by decide +kernel
theorem dL_law_280 : decode cL_law 280 = .ok (.iconst 1, 1) := by decide +kernel
theorem dL_law_281 : decode cL_law 281 = .ok (.goto 4, 3) := by decide +kernel
theorem dL_law_284 : decode cL_law 284 = .ok (.iconst 0, 1) := by decide +kernel
theorem dL_law_285 : decode cL_law 285 = .ok (.istore 8, 2) := by decide +kernel
theorem dL_law_287 : decode cL_law 287 = .ok (.iinc 9 1, 3) := by decide +kernel
theorem dL_law_290 : decode cL_law 290 = .ok (.goto (-40), 3) := by decide +kernel
theorem dL_law_293 : decode cL_law 293 = .ok (.aload_n 3, 1) := by decide +kernel
theorem dL_law_294 : decode cL_law 294 = .ok (.iload 6, 2) := by decide +kernel
theorem dL_law_296 : decode cL_law 296 = .ok (.invokevirtual 262, 3) := by decide +kernel
theorem dL_law_299 : decode cL_law 299 = .ok (.aload 4, 2) := by decide +kernel
theorem dL_law_301 : decode cL_law 301 = .ok (.getfield 36, 3) := by decide +kernel
theorem dL_law_304 : decode cL_law 304 = .ok (.if_icmp .eq 5, 3) := by decide +kernel
theorem dL_law_307 : decode cL_law 307 = .ok (.iconst 0, 1) := by decide +kernel
theorem dL_law_308 : decode cL_law 308 = .ok (.ireturn, 1) := by decide +kernel
theorem dL_law_309 : decode cL_law 309 = .ok (.iconst 0, 1) := by decide +kernel
theorem dL_law_310 : decode cL_law 310 = .ok (.istore 9, 2) := by decide +kernel
theorem dL_law_312 : decode cL_law 312 = .ok (.iload 9, 2) := by decide +kernel
theorem dL_law_314 : decode cL_law 314 = .ok (.sipush 256, 3) := by decide +kernel
theorem dL_law_317 : decode cL_law 317 = .ok (.if_icmp .ge 48, 3) := by decide +kernel
theorem dL_law_320 : decode cL_law 320 = .ok (.iload 8, 2) := by decide +kernel
theorem dL_law_322 : decode cL_law 322 = .ok (.ifCond .eq 43, 3) := by decide +kernel
theorem dL_law_325 : decode cL_law 325 = .ok (.aload_n 3, 1) := by decide +kernel
theorem dL_law_326 : decode cL_law 326 = .ok (.iload 9, 2) := by decide +kernel
theorem dL_law_328 : decode cL_law 328 = .ok (.bipush 32, 2) := by decide +kernel
theorem dL_law_330 : decode cL_law 330 = .ok (.idiv, 1) := by decide +kernel
theorem dL_law_331 : decode cL_law 331 = .ok (.iload 9, 2) := by decide +kernel
theorem dL_law_333 : decode cL_law 333 = .ok (.bipush 32, 2) := by decide +kernel
theorem dL_law_335 : decode cL_law 335 = .ok (.irem, 1) := by decide +kernel
theorem dL_law_336 : decode cL_law 336 = .ok (.invokevirtual 123, 3) := by decide +kernel
theorem dL_law_339 : decode cL_law 339 = .ok (.aload 7, 2) := by decide +kernel
theorem dL_law_341 : decode cL_law 341 = .ok (.iload 9, 2) := by decide +kernel
theorem dL_law_343 : decode cL_law 343 = .ok (.bipush 32, 2) := by decide +kernel
theorem dL_law_345 : decode cL_law 345 = .ok (.idiv, 1) := by decide +kernel
theorem dL_law_346 : decode cL_law 346 = .ok (.iload 9, 2) := by decide +kernel
theorem dL_law_348 : decode cL_law 348 = .ok (.bipush 32, 2) := by decide +kernel
theorem dL_law_350 : decode cL_law 350 = .ok (.irem, 1) := by decide +kernel
theorem dL_law_351 : decode cL_law 351 = .ok (.invokevirtual 127, 3) := by decide +kernel
theorem dL_law_354 : decode cL_law 354 = .ok (.if_icmp .eq 5, 3) := by decide +kernel
theorem dL_law_357 : decode cL_law 357 = .ok (.iconst 0, 1) := by decide +kernel
theorem dL_law_358 : decode cL_law 358 = .ok (.ireturn, 1) := by decide +kernel
theorem dL_law_359 : decode cL_law 359 = .ok (.iinc 9 1, 3) := by decide +kernel
theorem dL_law_362 : decode cL_law 362 = .ok (.goto (-50), 3) := by decide +kernel
theorem dL_law_365 : decode cL_law 365 = .ok (.aload_n 3, 1) := by decide +kernel
theorem dL_law_366 : decode cL_law 366 = .ok (.aload 4, 2) := by decide +kernel
theorem dL_law_368 : decode cL_law 368 = .ok (.invokestatic 230, 3) := by decide +kernel
theorem dL_law_371 : decode cL_law 371 = .ok (.ifCond .ne 5, 3) := by decide +kernel
theorem dL_law_374 : decode cL_law 374 = .ok (.iconst 0, 1) := by decide +kernel
theorem dL_law_375 : decode cL_law 375 = .ok (.ireturn, 1) := by decide +kernel
theorem dL_law_376 : decode cL_law 376 = .ok (.iinc 5 1, 3) := by decide +kernel
theorem dL_law_379 : decode cL_law 379 = .ok (.goto (-310), 3) := by decide +kernel
theorem dL_law_382 : decode cL_law 382 = .ok (.iinc 1 1, 3) := by decide +kernel
theorem dL_law_385 : decode cL_law 385 = .ok (.goto (-383), 3) := by decide +kernel
theorem dL_law_388 : decode cL_law 388 = .ok (.iconst 1, 1) := by decide +kernel
theorem dL_law_389 : decode cL_law 389 = .ok (.ireturn, 1) := by decide +kernel
end
section
theorem dJ5_init_d00df_0 : decode cJ5_init_d00df 0 = .ok (.aload_n 0, 1) := by decide +kernel
theorem dJ5_init_d00df_1 : decode cJ5_init_d00df 1 = .ok (.invokespecial 3, 3) := by decide +kernel
theorem dJ5_init_d00df_4 : decode cJ5_init_d00df 4 = .ok (.getstatic 18, 3) := by decide +kernel
theorem dJ5_init_d00df_7 : decode cJ5_init_d00df 7 = .ok (.ifCond .eq 18, 3) := by decide +kernel
theorem dJ5_init_d00df_10 : decode cJ5_init_d00df 10 = .ok (.aload_n 0, 1) := by decide +kernel
theorem dJ5_init_d00df_11 : decode cJ5_init_d00df 11 = .ok (.iload_n 1, 1) := by decide +kernel
theorem dJ5_init_d00df_12 : decode cJ5_init_d00df 12 = .ok (.newarray .byte, 2) := by decide +kernel
theorem dJ5_init_d00df_14 : decode cJ5_init_d00df 14 = .ok (.putfield 15, 3) := by decide +kernel
theorem dJ5_init_d00df_17 : decode cJ5_init_d00df 17 = .ok (.aload_n 0, 1) := by decide +kernel
theorem dJ5_init_d00df_18 : decode cJ5_init_d00df 18 = .ok (.iconst 0, 1) := by decide +kernel
theorem dJ5_init_d00df_19 : decode cJ5_init_d00df 19 = .ok (.putfield 22, 3) := by decide +kernel
theorem dJ5_init_d00df_22 : decode cJ5_init_d00df 22 = .ok (.goto 16, 3) := by decide +kernel
theorem dJ5_init_d00df_25 : decode cJ5_init_d00df 25 = .ok (.aload_n 0, 1) := by decide +kernel
theorem dJ5_init_d00df_26 : decode cJ5_init_d00df 26 = .ok (.iload_n 1, 1) := by decide +kernel
theorem dJ5_init_d00df_27 : decode cJ5_init_d00df 27 = .ok (.invokestatic 26, 3) := by decide +kernel
theorem dJ5_init_d00df_30 : decode cJ5_init_d00df 30 = .ok (.putfield 15, 3) := by decide +kernel
theorem dJ5_init_d00df_33 : decode cJ5_init_d00df 33 = .ok (.aload_n 0, 1) := by decide +kernel
theorem dJ5_init_d00df_34 : decode cJ5_init_d00df 34 = .ok (.iconst 1, 1) := by decide +kernel
theorem dJ5_init_d00df_35 : decode cJ5_init_d00df 35 = .ok (.putfield 22, 3) := by decide +kernel
theorem dJ5_init_d00df_38 : decode cJ5_init_d00df 38 = .ok (.return_, 1) := by decide +kernel
theorem dJ6_valueOf_2dffe_0 : decode cJ6_valueOf_2dffe 0 = .ok (.iload_n 0, 1) := by decide +kernel
theorem dJ6_valueOf_2dffe_1 : decode cJ6_valueOf_2dffe 1 = .ok (.bipush (-128), 2) := by decide +kernel
theorem dJ6_valueOf_2dffe_3 : decode cJ6_valueOf_2dffe 3 = .ok (.if_icmp .lt 20, 3) := by decide +kernel
theorem dJ6_valueOf_2dffe_6 : decode cJ6_valueOf_2dffe 6 = .ok (.iload_n 0, 1) := by decide +kernel
theorem dJ6_valueOf_2dffe_7 : decode cJ6_valueOf_2dffe 7 = .ok (.getstatic 191, 3) := by decide +kernel
theorem dJ6_valueOf_2dffe_10 : decode cJ6_valueOf_2dffe 10 = .ok (.if_icmp .gt 13, 3) := by decide +kernel
theorem dJ6_valueOf_2dffe_13 : decode cJ6_valueOf_2dffe 13 = .ok (.getstatic 195, 3) := by decide +kernel
theorem dJ6_valueOf_2dffe_16 : decode cJ6_valueOf_2dffe 16 = .ok (.iload_n 0, 1) := by decide +kernel
theorem dJ6_valueOf_2dffe_17 : decode cJ6_valueOf_2dffe 17 = .ok (.sipush 128, 3) := by decide +kernel
theorem dJ6_valueOf_2dffe_20 : decode cJ6_valueOf_2dffe 20 = .ok (.iadd, 1) := by decide +kernel
theorem dJ6_valueOf_2dffe_21 : decode cJ6_valueOf_2dffe 21 = .ok (.aaload, 1) := by decide +kernel
theorem dJ6_valueOf_2dffe_22 : decode cJ6_valueOf_2dffe 22 = .ok (.areturn, 1) := by decide +kernel
theorem dJ6_valueOf_2dffe_23 : decode cJ6_valueOf_2dffe 23 = .ok (.new 1, 3) := by decide +kernel
theorem dJ6_valueOf_2dffe_26 : decode cJ6_valueOf_2dffe 26 = .ok (.dup, 1) := by decide +kernel
theorem dJ6_valueOf_2dffe_27 : decode cJ6_valueOf_2dffe 27 = .ok (.iload_n 0, 1) := by decide +kernel
theorem dJ6_valueOf_2dffe_28 : decode cJ6_valueOf_2dffe 28 = .ok (.invokespecial 199, 3) := by decide +kernel
theorem dJ6_valueOf_2dffe_31 : decode cJ6_valueOf_2dffe 31 = .ok (.areturn, 1) := by decide +kernel
theorem dJ6_init_d00df_0 : decode cJ6_init_d00df 0 = .ok (.aload_n 0, 1) := by decide +kernel
theorem dJ6_init_d00df_1 : decode cJ6_init_d00df 1 = .ok (.invokespecial 202, 3) := by decide +kernel
theorem dJ6_init_d00df_4 : decode cJ6_init_d00df 4 = .ok (.aload_n 0, 1) := by decide +kernel
theorem dJ6_init_d00df_5 : decode cJ6_init_d00df 5 = .ok (.iload_n 1, 1) := by decide +kernel
theorem dJ6_init_d00df_6 : decode cJ6_init_d00df 6 = .ok (.putfield 205, 3) := by decide +kernel
theorem dJ6_init_d00df_9 : decode cJ6_init_d00df 9 = .ok (.return_, 1) := by decide +kernel
theorem dJ6_intValue_8abf5_0 : decode cJ6_intValue_8abf5 0 = .ok (.aload_n 0, 1) := by decide +kernel
theorem dJ6_intValue_8abf5_1 : decode cJ6_intValue_8abf5 1 = .ok (.getfield 205, 3) := by decide +kernel
theorem dJ6_intValue_8abf5_4 : decode cJ6_intValue_8abf5 4 = .ok (.ireturn, 1) := by decide +kernel
theorem dJ6_bitCount_0f7a4_0 : decode cJ6_bitCount_0f7a4 0 = .ok (.iload_n 0, 1) := by decide +kernel
theorem dJ6_bitCount_0f7a4_1 : decode cJ6_bitCount_0f7a4 1 = .ok (.iload_n 0, 1) := by decide +kernel
theorem dJ6_bitCount_0f7a4_2 : decode cJ6_bitCount_0f7a4 2 = .ok (.iconst 1, 1) := by decide +kernel
theorem dJ6_bitCount_0f7a4_3 : decode cJ6_bitCount_0f7a4 3 = .ok (.iushr, 1) := by decide +kernel
theorem dJ6_bitCount_0f7a4_4 : decode cJ6_bitCount_0f7a4 4 = .ok (.ldc_w 265, 3) := by decide +kernel
theorem dJ6_bitCount_0f7a4_7 : decode cJ6_bitCount_0f7a4 7 = .ok (.iand, 1) := by decide +kernel
theorem dJ6_bitCount_0f7a4_8 : decode cJ6_bitCount_0f7a4 8 = .ok (.isub, 1) := by decide +kernel
theorem dJ6_bitCount_0f7a4_9 : decode cJ6_bitCount_0f7a4 9 = .ok (.istore_n 0, 1) := by decide +kernel
theorem dJ6_bitCount_0f7a4_10 : decode cJ6_bitCount_0f7a4 10 = .ok (.iload_n 0, 1) := by decide +kernel
theorem dJ6_bitCount_0f7a4_11 : decode cJ6_bitCount_0f7a4 11 = .ok (.ldc_w 266, 3) := by decide +kernel
theorem dJ6_bitCount_0f7a4_14 : decode cJ6_bitCount_0f7a4 14 = .ok (.iand, 1) := by decide +kernel
theorem dJ6_bitCount_0f7a4_15 : decode cJ6_bitCount_0f7a4 15 = .ok (.iload_n 0, 1) := by decide +kernel
theorem dJ6_bitCount_0f7a4_16 : decode cJ6_bitCount_0f7a4 16 = .ok (.iconst 2, 1) := by decide +kernel
theorem dJ6_bitCount_0f7a4_17 : decode cJ6_bitCount_0f7a4 17 = .ok (.iushr, 1) := by decide +kernel
theorem dJ6_bitCount_0f7a4_18 : decode cJ6_bitCount_0f7a4 18 = .ok (.ldc_w 266, 3) := by decide +kernel
theorem dJ6_bitCount_0f7a4_21 : decode cJ6_bitCount_0f7a4 21 = .ok (.iand, 1) := by decide +kernel
theorem dJ6_bitCount_0f7a4_22 : decode cJ6_bitCount_0f7a4 22 = .ok (.iadd, 1) := by decide +kernel
theorem dJ6_bitCount_0f7a4_23 : decode cJ6_bitCount_0f7a4 23 = .ok (.istore_n 0, 1) := by decide +kernel
theorem dJ6_bitCount_0f7a4_24 : decode cJ6_bitCount_0f7a4 24 = .ok (.iload_n 0, 1) := by decide +kernel
theorem dJ6_bitCount_0f7a4_25 : decode cJ6_bitCount_0f7a4 25 = .ok (.iload_n 0, 1) := by decide +kernel
theorem dJ6_bitCount_0f7a4_26 : decode cJ6_bitCount_0f7a4 26 = .ok (.iconst 4, 1) := by decide +kernel
theorem dJ6_bitCount_0f7a4_27 : decode cJ6_bitCount_0f7a4 27 = .ok (.iushr, 1) := by decide +kernel
theorem dJ6_bitCount_0f7a4_28 : decode cJ6_bitCount_0f7a4 28 = .ok (.iadd, 1) := by decide +kernel
theorem dJ6_bitCount_0f7a4_29 : decode cJ6_bitCount_0f7a4 29 = .ok (.ldc_w 267, 3) := by decide +kernel
theorem dJ6_bitCount_0f7a4_32 : decode cJ6_bitCount_0f7a4 32 = .ok (.iand, 1) := by decide +kernel
theorem dJ6_bitCount_0f7a4_33 : decode cJ6_bitCount_0f7a4 33 = .ok (.istore_n 0, 1) := by decide +kernel
theorem dJ6_bitCount_0f7a4_34 : decode cJ6_bitCount_0f7a4 34 = .ok (.iload_n 0, 1) := by decide +kernel
theorem dJ6_bitCount_0f7a4_35 : decode cJ6_bitCount_0f7a4 35 = .ok (.iload_n 0, 1) := by decide +kernel
theorem dJ6_bitCount_0f7a4_36 : decode cJ6_bitCount_0f7a4 36 = .ok (.bipush 8, 2) := by decide +kernel
theorem dJ6_bitCount_0f7a4_38 : decode cJ6_bitCount_0f7a4 38 = .ok (.iushr, 1) := by decide +kernel
theorem dJ6_bitCount_0f7a4_39 : decode cJ6_bitCount_0f7a4 39 = .ok (.iadd, 1) := by decide +kernel
theorem dJ6_bitCount_0f7a4_40 : decode cJ6_bitCount_0f7a4 40 = .ok (.istore_n 0, 1) := by decide +kernel
theorem dJ6_bitCount_0f7a4_41 : decode cJ6_bitCount_0f7a4 41 = .ok (.iload_n 0, 1) := by decide +kernel
theorem dJ6_bitCount_0f7a4_42 : decode cJ6_bitCount_0f7a4 42 = .ok (.iload_n 0, 1) := by decide +kernel
theorem dJ6_bitCount_0f7a4_43 : decode cJ6_bitCount_0f7a4 43 = .ok (.bipush 16, 2) := by decide +kernel
theorem dJ6_bitCount_0f7a4_45 : decode cJ6_bitCount_0f7a4 45 = .ok (.iushr, 1) := by decide +kernel
theorem dJ6_bitCount_0f7a4_46 : decode cJ6_bitCount_0f7a4 46 = .ok (.iadd, 1) := by decide +kernel
theorem dJ6_bitCount_0f7a4_47 : decode cJ6_bitCount_0f7a4 47 = .ok (.istore_n 0, 1) := by decide +kernel
theorem dJ6_bitCount_0f7a4_48 : decode cJ6_bitCount_0f7a4 48 = .ok (.iload_n 0, 1) := by decide +kernel
theorem dJ6_bitCount_0f7a4_49 : decode cJ6_bitCount_0f7a4 49 = .ok (.bipush 63, 2) := by decide +kernel
theorem dJ6_bitCount_0f7a4_51 : decode cJ6_bitCount_0f7a4 51 = .ok (.iand, 1) := by decide +kernel
theorem dJ6_bitCount_0f7a4_52 : decode cJ6_bitCount_0f7a4 52 = .ok (.ireturn, 1) := by decide +kernel
theorem dJ9_floorDiv_7cf53_0 : decode cJ9_floorDiv_7cf53 0 = .ok (.iload_n 0, 1) := by decide +kernel
theorem dJ9_floorDiv_7cf53_1 : decode cJ9_floorDiv_7cf53 1 = .ok (.iload_n 1, 1) := by decide +kernel
theorem dJ9_floorDiv_7cf53_2 : decode cJ9_floorDiv_7cf53 2 = .ok (.idiv, 1) := by decide +kernel
theorem dJ9_floorDiv_7cf53_3 : decode cJ9_floorDiv_7cf53 3 = .ok (.istore_n 2, 1) := by decide +kernel
theorem dJ9_floorDiv_7cf53_4 : decode cJ9_floorDiv_7cf53 4 = .ok (.iload_n 0, 1) := by decide +kernel
theorem dJ9_floorDiv_7cf53_5 : decode cJ9_floorDiv_7cf53 5 = .ok (.iload_n 1, 1) := by decide +kernel
theorem dJ9_floorDiv_7cf53_6 : decode cJ9_floorDiv_7cf53 6 = .ok (.ixor, 1) := by decide +kernel
theorem dJ9_floorDiv_7cf53_7 : decode cJ9_floorDiv_7cf53 7 = .ok (.ifCond .ge 14, 3) := by decide +kernel
theorem dJ9_floorDiv_7cf53_10 : decode cJ9_floorDiv_7cf53 10 = .ok (.iload_n 2, 1) := by decide +kernel
theorem dJ9_floorDiv_7cf53_11 : decode cJ9_floorDiv_7cf53 11 = .ok (.iload_n 1, 1) := by decide +kernel
theorem dJ9_floorDiv_7cf53_12 : decode cJ9_floorDiv_7cf53 12 = .ok (.imul, 1) := by decide +kernel
theorem dJ9_floorDiv_7cf53_13 : decode cJ9_floorDiv_7cf53 13 = .ok (.iload_n 0, 1) := by decide +kernel
theorem dJ9_floorDiv_7cf53_14 : decode cJ9_floorDiv_7cf53 14 = .ok (.if_icmp .eq 7, 3) := by decide +kernel
theorem dJ9_floorDiv_7cf53_17 : decode cJ9_floorDiv_7cf53 17 = .ok (.iload_n 2, 1) := by decide +kernel
theorem dJ9_floorDiv_7cf53_18 : decode cJ9_floorDiv_7cf53 18 = .ok (.iconst 1, 1) := by decide +kernel
theorem dJ9_floorDiv_7cf53_19 : decode cJ9_floorDiv_7cf53 19 = .ok (.isub, 1) := by decide +kernel
theorem dJ9_floorDiv_7cf53_20 : decode cJ9_floorDiv_7cf53 20 = .ok (.ireturn, 1) := by decide +kernel
theorem dJ9_floorDiv_7cf53_21 : decode cJ9_floorDiv_7cf53 21 = .ok (.iload_n 2, 1) := by decide +kernel
theorem dJ9_floorDiv_7cf53_22 : decode cJ9_floorDiv_7cf53 22 = .ok (.ireturn, 1) := by decide +kernel
theorem dJ9_floorDiv_f86c9_0 : decode cJ9_floorDiv_f86c9 0 = .ok (.lload_n 0, 1) := by decide +kernel
theorem dJ9_floorDiv_f86c9_1 : decode cJ9_floorDiv_f86c9 1 = .ok (.lload_n 2, 1) := by decide +kernel
theorem dJ9_floorDiv_f86c9_2 : decode cJ9_floorDiv_f86c9 2 = .ok (.ldiv, 1) := by decide +kernel
theorem dJ9_floorDiv_f86c9_3 : decode cJ9_floorDiv_f86c9 3 = .ok (.lstore 4, 2) := by decide +kernel
theorem dJ9_floorDiv_f86c9_5 : decode cJ9_floorDiv_f86c9 5 = .ok (.lload_n 0, 1) := by decide +kernel
theorem dJ9_floorDiv_f86c9_6 : decode cJ9_floorDiv_f86c9 6 = .ok (.lload_n 2, 1) := by decide +kernel
theorem dJ9_floorDiv_f86c9_7 : decode cJ9_floorDiv_f86c9 7 = .ok (.lxor, 1) := by decide +kernel
theorem dJ9_floorDiv_f86c9_8 : decode cJ9_floorDiv_f86c9 8 = .ok (.lconst 0, 1) := by decide +kernel
theorem dJ9_floorDiv_f86c9_9 : decode cJ9_floorDiv_f86c9 9 = .ok (.lcmp, 1) := by decide +kernel
theorem dJ9_floorDiv_f86c9_10 : decode cJ9_floorDiv_f86c9 10 = .ok (.ifCond .ge 17, 3) := by decide +kernel
theorem dJ9_floorDiv_f86c9_13 : decode cJ9_floorDiv_f86c9 13 = .ok (.lload 4, 2) := by decide +kernel
theorem dJ9_floorDiv_f86c9_15 : decode cJ9_floorDiv_f86c9 15 = .ok (.lload_n 2, 1) := by decide +kernel
theorem dJ9_floorDiv_f86c9_16 : decode cJ9_floorDiv_f86c9 16 = .ok (.lmul, 1) := by decide +kernel
theorem dJ9_floorDiv_f86c9_17 : decode cJ9_floorDiv_f86c9 17 = .ok (.lload_n 0, 1) := by decide +kernel
theorem dJ9_floorDiv_f86c9_18 : decode cJ9_floorDiv_f86c9 18 = .ok (.lcmp, 1) := by decide +kernel
theorem dJ9_floorDiv_f86c9_19 : decode cJ9_floorDiv_f86c9 19 = .ok (.ifCond .eq 8, 3) := by decide +kernel
theorem dJ9_floorDiv_f86c9_22 : decode cJ9_floorDiv_f86c9 22 = .ok (.lload 4, 2) := by decide +kernel
theorem dJ9_floorDiv_f86c9_24 : decode cJ9_floorDiv_f86c9 24 = .ok (.lconst 1, 1) := by decide +kernel
theorem dJ9_floorDiv_f86c9_25 : decode cJ9_floorDiv_f86c9 25 = .ok (.lsub, 1) := by decide +kernel
theorem dJ9_floorDiv_f86c9_26 : decode cJ9_floorDiv_f86c9 26 = .ok (.lreturn, 1) := by decide +kernel
theorem dJ9_floorDiv_f86c9_27 : decode cJ9_floorDiv_f86c9 27 = .ok (.lload 4, 2) := by decide +kernel
theorem dJ9_floorDiv_f86c9_29 : decode cJ9_floorDiv_f86c9 29 = .ok (.lreturn, 1) := by decide +kernel
theorem dJ9_floorMod_7cf53_0 : decode cJ9_floorMod_7cf53 0 = .ok (.iload_n 0, 1) := by decide +kernel
theorem dJ9_floorMod_7cf53_1 : decode cJ9_floorMod_7cf53 1 = .ok (.iload_n 1, 1) := by decide +kernel
theorem dJ9_floorMod_7cf53_2 : decode cJ9_floorMod_7cf53 2 = .ok (.irem, 1) := by decide +kernel
theorem dJ9_floorMod_7cf53_3 : decode cJ9_floorMod_7cf53 3 = .ok (.istore_n 2, 1) := by decide +kernel
theorem dJ9_floorMod_7cf53_4 : decode cJ9_floorMod_7cf53 4 = .ok (.iload_n 0, 1) := by decide +kernel
theorem dJ9_floorMod_7cf53_5 : decode cJ9_floorMod_7cf53 5 = .ok (.iload_n 1, 1) := by decide +kernel
theorem dJ9_floorMod_7cf53_6 : decode cJ9_floorMod_7cf53 6 = .ok (.ixor, 1) := by decide +kernel
theorem dJ9_floorMod_7cf53_7 : decode cJ9_floorMod_7cf53 7 = .ok (.ifCond .ge 11, 3) := by decide +kernel
theorem dJ9_floorMod_7cf53_10 : decode cJ9_floorMod_7cf53 10 = .ok (.iload_n 2, 1) := by decide +kernel
theorem dJ9_floorMod_7cf53_11 : decode cJ9_floorMod_7cf53 11 = .ok (.ifCond .eq 7, 3) := by decide +kernel
theorem dJ9_floorMod_7cf53_14 : decode cJ9_floorMod_7cf53 14 = .ok (.iload_n 2, 1) := by decide +kernel
theorem dJ9_floorMod_7cf53_15 : decode cJ9_floorMod_7cf53 15 = .ok (.iload_n 1, 1) := by decide +kernel
theorem dJ9_floorMod_7cf53_16 : decode cJ9_floorMod_7cf53 16 = .ok (.iadd, 1) := by decide +kernel
theorem dJ9_floorMod_7cf53_17 : decode cJ9_floorMod_7cf53 17 = .ok (.ireturn, 1) := by decide +kernel
theorem dJ9_floorMod_7cf53_18 : decode cJ9_floorMod_7cf53 18 = .ok (.iload_n 2, 1) := by decide +kernel
theorem dJ9_floorMod_7cf53_19 : decode cJ9_floorMod_7cf53 19 = .ok (.ireturn, 1) := by decide +kernel
theorem dJ9_abs_0f7a4_0 : decode cJ9_abs_0f7a4 0 = .ok (.iload_n 0, 1) := by decide +kernel
theorem dJ9_abs_0f7a4_1 : decode cJ9_abs_0f7a4 1 = .ok (.ifCond .ge 8, 3) := by decide +kernel
theorem dJ9_abs_0f7a4_4 : decode cJ9_abs_0f7a4 4 = .ok (.iload_n 0, 1) := by decide +kernel
theorem dJ9_abs_0f7a4_5 : decode cJ9_abs_0f7a4 5 = .ok (.ineg, 1) := by decide +kernel
theorem dJ9_abs_0f7a4_6 : decode cJ9_abs_0f7a4 6 = .ok (.goto 4, 3) := by decide +kernel
theorem dJ9_abs_0f7a4_9 : decode cJ9_abs_0f7a4 9 = .ok (.iload_n 0, 1) := by decide +kernel
theorem dJ9_abs_0f7a4_10 : decode cJ9_abs_0f7a4 10 = .ok (.ireturn, 1) := by decide +kernel
theorem dJ9_max_7cf53_0 : decode cJ9_max_7cf53 0 = .ok (.iload_n 0, 1) := by decide +kernel
theorem dJ9_max_7cf53_1 : decode cJ9_max_7cf53 1 = .ok (.iload_n 1, 1) := by decide +kernel
theorem dJ9_max_7cf53_2 : decode cJ9_max_7cf53 2 = .ok (.if_icmp .lt 7, 3) := by decide +kernel
theorem dJ9_max_7cf53_5 : decode cJ9_max_7cf53 5 = .ok (.iload_n 0, 1) := by decide +kernel
theorem dJ9_max_7cf53_6 : decode cJ9_max_7cf53 6 = .ok (.goto 4, 3) := by decide +kernel
theorem dJ9_max_7cf53_9 : decode cJ9_max_7cf53 9 = .ok (.iload_n 1, 1) := by decide +kernel
theorem dJ9_max_7cf53_10 : decode cJ9_max_7cf53 10 = .ok (.ireturn, 1) := by decide +kernel
theorem dJ9_min_7cf53_0 : decode cJ9_min_7cf53 0 = .ok (.iload_n 0, 1) := by decide +kernel
theorem dJ9_min_7cf53_1 : decode cJ9_min_7cf53 1 = .ok (.iload_n 1, 1) := by decide +kernel
theorem dJ9_min_7cf53_2 : decode cJ9_min_7cf53 2 = .ok (.if_icmp .gt 7, 3) := by decide +kernel
theorem dJ9_min_7cf53_5 : decode cJ9_min_7cf53 5 = .ok (.iload_n 0, 1) := by decide +kernel
theorem dJ9_min_7cf53_6 : decode cJ9_min_7cf53 6 = .ok (.goto 4, 3) := by decide +kernel
theorem dJ9_min_7cf53_9 : decode cJ9_min_7cf53 9 = .ok (.iload_n 1, 1) := by decide +kernel
theorem dJ9_min_7cf53_10 : decode cJ9_min_7cf53 10 = .ok (.ireturn, 1) := by decide +kernel
theorem dJxd2413_init_da8c8_0 : decode cJxd2413_init_da8c8 0 = .ok (.aload_n 0, 1) := by decide +kernel
theorem dJxd2413_init_da8c8_1 : decode cJxd2413_init_da8c8 1 = .ok (.invokespecial 1, 3) := by decide +kernel
theorem dJxd2413_init_da8c8_4 : decode cJxd2413_init_da8c8 4 = .ok (.return_, 1) := by decide +kernel
theorem dJ4_init_da8c8_0 : decode cJ4_init_da8c8 0 = .ok (.aload_n 0, 1) := by decide +kernel
theorem dJ4_init_da8c8_1 : decode cJ4_init_da8c8 1 = .ok (.bipush 16, 2) := by decide +kernel
theorem dJ4_init_da8c8_3 : decode cJ4_init_da8c8 3 = .ok (.invokespecial 1, 3) := by decide +kernel
theorem dJ4_init_da8c8_6 : decode cJ4_init_da8c8 6 = .ok (.return_, 1) := by decide +kernel
theorem dJ2_newBytesFor_77867_0 : decode cJ2_newBytesFor_77867 0 = .ok (.iload_n 0, 1) := by decide +kernel
theorem dJ2_newBytesFor_77867_1 : decode cJ2_newBytesFor_77867 1 = .ok (.invokestatic 11, 3) := by decide +kernel
theorem dJ2_newBytesFor_77867_4 : decode cJ2_newBytesFor_77867 4 = .ok (.newarray .byte, 2) := by decide +kernel
theorem dJ2_newBytesFor_77867_6 : decode cJ2_newBytesFor_77867 6 = .ok (.areturn, 1) := by decide +kernel
theorem dJ2_newBytesLength_0f7a4_0 : decode cJ2_newBytesLength_0f7a4 0 = .ok (.iload_n 0, 1) := by decide +kernel
theorem dJ2_newBytesLength_0f7a4_1 : decode cJ2_newBytesLength_0f7a4 1 = .ok (.ifCond .ge 11, 3) := by decide +kernel
theorem dJ2_newBytesLength_0f7a4_4 : decode cJ2_newBytesLength_0f7a4 4 = .ok (.new 17, 3) := by decide +kernel
theorem dJ2_newBytesLength_0f7a4_7 : decode cJ2_newBytesLength_0f7a4 7 = .ok (.dup, 1) := by decide +kernel
theorem dJ2_newBytesLength_0f7a4_8 : decode cJ2_newBytesLength_0f7a4 8 = .ok (.invokespecial 19, 3) := by decide +kernel
theorem dJ2_newBytesLength_0f7a4_11 : decode cJ2_newBytesLength_0f7a4 11 = .ok (.athrow, 1) := by decide +kernel
theorem dJ2_newBytesLength_0f7a4_12 : decode cJ2_newBytesLength_0f7a4 12 = .ok (.iload_n 0, 1) := by decide +kernel
theorem dJ2_newBytesLength_0f7a4_13 : decode cJ2_newBytesLength_0f7a4 13 = .ok (.ldc 20, 2) := by decide +kernel
theorem dJ2_newBytesLength_0f7a4_15 : decode cJ2_newBytesLength_0f7a4 15 = .ok (.if_icmp .lt 40, 3) := by decide +kernel
theorem dJ2_newBytesLength_0f7a4_18 : decode cJ2_newBytesLength_0f7a4 18 = .ok (.new 21, 3) := by decide +kernel
theorem dJ2_newBytesLength_0f7a4_21 : decode cJ2_newBytesLength_0f7a4 21 = .ok (.dup, 1) := by decide +kernel
theorem dJ2_newBytesLength_0f7a4_22 : decode cJ2_newBytesLength_0f7a4 22 = .ok (.new 23, 3) := by decide +kernel
theorem dJ2_newBytesLength_0f7a4_25 : decode cJ2_newBytesLength_0f7a4 25 = .ok (.dup, 1) := by decide +kernel
theorem dJ2_newBytesLength_0f7a4_26 : decode cJ2_newBytesLength_0f7a4 26 = .ok (.invokespecial 25, 3) := by decide +kernel
theorem dJ2_newBytesLength_0f7a4_29 : decode cJ2_newBytesLength_0f7a4 29 = .ok (.ldc 26, 2) := by decide +kernel
theorem dJ2_newBytesLength_0f7a4_31 : decode cJ2_newBytesLength_0f7a4 31 = .ok (.invokevirtual 28, 3) := by decide +kernel
theorem dJ2_newBytesLength_0f7a4_34 : decode cJ2_newBytesLength_0f7a4 34 = .ok (.iload_n 0, 1) := by decide +kernel
theorem dJ2_newBytesLength_0f7a4_35 : decode cJ2_newBytesLength_0f7a4 35 = .ok (.invokevirtual 32, 3) := by decide +kernel
theorem dJ2_newBytesLength_0f7a4_38 : decode cJ2_newBytesLength_0f7a4 38 = .ok (.ldc 35, 2) := by decide +kernel
theorem dJ2_newBytesLength_0f7a4_40 : decode cJ2_newBytesLength_0f7a4 40 = .ok (.invokevirtual 28, 3) := by decide +kernel
theorem dJ2_newBytesLength_0f7a4_43 : decode cJ2_newBytesLength_0f7a4 43 = .ok (.ldc 20, 2) := by decide +kernel
theorem dJ2_newBytesLength_0f7a4_45 : decode cJ2_newBytesLength_0f7a4 45 = .ok (.invokevirtual 32, 3) := by decide +kernel
theorem dJ2_newBytesLength_0f7a4_48 : decode cJ2_newBytesLength_0f7a4 48 = .ok (.invokevirtual 37, 3) := by decide +kernel
theorem dJ2_newBytesLength_0f7a4_51 : decode cJ2_newBytesLength_0f7a4 51 = .ok (.invokespecial 41, 3) := by decide +kernel
theorem dJ2_newBytesLength_0f7a4_54 : decode cJ2_newBytesLength_0f7a4 54 = .ok (.athrow, 1) := by decide +kernel
theorem dJ2_newBytesLength_0f7a4_55 : decode cJ2_newBytesLength_0f7a4 55 = .ok (.iload_n 0, 1) := by decide +kernel
theorem dJ2_newBytesLength_0f7a4_56 : decode cJ2_newBytesLength_0f7a4 56 = .ok (.iconst 1, 1) := by decide +kernel
theorem dJ2_newBytesLength_0f7a4_57 : decode cJ2_newBytesLength_0f7a4 57 = .ok (.ishl, 1) := by decide +kernel
theorem dJ2_newBytesLength_0f7a4_58 : decode cJ2_newBytesLength_0f7a4 58 = .ok (.ireturn, 1) := by decide +kernel
theorem dJxa1e45_init_da8c8_0 : decode cJxa1e45_init_da8c8 0 = .ok (.aload_n 0, 1) := by decide +kernel
theorem dJxa1e45_init_da8c8_1 : decode cJxa1e45_init_da8c8 1 = .ok (.invokespecial 1, 3) := by decide +kernel
theorem dJxa1e45_init_da8c8_4 : decode cJxa1e45_init_da8c8 4 = .ok (.return_, 1) := by decide +kernel
theorem dJxc12de_init_da8c8_0 : decode cJxc12de_init_da8c8 0 = .ok (.aload_n 0, 1) := by decide +kernel
theorem dJxc12de_init_da8c8_1 : decode cJxc12de_init_da8c8 1 = .ok (.invokespecial 1, 3) := by decide +kernel
theorem dJxc12de_init_da8c8_4 : decode cJxc12de_init_da8c8 4 = .ok (.aload_n 0, 1) := by decide +kernel
theorem dJxc12de_init_da8c8_5 : decode cJxc12de_init_da8c8 5 = .ok (.iconst 0, 1) := by decide +kernel
theorem dJxc12de_init_da8c8_6 : decode cJxc12de_init_da8c8 6 = .ok (.putfield 7, 3) := by decide +kernel
theorem dJxc12de_init_da8c8_9 : decode cJxc12de_init_da8c8 9 = .ok (.return_, 1) := by decide +kernel
theorem dJx4a65c_init_da8c8_0 : decode cJx4a65c_init_da8c8 0 = .ok (.aload_n 0, 1) := by decide +kernel
theorem dJx4a65c_init_da8c8_1 : decode cJx4a65c_init_da8c8 1 = .ok (.invokespecial 1, 3) := by decide +kernel
theorem dJx4a65c_init_da8c8_4 : decode cJx4a65c_init_da8c8 4 = .ok (.aload_n 0, 1) := by decide +kernel
theorem dJx4a65c_init_da8c8_5 : decode cJx4a65c_init_da8c8 5 = .ok (.getstatic 39, 3) := by decide +kernel
theorem dJx4a65c_init_da8c8_8 : decode cJx4a65c_init_da8c8 8 = .ok (.putfield 9, 3) := by decide +kernel
theorem dJx4a65c_init_da8c8_11 : decode cJx4a65c_init_da8c8 11 = .ok (.return_, 1) := by decide +kernel
theorem dJx4a65c_grow_92f84_0 : decode cJx4a65c_grow_92f84 0 = .ok (.aload_n 0, 1) := by decide +kernel
theorem dJx4a65c_grow_92f84_1 : decode cJx4a65c_grow_92f84 1 = .ok (.getfield 9, 3) := by decide +kernel
theorem dJx4a65c_grow_92f84_4 : decode cJx4a65c_grow_92f84 4 = .ok (.arraylength, 1) := by decide +kernel
theorem dJx4a65c_grow_92f84_5 : decode cJx4a65c_grow_92f84 5 = .ok (.istore_n 2, 1) := by decide +kernel
theorem dJx4a65c_grow_92f84_6 : decode cJx4a65c_grow_92f84 6 = .ok (.iload_n 2, 1) := by decide +kernel
theorem dJx4a65c_grow_92f84_7 : decode cJx4a65c_grow_92f84 7 = .ok (.ifCond .gt 13, 3) := by decide +kernel
theorem dJx4a65c_grow_92f84_10 : decode cJx4a65c_grow_92f84 10 = .ok (.aload_n 0, 1) := by decide +kernel
theorem dJx4a65c_grow_92f84_11 : decode cJx4a65c_grow_92f84 11 = .ok (.getfield 9, 3) := by decide +kernel
theorem dJx4a65c_grow_92f84_14 : decode cJx4a65c_grow_92f84 14 = .ok (.getstatic 39, 3) := by decide +kernel
theorem dJx4a65c_grow_92f84_17 : decode cJx4a65c_grow_92f84 17 = .ok (.if_acmp .eq 28, 3) := by decide +kernel
theorem dJx4a65c_grow_92f84_20 : decode cJx4a65c_grow_92f84 20 = .ok (.iload_n 2, 1) := by decide +kernel
theorem dJx4a65c_grow_92f84_21 : decode cJx4a65c_grow_92f84 21 = .ok (.iload_n 1, 1) := by decide +kernel
theorem dJx4a65c_grow_92f84_22 : decode cJx4a65c_grow_92f84 22 = .ok (.iload_n 2, 1) := by decide +kernel
theorem dJx4a65c_grow_92f84_23 : decode cJx4a65c_grow_92f84 23 = .ok (.isub, 1) := by decide +kernel
theorem dJx4a65c_grow_92f84_24 : decode cJx4a65c_grow_92f84 24 = .ok (.iload_n 2, 1) := by decide +kernel
theorem dJx4a65c_grow_92f84_25 : decode cJx4a65c_grow_92f84 25 = .ok (.iconst 1, 1) := by decide +kernel
theorem dJx4a65c_grow_92f84_26 : decode cJx4a65c_grow_92f84 26 = .ok (.ishr, 1) := by decide +kernel
theorem dJx4a65c_grow_92f84_27 : decode cJx4a65c_grow_92f84 27 = .ok (.invokestatic 73, 3) := by decide +kernel
theorem dJx4a65c_grow_92f84_30 : decode cJx4a65c_grow_92f84 30 = .ok (.istore_n 3, 1) := by decide +kernel
theorem dJx4a65c_grow_92f84_31 : decode cJx4a65c_grow_92f84 31 = .ok (.aload_n 0, 1) := by decide +kernel
theorem dJx4a65c_grow_92f84_32 : decode cJx4a65c_grow_92f84 32 = .ok (.aload_n 0, 1) := by decide +kernel
theorem dJx4a65c_grow_92f84_33 : decode cJx4a65c_grow_92f84 33 = .ok (.getfield 9, 3) := by decide +kernel
theorem dJx4a65c_grow_92f84_36 : decode cJx4a65c_grow_92f84 36 = .ok (.iload_n 3, 1) := by decide +kernel
theorem dJx4a65c_grow_92f84_37 : decode cJx4a65c_grow_92f84 37 = .ok (.invokestatic 66, 3) := by decide +kernel
theorem dJx4a65c_grow_92f84_40 : decode cJx4a65c_grow_92f84 40 = .ok (.dup_x1, 1) := by decide +kernel
theorem dJx4a65c_grow_92f84_41 : decode cJx4a65c_grow_92f84 41 = .ok (.putfield 9, 3) := by decide +kernel
theorem dJx4a65c_grow_92f84_44 : decode cJx4a65c_grow_92f84 44 = .ok (.areturn, 1) := by decide +kernel
theorem dJx4a65c_grow_92f84_45 : decode cJx4a65c_grow_92f84 45 = .ok (.aload_n 0, 1) := by decide +kernel
theorem dJx4a65c_grow_92f84_46 : decode cJx4a65c_grow_92f84 46 = .ok (.bipush 10, 2) := by decide +kernel
theorem dJx4a65c_grow_92f84_48 : decode cJx4a65c_grow_92f84 48 = .ok (.iload_n 1, 1) := by decide +kernel
theorem dJx4a65c_grow_92f84_49 : decode cJx4a65c_grow_92f84 49 = .ok (.invokestatic 79, 3) := by decide +kernel
theorem dJx4a65c_grow_92f84_52 : decode cJx4a65c_grow_92f84 52 = .ok (.anewarray 7, 3) := by decide +kernel
theorem dJx4a65c_grow_92f84_55 : decode cJx4a65c_grow_92f84 55 = .ok (.dup_x1, 1) := by decide +kernel
theorem dJx4a65c_grow_92f84_56 : decode cJx4a65c_grow_92f84 56 = .ok (.putfield 9, 3) := by decide +kernel
theorem dJx4a65c_grow_92f84_59 : decode cJx4a65c_grow_92f84 59 = .ok (.areturn, 1) := by decide +kernel
theorem dJx4a65c_grow_d5877_0 : decode cJx4a65c_grow_d5877 0 = .ok (.aload_n 0, 1) := by decide +kernel
theorem dJx4a65c_grow_d5877_1 : decode cJx4a65c_grow_d5877 1 = .ok (.aload_n 0, 1) := by decide +kernel
theorem dJx4a65c_grow_d5877_2 : decode cJx4a65c_grow_d5877 2 = .ok (.getfield 48, 3) := by decide +kernel
theorem dJx4a65c_grow_d5877_5 : decode cJx4a65c_grow_d5877 5 = .ok (.iconst 1, 1) := by decide +kernel
theorem dJx4a65c_grow_d5877_6 : decode cJx4a65c_grow_d5877 6 = .ok (.iadd, 1) := by decide +kernel
theorem dJx4a65c_grow_d5877_7 : decode cJx4a65c_grow_d5877 7 = .ok (.invokevirtual 69, 3) := by decide +kernel
theorem dJx4a65c_grow_d5877_10 : decode cJx4a65c_grow_d5877 10 = .ok (.areturn, 1) := by decide +kernel
theorem dJx4a65c_size_8abf5_0 : decode cJx4a65c_size_8abf5 0 = .ok (.aload_n 0, 1) := by decide +kernel
theorem dJx4a65c_size_8abf5_1 : decode cJx4a65c_size_8abf5 1 = .ok (.getfield 48, 3) := by decide +kernel
theorem dJx4a65c_size_8abf5_4 : decode cJx4a65c_size_8abf5 4 = .ok (.ireturn, 1) := by decide +kernel
theorem dJx4a65c_isEmpty_aae02_0 : decode cJx4a65c_isEmpty_aae02 0 = .ok (.aload_n 0, 1) := by decide +kernel
theorem dJx4a65c_isEmpty_aae02_1 : decode cJx4a65c_isEmpty_aae02 1 = .ok (.getfield 48, 3) := by decide +kernel
theorem dJx4a65c_isEmpty_aae02_4 : decode cJx4a65c_isEmpty_aae02 4 = .ok (.ifCond .ne 7, 3) := by decide +kernel
theorem dJx4a65c_isEmpty_aae02_7 : decode cJx4a65c_isEmpty_aae02 7 = .ok (.iconst 1, 1) := by decide +kernel
theorem dJx4a65c_isEmpty_aae02_8 : decode cJx4a65c_isEmpty_aae02 8 = .ok (.goto 4, 3) := by decide +kernel
theorem dJx4a65c_isEmpty_aae02_11 : decode cJx4a65c_isEmpty_aae02 11 = .ok (.iconst 0, 1) := by decide +kernel
theorem dJx4a65c_isEmpty_aae02_12 : decode cJx4a65c_isEmpty_aae02 12 = .ok (.ireturn, 1) := by decide +kernel
theorem dJx4a65c_toArray_d5877_0 : decode cJx4a65c_toArray_d5877 0 = .ok (.aload_n 0, 1) := by decide +kernel
theorem dJx4a65c_toArray_d5877_1 : decode cJx4a65c_toArray_d5877 1 = .ok (.getfield 9, 3) := by decide +kernel
theorem dJx4a65c_toArray_d5877_4 : decode cJx4a65c_toArray_d5877 4 = .ok (.aload_n 0, 1) := by decide +kernel
theorem dJx4a65c_toArray_d5877_5 : decode cJx4a65c_toArray_d5877 5 = .ok (.getfield 48, 3) := by decide +kernel
theorem dJx4a65c_toArray_d5877_8 : decode cJx4a65c_toArray_d5877 8 = .ok (.invokestatic 66, 3) := by decide +kernel
theorem dJx4a65c_toArray_d5877_11 : decode cJx4a65c_toArray_d5877 11 = .ok (.areturn, 1) := by decide +kernel
theorem dJx4a65c_add_72be8_0 : decode cJx4a65c_add_72be8 0 = .ok (.iload_n 3, 1) := by decide +kernel
theorem dJx4a65c_add_72be8_1 : decode cJx4a65c_add_72be8 1 = .ok (.aload_n 2, 1) := by decide +kernel
theorem dJx4a65c_add_72be8_2 : decode cJx4a65c_add_72be8 2 = .ok (.arraylength, 1) := by decide +kernel
theorem dJx4a65c_add_72be8_3 : decode cJx4a65c_add_72be8 3 = .ok (.if_icmp .ne 8, 3) := by decide +kernel
theorem dJx4a65c_add_72be8_6 : decode cJx4a65c_add_72be8 6 = .ok (.aload_n 0, 1) := by decide +kernel
theorem dJx4a65c_add_72be8_7 : decode cJx4a65c_add_72be8 7 = .ok (.invokevirtual 129, 3) := by decide +kernel
theorem dJx4a65c_add_72be8_10 : decode cJx4a65c_add_72be8 10 = .ok (.astore_n 2, 1) := by decide +kernel
theorem dJx4a65c_add_72be8_11 : decode cJx4a65c_add_72be8 11 = .ok (.aload_n 2, 1) := by decide +kernel
theorem dJx4a65c_add_72be8_12 : decode cJx4a65c_add_72be8 12 = .ok (.iload_n 3, 1) := by decide +kernel
theorem dJx4a65c_add_72be8_13 : decode cJx4a65c_add_72be8 13 = .ok (.aload_n 1, 1) := by decide +kernel
theorem dJx4a65c_add_72be8_14 : decode cJx4a65c_add_72be8 14 = .ok (.aastore, 1) := by decide +kernel
theorem dJx4a65c_add_72be8_15 : decode cJx4a65c_add_72be8 15 = .ok (.aload_n 0, 1) := by decide +kernel
theorem dJx4a65c_add_72be8_16 : decode cJx4a65c_add_72be8 16 = .ok (.iload_n 3, 1) := by decide +kernel
theorem dJx4a65c_add_72be8_17 : decode cJx4a65c_add_72be8 17 = .ok (.iconst 1, 1) := by decide +kernel
theorem dJx4a65c_add_72be8_18 : decode cJx4a65c_add_72be8 18 = .ok (.iadd, 1) := by decide +kernel
theorem dJx4a65c_add_72be8_19 : decode cJx4a65c_add_72be8 19 = .ok (.putfield 48, 3) := by decide +kernel
theorem dJx4a65c_add_72be8_22 : decode cJx4a65c_add_72be8 22 = .ok (.return_, 1) := by decide +kernel
theorem dJx4a65c_add_9ea2d_0 : decode cJx4a65c_add_9ea2d 0 = .ok (.aload_n 0, 1) := by decide +kernel
theorem dJx4a65c_add_9ea2d_1 : decode cJx4a65c_add_9ea2d 1 = .ok (.dup, 1) := by decide +kernel
theorem dJx4a65c_add_9ea2d_2 : decode cJx4a65c_add_9ea2d 2 = .ok (.getfield 63, 3) := by decide +kernel
theorem dJx4a65c_add_9ea2d_5 : decode cJx4a65c_add_9ea2d 5 = .ok (.iconst 1, 1) := by decide +kernel
theorem dJx4a65c_add_9ea2d_6 : decode cJx4a65c_add_9ea2d 6 = .ok (.iadd, 1) := by decide +kernel
theorem dJx4a65c_add_9ea2d_7 : decode cJx4a65c_add_9ea2d 7 = .ok (.putfield 63, 3) := by decide +kernel
theorem dJx4a65c_add_9ea2d_10 : decode cJx4a65c_add_9ea2d 10 = .ok (.aload_n 0, 1) := by decide +kernel
theorem dJx4a65c_add_9ea2d_11 : decode cJx4a65c_add_9ea2d 11 = .ok (.aload_n 1, 1) := by decide +kernel
theorem dJx4a65c_add_9ea2d_12 : decode cJx4a65c_add_9ea2d 12 = .ok (.aload_n 0, 1) := by decide +kernel
theorem dJx4a65c_add_9ea2d_13 : decode cJx4a65c_add_9ea2d 13 = .ok (.getfield 9, 3) := by decide +kernel
theorem dJx4a65c_add_9ea2d_16 : decode cJx4a65c_add_9ea2d 16 = .ok (.aload_n 0, 1) := by decide +kernel
theorem dJx4a65c_add_9ea2d_17 : decode cJx4a65c_add_9ea2d 17 = .ok (.getfield 48, 3) := by decide +kernel
theorem dJx4a65c_add_9ea2d_20 : decode cJx4a65c_add_9ea2d 20 = .ok (.invokevirtual 131, 3) := by decide +kernel
theorem dJx4a65c_add_9ea2d_23 : decode cJx4a65c_add_9ea2d 23 = .ok (.iconst 1, 1) := by decide +kernel
theorem dJx4a65c_add_9ea2d_24 : decode cJx4a65c_add_9ea2d 24 = .ok (.ireturn, 1) := by decide +kernel
theorem dJx4a65c_remove_915e3_0 : decode cJx4a65c_remove_915e3 0 = .ok (.iload_n 1, 1) := by decide +kernel
theorem dJx4a65c_remove_915e3_1 : decode cJx4a65c_remove_915e3 1 = .ok (.aload_n 0, 1) := by decide +kernel
theorem dJx4a65c_remove_915e3_2 : decode cJx4a65c_remove_915e3 2 = .ok (.getfield 48, 3) := by decide +kernel
theorem dJx4a65c_remove_915e3_5 : decode cJx4a65c_remove_915e3 5 = .ok (.invokestatic 118, 3) := by decide +kernel
theorem dJx4a65c_remove_915e3_8 : decode cJx4a65c_remove_915e3 8 = .ok (.pop, 1) := by decide +kernel
theorem dJx4a65c_remove_915e3_9 : decode cJx4a65c_remove_915e3 9 = .ok (.aload_n 0, 1) := by decide +kernel
theorem dJx4a65c_remove_915e3_10 : decode cJx4a65c_remove_915e3 10 = .ok (.getfield 9, 3) := by decide +kernel
theorem dJx4a65c_remove_915e3_13 : decode cJx4a65c_remove_915e3 13 = .ok (.astore_n 2, 1) := by decide +kernel
theorem dJx4a65c_remove_915e3_14 : decode cJx4a65c_remove_915e3 14 = .ok (.aload_n 2, 1) := by decide +kernel
theorem dJx4a65c_remove_915e3_15 : decode cJx4a65c_remove_915e3 15 = .ok (.iload_n 1, 1) := by decide +kernel
theorem dJx4a65c_remove_915e3_16 : decode cJx4a65c_remove_915e3 16 = .ok (.aaload, 1) := by decide +kernel
theorem dJx4a65c_remove_915e3_17 : decode cJx4a65c_remove_915e3 17 = .ok (.astore_n 3, 1) := by decide +kernel
theorem dJx4a65c_remove_915e3_18 : decode cJx4a65c_remove_915e3 18 = .ok (.aload_n 0, 1) := by decide +kernel
theorem dJx4a65c_remove_915e3_19 : decode cJx4a65c_remove_915e3 19 = .ok (.aload_n 2, 1) := by decide +kernel
theorem dJx4a65c_remove_915e3_20 : decode cJx4a65c_remove_915e3 20 = .ok (.iload_n 1, 1) := by decide +kernel
theorem dJx4a65c_remove_915e3_21 : decode cJx4a65c_remove_915e3 21 = .ok (.invokevirtual 144, 3) := by decide +kernel
theorem dJx4a65c_remove_915e3_24 : decode cJx4a65c_remove_915e3 24 = .ok (.aload_n 3, 1) := by decide +kernel
theorem dJx4a65c_remove_915e3_25 : decode cJx4a65c_remove_915e3 25 = .ok (.areturn, 1) := by decide +kernel
theorem dJx4a65c_fastRemove_b59b0_0 : decode cJx4a65c_fastRemove_b59b0 0 = .ok (.aload_n 0, 1) := by decide +kernel
theorem dJx4a65c_fastRemove_b59b0_1 : decode cJx4a65c_fastRemove_b59b0 1 = .ok (.dup, 1) := by decide +kernel
theorem dJx4a65c_fastRemove_b59b0_2 : decode cJx4a65c_fastRemove_b59b0 2 = .ok (.getfield 63, 3) := by decide +kernel
theorem dJx4a65c_fastRemove_b59b0_5 : decode cJx4a65c_fastRemove_b59b0 5 = .ok (.iconst 1, 1) := by decide +kernel
theorem dJx4a65c_fastRemove_b59b0_6 : decode cJx4a65c_fastRemove_b59b0 6 = .ok (.iadd, 1) := by decide +kernel
theorem dJx4a65c_fastRemove_b59b0_7 : decode cJx4a65c_fastRemove_b59b0 7 = .ok (.putfield 63, 3) := by decide +kernel
theorem dJx4a65c_fastRemove_b59b0_10 : decode cJx4a65c_fastRemove_b59b0 10 = .ok (.aload_n 0, 1) := by decide +kernel
theorem dJx4a65c_fastRemove_b59b0_11 : decode cJx4a65c_fastRemove_b59b0 11 = .ok (.getfield 48, 3) := by decide +kernel
theorem dJx4a65c_fastRemove_b59b0_14 : decode cJx4a65c_fastRemove_b59b0 14 = .ok (.iconst 1, 1) := by decide +kernel
theorem dJx4a65c_fastRemove_b59b0_15 : decode cJx4a65c_fastRemove_b59b0 15 = .ok (.isub, 1) := by decide +kernel
theorem dJx4a65c_fastRemove_b59b0_16 : decode cJx4a65c_fastRemove_b59b0 16 = .ok (.dup, 1) := by decide +kernel
theorem dJx4a65c_fastRemove_b59b0_17 : decode cJx4a65c_fastRemove_b59b0 17 = .ok (.istore_n 3, 1) := by decide +kernel
theorem dJx4a65c_fastRemove_b59b0_18 : decode cJx4a65c_fastRemove_b59b0 18 = .ok (.iload_n 2, 1) := by decide +kernel
theorem dJx4a65c_fastRemove_b59b0_19 : decode cJx4a65c_fastRemove_b59b0 19 = .ok (.if_icmp .le 15, 3) := by decide +kernel
theorem dJx4a65c_fastRemove_b59b0_22 : decode cJx4a65c_fastRemove_b59b0 22 = .ok (.aload_n 1, 1) := by decide +kernel
theorem dJx4a65c_fastRemove_b59b0_23 : decode cJx4a65c_fastRemove_b59b0 23 = .ok (.iload_n 2, 1) := by decide +kernel
theorem dJx4a65c_fastRemove_b59b0_24 : decode cJx4a65c_fastRemove_b59b0 24 = .ok (.iconst 1, 1) := by decide +kernel
theorem dJx4a65c_fastRemove_b59b0_25 : decode cJx4a65c_fastRemove_b59b0 25 = .ok (.iadd, 1) := by decide +kernel
theorem dJx4a65c_fastRemove_b59b0_26 : decode cJx4a65c_fastRemove_b59b0 26 = .ok (.aload_n 1, 1) := by decide +kernel
theorem dJx4a65c_fastRemove_b59b0_27 : decode cJx4a65c_fastRemove_b59b0 27 = .ok (.iload_n 2, 1) := by decide +kernel
theorem dJx4a65c_fastRemove_b59b0_28 : decode cJx4a65c_fastRemove_b59b0 28 = .ok (.iload_n 3, 1) := by decide +kernel
theorem dJx4a65c_fastRemove_b59b0_29 : decode cJx4a65c_fastRemove_b59b0 29 = .ok (.iload_n 2, 1) := by decide +kernel
theorem dJx4a65c_fastRemove_b59b0_30 : decode cJx4a65c_fastRemove_b59b0 30 = .ok (.isub, 1) := by decide +kernel
theorem dJx4a65c_fastRemove_b59b0_31 : decode cJx4a65c_fastRemove_b59b0 31 = .ok (.invokestatic 112, 3) := by decide +kernel
theorem dJx4a65c_fastRemove_b59b0_34 : decode cJx4a65c_fastRemove_b59b0 34 = .ok (.aload_n 1, 1) := by decide +kernel
theorem dJx4a65c_fastRemove_b59b0_35 : decode cJx4a65c_fastRemove_b59b0 35 = .ok (.aload_n 0, 1) := by decide +kernel
theorem dJx4a65c_fastRemove_b59b0_36 : decode cJx4a65c_fastRemove_b59b0 36 = .ok (.iload_n 3, 1) := by decide +kernel
theorem dJx4a65c_fastRemove_b59b0_37 : decode cJx4a65c_fastRemove_b59b0 37 = .ok (.dup_x1, 1) := by decide +kernel
theorem dJx4a65c_fastRemove_b59b0_38 : decode cJx4a65c_fastRemove_b59b0 38 = .ok (.putfield 48, 3) := by decide +kernel
theorem dJx4a65c_fastRemove_b59b0_41 : decode cJx4a65c_fastRemove_b59b0 41 = .ok (.aconst_null, 1) := by decide +kernel
theorem dJx4a65c_fastRemove_b59b0_42 : decode cJx4a65c_fastRemove_b59b0 42 = .ok (.aastore, 1) := by decide +kernel
theorem dJx4a65c_fastRemove_b59b0_43 : decode cJx4a65c_fastRemove_b59b0 43 = .ok (.return_, 1) := by decide +kernel
theorem dJx4a65c_addAll_f0b43_0 : decode cJx4a65c_addAll_f0b43 0 = .ok (.aload_n 1, 1) := by decide +kernel
theorem dJx4a65c_addAll_f0b43_1 : decode cJx4a65c_addAll_f0b43 1 = .ok (.invokeinterface 42 1, 5) := by decide +kernel
theorem dJx4a65c_addAll_f0b43_6 : decode cJx4a65c_addAll_f0b43 6 = .ok (.astore_n 2, 1) := by decide +kernel
theorem dJx4a65c_addAll_f0b43_7 : decode cJx4a65c_addAll_f0b43 7 = .ok (.aload_n 0, 1) := by decide +kernel
theorem dJx4a65c_addAll_f0b43_8 : decode cJx4a65c_addAll_f0b43 8 = .ok (.dup, 1) := by decide +kernel
theorem dJx4a65c_addAll_f0b43_9 : decode cJx4a65c_addAll_f0b43 9 = .ok (.getfield 63, 3) := by decide +kernel
theorem dJx4a65c_addAll_f0b43_12 : decode cJx4a65c_addAll_f0b43 12 = .ok (.iconst 1, 1) := by decide +kernel
theorem dJx4a65c_addAll_f0b43_13 : decode cJx4a65c_addAll_f0b43 13 = .ok (.iadd, 1) := by decide +kernel
theorem dJx4a65c_addAll_f0b43_14 : decode cJx4a65c_addAll_f0b43 14 = .ok (.putfield 63, 3) := by decide +kernel
theorem dJx4a65c_addAll_f0b43_17 : decode cJx4a65c_addAll_f0b43 17 = .ok (.aload_n 2, 1) := by decide +kernel
theorem dJx4a65c_addAll_f0b43_18 : decode cJx4a65c_addAll_f0b43 18 = .ok (.arraylength, 1) := by decide +kernel
theorem dJx4a65c_addAll_f0b43_19 : decode cJx4a65c_addAll_f0b43 19 = .ok (.istore_n 3, 1) := by decide +kernel
theorem dJx4a65c_addAll_f0b43_20 : decode cJx4a65c_addAll_f0b43 20 = .ok (.iload_n 3, 1) := by decide +kernel
theorem dJx4a65c_addAll_f0b43_21 : decode cJx4a65c_addAll_f0b43 21 = .ok (.ifCond .ne 5, 3) := by decide +kernel
theorem dJx4a65c_addAll_f0b43_24 : decode cJx4a65c_addAll_f0b43 24 = .ok (.iconst 0, 1) := by decide +kernel
theorem dJx4a65c_addAll_f0b43_25 : decode cJx4a65c_addAll_f0b43 25 = .ok (.ireturn, 1) := by decide +kernel
theorem dJx4a65c_addAll_f0b43_26 : decode cJx4a65c_addAll_f0b43 26 = .ok (.iload_n 3, 1) := by decide +kernel
theorem dJx4a65c_addAll_f0b43_27 : decode cJx4a65c_addAll_f0b43 27 = .ok (.aload_n 0, 1) := by decide +kernel
theorem dJx4a65c_addAll_f0b43_28 : decode cJx4a65c_addAll_f0b43 28 = .ok (.getfield 9, 3) := by decide +kernel
theorem dJx4a65c_addAll_f0b43_31 : decode cJx4a65c_addAll_f0b43 31 = .ok (.dup, 1) := by decide +kernel
theorem dJx4a65c_addAll_f0b43_32 : decode cJx4a65c_addAll_f0b43 32 = .ok (.astore 4, 2) := by decide +kernel
theorem dJx4a65c_addAll_f0b43_34 : decode cJx4a65c_addAll_f0b43 34 = .ok (.arraylength, 1) := by decide +kernel
theorem dJx4a65c_addAll_f0b43_35 : decode cJx4a65c_addAll_f0b43 35 = .ok (.aload_n 0, 1) := by decide +kernel
theorem dJx4a65c_addAll_f0b43_36 : decode cJx4a65c_addAll_f0b43 36 = .ok (.getfield 48, 3) := by decide +kernel
theorem dJx4a65c_addAll_f0b43_39 : decode cJx4a65c_addAll_f0b43 39 = .ok (.dup, 1) := by decide +kernel
theorem dJx4a65c_addAll_f0b43_40 : decode cJx4a65c_addAll_f0b43 40 = .ok (.istore 5, 2) := by decide +kernel
theorem dJx4a65c_addAll_f0b43_42 : decode cJx4a65c_addAll_f0b43 42 = .ok (.isub, 1) := by decide +kernel
theorem dJx4a65c_addAll_f0b43_43 : decode cJx4a65c_addAll_f0b43 43 = .ok (.if_icmp .le 13, 3) := by decide +kernel
theorem dJx4a65c_addAll_f0b43_46 : decode cJx4a65c_addAll_f0b43 46 = .ok (.aload_n 0, 1) := by decide +kernel
theorem dJx4a65c_addAll_f0b43_47 : decode cJx4a65c_addAll_f0b43 47 = .ok (.iload 5, 2) := by decide +kernel
theorem dJx4a65c_addAll_f0b43_49 : decode cJx4a65c_addAll_f0b43 49 = .ok (.iload_n 3, 1) := by decide +kernel
theorem dJx4a65c_addAll_f0b43_50 : decode cJx4a65c_addAll_f0b43 50 = .ok (.iadd, 1) := by decide +kernel
theorem dJx4a65c_addAll_f0b43_51 : decode cJx4a65c_addAll_f0b43 51 = .ok (.invokevirtual 69, 3) := by decide +kernel
theorem dJx4a65c_addAll_f0b43_54 : decode cJx4a65c_addAll_f0b43 54 = .ok (.astore 4, 2) := by decide +kernel
theorem dJx4a65c_addAll_f0b43_56 : decode cJx4a65c_addAll_f0b43 56 = .ok (.aload_n 2, 1) := by decide +kernel
theorem dJx4a65c_addAll_f0b43_57 : decode cJx4a65c_addAll_f0b43 57 = .ok (.iconst 0, 1) := by decide +kernel
theorem dJx4a65c_addAll_f0b43_58 : decode cJx4a65c_addAll_f0b43 58 = .ok (.aload 4, 2) := by decide +kernel
theorem dJx4a65c_addAll_f0b43_60 : decode cJx4a65c_addAll_f0b43 60 = .ok (.iload 5, 2) := by decide +kernel
theorem dJx4a65c_addAll_f0b43_62 : decode cJx4a65c_addAll_f0b43 62 = .ok (.iload_n 3, 1) := by decide +kernel
theorem dJx4a65c_addAll_f0b43_63 : decode cJx4a65c_addAll_f0b43 63 = .ok (.invokestatic 112, 3) := by decide +kernel
theorem dJx4a65c_addAll_f0b43_66 : decode cJx4a65c_addAll_f0b43 66 = .ok (.aload_n 0, 1) := by decide +kernel
theorem dJx4a65c_addAll_f0b43_67 : decode cJx4a65c_addAll_f0b43 67 = .ok (.iload 5, 2) := by decide +kernel
theorem dJx4a65c_addAll_f0b43_69 : decode cJx4a65c_addAll_f0b43 69 = .ok (.iload_n 3, 1) := by decide +kernel
theorem dJx4a65c_addAll_f0b43_70 : decode cJx4a65c_addAll_f0b43 70 = .ok (.iadd, 1) := by decide +kernel
theorem dJx4a65c_addAll_f0b43_71 : decode cJx4a65c_addAll_f0b43 71 = .ok (.putfield 48, 3) := by decide +kernel
theorem dJx4a65c_addAll_f0b43_74 : decode cJx4a65c_addAll_f0b43 74 = .ok (.iconst 1, 1) := by decide +kernel
theorem dJx4a65c_addAll_f0b43_75 : decode cJx4a65c_addAll_f0b43 75 = .ok (.ireturn, 1) := by decide +kernel
theorem dJ7_copyOf_1904c_0 : decode cJ7_copyOf_1904c 0 = .ok (.aload_n 0, 1) := by decide +kernel
theorem dJ7_copyOf_1904c_1 : decode cJ7_copyOf_1904c 1 = .ok (.iload_n 1, 1) := by decide +kernel
theorem dJ7_copyOf_1904c_2 : decode cJ7_copyOf_1904c 2 = .ok (.aload_n 0, 1) := by decide +kernel
theorem dJ7_copyOf_1904c_3 : decode cJ7_copyOf_1904c 3 = .ok (.invokevirtual 86, 3) := by decide +kernel
theorem dJ7_copyOf_1904c_6 : decode cJ7_copyOf_1904c 6 = .ok (.invokestatic 300, 3) := by decide +kernel
theorem dJ7_copyOf_1904c_9 : decode cJ7_copyOf_1904c 9 = .ok (.areturn, 1) := by decide +kernel
theorem dJ7_copyOf_6403c_0 : decode cJ7_copyOf_6403c 0 = .ok (.aload_n 2, 1) := by decide +kernel
theorem dJ7_copyOf_6403c_1 : decode cJ7_copyOf_6403c 1 = .ok (.ldc 110, 2) := by decide +kernel
theorem dJ7_copyOf_6403c_3 : decode cJ7_copyOf_6403c 3 = .ok (.if_acmp .ne 10, 3) := by decide +kernel
theorem dJ7_copyOf_6403c_6 : decode cJ7_copyOf_6403c 6 = .ok (.iload_n 1, 1) := by decide +kernel
theorem dJ7_copyOf_6403c_7 : decode cJ7_copyOf_6403c 7 = .ok (.anewarray 2, 3) := by decide +kernel
theorem dJ7_copyOf_6403c_10 : decode cJ7_copyOf_6403c 10 = .ok (.goto 14, 3) := by decide +kernel
theorem dJ7_copyOf_6403c_13 : decode cJ7_copyOf_6403c 13 = .ok (.aload_n 2, 1) := by decide +kernel
theorem dJ7_copyOf_6403c_14 : decode cJ7_copyOf_6403c 14 = .ok (.invokevirtual 90, 3) := by decide +kernel
theorem dJ7_copyOf_6403c_17 : decode cJ7_copyOf_6403c 17 = .ok (.iload_n 1, 1) := by decide +kernel
theorem dJ7_copyOf_6403c_18 : decode cJ7_copyOf_6403c 18 = .ok (.invokestatic 95, 3) := by decide +kernel
theorem dJ7_copyOf_6403c_21 : decode cJ7_copyOf_6403c 21 = .ok (.checkcast 110, 3) := by decide +kernel
theorem dJ7_copyOf_6403c_24 : decode cJ7_copyOf_6403c 24 = .ok (.astore_n 3, 1) := by decide +kernel
theorem dJ7_copyOf_6403c_25 : decode cJ7_copyOf_6403c 25 = .ok (.aload_n 0, 1) := by decide +kernel
theorem dJ7_copyOf_6403c_26 : decode cJ7_copyOf_6403c 26 = .ok (.iconst 0, 1) := by decide +kernel
theorem dJ7_copyOf_6403c_27 : decode cJ7_copyOf_6403c 27 = .ok (.aload_n 3, 1) := by decide +kernel
theorem dJ7_copyOf_6403c_28 : decode cJ7_copyOf_6403c 28 = .ok (.iconst 0, 1) := by decide +kernel
theorem dJ7_copyOf_6403c_29 : decode cJ7_copyOf_6403c 29 = .ok (.aload_n 0, 1) := by decide +kernel
theorem dJ7_copyOf_6403c_30 : decode cJ7_copyOf_6403c 30 = .ok (.arraylength, 1) := by decide +kernel
theorem dJ7_copyOf_6403c_31 : decode cJ7_copyOf_6403c 31 = .ok (.iload_n 1, 1) := by decide +kernel
theorem dJ7_copyOf_6403c_32 : decode cJ7_copyOf_6403c 32 = .ok (.invokestatic 304, 3) := by decide +kernel
theorem dJ7_copyOf_6403c_35 : decode cJ7_copyOf_6403c 35 = .ok (.invokestatic 150, 3) := by decide +kernel
theorem dJ7_copyOf_6403c_38 : decode cJ7_copyOf_6403c 38 = .ok (.aload_n 3, 1) := by decide +kernel
theorem dJ7_copyOf_6403c_39 : decode cJ7_copyOf_6403c 39 = .ok (.areturn, 1) := by decide +kernel
theorem dJ15_checkIndex_7cf53_0 : decode cJ15_checkIndex_7cf53 0 = .ok (.iload_n 0, 1) := by decide +kernel
theorem dJ15_checkIndex_7cf53_1 : decode cJ15_checkIndex_7cf53 1 = .ok (.iload_n 1, 1) := by decide +kernel
theorem dJ15_checkIndex_7cf53_2 : decode cJ15_checkIndex_7cf53 2 = .ok (.aconst_null, 1) := by decide +kernel
theorem dJ15_checkIndex_7cf53_3 : decode cJ15_checkIndex_7cf53 3 = .ok (.invokestatic 105, 3) := by decide +kernel
theorem dJ15_checkIndex_7cf53_6 : decode cJ15_checkIndex_7cf53 6 = .ok (.ireturn, 1) := by decide +kernel
theorem dJ8_newLength_cabcc_0 : decode cJ8_newLength_cabcc 0 = .ok (.iload_n 0, 1) := by decide +kernel
theorem dJ8_newLength_cabcc_1 : decode cJ8_newLength_cabcc 1 = .ok (.iload_n 1, 1) := by decide +kernel
theorem dJ8_newLength_cabcc_2 : decode cJ8_newLength_cabcc 2 = .ok (.iload_n 2, 1) := by decide +kernel
theorem dJ8_newLength_cabcc_3 : decode cJ8_newLength_cabcc 3 = .ok (.invokestatic 194, 3) := by decide +kernel
theorem dJ8_newLength_cabcc_6 : decode cJ8_newLength_cabcc 6 = .ok (.iadd, 1) := by decide +kernel
theorem dJ8_newLength_cabcc_7 : decode cJ8_newLength_cabcc 7 = .ok (.istore_n 3, 1) := by decide +kernel
theorem dJ8_newLength_cabcc_8 : decode cJ8_newLength_cabcc 8 = .ok (.iconst 0, 1) := by decide +kernel
theorem dJ8_newLength_cabcc_9 : decode cJ8_newLength_cabcc 9 = .ok (.iload_n 3, 1) := by decide +kernel
theorem dJ8_newLength_cabcc_10 : decode cJ8_newLength_cabcc 10 = .ok (.if_icmp .ge 11, 3) := by decide +kernel
theorem dJ8_newLength_cabcc_13 : decode cJ8_newLength_cabcc 13 = .ok (.iload_n 3, 1) := by decide +kernel
theorem dJ8_newLength_cabcc_14 : decode cJ8_newLength_cabcc 14 = .ok (.ldc 200, 2) := by decide +kernel
theorem dJ8_newLength_cabcc_16 : decode cJ8_newLength_cabcc 16 = .ok (.if_icmp .gt 5, 3) := by decide +kernel
theorem dJ8_newLength_cabcc_19 : decode cJ8_newLength_cabcc 19 = .ok (.iload_n 3, 1) := by decide +kernel
theorem dJ8_newLength_cabcc_20 : decode cJ8_newLength_cabcc 20 = .ok (.ireturn, 1) := by decide +kernel
theorem dJ8_newLength_cabcc_21 : decode cJ8_newLength_cabcc 21 = .ok (.iload_n 0, 1) := by decide +kernel
theorem dJ8_newLength_cabcc_22 : decode cJ8_newLength_cabcc 22 = .ok (.iload_n 1, 1) := by decide +kernel
theorem dJ8_newLength_cabcc_23 : decode cJ8_newLength_cabcc 23 = .ok (.invokestatic 201, 3) := by decide +kernel
theorem dJ8_newLength_cabcc_26 : decode cJ8_newLength_cabcc 26 = .ok (.ireturn, 1) := by decide +kernel
theorem dJ8_hugeLength_7cf53_0 : decode cJ8_hugeLength_7cf53 0 = .ok (.iload_n 0, 1) := by decide +kernel
theorem dJ8_hugeLength_7cf53_1 : decode cJ8_hugeLength_7cf53 1 = .ok (.iload_n 1, 1) := by decide +kernel
theorem dJ8_hugeLength_7cf53_2 : decode cJ8_hugeLength_7cf53 2 = .ok (.iadd, 1) := by decide +kernel
theorem dJ8_hugeLength_7cf53_3 : decode cJ8_hugeLength_7cf53 3 = .ok (.istore_n 2, 1) := by decide +kernel
theorem dJ8_hugeLength_7cf53_4 : decode cJ8_hugeLength_7cf53 4 = .ok (.iload_n 2, 1) := by decide +kernel
theorem dJ8_hugeLength_7cf53_5 : decode cJ8_hugeLength_7cf53 5 = .ok (.ifCond .ge 44, 3) := by decide +kernel
theorem dJ8_hugeLength_7cf53_8 : decode cJ8_hugeLength_7cf53 8 = .ok (.new 204, 3) := by decide +kernel
theorem dJ8_hugeLength_7cf53_11 : decode cJ8_hugeLength_7cf53 11 = .ok (.dup, 1) := by decide +kernel
theorem dJ8_hugeLength_7cf53_12 : decode cJ8_hugeLength_7cf53 12 = .ok (.new 89, 3) := by decide +kernel
theorem dJ8_hugeLength_7cf53_15 : decode cJ8_hugeLength_7cf53 15 = .ok (.dup, 1) := by decide +kernel
theorem dJ8_hugeLength_7cf53_16 : decode cJ8_hugeLength_7cf53 16 = .ok (.invokespecial 91, 3) := by decide +kernel
theorem dJ8_hugeLength_7cf53_19 : decode cJ8_hugeLength_7cf53 19 = .ok (.ldc 206, 2) := by decide +kernel
theorem dJ8_hugeLength_7cf53_21 : decode cJ8_hugeLength_7cf53 21 = .ok (.invokevirtual 94, 3) := by decide +kernel
theorem dJ8_hugeLength_7cf53_24 : decode cJ8_hugeLength_7cf53 24 = .ok (.iload_n 0, 1) := by decide +kernel
theorem dJ8_hugeLength_7cf53_25 : decode cJ8_hugeLength_7cf53 25 = .ok (.invokevirtual 98, 3) := by decide +kernel
theorem dJ8_hugeLength_7cf53_28 : decode cJ8_hugeLength_7cf53 28 = .ok (.ldc 208, 2) := by decide +kernel
theorem dJ8_hugeLength_7cf53_30 : decode cJ8_hugeLength_7cf53 30 = .ok (.invokevirtual 94, 3) := by decide +kernel
theorem dJ8_hugeLength_7cf53_33 : decode cJ8_hugeLength_7cf53 33 = .ok (.iload_n 1, 1) := by decide +kernel
theorem dJ8_hugeLength_7cf53_34 : decode cJ8_hugeLength_7cf53 34 = .ok (.invokevirtual 98, 3) := by decide +kernel
theorem dJ8_hugeLength_7cf53_37 : decode cJ8_hugeLength_7cf53 37 = .ok (.ldc 210, 2) := by decide +kernel
theorem dJ8_hugeLength_7cf53_39 : decode cJ8_hugeLength_7cf53 39 = .ok (.invokevirtual 94, 3) := by decide +kernel
theorem dJ8_hugeLength_7cf53_42 : decode cJ8_hugeLength_7cf53 42 = .ok (.invokevirtual 101, 3) := by decide +kernel
theorem dJ8_hugeLength_7cf53_45 : decode cJ8_hugeLength_7cf53 45 = .ok (.invokespecial 212, 3) := by decide +kernel
theorem dJ8_hugeLength_7cf53_48 : decode cJ8_hugeLength_7cf53 48 = .ok (.athrow, 1) := by decide +kernel
theorem dJ8_hugeLength_7cf53_49 : decode cJ8_hugeLength_7cf53 49 = .ok (.iload_n 2, 1) := by decide +kernel
theorem dJ8_hugeLength_7cf53_50 : decode cJ8_hugeLength_7cf53 50 = .ok (.ldc 200, 2) := by decide +kernel
theorem dJ8_hugeLength_7cf53_52 : decode cJ8_hugeLength_7cf53 52 = .ok (.if_icmp .gt 6, 3) := by decide +kernel
theorem dJ8_hugeLength_7cf53_55 : decode cJ8_hugeLength_7cf53 55 = .ok (.ldc 200, 2) := by decide +kernel
theorem dJ8_hugeLength_7cf53_57 : decode cJ8_hugeLength_7cf53 57 = .ok (.ireturn, 1) := by decide +kernel
theorem dJ8_hugeLength_7cf53_58 : decode cJ8_hugeLength_7cf53 58 = .ok (.iload_n 2, 1) := by decide +kernel
theorem dJ8_hugeLength_7cf53_59 : decode cJ8_hugeLength_7cf53 59 = .ok (.ireturn, 1) := by decide +kernel
theorem dJ3_checkIndex_8e157_0 : decode cJ3_checkIndex_8e157 0 = .ok (.iload_n 0, 1) := by decide +kernel
theorem dJ3_checkIndex_8e157_1 : decode cJ3_checkIndex_8e157 1 = .ok (.ifCond .lt 8, 3) := by decide +kernel
theorem dJ3_checkIndex_8e157_4 : decode cJ3_checkIndex_8e157 4 = .ok (.iload_n 0, 1) := by decide +kernel
theorem dJ3_checkIndex_8e157_5 : decode cJ3_checkIndex_8e157 5 = .ok (.iload_n 1, 1) := by decide +kernel
theorem dJ3_checkIndex_8e157_6 : decode cJ3_checkIndex_8e157 6 = .ok (.if_icmp .lt 10, 3) := by decide +kernel
theorem dJ3_checkIndex_8e157_9 : decode cJ3_checkIndex_8e157 9 = .ok (.aload_n 2, 1) := by decide +kernel
theorem dJ3_checkIndex_8e157_10 : decode cJ3_checkIndex_8e157 10 = .ok (.iload_n 0, 1) := by decide +kernel
theorem dJ3_checkIndex_8e157_11 : decode cJ3_checkIndex_8e157 11 = .ok (.iload_n 1, 1) := by decide +kernel
theorem dJ3_checkIndex_8e157_12 : decode cJ3_checkIndex_8e157 12 = .ok (.invokestatic 95, 3) := by decide +kernel
theorem dJ3_checkIndex_8e157_15 : decode cJ3_checkIndex_8e157 15 = .ok (.athrow, 1) := by decide +kernel
theorem dJ3_checkIndex_8e157_16 : decode cJ3_checkIndex_8e157 16 = .ok (.iload_n 0, 1) := by decide +kernel
theorem dJ3_checkIndex_8e157_17 : decode cJ3_checkIndex_8e157 17 = .ok (.ireturn, 1) := by decide +kernel
end
section
/-! OWN BASE: a contract in one form (the answer and the world behind it are told as values), its begin, its calls, its ends -/
abbrev gG : Type := va_G × (ClassId × ClassId × ClassId × ClassId × ClassId) × Nat
abbrev gTy (G : gG) : List (ClassId × FieldType) := [(G.2.1.1, .int), (G.2.1.2.1, .boolean), (G.2.1.2.2.1, .byte), (G.2.1.2.2.2.1, .array .boolean), (G.2.1.2.2.2.2, .array .int)]
/-- the links to private members of nest mates, and the String constants, which every method may use -/
def gNest : List (String × Nat × MethodName × String) := [("DelayLineStore", 11, yX2_init, "DelayLineStore"), ("DelayLineStore$Computer", 11, yX5_init, "DelayLineStore"), ("DelayLineStore$Computer", 27, yX4_init, "DelayLineStore"), ("DelayLineStore", 27, yX0_init, "DelayLineStore"), ("DelayLineStore$Store", 21, yX6_wrap, "DelayLineStore"), ("DelayLineStore$Computer", 129, yX6_waitingUntil, "DelayLineStore"), ("DelayLineStore$Climate", 38, yX6_delayOf, "DelayLineStore"), ("DelayLineStore$Computer", 145, yX6_mismatchOf, "DelayLineStore"), ("DelayLineStore$Store", 26, yX6_locationOf, "DelayLineStore"), ("DelayLineStore$Store", 51, yX6_cycleOf, "DelayLineStore"), ("DelayLineStore$Instruction", 9, yX6_locationOf, "DelayLineStore"), ("DelayLineStore$Computer", 105, yX6_cycleOf, "DelayLineStore"), ("DelayLineStore$Computer", 108, yX6_wrap, "DelayLineStore"), ("DelayLineStore$Instruction", 13, yX6_cycleOf, "DelayLineStore"), ("DelayLineStore$Store", 61, yX6_copyRow, "DelayLineStore"), ("DelayLineStore$Climate", 49, yX6_copyRow, "DelayLineStore"), ("DelayLineStore$NumberQueue", 22, yX6_copyRow, "DelayLineStore"), ("DelayLineStore$Computer", 175, yX6_copyRow, "DelayLineStore"), ("DelayLineStoreLaw", 229, yX8_init, "DelayLineStoreLaw")]
def gNestF : List (String × Nat × String × String × String × String) := [("DelayLineStoreLaw", 182, "DelayLineStoreLaw$Machine", "bits", "[[Z", "DelayLineStoreLaw"), ("DelayLineStoreLaw", 104, "DelayLineStoreLaw$Machine", "warm", "[I", "DelayLineStoreLaw"), ("DelayLineStoreLaw", 111, "DelayLineStoreLaw$Machine", "slips", "[I", "DelayLineStoreLaw"), ("DelayLineStoreLaw", 133, "DelayLineStoreLaw$Machine", "counts", "[[I", "DelayLineStoreLaw"), ("DelayLineStoreLaw", 193, "DelayLineStoreLaw$Machine", "in", "Ljava/util/ArrayList;", "DelayLineStoreLaw"), ("DelayLineStoreLaw", 88, "DelayLineStoreLaw$Machine", "out", "Ljava/util/ArrayList;", "DelayLineStoreLaw"), ("DelayLineStoreLaw", 36, "DelayLineStoreLaw$Machine", "time", "I", "DelayLineStoreLaw"), ("DelayLineStoreLaw", 44, "DelayLineStoreLaw$Machine", "acc", "I", "DelayLineStoreLaw"), ("DelayLineStoreLaw", 55, "DelayLineStoreLaw$Machine", "tank", "I", "DelayLineStoreLaw"), ("DelayLineStoreLaw", 58, "DelayLineStoreLaw$Machine", "cycle", "I", "DelayLineStoreLaw"), ("DelayLineStoreLaw", 50, "DelayLineStoreLaw$Machine", "state", "I", "DelayLineStoreLaw"), ("DelayLineStoreLaw", 64, "DelayLineStoreLaw$Machine", "done", "I", "DelayLineStoreLaw"), ("DelayLineStoreLaw", 70, "DelayLineStoreLaw$Machine", "waited", "I", "DelayLineStoreLaw"), ("DelayLineStoreLaw", 75, "DelayLineStoreLaw$Machine", "dropouts", "I", "DelayLineStoreLaw"), ("DelayLineStoreLaw", 155, "DelayLineStoreLaw$Machine", "oven", "I", "DelayLineStoreLaw"), ("DelayLineStoreLaw", 161, "DelayLineStoreLaw$Machine", "pilot", "I", "DelayLineStoreLaw"), ("DelayLineStoreLaw", 174, "DelayLineStoreLaw$Machine", "fixed", "I", "DelayLineStoreLaw"), ("DelayLineStoreLaw", 167, "DelayLineStoreLaw$Machine", "isPilot", "Z", "DelayLineStoreLaw"), ("DelayLineStoreLaw", 81, "DelayLineStoreLaw$Machine", "isOver", "Z", "DelayLineStoreLaw")]
def gEnv (_ : gG) (U : State) : Prop := (∀ q ∈ gNest, va_Nw (.methodLinkNest q.1 q.2.1 q.2.2.1 q.2.2.2) U) ∧ ∀ q ∈ gNestF, va_Nw (.fieldLinkNest q.1 q.2.1 q.2.2.1 q.2.2.2.1 q.2.2.2.2.1 q.2.2.2.2.2) U
theorem gEnv.warm {G : gG} {s U : State} (hW : s.WarmedH U.vm) (h : gEnv G s) : gEnv G U := ⟨fun q hq => va_Nw.warmM hW (h.1 q hq), fun q hq => va_Nw.warmF hW (h.2 q hq)⟩
theorem gEnv.same {G : gG} {s U : State} (hv : s.vm = U.vm) (h : gEnv G s) : gEnv G U := ⟨fun q hq => va_Nw.same rfl hv (h.1 q hq), fun q hq => va_Nw.same rfl hv (h.2 q hq)⟩
def gPc (G : gG) (as : List Value) (ws : va_W) (sz : Nat) : Array Value → State → Prop := va_Pc as (fun U => U.heap.size = sz ∧ va_P G.1 vwCl ws U.heap ∧ va_K G.1 vwCl (gTy G) U ∧ va_D (fun _ => True) ws ∧ gEnv G U)
def gQ (G : gG) (rv : Option Value) (w1 : va_W) (A : Nat → Prop) : Array Value → State → Outcome → State → Prop := fun _ st oc t => (oc = .returned rv ∧ va_P G.1 vwCl w1 t.heap ∧ va_K G.1 vwCl (gTy G) t ∧ va_D A w1) ∧ va_F A st t
/-- method y: from the cells ws it returns rv, and leaves the cells w1 -/
def gM (l : Launch) (G : gG) (y : MethodName) (bytes : ByteArray) (n : Nat) (ret : Option FieldType) (rm : Room) (as : List Value) (ws : va_W) (rv : Option Value) (w1 : va_W) (mc ms : Nat) : Prop :=
  ∀ sz : Nat, Met l y (Cond.code y bytes n ret :: gT) rm (gPc G as ws sz) (gQ G rv w1 (va_A ws sz)) mc ms (va_A ws sz)
theorem gG_code {y : MethodName} {b : ByteArray} {n : Nat} {r : Option FieldType} (h : Cond.code y b n r ∈ gT) : GoodIn gT (Cond.code y b n r :: gT) := fun w hw => (List.mem_cons.mp hw).elim (fun e => ⟨by rw [e]; exact h, good_of_word (gT_good _ (by rw [e]; exact h))⟩) (fun q => ⟨q, good_of_word (gT_good _ q)⟩)
theorem gG_in {ws : List Cond} (h : ∀ w ∈ ws, w ∈ gT) : GoodIn gT ws := fun w hw => ⟨h w hw, good_of_word (gT_good _ (h w hw))⟩
/-- what a caller needs of a method that it calls by invokevirtual -/
def gOkV (y : MethodName) (b : ByteArray) (n : Nat) (r : Option FieldType) (k : Nat) : Prop := (Cond.instanceMethod y ∈ gT ∧ Cond.selects y.cls y y ∈ gT ∧ Cond.initialized y.cls ∈ gT ∧ Cond.code y b n r ∈ gT) ∧ (y.cls ≠ "java/lang/invoke/MethodHandle" ∧ y.cls ≠ "java/lang/invoke/VarHandle" ∧ (parseMethodDescriptor y.desc).map (fun d => d.parameters.length) = some k)
def gOkS (y : MethodName) (b : ByteArray) (n : Nat) (r : Option FieldType) (k : Nat) : Prop := (Cond.static y ∈ gT ∧ Cond.initialized y.cls ∈ gT ∧ Cond.code y b n r ∈ gT) ∧ (y.cls ≠ "java/lang/invoke/MethodHandle" ∧ y.cls ≠ "java/lang/invoke/VarHandle" ∧ (parseMethodDescriptor y.desc).map (fun d => d.parameters.length) = some k)
theorem gFm {α β : Type} {ps : List α} {f : α → Option β} {l : List β} (h : ps.map f = l.map some) : ps.filterMap f = l := by
  have h1 : ps.filterMap f = (ps.map f).filterMap id := by rw [List.filterMap_map]; rfl
  rw [h1, h]
  clear h h1
  induction l with
  | nil => rfl
  | cons a l ih => simp
theorem gPc_blind {G : gG} {as : List Value} {ws : va_W} {sz : Nat} : FrameBlind (gPc G as ws sz) := fun a U g mk q => by
  obtain ⟨q0, q1, qP, qK, qD, qN⟩ := q
  exact ⟨q0, q1, qP, va_K.moved (u := U) (U := U.calling g mk a) (Vm.Alike.refl U.vm) qK, qD, gEnv.same (s := U) (U := U.calling g mk a) rfl qN⟩
theorem gOfW {l : Launch} {y : MethodName} {ws ws' : List Cond} {rm : Room} {Pc : Array Value → State → Prop} {Qc : Array Value → State → Outcome → State → Prop} {mc ms : Nat} {free : Addr → Prop} {cc : ByteArray} {maxL : Nat} {ret : Option FieldType}
    (hy : plainFor y = true) (hw : ws = Cond.code y cc maxL ret :: ws')
    (body : ∀ p e s m args below meth c s₁, BodyLoose p l y (headSpec ws rm) cc maxL ret e s m args below meth c s₁ → c.maxLocals = maxL → Pc args s →
      W p l e (headSpec ws rm).room s m args below meth c s.heap [] 0 0 (MQ below Qc args s mc ms free) (entryFrame m args maxL)) : Met l y ws rm Pc Qc mc ms free := by
  refine MetFree.of_bodySF (code := cc) (maxLocals := maxL) (ret := ret) hy ?_ ?_
  · intro args s m h hn
    obtain ⟨meth, c, h1, h2, h3, h4, h5, h6, -, -⟩ := Cond.code_spec hn (atoms_spec (ws := ws) h _ (by rw [hw]; exact List.mem_cons_self))
    exact ⟨meth, c, h1, h2, h3, h4, h5, h6⟩
  · intro p e s m args below meth c s₁ B hml hP _
    have hh0 : s₁.heap = s.heap := by rw [B.state]; rfl
    obtain ⟨t, a1, o, b1, b2, b3⟩ := body p e s m args below meth c s₁ B hml hP s₁ hh0 (Stand.of_body B)
    exact ⟨t, o, a1, b1, b2, ⟨b3.1, b3.2⟩⟩
section gBase
variable {p : Program} {l : Launch} {e : Env} {R : Room} {s : State} {m : MethodId} {args : Array Value} {below : List Frame} {meth : Method} {c : Code} {H : Heap} {locs : List Loc} {cells slots : Nat} {Q : State → Prop} {G : gG}
variable {y : MethodName} {bytes cc : ByteArray} {n nL k mc ms idx pc : Nat} {ret : Option FieldType} {rm : Room} {as As rest st0 : List Value} {ws wc wr w1 ws' : va_W} {rv : Option Value} {own : String} {A : Nat → Prop} {ls : Array Slot}
theorem gBegin (hy : plainFor y = true) (hn : (lg_sl as).length ≤ n)
    (body : ∀ (p : Program) (e : Env) (s : State) (m : MethodId) (args : Array Value) (below : List Frame) (meth : Method) (c : Code) (A : Nat → Prop), CallFix p m c bytes n s args gT y.cls → meth.sig.returnType = ret → meth.locks = false → meth.name = y.name → gEnv G s → va_K G.1 vwCl (gTy G) s → va_P G.1 vwCl ws s.heap → va_D A ws → (∀ q : Nat, s.heap.size ≤ q → A q) → va_S A s.heap s.heap [] → ∀ ls, lv_has ls n (lv_args 0 as) →
      W p l e rm s m args below meth c s.heap [] 0 0 (MQ below (gQ G rv w1 A) args s mc ms A) (F0 m 0 ls [])) : gM l G y bytes n ret rm as ws rv w1 mc ms := by
  intro sz
  refine gOfW (cc := bytes) (maxL := n) (ret := ret) hy rfl ?_
  intro p e s m args below meth c s₁ B hml hv
  obtain ⟨rfl, hsz, hP, hK, hD0, hN⟩ := hv
  have hts0 := atoms_spec (ws := Cond.code y bytes n ret :: gT) B.pre
  subst hsz
  have hD := hD0.self (sz := s.heap.size)
  have hl := lv_entry as (n := n) hn
  rw [lg_entry_eq]
  exact body p e s m _ below meth c _ ⟨B.exec, B.bytes, hml, findClass_of_methodNamed B.named, fun w h => hts0 w (List.mem_cons_of_mem _ h)⟩ B.returns B.notSynchronized (name_of_methodNamed B.named B.method).1 hN hK hP hD (fun q h => Or.inr h) va_S.rf _ hl
theorem gCont (hr : va_Run p l e R s m args below meth c H locs cells slots mc ms (F0 m pc ls st0) rest (fun st oc t => gQ G rv w1 (va_A wc H.size) As.toArray st oc t) (va_A wc H.size)) (hP : va_P G.1 vwCl ws H) (hD : va_D A ws) (hS : va_S A s.heap H locs) (hA : ∀ q, s.heap.size ≤ q → A q)
    (isC isR perm : List Nat) (hC : isC.map (fun i => ws[i]?) = wc.map some) (hRr : isR.map (fun i => ws[i]?) = wr.map some) (hn : va_nd isR = true) (hdis : ∀ i ∈ isR, i ∉ isC) (hnp : va_nd perm = true) (hperm : perm.map (fun i => (wr ++ w1)[i]?) = ws'.map some)
    (kk : ∀ (H : Heap) (locs : List Loc), va_P G.1 vwCl ws' H → va_D A ws' → va_S A s.heap H locs → W p l e R s m args below meth c H locs (cells + mc) (slots + ms) Q (F0 m (pc + 3) ls (rv.toList ++ rest))) : W p l e R s m args below meth c H locs cells slots Q (F0 m pc ls st0) := by
  intro T hT X
  have hF := va_free (wc := wc) hD hS hA isC hC
  obtain ⟨v, st₀, t, T', L, h0, X', hL, e1, e2, ⟨⟨hv, hP1, -, hD1⟩, hF1⟩, st⟩ := hr T hT X
  cases hv
  obtain ⟨k1, k2, k3⟩ := vx_keep h0 e1 hS (fun q _ h => hF q h) hF hL hF1
  rw [← e1] at hP1
  obtain ⟨hP2, hD2⟩ := va_join (wr := wr) (w1 := w1) hP hD isC isR hC hRr hn hdis k2 hF hP1 hD1
  obtain ⟨t2, a1, b1⟩ := kk T'.heap (locs ++ L) (hP2.sub perm (gFm hperm)) (hD2.sub perm hnp hperm) k3 T' rfl X'
  exact ⟨t2, st t2 a1, b1⟩
theorem gV {b q0 ci : Nat} {fs : List Value} {T : u_T} {N : Nat} (F : CallFix p m c cc nL s args gT own) (hM : gM l G y bytes n ret rm (.ref b :: As) wc rv w1 mc ms) (ok : gOkV y bytes n ret k) (hL : Cond.methodLink own idx y ∈ gT)
    (hrc : rm.cells = mc) (hrs : rm.slots = ms) (hR : rm.frames + 1 ≤ R.frames ∧ 8 + (n + 11) + rm.locals ≤ R.locals)
    (hN : gEnv G s) (hK : va_K G.1 vwCl (gTy G) s) (hP : va_P G.1 vwCl ws H) (hD : va_D A ws) (hS : va_S A s.heap H locs) (hA : ∀ q, s.heap.size ≤ q → A q)
    (isC isR perm : List Nat) (hnC : va_nd isC = true) (hC : isC.map (fun i => ws[i]?) = wc.map some) (hRr : isR.map (fun i => ws[i]?) = wr.map some) (hn : va_nd isR = true) (hdis : ∀ i ∈ isR, i ∉ isC) (hnp : va_nd perm = true) (hperm : perm.map (fun i => (wr ++ w1)[i]?) = ws'.map some)
    (hq : ws[q0]? = some (b, .inr (ci, fs))) (hci : vwCl[ci]? = some (y.cls, T, N)) (hlen : As.length = k) (hst : st0 = As.reverse ++ .ref b :: rest) (hls : ls.size = nL) (hW : (rest.map fun v => v.category).sum ≤ 8) (hdg : decode cc pc = .ok (.invokevirtual idx, 3)) (hcs : cells + mc ≤ R.cells ∧ slots + ms ≤ R.slots)
    (kk : ∀ (H : Heap) (locs : List Loc), va_P G.1 vwCl ws' H → va_D A ws' → va_S A s.heap H locs → W p l e R s m args below meth c H locs (cells + mc) (slots + ms) Q (F0 m (pc + 3) ls (rv.toList ++ rest))) : W p l e R s m args below meth c H locs cells slots Q (F0 m pc ls st0) := by
  obtain ⟨⟨o1, o2, o3, o4⟩, o5⟩ := ok
  have hts := F.2.2.2.2
  have hPc := hP.sub (ws' := wc) isC (gFm hC)
  have hDc := hD.sub (ws' := wc) isC hnC hC
  refine gCont (As := .ref b :: As) (rv := rv) (va_runV (C := y.cls) (As := As) (rest := rest) F (hM H.size) (cwV k hts (gG_in (ws := wsV own idx y.cls y (Cond.code y bytes n ret :: gT)) ?_) rfl hrc hrs ⟨rfl, o5⟩ hR) ⟨gPc_blind, va_recv hK hP hci hq, fun U hU hW9 => ⟨rfl, by rw [hU], by rw [hU]; exact hPc, va_K.moved hW9.alike hK, hDc.weaken (fun _ _ _ _ => trivial), hN.warm hW9⟩⟩ rfl hlen hls hst (lv_room hW) hdg hcs) hP hD hS hA isC isR perm hC hRr hn hdis hnp hperm kk
  intro w hw
  simp only [wsV, List.mem_append, List.mem_cons, List.not_mem_nil, or_false] at hw
  rcases hw with (h | h | h | h) | h | h
  · rw [h]; exact hL
  · rw [h]; exact o1
  · rw [h]; exact o2
  · rw [h]; exact o3
  · rw [h]; exact o4
  · exact h
theorem gS (F : CallFix p m c cc nL s args gT own) (hM : gM l G y bytes n ret rm As wc rv w1 mc ms) (ok : gOkS y bytes n ret k) (hL : Cond.methodLink own idx y ∈ gT)
    (hrc : rm.cells = mc) (hrs : rm.slots = ms) (hR : rm.frames + 1 ≤ R.frames ∧ 8 + (n + 11) + rm.locals ≤ R.locals)
    (hN : gEnv G s) (hK : va_K G.1 vwCl (gTy G) s) (hP : va_P G.1 vwCl ws H) (hD : va_D A ws) (hS : va_S A s.heap H locs) (hA : ∀ q, s.heap.size ≤ q → A q)
    (isC isR perm : List Nat) (hnC : va_nd isC = true) (hC : isC.map (fun i => ws[i]?) = wc.map some) (hRr : isR.map (fun i => ws[i]?) = wr.map some) (hn : va_nd isR = true) (hdis : ∀ i ∈ isR, i ∉ isC) (hnp : va_nd perm = true) (hperm : perm.map (fun i => (wr ++ w1)[i]?) = ws'.map some)
    (hlen : As.length = k) (hst : st0 = As.reverse ++ rest) (hls : ls.size = nL) (hW : (rest.map fun v => v.category).sum ≤ 8) (hdg : decode cc pc = .ok (.invokestatic idx, 3)) (hcs : cells + mc ≤ R.cells ∧ slots + ms ≤ R.slots)
    (kk : ∀ (H : Heap) (locs : List Loc), va_P G.1 vwCl ws' H → va_D A ws' → va_S A s.heap H locs → W p l e R s m args below meth c H locs (cells + mc) (slots + ms) Q (F0 m (pc + 3) ls (rv.toList ++ rest))) : W p l e R s m args below meth c H locs cells slots Q (F0 m pc ls st0) := by
  obtain ⟨⟨o1, o3, o4⟩, o5⟩ := ok
  have hts := F.2.2.2.2
  have hPc := hP.sub (ws' := wc) isC (gFm hC)
  have hDc := hD.sub (ws' := wc) isC hnC hC
  refine gCont (As := As) (rv := rv) (va_runS (As := As) (rest := rest) F (hM H.size) (va_cwS k hts (gG_in (ws := va_wsS own idx y (Cond.code y bytes n ret :: gT)) ?_) rfl hrc hrs o5 hR) ⟨gPc_blind, fun U hU hW9 => ⟨rfl, by rw [hU], by rw [hU]; exact hPc, va_K.moved hW9.alike hK, hDc.weaken (fun _ _ _ _ => trivial), hN.warm hW9⟩⟩ rfl hlen hls hst (lv_room hW) hdg hcs) hP hD hS hA isC isR perm hC hRr hn hdis hnp hperm kk
  intro w hw
  simp only [va_wsS, List.mem_append, List.mem_cons, List.not_mem_nil, or_false] at hw
  rcases hw with (h | h | h) | h | h
  · rw [h]; exact hL
  · rw [h]; exact o1
  · rw [h]; exact o3
  · rw [h]; exact o4
  · exact h
theorem gSN {host : String} (F : CallFix p m c cc nL s args gT own) (hM : gM l G y bytes n ret rm As wc rv w1 mc ms) (ok : gOkS y bytes n ret k) (hL : (own, idx, y, host) ∈ gNest)
    (hrc : rm.cells = mc) (hrs : rm.slots = ms) (hR : rm.frames + 1 ≤ R.frames ∧ 8 + (n + 11) + rm.locals ≤ R.locals)
    (hN : gEnv G s) (hK : va_K G.1 vwCl (gTy G) s) (hP : va_P G.1 vwCl ws H) (hD : va_D A ws) (hS : va_S A s.heap H locs) (hA : ∀ q, s.heap.size ≤ q → A q)
    (isC isR perm : List Nat) (hnC : va_nd isC = true) (hC : isC.map (fun i => ws[i]?) = wc.map some) (hRr : isR.map (fun i => ws[i]?) = wr.map some) (hn : va_nd isR = true) (hdis : ∀ i ∈ isR, i ∉ isC) (hnp : va_nd perm = true) (hperm : perm.map (fun i => (wr ++ w1)[i]?) = ws'.map some)
    (hlen : As.length = k) (hst : st0 = As.reverse ++ rest) (hls : ls.size = nL) (hW : (rest.map fun v => v.category).sum ≤ 8) (hdg : decode cc pc = .ok (.invokestatic idx, 3)) (hcs : cells + mc ≤ R.cells ∧ slots + ms ≤ R.slots)
    (kk : ∀ (H : Heap) (locs : List Loc), va_P G.1 vwCl ws' H → va_D A ws' → va_S A s.heap H locs → W p l e R s m args below meth c H locs (cells + mc) (slots + ms) Q (F0 m (pc + 3) ls (rv.toList ++ rest))) : W p l e R s m args below meth c H locs cells slots Q (F0 m pc ls st0) := by
  obtain ⟨⟨o1, o3, o4⟩, o5⟩ := ok
  have hts := F.2.2.2.2
  have hPc := hP.sub (ws' := wc) isC (gFm hC)
  have hDc := hD.sub (ws' := wc) isC hnC hC
  exact gCont (As := As) (rv := rv) (va_runSN (As := As) (rest := rest) (host := host) F (hM H.size) ⟨va_cnB k hts (gG_code o4) rfl hrc hrs (hN.1 _ hL) (hts _ o3) o5 hR, hts _ o1, trivial⟩ ⟨gPc_blind, fun U hU hW9 => ⟨rfl, by rw [hU], by rw [hU]; exact hPc, va_K.moved hW9.alike hK, hDc.weaken (fun _ _ _ _ => trivial), hN.warm hW9⟩⟩ rfl hlen hls hst (lv_room hW) hdg hcs) hP hD hS hA isC isR perm hC hRr hn hdis hnp hperm kk
theorem gRetI {v : Int32} {w0 : va_W} (F : CallFix p m c cc nL s args gT own) (hr : meth.sig.returnType = some .int) (hlocks : meth.locks = false) (hK : va_K G.1 vwCl (gTy G) s) (hP : va_P G.1 vwCl w0 H) (hD : va_D A w0) (hS : va_S A s.heap H locs) (hv : some (.int v) = rv) (hw : w0 = w1) (hc : cells ≤ mc) (hs : slots ≤ ms) (hdg : decode cc pc = .ok (.ireturn, 1)) :
    W p l e R s m args below meth c H locs cells slots (MQ below (gQ G rv w1 A) args s mc ms A) (F0 m pc ls [.int v]) := by
  subst hv hw
  exact W.widen hc hs (W.iret F.1 F.2.1 hr (fun t ht hW => ⟨⟨rfl, by rw [ht]; exact hP, va_K.moved hW.alike hK, hD⟩, hS.F ht⟩) hS.2.2 hdg hlocks)
theorem gRetZ {v : Int32} {w0 : va_W} (F : CallFix p m c cc nL s args gT own) (hr : meth.sig.returnType = some .boolean) (hlocks : meth.locks = false) (hK : va_K G.1 vwCl (gTy G) s) (hP : va_P G.1 vwCl w0 H) (hD : va_D A w0) (hS : va_S A s.heap H locs) (hn : narrow .boolean (.int v) = .int v) (hv : some (.int v) = rv) (hw : w0 = w1) (hc : cells ≤ mc) (hs : slots ≤ ms) (hdg : decode cc pc = .ok (.ireturn, 1)) :
    W p l e R s m args below meth c H locs cells slots (MQ below (gQ G rv w1 A) args s mc ms A) (F0 m pc ls [.int v]) := by
  subst hv hw
  exact W.widen hc hs (W.zret F.1 F.2.1 hr hn (fun t ht hW => ⟨⟨rfl, by rw [ht]; exact hP, va_K.moved hW.alike hK, hD⟩, hS.F ht⟩) hS.2.2 hdg hlocks)
theorem gRetL {v : Int64} {w0 : va_W} (F : CallFix p m c cc nL s args gT own) (hr : meth.sig.returnType = some .long) (hlocks : meth.locks = false) (hK : va_K G.1 vwCl (gTy G) s) (hP : va_P G.1 vwCl w0 H) (hD : va_D A w0) (hS : va_S A s.heap H locs) (hv : some (.long v) = rv) (hw : w0 = w1) (hc : cells ≤ mc) (hs : slots ≤ ms) (hdg : decode cc pc = .ok (.lreturn, 1)) :
    W p l e R s m args below meth c H locs cells slots (MQ below (gQ G rv w1 A) args s mc ms A) (F0 m pc ls [.long v]) := by
  subst hv hw
  exact W.widen hc hs (W.lret F.1 F.2.1 hr (fun t ht hW => ⟨⟨rfl, by rw [ht]; exact hP, va_K.moved hW.alike hK, hD⟩, hS.F ht⟩) hS.2.2 hdg hlocks)
theorem gRetV {w0 : va_W} (F : CallFix p m c cc nL s args gT own) (hr : meth.sig.returnType = none) (hlocks : meth.locks = false) (hK : va_K G.1 vwCl (gTy G) s) (hP : va_P G.1 vwCl w0 H) (hD : va_D A w0) (hS : va_S A s.heap H locs) (hv : none = rv) (hw : w0 = w1) (hc : cells ≤ mc) (hs : slots ≤ ms) (hdg : decode cc pc = .ok (.return_, 1)) :
    W p l e R s m args below meth c H locs cells slots (MQ below (gQ G rv w1 A) args s mc ms A) (F0 m pc ls []) := by
  subst hv hw
  exact W.widen hc hs (W.vret F.1 F.2.1 hr (fun t ht hW => ⟨⟨rfl, by rw [ht]; exact hP, va_K.moved hW.alike hK, hD⟩, hS.F ht⟩) hS.2.2 hdg hlocks)
theorem gRetA {a : Nat} {rt : FieldType} {w0 : va_W} (F : CallFix p m c cc nL s args gT own) (hr : meth.sig.returnType = some rt) (hrt : (∃ n, rt = .object n) ∨ ∃ t, rt = .array t) (hlocks : meth.locks = false) (hK : va_K G.1 vwCl (gTy G) s) (hP : va_P G.1 vwCl w0 H) (hD : va_D A w0) (hS : va_S A s.heap H locs) (hv : some (.ref a) = rv) (hw : w0 = w1) (hc : cells ≤ mc) (hs : slots ≤ ms) (hdg : decode cc pc = .ok (.areturn, 1)) :
    W p l e R s m args below meth c H locs cells slots (MQ below (gQ G rv w1 A) args s mc ms A) (F0 m pc ls [.ref a]) := by
  subst hv hw
  exact W.widen hc hs (W.aret F.1 F.2.1 hr hrt (Or.inr ⟨a, rfl⟩) (fun t ht hW => ⟨⟨rfl, by rw [ht]; exact hP, va_K.moved hW.alike hK, hD⟩, hS.F ht⟩) hS.2.2 hdg hlocks)
end gBase
end
section
/-! OWN BASE 2: rows of two instructions, remainders, booleans -/
theorem k_im_obj : Cond.instanceMethod Lib.objectInit ∈ gT := gT_tab (i := 39) (by decide +kernel) (by decide +kernel)
theorem k_cd_obj : Cond.code Lib.objectInit ⟨#[0xb1]⟩ 1 none ∈ gT := gT_tab (i := 40) (by decide +kernel) (by decide +kernel)
def gUshr (x y : Int32) : Int32 := (x.toUInt32 >>> (y.toUInt32 &&& Int32.toUInt32 31)).toInt32
def g01 (v : Int32) : Prop := v = 0 ∨ v = 1
theorem g01_0 : g01 0 := Or.inl rfl
theorem g01_1 : g01 1 := Or.inr rfl
theorem gNz {v : Int32} (h : g01 v) : narrow .boolean (.int v) = .int v := by rcases h with rfl | rfl <;> rfl
theorem gFz {v : Int32} (h : g01 v) : fits .boolean (.int v) = true := by rcases h with rfl | rfl <;> rfl
theorem gNarZ {v : Int32} (h : g01 v) : vp_nar .boolean v = v := by rcases h with rfl | rfl <;> rfl
section gRows
variable {p : Program} {l : Launch} {e : Env} {R : Room} {s : State} {m : MethodId} {args : Array Value} {below : List Frame} {meth : Method} {c : Code} {H : Heap} {locs : List Loc} {cells slots : Nat} {Q : State → Prop}
variable {cc : ByteArray} {pc tgt nL idx : Nat} {ls : Array Slot} {rest : List Value} {off : Int} {own : String}
theorem gIrem {x y : Int32} (hx : p.tables.exec = Jvm.exec) (hb : c.code = cc) (hdg : decode cc pc = .ok (.irem, 1)) (hne : ¬ y = 0) (k : W p l e R s m args below meth c H locs cells slots Q (F0 m (pc + 1) ls (.int (x % y) :: rest))) : W p l e R s m args below meth c H locs cells slots Q (F0 m pc ls (.int y :: .int x :: rest)) :=
  lv_irem hx hb hdg hne (by rw [irem_eq_mod]; exact k)
theorem gIald {D : va_G} {cl : List vw_C} {ws : va_W} {tys : List (ClassId × FieldType)} {a : Nat} (hx : p.tables.exec = Jvm.exec) (hb : c.code = cc) (hK : va_K D cl tys s) (hP : va_P D cl ws H) (q0 t0 : Nat) {cA : ClassId} {n : Nat} {f : Nat → Int32} (ha : ws[q0]? = some (a, .inl (cA, n, .inl f))) (ht : tys[t0]? = some (cA, .int)) {i : Int32} {k : Nat} (hi : i.toNatClampNeg = k) (hin : vp_in i n) (hdg : decode cc pc = .ok (.iaload, 1))
    (kk : W p l e R s m args below meth c H locs cells slots Q (F0 m (pc + 1) ls (.int (f k) :: rest))) : W p l e R s m args below meth c H locs cells slots Q (F0 m pc ls (.int i :: .ref a :: rest)) :=
  va_iald hx hb hK hP q0 t0 ha ht hin hdg (by rw [hi]; exact kk)
theorem gIast {D : va_G} {cl : List vw_C} {ws : va_W} {tys : List (ClassId × FieldType)} {a : Nat} {A : Nat → Prop} {H0 : Heap} (hx : p.tables.exec = Jvm.exec) (hb : c.code = cc) (hK : va_K D cl tys s) (hP : va_P D cl ws H) (hD : va_D A ws) (hS : va_S A H0 H locs) (q0 t0 : Nat) {cA : ClassId} {n : Nat} {f : Nat → Int32} (ha : ws[q0]? = some (a, .inl (cA, n, .inl f))) (ht : tys[t0]? = some (cA, .int)) {i x : Int32} {k : Nat} (hi : i.toNatClampNeg = k) (hin : vp_in i n) (hdg : decode cc pc = .ok (.iastore, 1))
    (kk : ∀ (H1 : Heap) (locs1 : List Loc), va_P D cl (ws.set q0 (a, .inl (cA, n, .inl (upd f k x)))) H1 → va_D A (ws.set q0 (a, .inl (cA, n, .inl (upd f k x)))) → va_S A H0 H1 locs1 → W p l e R s m args below meth c H1 locs1 cells slots Q (F0 m (pc + 1) ls rest)) : W p l e R s m args below meth c H locs cells slots Q (F0 m pc ls (.int x :: .int i :: .ref a :: rest)) := by
  subst hi
  exact va_iast hx hb hK hP hD hS q0 t0 ha ht hin hdg kk
theorem gLc_lt {x y : Int64} (hx : p.tables.exec = Jvm.exec) (hb : c.code = cc) (h1 : decode cc pc = .ok (.lcmp, 1)) (h2 : decode cc (pc + 1) = .ok (.ifCond .lt off, 3)) (ht : ((pc + 1 : Nat) : Int) + off = (tgt : Int)) (kt : x < y → W p l e R s m args below meth c H locs cells slots Q (F0 m tgt ls rest)) (kf : ¬ x < y → W p l e R s m args below meth c H locs cells slots Q (F0 m (pc + 1 + 3) ls rest)) : W p l e R s m args below meth c H locs cells slots Q (F0 m pc ls (.long y :: .long x :: rest)) :=
  W.lcmp hx hb h1 (lv_if_lt hx hb h2 ht (fun c => kt ((lg_cmp_lt x y).mp c)) (fun c => kf (fun q => c ((lg_cmp_lt x y).mpr q))))
theorem gLc_ge {x y : Int64} (hx : p.tables.exec = Jvm.exec) (hb : c.code = cc) (h1 : decode cc pc = .ok (.lcmp, 1)) (h2 : decode cc (pc + 1) = .ok (.ifCond .ge off, 3)) (ht : ((pc + 1 : Nat) : Int) + off = (tgt : Int)) (kt : y ≤ x → W p l e R s m args below meth c H locs cells slots Q (F0 m tgt ls rest)) (kf : ¬ y ≤ x → W p l e R s m args below meth c H locs cells slots Q (F0 m (pc + 1 + 3) ls rest)) : W p l e R s m args below meth c H locs cells slots Q (F0 m pc ls (.long y :: .long x :: rest)) :=
  W.lcmp hx hb h1 (lv_if_ge hx hb h2 ht (fun c => kt ((lg_cmp_ge x y).mp c)) (fun c => kf (fun q => c ((lg_cmp_ge x y).mpr q))))
theorem gLc_gt {x y : Int64} (hx : p.tables.exec = Jvm.exec) (hb : c.code = cc) (h1 : decode cc pc = .ok (.lcmp, 1)) (h2 : decode cc (pc + 1) = .ok (.ifCond .gt off, 3)) (ht : ((pc + 1 : Nat) : Int) + off = (tgt : Int)) (kt : y < x → W p l e R s m args below meth c H locs cells slots Q (F0 m tgt ls rest)) (kf : ¬ y < x → W p l e R s m args below meth c H locs cells slots Q (F0 m (pc + 1 + 3) ls rest)) : W p l e R s m args below meth c H locs cells slots Q (F0 m pc ls (.long y :: .long x :: rest)) :=
  W.lcmp hx hb h1 (lv_if_gt hx hb h2 ht (fun c => kt ((lg_cmp_gt x y).mp c)) (fun c => kf (fun q => c ((lg_cmp_gt x y).mpr q))))
theorem gLc_le {x y : Int64} (hx : p.tables.exec = Jvm.exec) (hb : c.code = cc) (h1 : decode cc pc = .ok (.lcmp, 1)) (h2 : decode cc (pc + 1) = .ok (.ifCond .le off, 3)) (ht : ((pc + 1 : Nat) : Int) + off = (tgt : Int)) (kt : x ≤ y → W p l e R s m args below meth c H locs cells slots Q (F0 m tgt ls rest)) (kf : ¬ x ≤ y → W p l e R s m args below meth c H locs cells slots Q (F0 m (pc + 1 + 3) ls rest)) : W p l e R s m args below meth c H locs cells slots Q (F0 m pc ls (.long y :: .long x :: rest)) :=
  W.lcmp hx hb h1 (lv_if_le hx hb h2 ht (fun c => kt ((lg_cmp_le x y).mp c)) (fun c => kf (fun q => c ((lg_cmp_le x y).mpr q))))
theorem gLc_eq {x y : Int64} (hx : p.tables.exec = Jvm.exec) (hb : c.code = cc) (h1 : decode cc pc = .ok (.lcmp, 1)) (h2 : decode cc (pc + 1) = .ok (.ifCond .eq off, 3)) (ht : ((pc + 1 : Nat) : Int) + off = (tgt : Int)) (kt : x = y → W p l e R s m args below meth c H locs cells slots Q (F0 m tgt ls rest)) (kf : ¬ x = y → W p l e R s m args below meth c H locs cells slots Q (F0 m (pc + 1 + 3) ls rest)) : W p l e R s m args below meth c H locs cells slots Q (F0 m pc ls (.long y :: .long x :: rest)) :=
  W.lcmp hx hb h1 (lv_if_eq hx hb h2 ht (fun c => kt ((lg_cmp_eq x y).mp c)) (fun c => kf (fun q => c ((lg_cmp_eq x y).mpr q))))
theorem gLc_ne {x y : Int64} (hx : p.tables.exec = Jvm.exec) (hb : c.code = cc) (h1 : decode cc pc = .ok (.lcmp, 1)) (h2 : decode cc (pc + 1) = .ok (.ifCond .ne off, 3)) (ht : ((pc + 1 : Nat) : Int) + off = (tgt : Int)) (kt : ¬ x = y → W p l e R s m args below meth c H locs cells slots Q (F0 m tgt ls rest)) (kf : x = y → W p l e R s m args below meth c H locs cells slots Q (F0 m (pc + 1 + 3) ls rest)) : W p l e R s m args below meth c H locs cells slots Q (F0 m pc ls (.long y :: .long x :: rest)) :=
  W.lcmp hx hb h1 (lv_if_ne hx hb h2 ht (fun c => kt (fun q => c ((lg_cmp_eq x y).mpr q))) (fun c => kf ((lg_cmp_eq x y).mp c)))
end gRows
theorem k_na_ac : Cond.native arraycopyName ∈ gT := gT_tab (i := 537) (by decide +kernel) (by decide +kernel)
theorem k_st_ac : Cond.static arraycopyName ∈ gT := gT_tab (i := 536) (by decide +kernel) (by decide +kernel)
/-! NEST -/
theorem kn_X6_11 : (RX6, 11, yX2_init, "DelayLineStore") ∈ gNest := by decide +kernel
theorem kn_X2_11 : (RX2, 11, yX5_init, "DelayLineStore") ∈ gNest := by decide +kernel
theorem kn_X2_27 : (RX2, 27, yX4_init, "DelayLineStore") ∈ gNest := by decide +kernel
theorem kn_X6_27 : (RX6, 27, yX0_init, "DelayLineStore") ∈ gNest := by decide +kernel
theorem kn_X5_21 : (RX5, 21, yX6_wrap, "DelayLineStore") ∈ gNest := by decide +kernel
theorem kn_X2_129 : (RX2, 129, yX6_waitingUntil, "DelayLineStore") ∈ gNest := by decide +kernel
theorem kn_X1_38 : (RX1, 38, yX6_delayOf, "DelayLineStore") ∈ gNest := by decide +kernel
theorem kn_X2_145 : (RX2, 145, yX6_mismatchOf, "DelayLineStore") ∈ gNest := by decide +kernel
theorem kn_X5_26 : (RX5, 26, yX6_locationOf, "DelayLineStore") ∈ gNest := by decide +kernel
theorem kn_X5_51 : (RX5, 51, yX6_cycleOf, "DelayLineStore") ∈ gNest := by decide +kernel
theorem kn_X3_9 : (RX3, 9, yX6_locationOf, "DelayLineStore") ∈ gNest := by decide +kernel
theorem kn_X2_105 : (RX2, 105, yX6_cycleOf, "DelayLineStore") ∈ gNest := by decide +kernel
theorem kn_X2_108 : (RX2, 108, yX6_wrap, "DelayLineStore") ∈ gNest := by decide +kernel
theorem kn_X3_13 : (RX3, 13, yX6_cycleOf, "DelayLineStore") ∈ gNest := by decide +kernel
theorem kn_X5_61 : (RX5, 61, yX6_copyRow, "DelayLineStore") ∈ gNest := by decide +kernel
theorem kn_X1_49 : (RX1, 49, yX6_copyRow, "DelayLineStore") ∈ gNest := by decide +kernel
theorem kn_X4_22 : (RX4, 22, yX6_copyRow, "DelayLineStore") ∈ gNest := by decide +kernel
theorem kn_X2_175 : (RX2, 175, yX6_copyRow, "DelayLineStore") ∈ gNest := by decide +kernel
theorem kn_L_229 : (RL, 229, yX8_init, "DelayLineStoreLaw") ∈ gNest := by decide +kernel
theorem kf_L_182 : (RL, 182, "DelayLineStoreLaw$Machine", "bits", "[[Z", "DelayLineStoreLaw") ∈ gNestF := by decide +kernel
theorem kf_L_104 : (RL, 104, "DelayLineStoreLaw$Machine", "warm", "[I", "DelayLineStoreLaw") ∈ gNestF := by decide +kernel
theorem kf_L_111 : (RL, 111, "DelayLineStoreLaw$Machine", "slips", "[I", "DelayLineStoreLaw") ∈ gNestF := by decide +kernel
theorem kf_L_133 : (RL, 133, "DelayLineStoreLaw$Machine", "counts", "[[I", "DelayLineStoreLaw") ∈ gNestF := by decide +kernel
theorem kf_L_193 : (RL, 193, "DelayLineStoreLaw$Machine", "in", "Ljava/util/ArrayList;", "DelayLineStoreLaw") ∈ gNestF := by decide +kernel
theorem kf_L_88 : (RL, 88, "DelayLineStoreLaw$Machine", "out", "Ljava/util/ArrayList;", "DelayLineStoreLaw") ∈ gNestF := by decide +kernel
theorem kf_L_36 : (RL, 36, "DelayLineStoreLaw$Machine", "time", "I", "DelayLineStoreLaw") ∈ gNestF := by decide +kernel
theorem kf_L_44 : (RL, 44, "DelayLineStoreLaw$Machine", "acc", "I", "DelayLineStoreLaw") ∈ gNestF := by decide +kernel
theorem kf_L_55 : (RL, 55, "DelayLineStoreLaw$Machine", "tank", "I", "DelayLineStoreLaw") ∈ gNestF := by decide +kernel
theorem kf_L_58 : (RL, 58, "DelayLineStoreLaw$Machine", "cycle", "I", "DelayLineStoreLaw") ∈ gNestF := by decide +kernel
theorem kf_L_50 : (RL, 50, "DelayLineStoreLaw$Machine", "state", "I", "DelayLineStoreLaw") ∈ gNestF := by decide +kernel
theorem kf_L_64 : (RL, 64, "DelayLineStoreLaw$Machine", "done", "I", "DelayLineStoreLaw") ∈ gNestF := by decide +kernel
theorem kf_L_70 : (RL, 70, "DelayLineStoreLaw$Machine", "waited", "I", "DelayLineStoreLaw") ∈ gNestF := by decide +kernel
theorem kf_L_75 : (RL, 75, "DelayLineStoreLaw$Machine", "dropouts", "I", "DelayLineStoreLaw") ∈ gNestF := by decide +kernel
theorem kf_L_155 : (RL, 155, "DelayLineStoreLaw$Machine", "oven", "I", "DelayLineStoreLaw") ∈ gNestF := by decide +kernel
theorem kf_L_161 : (RL, 161, "DelayLineStoreLaw$Machine", "pilot", "I", "DelayLineStoreLaw") ∈ gNestF := by decide +kernel
theorem kf_L_174 : (RL, 174, "DelayLineStoreLaw$Machine", "fixed", "I", "DelayLineStoreLaw") ∈ gNestF := by decide +kernel
theorem kf_L_167 : (RL, 167, "DelayLineStoreLaw$Machine", "isPilot", "Z", "DelayLineStoreLaw") ∈ gNestF := by decide +kernel
theorem kf_L_81 : (RL, 81, "DelayLineStoreLaw$Machine", "isOver", "Z", "DelayLineStoreLaw") ∈ gNestF := by decide +kernel
end
section
/-! OWN PURE ROWS: Int32 by its value toInt -/
theorem gInL {i : Int32} {n : Nat} (h : (decide (0 ≤ i.toInt) && decide (i.toInt < n)) = true) : vp_in i n := by
  rw [vp_in_iff]
  simpa using h
theorem gI_lo (x : Int32) : -2147483648 ≤ x.toInt := by have := Int32.le_toInt x; omega
theorem gI_hi (x : Int32) : x.toInt < 2147483648 := by have := Int32.toInt_lt x; omega
theorem gI_nat (x : Int32) : (x.toBitVec.toNat : Int) = x.toInt % 4294967296 := by
  have h : x.toInt = x.toBitVec.toInt := rfl
  rw [h, BitVec.toInt_eq_toNat_bmod]
  have := x.toBitVec.isLt
  simp only [Int.bmod]
  omega
theorem gI_and (x : Int32) {m : Int32} (k : Nat) (hm : m.toBitVec.toNat = 2 ^ k - 1) (hk : k ≤ 31) : (x &&& m).toInt = x.toInt % (2 ^ k : Nat) := by
  rw [pk_and x k hm]
  have h1 : x.toBitVec.toNat % 2 ^ k < 2 ^ 31 := Nat.lt_of_lt_of_le (Nat.mod_lt _ (Nat.two_pow_pos k)) (Nat.pow_le_pow_right (by decide) hk)
  rw [nI_toInt h1]
  first | rw [Int.natCast_emod] | rw [Int.ofNat_emod] | rw [Int.natCast_mod_natCast]
  rw [gI_nat x]
  have h2 : ((2 ^ k : Nat) : Int) ∣ 4294967296 := by
    have h3 : (2 ^ k : Nat) ∣ 2 ^ 32 := Nat.pow_dvd_pow 2 (by omega)
    have h4 := Int.natCast_dvd_natCast.mpr h3
    simpa using h4
  exact Int.emod_emod_of_dvd _ h2
theorem gI_and255 (x : Int32) : (x &&& 255).toInt = x.toInt % 256 := gI_and x 8 (by decide) (by decide)
theorem gI_and31 (x : Int32) : (x &&& 31).toInt = x.toInt % 32 := gI_and x 5 (by decide) (by decide)
theorem gI_and7 (x : Int32) : (x &&& 7).toInt = x.toInt % 8 := gI_and x 3 (by decide) (by decide)
theorem gI_and15 (x : Int32) : (x &&& 15).toInt = x.toInt % 16 := gI_and x 4 (by decide) (by decide)
theorem gI_and63 (x : Int32) : (x &&& 63).toInt = x.toInt % 64 := gI_and x 6 (by decide) (by decide)
theorem gI_and1 (x : Int32) : (x &&& 1).toInt = x.toInt % 2 := gI_and x 1 (by decide) (by decide)
theorem gI_and20 (x : Int32) : (x &&& 1048575).toInt = x.toInt % 1048576 := gI_and x 20 (by decide) (by decide)
theorem gI_and12 (x : Int32) : (x &&& 4095).toInt = x.toInt % 4096 := gI_and x 12 (by decide) (by decide)
theorem gI_bm {z : Int} (h1 : -2147483648 ≤ z) (h2 : z < 2147483648) : z.bmod (2 ^ 32) = z := by
  simp only [Int.bmod]; omega
theorem gI_add {x y : Int32} (h1 : -2147483648 ≤ x.toInt + y.toInt) (h2 : x.toInt + y.toInt < 2147483648) : (x + y).toInt = x.toInt + y.toInt := by rw [Int32.toInt_add]; exact gI_bm h1 h2
theorem gI_sub {x y : Int32} (h1 : -2147483648 ≤ x.toInt - y.toInt) (h2 : x.toInt - y.toInt < 2147483648) : (x - y).toInt = x.toInt - y.toInt := by rw [Int32.toInt_sub]; exact gI_bm h1 h2
theorem gI_mul {x y : Int32} (h1 : -2147483648 ≤ x.toInt * y.toInt) (h2 : x.toInt * y.toInt < 2147483648) : (x * y).toInt = x.toInt * y.toInt := by rw [Int32.toInt_mul]; exact gI_bm h1 h2
theorem gI_div {x y : Int32} (hx : 0 ≤ x.toInt) (hy : 0 < y.toInt) : (x / y).toInt = x.toInt / y.toInt := by
  rw [Int32.toInt_div, Int.tdiv_eq_ediv_of_nonneg hx]
  have h1 := Int.ediv_nonneg hx (Int.le_of_lt hy)
  have h2 := Int.ediv_le_self y.toInt hx
  have h3 := gI_hi x
  exact gI_bm (by omega) (by omega)
theorem gI_mod {x y : Int32} (hx : 0 ≤ x.toInt) : (x % y).toInt = x.toInt % y.toInt := by
  rw [Int32.toInt_mod, Int.tmod_eq_emod_of_nonneg hx]
theorem gI_tdiv {x y : Int32} (h : y.toInt ≠ -1) : (x / y).toInt = x.toInt.tdiv y.toInt := by
  rw [Int32.toInt_div]
  have h3 := gI_hi x
  have h4 := gI_lo x
  have h5 : (x.toInt.tdiv y.toInt).natAbs ≤ x.toInt.natAbs := by rw [Int.natAbs_tdiv]; exact Nat.div_le_self _ _
  by_cases q : x.toInt.tdiv y.toInt < 2147483648
  · exact gI_bm (by omega) q
  · exfalso
    have h6 : x.toInt = -2147483648 := by omega
    have h7 : (x.toInt.tdiv y.toInt).natAbs = 2147483648 := by omega
    rw [Int.natAbs_tdiv, h6] at h7
    have h8 : (-2147483648 : Int).natAbs = 2147483648 := by decide
    rw [h8] at h7
    have h9 : y.toInt.natAbs = 1 := by
      rcases Nat.lt_or_ge y.toInt.natAbs 2 with z | z
      · rcases Nat.eq_zero_or_pos y.toInt.natAbs with z0 | z0
        · rw [z0] at h7; exact absurd h7 (by decide)
        · omega
      · have z2 : Nat.div 2147483648 y.toInt.natAbs ≤ 2147483648 / 2 := Nat.div_le_div_left z (by decide)
        omega
    have h10 : y.toInt = 1 := by omega
    rw [h10, Int.tdiv_one] at q
    omega
theorem gI_ext {x y : Int32} (h : x.toInt = y.toInt) : x = y := Int32.toInt_inj.mp h
theorem gI_le {x y : Int32} : x ≤ y ↔ x.toInt ≤ y.toInt := Int32.le_iff_toInt_le
theorem gI_lt {x y : Int32} : x < y ↔ x.toInt < y.toInt := Int32.lt_iff_toInt_lt
theorem gL_le {x y : Int64} : x ≤ y ↔ x.toInt ≤ y.toInt := Int64.le_iff_toInt_le
theorem gL_lt {x y : Int64} : x < y ↔ x.toInt < y.toInt := Int64.lt_iff_toInt_lt
theorem gI_l (x : Int32) : x.toInt64.toInt = x.toInt := Int32.toInt_toInt64 x
theorem gI_clamp {x : Int32} (h : 0 ≤ x.toInt) : (x.toNatClampNeg : Int) = x.toInt := by
  show ((x.toInt.toNat : Nat) : Int) = x.toInt
  omega
theorem gI_nI {x : Int32} (h : 0 ≤ x.toInt) : x = nI x.toNatClampNeg := gI_ext (by
  have := gI_clamp h
  have h2 := gI_hi x
  rw [nI_toInt (by omega)]; omega)
theorem gI_divL {x y : Int32} {d : Int} (hx : 0 ≤ x.toInt) (hy : y.toInt = d) (hd : 0 < d) : (x / y).toInt = x.toInt / d := by rw [gI_div hx (by omega), hy]
theorem gI_modL {x y : Int32} {d : Int} (hx : 0 ≤ x.toInt) (hy : y.toInt = d) : (x % y).toInt = x.toInt % d := by rw [gI_mod hx, hy]
theorem gI_modB {x y : Int32} {d : Int} (hy : y.toInt = d) (hd : 0 < d) : -d < (x % y).toInt ∧ (x % y).toInt < d := by
  rw [Int32.toInt_mod, hy]
  exact tmod_bounds hd
end
