/-! THE START: links, statics, classes -/
theorem tb1 {w : Cond} {i : Nat} (h : tables_1_1[i]? = some w) : w ∈ lw_tbl := List.mem_append_right _ (List.mem_append_left _ (List.mem_of_getElem? h))
theorem tb2 {w : Cond} {i : Nat} (h : tables_1_2[i]? = some w) : w ∈ lw_tbl := List.mem_append_right _ (List.mem_append_right _ (List.mem_append_left _ (List.mem_of_getElem? h)))
theorem tb3 {w : Cond} {i : Nat} (h : tables_1_3[i]? = some w) : w ∈ lw_tbl := List.mem_append_right _ (List.mem_append_right _ (List.mem_append_right _ (List.mem_append_left _ (List.mem_of_getElem? h))))
theorem tb4 {w : Cond} {i : Nat} (h : tables_1_4[i]? = some w) : w ∈ lw_tbl := List.mem_append_right _ (List.mem_append_right _ (List.mem_append_right _ (List.mem_append_right _ (List.mem_append_left _ (List.mem_of_getElem? h)))))
theorem tb5 {w : Cond} {i : Nat} (h : tables_1_5[i]? = some w) : w ∈ lw_tbl := List.mem_append_right _ (List.mem_append_right _ (List.mem_append_right _ (List.mem_append_right _ (List.mem_append_right _ (List.mem_of_getElem? h)))))
theorem nest_in : ∀ q ∈ gNest, Cond.methodLinkNest q.1 q.2.1 q.2.2.1 q.2.2.2 ∈ lw_tbl := List.forall_mem_cons.mpr ⟨tb1 (i := 43) (by decide +kernel), List.forall_mem_cons.mpr ⟨tb1 (i := 49) (by decide +kernel), List.forall_mem_cons.mpr ⟨tb1 (i := 97) (by decide +kernel), List.forall_mem_cons.mpr ⟨tb1 (i := 163) (by decide +kernel), List.forall_mem_cons.mpr ⟨tb2 (i := 95) (by decide +kernel), List.forall_mem_cons.mpr ⟨tb2 (i := 153) (by decide +kernel), List.forall_mem_cons.mpr ⟨tb2 (i := 168) (by decide +kernel), List.forall_mem_cons.mpr ⟨tb2 (i := 176) (by decide +kernel), List.forall_mem_cons.mpr ⟨tb2 (i := 190) (by decide +kernel), List.forall_mem_cons.mpr ⟨tb2 (i := 191) (by decide +kernel), List.forall_mem_cons.mpr ⟨tb2 (i := 223) (by decide +kernel), List.forall_mem_cons.mpr ⟨tb3 (i := 5) (by decide +kernel), List.forall_mem_cons.mpr ⟨tb3 (i := 6) (by decide +kernel), List.forall_mem_cons.mpr ⟨tb3 (i := 28) (by decide +kernel), List.forall_mem_cons.mpr ⟨tb3 (i := 49) (by decide +kernel), List.forall_mem_cons.mpr ⟨tb3 (i := 62) (by decide +kernel), List.forall_mem_cons.mpr ⟨tb3 (i := 67) (by decide +kernel), List.forall_mem_cons.mpr ⟨tb3 (i := 68) (by decide +kernel), List.forall_mem_cons.mpr ⟨tb3 (i := 86) (by decide +kernel), fun _ h => absurd h List.not_mem_nil⟩⟩⟩⟩⟩⟩⟩⟩⟩⟩⟩⟩⟩⟩⟩⟩⟩⟩⟩
theorem nestF_in : ∀ q ∈ gNestF, Cond.fieldLinkNest q.1 q.2.1 q.2.2.1 q.2.2.2.1 q.2.2.2.2.1 q.2.2.2.2.2 ∈ lw_tbl := List.forall_mem_cons.mpr ⟨tb3 (i := 122) (by decide +kernel), List.forall_mem_cons.mpr ⟨tb3 (i := 124) (by decide +kernel), List.forall_mem_cons.mpr ⟨tb3 (i := 126) (by decide +kernel), List.forall_mem_cons.mpr ⟨tb3 (i := 128) (by decide +kernel), List.forall_mem_cons.mpr ⟨tb3 (i := 130) (by decide +kernel), List.forall_mem_cons.mpr ⟨tb3 (i := 132) (by decide +kernel), List.forall_mem_cons.mpr ⟨tb3 (i := 134) (by decide +kernel), List.forall_mem_cons.mpr ⟨tb3 (i := 136) (by decide +kernel), List.forall_mem_cons.mpr ⟨tb3 (i := 138) (by decide +kernel), List.forall_mem_cons.mpr ⟨tb3 (i := 140) (by decide +kernel), List.forall_mem_cons.mpr ⟨tb3 (i := 142) (by decide +kernel), List.forall_mem_cons.mpr ⟨tb3 (i := 144) (by decide +kernel), List.forall_mem_cons.mpr ⟨tb3 (i := 146) (by decide +kernel), List.forall_mem_cons.mpr ⟨tb3 (i := 148) (by decide +kernel), List.forall_mem_cons.mpr ⟨tb3 (i := 150) (by decide +kernel), List.forall_mem_cons.mpr ⟨tb3 (i := 152) (by decide +kernel), List.forall_mem_cons.mpr ⟨tb3 (i := 154) (by decide +kernel), List.forall_mem_cons.mpr ⟨tb3 (i := 156) (by decide +kernel), List.forall_mem_cons.mpr ⟨tb3 (i := 158) (by decide +kernel), fun _ h => absurd h List.not_mem_nil⟩⟩⟩⟩⟩⟩⟩⟩⟩⟩⟩⟩⟩⟩⟩⟩⟩⟩⟩
def nrw : List Cond := flatC (Jvm.Cond.and given_1 narrow_1)
theorem nr_of {args : Array Value} {s : State} {w : Cond} {i : Nat} (hg : (Jvm.Cond.and given_1 narrow_1).before args s = true) (h : nrw[i]? = some w) : w.before args s = true := flat_of_before _ hg w (List.mem_of_getElem? h)
/-- the statics' cell is none of the script -/
theorem va_Z_b {C n d : String} {v : Value} {s : State} {b : Nat} (h : va_Z C n d v (fun q => s.heap.size ≤ q) s s.heap) (hb : ∀ cell, s.heap[b]? = some cell → cell.vm.isStatics = false) : va_Z C n d v (fun q => q = b ∨ s.heap.size ≤ q) s s.heap := by
  obtain ⟨cf, kf, fi, f, a, cell, h1, h2, h3, h4, h5, h6, h7, h8⟩ := h
  refine ⟨cf, kf, fi, f, a, cell, h1, h2, h3, h4, h5, h6, h7, fun q => q.elim (fun e => ?_) h8⟩
  rw [e] at h5
  rw [hb cell h5] at h6
  cases h6
section LWx
variable {s : State} {args : Array Value} {D : va_G} {cs : ClassId × ClassId × ClassId × ClassId × ClassId} {f b : Nat}
theorem env_of (hts : ∀ w ∈ lw_tbl, w.before args s = true) (hz : gAZ (D, cs, f) s) : gEnv (D, cs, f) s :=
  ⟨fun q hq => va_Nw.of rfl (hts _ (nest_in q hq)), fun q hq => va_Nw.of rfl (hts _ (nestF_in q hq)), hz, va_AOA.of (hts _ (tb3 (i := 91) (by decide +kernel))), va_AOA.of (hts _ (tb3 (i := 93) (by decide +kernel)))⟩
theorem st_of (hts : ∀ w ∈ lw_tbl, w.before args s = true) (hg : (Jvm.Cond.and given_1 narrow_1).before args s = true) (hb : ∀ cell, s.heap[b]? = some cell → cell.vm.isStatics = false) : ∃ f : Nat, ∀ (D : va_G) (cs : ClassId × ClassId × ClassId × ClassId × ClassId), gSt (D, cs, f) (fun q => q = b ∨ s.heap.size ≤ q) s := by
  have hA : ∀ a : Nat, a < s.heap.size → ¬ (fun q : Nat => s.heap.size ≤ q) a := fun a h => Nat.not_le.mpr h
  obtain ⟨a, c, cA, kA, q1, -⟩ := Cond.exactly_spec (args := args) (first := s) (o := none) (s := s) (idx := []) (nr_of (w := Cond.exactly (.static "java/util/ArrayList" "DEFAULTCAPACITY_EMPTY_ELEMENTDATA" "[Ljava/lang/Object;") "[Ljava/lang/Object;") (i := 9) hg (by decide +kernel))
  refine ⟨a, fun D cs => ⟨va_Z_b ?_ hb, va_Z_b ?_ hb⟩⟩
  · exact va_Zof (hts _ (tb1 (i := 210) (by decide +kernel))) (hts _ (tb1 (i := 10) (by decide +kernel))) (va_eqt (nr_of (i := 4) hg (by decide +kernel))) hA
  · exact va_Zof (hts _ (tb3 (i := 107) (by decide +kernel))) (hts _ (tb1 (i := 15) (by decide +kernel))) q1 hA
theorem ar_of {ty : FieldType} (hty : ty = .int ∨ ty = .boolean ∨ ty = .byte) (h : (Cond.arrayClass ty).before args s = true) : ∃ cA : ClassId, ArrOfT s cA ty ∧ va_RA s cA ty := by
  obtain ⟨cA, kA, comp, h1, h2, h3⟩ := Cond.arrayClass_spec h
  rcases hty with rfl | rfl | rfl
  · exact ⟨cA, fun n z => ⟨(fun k h => by cases h), kA, h2, comp, h3⟩, h1⟩
  · exact ⟨cA, fun n z => ⟨(fun k h => by cases h), kA, h2, comp, h3⟩, h1⟩
  · exact ⟨cA, fun n z => ⟨(fun k h => by cases h), kA, h2, comp, h3⟩, h1⟩
theorem az_of {ty : FieldType} (hty : ty = .int ∨ ty = .boolean) (h : (Cond.arrayOver (.array ty)).before args s = true) : ∃ (cA : ClassId) (comp : ClassId) (k : Class), ArrOfT s cA (.array ty) ∧ va_RA s cA (.array ty) ∧ s.vm.findClass (FieldType.array ty).toString = some comp ∧ s.vm.classes[cA]? = some k ∧ k.kind = .array comp (.array ty) := by
  obtain ⟨comp, cA, k, h0, -, h2, h3, h1⟩ := arrayOver_specB h
  rcases hty with rfl | rfl
  · exact ⟨cA, comp, k, fun n z => ⟨(fun k h => by cases h), k, h2, comp, h3⟩, h1, h0, h2, h3⟩
  · exact ⟨cA, comp, k, fun n z => ⟨(fun k h => by cases h), k, h2, comp, h3⟩, h1, h0, h2, h3⟩
theorem cl_of (hts : ∀ w ∈ gT, w.before args s = true) : ∀ k : Nat, ∃ z : ClassId × (Nat → Nat), ∀ q : vw_C, vwCl[k]? = some q → u_Kn s q.1 q.2.1 q.2.2 z.1 z.2 := by
  intro k
  match k with
  | 0 =>
    obtain ⟨cC, iS, h⟩ := u_known (C := RJ4) (T := TJ4) (N := 4) (n := 4) hts in_J4 (hts _ k_is_J4)
    exact ⟨(cC, iS), fun q hq => by cases hq; exact h⟩
  | 1 =>
    obtain ⟨cC, iS, h⟩ := u_known (C := RJ6) (T := TJ6) (N := 1) (n := 1) hts in_J6 (hts _ k_is_J6)
    exact ⟨(cC, iS), fun q hq => by cases hq; exact h⟩
  | 2 =>
    obtain ⟨cC, iS, h⟩ := u_known (C := RJx4a65c) (T := TJx4a65c) (N := 3) (n := 3) hts in_Jx4a65c (hts _ k_is_Jx4a65c)
    exact ⟨(cC, iS), fun q hq => by cases hq; exact h⟩
  | 3 =>
    obtain ⟨cC, iS, h⟩ := u_known (C := RX0) (T := TX0) (N := 13) (n := 13) hts in_X0 (hts _ k_is_X0)
    exact ⟨(cC, iS), fun q hq => by cases hq; exact h⟩
  | 4 =>
    obtain ⟨cC, iS, h⟩ := u_known (C := RX1) (T := TX1) (N := 5) (n := 5) hts in_X1 (hts _ k_is_X1)
    exact ⟨(cC, iS), fun q hq => by cases hq; exact h⟩
  | 5 =>
    obtain ⟨cC, iS, h⟩ := u_known (C := RX2) (T := TX2) (N := 12) (n := 12) hts in_X2 (hts _ k_is_X2)
    exact ⟨(cC, iS), fun q hq => by cases hq; exact h⟩
  | 6 =>
    obtain ⟨cC, iS, h⟩ := u_known (C := RX4) (T := TX4) (N := 3) (n := 3) hts in_X4 (hts _ k_is_X4)
    exact ⟨(cC, iS), fun q hq => by cases hq; exact h⟩
  | 7 =>
    obtain ⟨cC, iS, h⟩ := u_known (C := RX5) (T := TX5) (N := 4) (n := 4) hts in_X5 (hts _ k_is_X5)
    exact ⟨(cC, iS), fun q hq => by cases hq; exact h⟩
  | 8 =>
    obtain ⟨cC, iS, h⟩ := u_known (C := RX6) (T := TX6) (N := 8) (n := 8) hts in_X6 (hts _ k_is_X6)
    exact ⟨(cC, iS), fun q hq => by cases hq; exact h⟩
  | 9 =>
    obtain ⟨cC, iS, h⟩ := u_known (C := RX7) (T := TX7) (N := 1) (n := 1) hts in_X7 (hts _ k_is_X7)
    exact ⟨(cC, iS), fun q hq => by cases hq; exact h⟩
  | 10 =>
    obtain ⟨cC, iS, h⟩ := u_known (C := RX8) (T := TX8) (N := 19) (n := 19) hts in_X8 (hts _ k_is_X8)
    exact ⟨(cC, iS), fun q hq => by cases hq; exact h⟩
  | k + 11 =>
    obtain ⟨cC, iS, h⟩ := u_known (C := RX6) (T := TX6) (N := 8) (n := 8) hts in_X6 (hts _ k_is_X6)
    exact ⟨(cC, iS), fun q hq => by simp [vwCl] at hq⟩
theorem k_of (hts : ∀ w ∈ gT, w.before args s = true) (h4 : (Cond.arrayOver (.array .boolean)).before args s = true) (h5 : (Cond.arrayOver (.array .int)).before args s = true) {cI : ClassId} (hI : s.vm.findClass "[I" = some cI) : ∃ (D : va_G) (cs : ClassId × ClassId × ClassId × ClassId × ClassId), cs.1 = cI ∧ ∀ f : Nat, va_K D vwCl (gTy (D, cs, f)) s ∧ gAZ (D, cs, f) s := by
  obtain ⟨z, hz⟩ := Classical.axiomOfChoice (cl_of hts)
  obtain ⟨c1, a1, r1⟩ := ar_of (ty := .int) (Or.inl rfl) (hts _ k_ac_int)
  obtain ⟨c2, a2, r2⟩ := ar_of (ty := .boolean) (Or.inr (Or.inl rfl)) (hts _ k_ac_boolean)
  obtain ⟨c3, h3⟩ := ar_of (ty := .byte) (Or.inr (Or.inr rfl)) (hts _ k_ac_byte)
  obtain ⟨c4, p4, k4, a4, r4, f4, g4, e4⟩ := az_of (Or.inr rfl) h4
  obtain ⟨c5, p5, k5, a5, r5, f5, g5, e5⟩ := az_of (Or.inl rfl) h5
  have e1 : c1 = cI := Option.some.inj ((show s.vm.findClass "[I" = some c1 from r1).symm.trans hI)
  have e2 : p4 = c2 := Option.some.inj ((show s.vm.findClass "[Z" = some p4 from f4).symm.trans (show s.vm.findClass "[Z" = some c2 from r2))
  refine ⟨(fun k => (z k).1, fun k => (z k).2), (c1, c2, c3, c4, c5), e1, fun f => ⟨⟨fun k q hq => hz k q hq, fun k q hq => ?_⟩, k4, g4, by rw [e4, e2]⟩⟩
  match k, hq with
  | 0, hq => cases hq; exact ⟨a1, r1⟩
  | 1, hq => cases hq; exact ⟨a2, r2⟩
  | 2, hq => cases hq; exact h3
  | 3, hq => cases hq; exact ⟨a4, r4⟩
  | 4, hq => cases hq; exact ⟨a5, r5⟩
  | k + 5, hq => simp [gTy] at hq
end LWx
