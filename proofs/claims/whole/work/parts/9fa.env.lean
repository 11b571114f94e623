/-! LAW X: what the Statement's start gives: links, Strings, statics, classes -/
theorem tb1 {w : Cond} {i : Nat} (h : tables_1_1[i]? = some w) : w ∈ lw_tbl := List.mem_append_right _ (List.mem_append_left _ (List.mem_of_getElem? h))
theorem tb2 {w : Cond} {i : Nat} (h : tables_1_2[i]? = some w) : w ∈ lw_tbl := List.mem_append_right _ (List.mem_append_right _ (List.mem_append_left _ (List.mem_of_getElem? h)))
theorem tb3 {w : Cond} {i : Nat} (h : tables_1_3[i]? = some w) : w ∈ lw_tbl := List.mem_append_right _ (List.mem_append_right _ (List.mem_append_right _ (List.mem_append_left _ (List.mem_of_getElem? h))))
theorem tb4 {w : Cond} {i : Nat} (h : tables_1_4[i]? = some w) : w ∈ lw_tbl := List.mem_append_right _ (List.mem_append_right _ (List.mem_append_right _ (List.mem_append_right _ (List.mem_append_left _ (List.mem_of_getElem? h)))))
theorem tb5 {w : Cond} {i : Nat} (h : tables_1_5[i]? = some w) : w ∈ lw_tbl := List.mem_append_right _ (List.mem_append_right _ (List.mem_append_right _ (List.mem_append_right _ (List.mem_append_right _ (List.mem_append_left _ (List.mem_of_getElem? h))))))
theorem tb6 {w : Cond} {i : Nat} (h : tables_1_6[i]? = some w) : w ∈ lw_tbl := List.mem_append_right _ (List.mem_append_right _ (List.mem_append_right _ (List.mem_append_right _ (List.mem_append_right _ (List.mem_append_right _ (List.mem_append_left _ (List.mem_of_getElem? h)))))))
theorem tb7 {w : Cond} {i : Nat} (h : tables_1_7[i]? = some w) : w ∈ lw_tbl := List.mem_append_right _ (List.mem_append_right _ (List.mem_append_right _ (List.mem_append_right _ (List.mem_append_right _ (List.mem_append_right _ (List.mem_append_right _ (List.mem_append_left _ (List.mem_of_getElem? h))))))))
theorem tb8 {w : Cond} {i : Nat} (h : tables_1_8[i]? = some w) : w ∈ lw_tbl := List.mem_append_right _ (List.mem_append_right _ (List.mem_append_right _ (List.mem_append_right _ (List.mem_append_right _ (List.mem_append_right _ (List.mem_append_right _ (List.mem_append_right _ (List.mem_append_left _ (List.mem_of_getElem? h)))))))))
theorem tb9 {w : Cond} {i : Nat} (h : tables_1_9[i]? = some w) : w ∈ lw_tbl := List.mem_append_right _ (List.mem_append_right _ (List.mem_append_right _ (List.mem_append_right _ (List.mem_append_right _ (List.mem_append_right _ (List.mem_append_right _ (List.mem_append_right _ (List.mem_append_right _ (List.mem_of_getElem? h)))))))))
theorem nest_in : ∀ q ∈ gNest, Cond.methodLinkNest q.1 q.2.1 q.2.2.1 q.2.2.2 ∈ lw_tbl := List.forall_mem_cons.mpr ⟨tb1 (i := 40) (by decide +kernel), List.forall_mem_cons.mpr ⟨tb1 (i := 46) (by decide +kernel), List.forall_mem_cons.mpr ⟨tb1 (i := 94) (by decide +kernel), List.forall_mem_cons.mpr ⟨tb1 (i := 160) (by decide +kernel), List.forall_mem_cons.mpr ⟨tb2 (i := 52) (by decide +kernel), List.forall_mem_cons.mpr ⟨tb2 (i := 82) (by decide +kernel), List.forall_mem_cons.mpr ⟨tb2 (i := 100) (by decide +kernel), List.forall_mem_cons.mpr ⟨tb3 (i := 140) (by decide +kernel), List.forall_mem_cons.mpr ⟨tb3 (i := 167) (by decide +kernel), List.forall_mem_cons.mpr ⟨tb3 (i := 181) (by decide +kernel), List.forall_mem_cons.mpr ⟨tb3 (i := 185) (by decide +kernel), List.forall_mem_cons.mpr ⟨tb3 (i := 234) (by decide +kernel), List.forall_mem_cons.mpr ⟨tb4 (i := 23) (by decide +kernel), List.forall_mem_cons.mpr ⟨tb4 (i := 156) (by decide +kernel), List.forall_mem_cons.mpr ⟨tb4 (i := 169) (by decide +kernel), List.forall_mem_cons.mpr ⟨tb4 (i := 180) (by decide +kernel), List.forall_mem_cons.mpr ⟨tb4 (i := 199) (by decide +kernel), List.forall_mem_cons.mpr ⟨tb4 (i := 216) (by decide +kernel), List.forall_mem_cons.mpr ⟨tb4 (i := 217) (by decide +kernel), List.forall_mem_cons.mpr ⟨tb5 (i := 71) (by decide +kernel), List.forall_mem_cons.mpr ⟨tb5 (i := 77) (by decide +kernel), List.forall_mem_cons.mpr ⟨tb5 (i := 78) (by decide +kernel), List.forall_mem_cons.mpr ⟨tb5 (i := 95) (by decide +kernel), fun _ h => absurd h List.not_mem_nil⟩⟩⟩⟩⟩⟩⟩⟩⟩⟩⟩⟩⟩⟩⟩⟩⟩⟩⟩⟩⟩⟩⟩
theorem strs_in : ∀ q ∈ gStrs, Cond.stringRef q.1 q.2.1 q.2.2 ∈ lw_tbl := List.forall_mem_cons.mpr ⟨tb2 (i := 193) (by decide +kernel), List.forall_mem_cons.mpr ⟨tb3 (i := 0) (by decide +kernel), List.forall_mem_cons.mpr ⟨tb3 (i := 56) (by decide +kernel), List.forall_mem_cons.mpr ⟨tb3 (i := 57) (by decide +kernel), List.forall_mem_cons.mpr ⟨tb3 (i := 58) (by decide +kernel), List.forall_mem_cons.mpr ⟨tb3 (i := 59) (by decide +kernel), List.forall_mem_cons.mpr ⟨tb3 (i := 60) (by decide +kernel), List.forall_mem_cons.mpr ⟨tb3 (i := 61) (by decide +kernel), List.forall_mem_cons.mpr ⟨tb3 (i := 62) (by decide +kernel), List.forall_mem_cons.mpr ⟨tb3 (i := 63) (by decide +kernel), List.forall_mem_cons.mpr ⟨tb3 (i := 64) (by decide +kernel), List.forall_mem_cons.mpr ⟨tb3 (i := 65) (by decide +kernel), List.forall_mem_cons.mpr ⟨tb3 (i := 66) (by decide +kernel), List.forall_mem_cons.mpr ⟨tb3 (i := 67) (by decide +kernel), List.forall_mem_cons.mpr ⟨tb3 (i := 68) (by decide +kernel), List.forall_mem_cons.mpr ⟨tb3 (i := 69) (by decide +kernel), List.forall_mem_cons.mpr ⟨tb3 (i := 70) (by decide +kernel), List.forall_mem_cons.mpr ⟨tb3 (i := 71) (by decide +kernel), List.forall_mem_cons.mpr ⟨tb3 (i := 123) (by decide +kernel), List.forall_mem_cons.mpr ⟨tb3 (i := 143) (by decide +kernel), List.forall_mem_cons.mpr ⟨tb3 (i := 144) (by decide +kernel), List.forall_mem_cons.mpr ⟨tb3 (i := 177) (by decide +kernel), List.forall_mem_cons.mpr ⟨tb3 (i := 197) (by decide +kernel), List.forall_mem_cons.mpr ⟨tb3 (i := 228) (by decide +kernel), List.forall_mem_cons.mpr ⟨tb4 (i := 7) (by decide +kernel), List.forall_mem_cons.mpr ⟨tb4 (i := 18) (by decide +kernel), List.forall_mem_cons.mpr ⟨tb4 (i := 80) (by decide +kernel), List.forall_mem_cons.mpr ⟨tb4 (i := 113) (by decide +kernel), List.forall_mem_cons.mpr ⟨tb4 (i := 138) (by decide +kernel), List.forall_mem_cons.mpr ⟨tb4 (i := 143) (by decide +kernel), List.forall_mem_cons.mpr ⟨tb5 (i := 18) (by decide +kernel), List.forall_mem_cons.mpr ⟨tb5 (i := 37) (by decide +kernel), List.forall_mem_cons.mpr ⟨tb5 (i := 125) (by decide +kernel), List.forall_mem_cons.mpr ⟨tb6 (i := 165) (by decide +kernel), List.forall_mem_cons.mpr ⟨tb6 (i := 174) (by decide +kernel), List.forall_mem_cons.mpr ⟨tb6 (i := 195) (by decide +kernel), List.forall_mem_cons.mpr ⟨tb6 (i := 203) (by decide +kernel), fun _ h => absurd h List.not_mem_nil⟩⟩⟩⟩⟩⟩⟩⟩⟩⟩⟩⟩⟩⟩⟩⟩⟩⟩⟩⟩⟩⟩⟩⟩⟩⟩⟩⟩⟩⟩⟩⟩⟩⟩⟩⟩⟩
theorem casts_in : ∀ q ∈ gCasts, Cond.castable q.1 q.2 ∈ lw_tbl := List.forall_mem_cons.mpr ⟨tb2 (i := 151) (by decide +kernel), List.forall_mem_cons.mpr ⟨tb2 (i := 233) (by decide +kernel), List.forall_mem_cons.mpr ⟨tb3 (i := 190) (by decide +kernel), List.forall_mem_cons.mpr ⟨tb5 (i := 30) (by decide +kernel), List.forall_mem_cons.mpr ⟨tb5 (i := 188) (by decide +kernel), List.forall_mem_cons.mpr ⟨tb6 (i := 119) (by decide +kernel), List.forall_mem_cons.mpr ⟨tb9 (i := 24) (by decide +kernel), List.forall_mem_cons.mpr ⟨tb9 (i := 25) (by decide +kernel), List.forall_mem_cons.mpr ⟨tb9 (i := 26) (by decide +kernel), List.forall_mem_cons.mpr ⟨tb9 (i := 27) (by decide +kernel), List.forall_mem_cons.mpr ⟨tb9 (i := 28) (by decide +kernel), List.forall_mem_cons.mpr ⟨tb9 (i := 29) (by decide +kernel), List.forall_mem_cons.mpr ⟨tb9 (i := 30) (by decide +kernel), List.forall_mem_cons.mpr ⟨tb9 (i := 31) (by decide +kernel), List.forall_mem_cons.mpr ⟨tb9 (i := 32) (by decide +kernel), List.forall_mem_cons.mpr ⟨tb9 (i := 33) (by decide +kernel), List.forall_mem_cons.mpr ⟨tb9 (i := 34) (by decide +kernel), List.forall_mem_cons.mpr ⟨tb9 (i := 35) (by decide +kernel), List.forall_mem_cons.mpr ⟨tb9 (i := 36) (by decide +kernel), List.forall_mem_cons.mpr ⟨tb9 (i := 37) (by decide +kernel), List.forall_mem_cons.mpr ⟨tb9 (i := 38) (by decide +kernel), List.forall_mem_cons.mpr ⟨tb9 (i := 39) (by decide +kernel), List.forall_mem_cons.mpr ⟨tb9 (i := 40) (by decide +kernel), List.forall_mem_cons.mpr ⟨tb9 (i := 41) (by decide +kernel), fun _ h => absurd h List.not_mem_nil⟩⟩⟩⟩⟩⟩⟩⟩⟩⟩⟩⟩⟩⟩⟩⟩⟩⟩⟩⟩⟩⟩⟩⟩
theorem decls_in : ∀ q ∈ gDecls, Cond.declares q ∈ lw_tbl := List.forall_mem_cons.mpr ⟨tb2 (i := 152) (by decide +kernel), List.forall_mem_cons.mpr ⟨tb2 (i := 153) (by decide +kernel), List.forall_mem_cons.mpr ⟨tb2 (i := 154) (by decide +kernel), List.forall_mem_cons.mpr ⟨tb2 (i := 155) (by decide +kernel), List.forall_mem_cons.mpr ⟨tb2 (i := 156) (by decide +kernel), List.forall_mem_cons.mpr ⟨tb2 (i := 157) (by decide +kernel), List.forall_mem_cons.mpr ⟨tb6 (i := 120) (by decide +kernel), List.forall_mem_cons.mpr ⟨tb6 (i := 121) (by decide +kernel), fun _ h => absurd h List.not_mem_nil⟩⟩⟩⟩⟩⟩⟩⟩
theorem priv_in : ∀ q ∈ gPriv, Cond.privateMethod q ∈ lw_tbl := List.forall_mem_cons.mpr ⟨tb5 (i := 162) (by decide +kernel), List.forall_mem_cons.mpr ⟨tb5 (i := 166) (by decide +kernel), List.forall_mem_cons.mpr ⟨tb5 (i := 214) (by decide +kernel), List.forall_mem_cons.mpr ⟨tb5 (i := 218) (by decide +kernel), fun _ h => absurd h List.not_mem_nil⟩⟩⟩⟩
def nrw : List Cond := flatC (Jvm.Cond.and given_1 narrow_1)
theorem nr_of {args : Array Value} {s : State} {w : Cond} {i : Nat} (hg : (Jvm.Cond.and given_1 narrow_1).before args s = true) (h : nrw[i]? = some w) : w.before args s = true := flat_of_before _ hg w (List.mem_of_getElem? h)
theorem strs_ex : ∀ q ∈ gStrs, Cond.exactly (.string q.1 q.2.1) "java/lang/String" ∈ nrw := List.forall_mem_cons.mpr ⟨List.mem_of_getElem? (i := 271) (by decide +kernel), List.forall_mem_cons.mpr ⟨List.mem_of_getElem? (i := 298) (by decide +kernel), List.forall_mem_cons.mpr ⟨List.mem_of_getElem? (i := 330) (by decide +kernel), List.forall_mem_cons.mpr ⟨List.mem_of_getElem? (i := 338) (by decide +kernel), List.forall_mem_cons.mpr ⟨List.mem_of_getElem? (i := 347) (by decide +kernel), List.forall_mem_cons.mpr ⟨List.mem_of_getElem? (i := 354) (by decide +kernel), List.forall_mem_cons.mpr ⟨List.mem_of_getElem? (i := 361) (by decide +kernel), List.forall_mem_cons.mpr ⟨List.mem_of_getElem? (i := 368) (by decide +kernel), List.forall_mem_cons.mpr ⟨List.mem_of_getElem? (i := 375) (by decide +kernel), List.forall_mem_cons.mpr ⟨List.mem_of_getElem? (i := 382) (by decide +kernel), List.forall_mem_cons.mpr ⟨List.mem_of_getElem? (i := 389) (by decide +kernel), List.forall_mem_cons.mpr ⟨List.mem_of_getElem? (i := 396) (by decide +kernel), List.forall_mem_cons.mpr ⟨List.mem_of_getElem? (i := 404) (by decide +kernel), List.forall_mem_cons.mpr ⟨List.mem_of_getElem? (i := 413) (by decide +kernel), List.forall_mem_cons.mpr ⟨List.mem_of_getElem? (i := 422) (by decide +kernel), List.forall_mem_cons.mpr ⟨List.mem_of_getElem? (i := 428) (by decide +kernel), List.forall_mem_cons.mpr ⟨List.mem_of_getElem? (i := 435) (by decide +kernel), List.forall_mem_cons.mpr ⟨List.mem_of_getElem? (i := 444) (by decide +kernel), List.forall_mem_cons.mpr ⟨List.mem_of_getElem? (i := 452) (by decide +kernel), List.forall_mem_cons.mpr ⟨List.mem_of_getElem? (i := 458) (by decide +kernel), List.forall_mem_cons.mpr ⟨List.mem_of_getElem? (i := 467) (by decide +kernel), List.forall_mem_cons.mpr ⟨List.mem_of_getElem? (i := 475) (by decide +kernel), List.forall_mem_cons.mpr ⟨List.mem_of_getElem? (i := 483) (by decide +kernel), List.forall_mem_cons.mpr ⟨List.mem_of_getElem? (i := 508) (by decide +kernel), List.forall_mem_cons.mpr ⟨List.mem_of_getElem? (i := 523) (by decide +kernel), List.forall_mem_cons.mpr ⟨List.mem_of_getElem? (i := 534) (by decide +kernel), List.forall_mem_cons.mpr ⟨List.mem_of_getElem? (i := 545) (by decide +kernel), List.forall_mem_cons.mpr ⟨List.mem_of_getElem? (i := 563) (by decide +kernel), List.forall_mem_cons.mpr ⟨List.mem_of_getElem? (i := 582) (by decide +kernel), List.forall_mem_cons.mpr ⟨List.mem_of_getElem? (i := 611) (by decide +kernel), List.forall_mem_cons.mpr ⟨List.mem_of_getElem? (i := 640) (by decide +kernel), List.forall_mem_cons.mpr ⟨List.mem_of_getElem? (i := 667) (by decide +kernel), List.forall_mem_cons.mpr ⟨List.mem_of_getElem? (i := 696) (by decide +kernel), List.forall_mem_cons.mpr ⟨List.mem_of_getElem? (i := 838) (by decide +kernel), List.forall_mem_cons.mpr ⟨List.mem_of_getElem? (i := 848) (by decide +kernel), List.forall_mem_cons.mpr ⟨List.mem_of_getElem? (i := 881) (by decide +kernel), List.forall_mem_cons.mpr ⟨List.mem_of_getElem? (i := 892) (by decide +kernel), fun _ h => absurd h List.not_mem_nil⟩⟩⟩⟩⟩⟩⟩⟩⟩⟩⟩⟩⟩⟩⟩⟩⟩⟩⟩⟩⟩⟩⟩⟩⟩⟩⟩⟩⟩⟩⟩⟩⟩⟩⟩⟩⟩
theorem strs_ne : ∀ q ∈ gStrs, ¬ q.1 = "" ∧ ¬ q.1 = "digits" := by decide +kernel
theorem ncs_in : ∀ q ∈ gNcs, Cond.not (.castable q.1 q.2) ∈ nrw := List.forall_mem_cons.mpr ⟨List.mem_of_getElem? (i := 240) (by decide +kernel), List.forall_mem_cons.mpr ⟨List.mem_of_getElem? (i := 251) (by decide +kernel), List.forall_mem_cons.mpr ⟨List.mem_of_getElem? (i := 239) (by decide +kernel), fun _ h => absurd h List.not_mem_nil⟩⟩⟩
def gPos : List Nat := [444, 330, 338, 347, 354, 361, 368, 375, 382, 389, 396, 404, 413, 422, 428, 435, 452, 458, 467, 475, 838]
def gTm (i : Nat) : Term := .string (gStrOwn.getD i ("", 0)).1 (gStrOwn.getD i ("", 0)).2
def gTv (i : Nat) : Term := .field (gTm i) "java/lang/String" "value" "[B"
def gTd (i : Nat) : Term := .static "java/lang/Integer" (if i = 0 then "DigitOnes" else "DigitTens") "[B"
set_option maxRecDepth 100000 in
theorem own_ne : ∀ i : Nat, i < 21 → ¬ (gStrOwn.getD i ("", 0)).1 = "" ∧ ¬ (gStrOwn.getD i ("", 0)).1 = "digits" := by decide +kernel
set_option maxRecDepth 100000 in
theorem tm_ex : ∀ i : Nat, i < 21 → nrw[gPos.getD i 0]? = some (Cond.exactly (gTm i) "java/lang/String") := by decide +kernel
set_option maxRecDepth 100000 in
theorem tm_co : ∀ i : Nat, i < 21 → nrw[gPos.getD i 0 + 1]? = some (Cond.eq (.field (gTm i) "java/lang/String" "coder" "B") (.int 0)) := by decide +kernel
set_option maxRecDepth 100000 in
theorem tm_ar : ∀ i : Nat, i < 21 → nrw[gPos.getD i 0 + 2]? = some (Cond.arrayOf (gTv i) .byte) := by decide +kernel
set_option maxRecDepth 100000 in
theorem tm_le : ∀ i : Nat, i < 21 → nrw[gPos.getD i 0 + 3]? = some (Cond.eq (.length (gTv i)) (.int (Int32.ofNat (gLn i)))) := by decide +kernel
set_option maxRecDepth 100000 in
theorem tm_el : ∀ i : Nat, i < 21 → ∀ j : Nat, j < gLn i → nrw[gPos.getD i 0 + 4 + j]? = some (Cond.eq (.elem (gTv i) (.int (Int32.ofNat j))) (.int (gBy i j))) := by decide +kernel
def gDp (i : Nat) : Nat := if i = 0 then 12 else 115
set_option maxRecDepth 100000 in
theorem td_ar : ∀ i : Nat, i < 2 → nrw[gDp i]? = some (Cond.arrayOf (gTd i) .byte) := by decide +kernel
set_option maxRecDepth 100000 in
theorem td_le : ∀ i : Nat, i < 2 → nrw[gDp i + 1]? = some (Cond.eq (.length (gTd i)) (.int (Int32.ofNat 100))) := by decide +kernel
set_option maxRecDepth 100000 in
theorem td_el : ∀ i : Nat, i < 2 → ∀ j : Nat, j < 100 → nrw[gDp i + 2 + j]? = some (Cond.eq (.elem (gTd i) (.int (Int32.ofNat j))) (.int (gDgv i j))) := by decide +kernel
def evR (t : Term) (a : Array Value) (s : State) : Nat := match t.eval a s none [] s with
  | some (.ref q) => q
  | _ => 0
theorem evR_eq {t : Term} {a : Array Value} {s : State} {q : Nat} (h : t.eval a s none [] s = some (.ref q)) : evR t a s = q := by
  unfold evR
  rw [h]
def gSt0 (a : Array Value) (s : State) : String → Nat → Nat := fun own k => if own = "" then evR (gTv k) a s else if own = "digits" then evR (gTd k) a s else evR (.string own k) a s
section LWx
variable {s : State} {args : Array Value} {A : Nat → Prop} {D : va_G} {cs : ClassId × ClassId × ClassId × ClassId}
theorem env_of (hts : ∀ w ∈ lw_tbl, w.before args s = true) (hg : (Jvm.Cond.and given_1 narrow_1).before args s = true) : gEnv (D, cs, gSt0 args s) s := by
  refine ⟨fun q hq => va_Nw.of rfl (hts _ (nest_in q hq)), fun q hq => ?_, fun q hq => va_Nw.of rfl (hts _ (casts_in q hq)), fun q hq => va_Nw.of rfl (hts _ (decls_in q hq))⟩
  obtain ⟨n1, n2⟩ := strs_ne q hq
  obtain ⟨a, c, cA, kA, q1, -⟩ := Cond.exactly_spec (args := args) (first := s) (o := none) (s := s) (idx := []) (flat_of_before _ hg _ (strs_ex q hq))
  have e : gSt0 args s q.1 q.2.1 = a := by
    unfold gSt0
    rw [if_neg n1, if_neg n2]
    exact evR_eq q1
  show vk_R q.1 q.2.1 q.2.2 (gSt0 args s q.1 q.2.1) s
  rw [e]
  exact vk_R.of (hts _ (strs_in q hq)) q1
theorem z_str (hg : (Jvm.Cond.and given_1 narrow_1).before args s = true) (hA : ∀ a : Nat, a < s.heap.size → ¬ A a) {i : Nat} (hi : i < 21) : va_O "java/lang/String" (gK (D, cs, gSt0 args s) i) A s s.heap ∧ va_OF "java/lang/String" "coder" "B" (.int 0) (gK (D, cs, gSt0 args s) i) A s s.heap ∧ va_OF "java/lang/String" "value" "[B" (.ref (gVa (D, cs, gSt0 args s) i)) (gK (D, cs, gSt0 args s) i) A s s.heap ∧ va_T .byte (gVa (D, cs, gSt0 args s) i) (gLn i) (fun j => .int (gBy i j)) A s s.heap := by
  obtain ⟨n1, n2⟩ := own_ne i hi
  obtain ⟨a, c, cA, kA, q1, q2, q3, q4, q5, q6, -⟩ := Cond.exactly_spec (args := args) (first := s) (o := none) (s := s) (idx := []) (nr_of hg (tm_ex i hi))
  obtain ⟨t, ht, hT⟩ := va_Tof (f := fun j => .int (gBy i j)) (A := A) (N := gLn i) (Nat.lt_of_le_of_lt (gLn_le i hi) (by decide)) (nr_of hg (tm_ar i hi)) (va_eqt (nr_of hg (tm_le i hi))) (fun j hj => va_eqt (nr_of hg (tm_el i hi j hj))) hA
  have e1 : gK (D, cs, gSt0 args s) i = a := by
    show gSt0 args s (gStrOwn.getD i ("", 0)).1 (gStrOwn.getD i ("", 0)).2 = a
    unfold gSt0
    rw [if_neg n1, if_neg n2]
    exact evR_eq q1
  have e2 : gVa (D, cs, gSt0 args s) i = t := by
    show gSt0 args s "" i = t
    unfold gSt0
    rw [if_pos rfl]
    exact evR_eq ht
  rw [e1, e2]
  exact ⟨⟨cA, q3, q5, by rw [q6]; exact q2, hA a (Array.getElem?_eq_some_iff.mp q3).1⟩, vk_OFof q1 (va_eqt (nr_of hg (tm_co i hi))) hA, vk_OFof q1 ht hA, hT⟩
theorem z_dig (hg : (Jvm.Cond.and given_1 narrow_1).before args s = true) (hA : ∀ a : Nat, a < s.heap.size → ¬ A a) {i : Nat} (hi : i < 2) : (gTd i).eval args s none [] s = some (.ref (gDg (D, cs, gSt0 args s) i)) ∧ va_T .byte (gDg (D, cs, gSt0 args s) i) 100 (fun j => .int (gDgv i j)) A s s.heap := by
  obtain ⟨t, ht, hT⟩ := va_Tof (f := fun j => .int (gDgv i j)) (A := A) (N := 100) (by decide) (nr_of hg (td_ar i hi)) (va_eqt (nr_of hg (td_le i hi))) (fun j hj => va_eqt (nr_of hg (td_el i hi j hj))) hA
  have e2 : gDg (D, cs, gSt0 args s) i = t := by
    show gSt0 args s "digits" i = t
    unfold gSt0
    rw [if_neg (by decide), if_pos rfl]
    exact evR_eq ht
  rw [e2]
  exact ⟨ht, hT⟩
theorem st_of (hts : ∀ w ∈ lw_tbl, w.before args s = true) (hg : (Jvm.Cond.and given_1 narrow_1).before args s = true) (hA : ∀ a : Nat, a < s.heap.size → ¬ A a) : gSt (D, cs, gSt0 args s) A s := by
  refine ⟨vx_Zqof (hts _ (tb2 (i := 176) (by decide +kernel))) (hts _ (tb1 (i := 12) (by decide +kernel))) (nr_of (i := 5) hg (by decide +kernel)) hA, vx_Zqof (hts _ (tb2 (i := 178) (by decide +kernel))) (hts _ (tb1 (i := 12) (by decide +kernel))) (nr_of (i := 6) hg (by decide +kernel)) hA, fun i hi => z_str hg hA hi, ?_, ?_, ⟨?_, ?_⟩, fun i hi => (z_dig hg hA hi).2, fun y hy => va_Nw.of rfl (hts _ (priv_in y hy))⟩
  · exact va_Zof (hts _ (tb1 (i := 220) (by decide +kernel))) (hts _ (tb1 (i := 9) (by decide +kernel))) (va_eqt (nr_of (i := 4) hg (by decide +kernel))) hA
  · exact va_Zqof (hts _ (tb3 (i := 100) (by decide +kernel))) (hts _ (tb1 (i := 20) (by decide +kernel))) (nr_of (i := 7) hg (by decide +kernel)) hA
  · exact va_Zref (hts _ (tb6 (i := 21) (by decide +kernel))) (hts _ (tb1 (i := 23) (by decide +kernel))) (z_dig (i := 0) hg hA (by decide)).1 hA
  · exact va_Zref (hts _ (tb6 (i := 23) (by decide +kernel))) (hts _ (tb1 (i := 23) (by decide +kernel))) (z_dig (i := 1) hg hA (by decide)).1 hA
theorem nc_of (hg : (Jvm.Cond.and given_1 narrow_1).before args s = true) : gNc s := fun q hq => va_Nc.of (args := args) (flat_of_before _ hg _ (ncs_in q hq))
theorem ar_of {ty : FieldType} (hty : ty = .int ∨ ty = .boolean ∨ ty = .long ∨ ty = .byte) (h : (Cond.arrayClass ty).before args s = true) : ∃ cA : ClassId, ArrOfT s cA ty ∧ va_RA s cA ty := by
  obtain ⟨cA, kA, comp, h1, h2, h3⟩ := Cond.arrayClass_spec h
  rcases hty with rfl | rfl | rfl | rfl
  · exact ⟨cA, fun n z => ⟨(fun k h => by cases h), kA, h2, comp, h3⟩, h1⟩
  · exact ⟨cA, fun n z => ⟨(fun k h => by cases h), kA, h2, comp, h3⟩, h1⟩
  · exact ⟨cA, fun n z => ⟨(fun k h => by cases h), kA, h2, comp, h3⟩, h1⟩
  · exact ⟨cA, fun n z => ⟨(fun k h => by cases h), kA, h2, comp, h3⟩, h1⟩
theorem cl_of (hts : ∀ w ∈ gT, w.before args s = true) : ∀ k : Nat, ∃ z : ClassId × (Nat → Nat), ∀ q : vw_C, vwCl[k]? = some q → u_Kn s q.1 q.2.1 q.2.2 z.1 z.2 := by
  intro k
  match k with
  | 0 =>
    obtain ⟨cC, iS, h⟩ := u_known (C := RJ0) (T := TJ0) (N := 4) (n := 4) hts in_J0 (hts _ k_is_J0)
    exact ⟨(cC, iS), fun q hq => by cases hq; exact h⟩
  | 1 =>
    obtain ⟨cC, iS, h⟩ := u_known (C := RJ4) (T := TJ4) (N := 4) (n := 4) hts in_J4 (hts _ k_is_J4)
    exact ⟨(cC, iS), fun q hq => by cases hq; exact h⟩
  | 2 =>
    obtain ⟨cC, iS, h⟩ := u_known (C := RJx00060) (T := TJx00060) (N := 6) (n := 6) hts in_Jx00060 (hts _ k_is_Jx00060)
    exact ⟨(cC, iS), fun q hq => by cases hq; exact h⟩
  | 3 =>
    obtain ⟨cC, iS, h⟩ := u_known (C := RJx7c733) (T := TJx7c733) (N := 6) (n := 6) hts in_Jx7c733 (hts _ k_is_Jx7c733)
    exact ⟨(cC, iS), fun q hq => by cases hq; exact h⟩
  | 4 =>
    obtain ⟨cC, iS, h⟩ := u_known (C := RX0) (T := TX0) (N := 13) (n := 13) hts in_X0 (hts _ k_is_X0)
    exact ⟨(cC, iS), fun q hq => by cases hq; exact h⟩
  | 5 =>
    obtain ⟨cC, iS, h⟩ := u_known (C := RX1) (T := TX1) (N := 5) (n := 5) hts in_X1 (hts _ k_is_X1)
    exact ⟨(cC, iS), fun q hq => by cases hq; exact h⟩
  | 6 =>
    obtain ⟨cC, iS, h⟩ := u_known (C := RX2) (T := TX2) (N := 12) (n := 12) hts in_X2 (hts _ k_is_X2)
    exact ⟨(cC, iS), fun q hq => by cases hq; exact h⟩
  | 7 =>
    obtain ⟨cC, iS, h⟩ := u_known (C := RX4) (T := TX4) (N := 3) (n := 3) hts in_X4 (hts _ k_is_X4)
    exact ⟨(cC, iS), fun q hq => by cases hq; exact h⟩
  | 8 =>
    obtain ⟨cC, iS, h⟩ := u_known (C := RX5) (T := TX5) (N := 4) (n := 4) hts in_X5 (hts _ k_is_X5)
    exact ⟨(cC, iS), fun q hq => by cases hq; exact h⟩
  | 9 =>
    obtain ⟨cC, iS, h⟩ := u_known (C := RX6) (T := TX6) (N := 8) (n := 8) hts in_X6 (hts _ k_is_X6)
    exact ⟨(cC, iS), fun q hq => by cases hq; exact h⟩
  | 10 =>
    obtain ⟨cC, iS, h⟩ := u_known (C := RX7) (T := TX7) (N := 21) (n := 21) hts in_X7 (hts _ k_is_X7)
    exact ⟨(cC, iS), fun q hq => by cases hq; exact h⟩
  | k + 11 =>
    obtain ⟨cC, iS, h⟩ := u_known (C := RX6) (T := TX6) (N := 8) (n := 8) hts in_X6 (hts _ k_is_X6)
    exact ⟨(cC, iS), fun q hq => by simp [vwCl] at hq⟩
theorem k_of (hts : ∀ w ∈ gT, w.before args s = true) : ∃ (D : va_G) (cs : ClassId × ClassId × ClassId × ClassId), ∀ f : String → Nat → Nat, va_K D vwCl (gTy (D, cs, f)) s := by
  obtain ⟨z, hz⟩ := Classical.axiomOfChoice (cl_of hts)
  obtain ⟨c1, h1⟩ := ar_of (ty := .int) (Or.inl rfl) (hts _ k_ac_int)
  obtain ⟨c2, h2⟩ := ar_of (ty := .boolean) (Or.inr (Or.inl rfl)) (hts _ k_ac_boolean)
  obtain ⟨c3, h3⟩ := ar_of (ty := .long) (Or.inr (Or.inr (Or.inl rfl))) (hts _ k_ac_long)
  obtain ⟨c4, h4⟩ := ar_of (ty := .byte) (Or.inr (Or.inr (Or.inr rfl))) (hts _ k_ac_byte)
  refine ⟨(fun k => (z k).1, fun k => (z k).2), (c1, c2, c3, c4), fun f => ⟨fun k q hq => hz k q hq, fun k q hq => ?_⟩⟩
  match k, hq with
  | 0, hq => cases hq; exact h1
  | 1, hq => cases hq; exact h2
  | 2, hq => cases hq; exact h3
  | 3, hq => cases hq; exact h4
  | k + 4, hq => simp [gTy] at hq
end LWx
