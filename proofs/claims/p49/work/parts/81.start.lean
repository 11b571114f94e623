/-! THE START of the refutation: the witness's tables, the script three times 1821250349 -/
def sc9 : Array Value := #[.int 1821250349, .int 1821250349, .int 1821250349]
def start9 : State := start1.aboutOf sc9
set_option maxRecDepth 16384 in
theorem start9_on : (Jvm.Cond.code x code maxLocals ret :: tables_1).all (fun w => w.onTables || (match w with | .code .. => false | _ => w.before #[Value.ref 0] start9)) = true := by decide +kernel
theorem start9_words : ∀ w ∈ (Jvm.Cond.code x code maxLocals ret :: tables_1), w.before #[Value.ref 0] start9 = true := fun w hw => by
  rcases Bool.or_eq_true_iff.mp (List.all_eq_true.mp start9_on w hw) with h | h
  · exact va_tabs (u := start1.about) h rfl (start1.words w hw)
  · cases w
    all_goals first | exact h | cases h
set_option maxRecDepth 100000 in
theorem start9_cell : start9.heap[0]? = some (vp_cell 47 (3, .inl (fun _ => 1821250349))) := by
  rw [vp_cell_i, show start9.heap[0]? = some ({ cls := 47, slots := sc9, vm := .none } : Cell) from rfl]
  have h : sc9 = Array.ofFn (n := 3) (fun _ => Value.int 1821250349) := by
    apply Array.ext
    · rw [Array.size_ofFn]
      rfl
    · intro i h1 h2
      rw [Array.getElem_ofFn]
      match i, h1 with
      | 0, _ => rfl
      | 1, _ => rfl
      | 2, _ => rfl
      | i + 3, h1 => exact absurd (show i + 3 < 3 from h1) (by omega)
  unfold arrV
  rw [h]
set_option maxRecDepth 16384 in
theorem start9_at : AtStart classFile x code maxLocals ret World_1 tables_1 room_1 Calls_1 rest_1 Pre_1 launch0 start1.p0 start1.e0 start9 ⟨0, 0⟩ #[Value.ref 0] Lib.HandBits.below0 :=
  ⟨lists_1, trivial, launch0.admits_env _ _ _, launch0.least_env, fairChoices_fair.cas, fairChoices_fair.clock, rfl, by decide +kernel, by decide +kernel,
    (Spec.applies_iff rfl).mpr ⟨rfl, rfl, rfl, by decide +kernel, by decide +kernel, by decide +kernel, launch0.hasRoom_least _ room_1 (by decide +kernel) (by decide +kernel) (by decide +kernel) (by decide +kernel) (by decide +kernel) (by decide +kernel), atoms_intro start9_words⟩,
    trivial, (show rest_1_c.before #[Value.ref 0] start9 = true by decide +kernel), (show (Cond.and given_1 narrow_1).before #[Value.ref 0] start9 = true by decide +kernel)⟩
/-- the claim's second limb falls, in the Statement's own form of a refutation: the law's own road makes more slots than the frame allows (or it answers 0) -/
theorem p49_refuted_2 : RefutedClaimed_1_2 :=
  p49_refuted_at (b := 0) (cI := 47) start9_at (launch0.hasRoom_least _ R9 (by decide +kernel) (by decide +kernel) (by decide +kernel) (by decide +kernel) (by decide +kernel) (by decide +kernel)) (by decide +kernel) start9_cell
theorem p49_not_2 : ¬ Claimed_1_2 := falls_not p49_refuted_2
/-- what is owed is false as it is printed -/
theorem p49_false : ¬ (Claimed_1_1 ∧ Claimed_1_2) := fun h => p49_not_2 h.2
