/-! PURE Ze: rows of the saved states -/
theorem row_same {saved w : Nat → Int32} {s : Nat} (hs : s < 2) : ∀ j : Nat, j < 670 → it_X7_save_23 w saved (nI s) 670 (670 * s + j) = w j := by
  intro j hj
  rw [save_at hs 670 (Nat.le_refl _), if_pos (by omega)]
  congr 1
  omega
theorem row_other {saved w : Nat → Int32} {s r : Nat} (hs : s < 2) (hr : r ≠ s) : ∀ j : Nat, j < 670 → it_X7_save_23 w saved (nI s) 670 (670 * r + j) = saved (670 * r + j) := by
  intro j hj
  rw [save_at hs 670 (Nat.le_refl _), if_neg (by omega)]
theorem row_back {saved w : Nat → Int32} {s : Nat} (hs : s < 2) : (wl_X7_restore saved (nI s) 670 0 w).1 = 0 ∧ ∀ j : Nat, j < 670 → (wl_X7_restore saved (nI s) 670 0 w).2 j = saved (670 * s + j) := by
  obtain ⟨a, b, -⟩ := restore_at (saved := saved) hs 670 0 (by omega) w
  exact ⟨a, fun j hj => b j (Nat.zero_le _) hj⟩
/-- what the model's save answers and leaves -/
theorem save7 {hf hs p : Int32} {w saved : Nat → Int32} (h1 : g01 hf) (h2 : g01 hs) : (f_X7_in (Int32.toInt64 p) 0 1 = 0 ∧ f_X7_save hf hs w saved p = (1, hf, hs, saved)) ∨
    (¬ f_X7_in (Int32.toInt64 p) 0 1 = 0 ∧ p = 0 ∧ f_X7_save hf hs w saved p = (0, 1, hs, it_X7_save_23 w saved (nI 0) 670)) ∨ (¬ f_X7_in (Int32.toInt64 p) 0 1 = 0 ∧ p = 1 ∧ f_X7_save hf hs w saved p = (0, hf, 1, it_X7_save_23 w saved (nI 1) 670)) := by
  have h10 : ¬ (1 : Int32) = 0 := by decide
  have h01 : ¬ (0 : Int32) = 1 := by decide
  unfold f_X7_save
  by_cases c : f_X7_in (Int32.toInt64 p) 0 1 = 0
  · exact Or.inl ⟨c, if_pos c⟩
  · rw [if_neg c]
    have hq := in_ofI (a := 0) (b := 1) c (by decide) (by decide)
    obtain ⟨n, hn, rfl⟩ := of_rng (x := p) (N := 2) (by decide) (by omega)
    have h : n = 0 ∨ n = 1 := by omega
    rcases h with rfl | rfl
    · refine Or.inr (Or.inl ⟨c, rfl, ?_⟩)
      rcases h1 with rfl | rfl <;> rcases h2 with rfl | rfl <;> rfl
    · refine Or.inr (Or.inr ⟨c, rfl, ?_⟩)
      rcases h1 with rfl | rfl <;> rcases h2 with rfl | rfl <;> rfl
