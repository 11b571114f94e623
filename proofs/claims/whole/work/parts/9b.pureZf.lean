/-! PURE Zf: what the model's restore answers and leaves -/
theorem rs_e1 {w : Nat → Int32} : ∀ n k : Nat, wl_X7_restore_e1 w n k = (2, w)
  | 0, _ => rfl
  | _ + 1, _ => rfl
theorem rs_e3 {w : Nat → Int32} : ∀ n k : Nat, wl_X7_restore_e3 w n k = (2, w)
  | 0, _ => rfl
  | _ + 1, _ => rfl
theorem rs_e4 {w : Nat → Int32} : ∀ n k : Nat, wl_X7_restore_e4 w n k = (1, w)
  | 0, _ => rfl
  | _ + 1, _ => rfl
theorem restore7 {hf hs p : Int32} {w saved : Nat → Int32} {m : Int32 × (Nat → Int32)} (hm : f_X7_restore hf hs w saved p = m) : (f_X7_in (Int32.toInt64 p) 0 1 = 0 ∧ m = (1, w)) ∨
    (¬ f_X7_in (Int32.toInt64 p) 0 1 = 0 ∧ p = 0 ∧ ((hf = 0 ∧ m = (2, w)) ∨ (¬ hf = 0 ∧ m.1 = 0 ∧ ∀ j : Nat, j < 670 → m.2 j = saved j))) ∨
    (¬ f_X7_in (Int32.toInt64 p) 0 1 = 0 ∧ p = 1 ∧ ((hs = 0 ∧ m = (2, w)) ∨ (¬ hs = 0 ∧ m.1 = 0 ∧ ∀ j : Nat, j < 670 → m.2 j = saved (670 + j)))) := by
  unfold f_X7_restore at hm
  by_cases c : f_X7_in (Int32.toInt64 p) 0 1 = 0
  · rw [if_pos c, rs_e4] at hm
    exact Or.inl ⟨c, hm.symm⟩
  · rw [if_neg c] at hm
    have hq := in_ofI (a := 0) (b := 1) c (by decide) (by decide)
    obtain ⟨n, hn, rfl⟩ := of_rng (x := p) (N := 2) (by decide) (by omega)
    have h : n = 0 ∨ n = 1 := by omega
    rcases h with rfl | rfl
    · have z : nI 0 = 0 := rfl
      rw [if_pos z] at hm
      refine Or.inr (Or.inl ⟨c, rfl, ?_⟩)
      by_cases d : hf = 0
      · rw [if_pos d, rs_e3] at hm
        exact Or.inl ⟨d, hm.symm⟩
      · rw [if_neg d, restore_e2] at hm
        obtain ⟨a, b⟩ := row_back (saved := saved) (w := w) (s := 0) (by decide)
        rw [hm] at a b
        exact Or.inr ⟨d, a, fun j hj => (b j hj).trans (by rw [Nat.mul_zero, Nat.zero_add])⟩
    · have z : ¬ nI 1 = 0 := by decide
      rw [if_neg z] at hm
      refine Or.inr (Or.inr ⟨c, rfl, ?_⟩)
      by_cases d : hs = 0
      · rw [if_pos d, rs_e1] at hm
        exact Or.inl ⟨d, hm.symm⟩
      · rw [if_neg d] at hm
        obtain ⟨a, b⟩ := row_back (saved := saved) (w := w) (s := 1) (by decide)
        rw [hm] at a b
        exact Or.inr ⟨d, a, fun j hj => (b j hj).trans (by rw [Nat.mul_one])⟩
