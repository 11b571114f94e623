/-! PURE Zg: the answers of save and restore -/
theorem cs_saveA {hf hs : Int32} {w saved : Nat → Int32} (h1 : g01 hf) (h2 : g01 hs) (p : Int32) : k1 (th_X6_save p) = (f_X7_save hf hs w saved p).1 := by
  have e := rs_iff p
  unfold th_X6_save
  rcases save7 (w := w) (saved := saved) (p := p) h1 h2 with ⟨c, s⟩ | ⟨c, -, s⟩ | ⟨c, -, s⟩
  · rw [if_pos c] at e
    rw [e, if_neg (Option.some_ne_none _), s]
    rfl
  · rw [if_neg c] at e
    rw [e, if_pos rfl, s]
    split <;> rfl
  · rw [if_neg c] at e
    rw [e, if_pos rfl, s]
    split <;> rfl
theorem cs_restoreA {sv sw p : Int32} {w saved : Nat → Int32} {m : Int32 × (Nat → Int32)} (hm : f_X7_restore sv sw w saved p = m) : k2 sIO (th_X6_restore sv sw p) = m.1 := by
  have e := rs_iff p
  unfold th_X6_restore
  rcases restore7 hm with ⟨c, s⟩ | ⟨c, z, s⟩ | ⟨c, z, s⟩
  · rw [if_pos c] at e
    rw [e, if_neg (Option.some_ne_none _), s, k2_1]
  · rw [if_neg c] at e
    rw [e, if_pos rfl, if_pos z]
    rcases s with ⟨d, s⟩ | ⟨d, s, -⟩
    · rw [if_pos d, s, k2_2 (show ¬ sIS = sIO by decide)]
    · rw [if_neg d, s]
      rfl
  · rw [if_neg c] at e
    have z0 : ¬ p = 0 := by
      rw [z]
      decide
    rw [e, if_pos rfl, if_neg z0]
    rcases s with ⟨d, s⟩ | ⟨d, s, -⟩
    · rw [if_pos d, s, k2_2 (show ¬ sIS = sIO by decide)]
    · rw [if_neg d, s]
      rfl
