/-- one stretch of the law: the act's numbers, what it does, how long the machine runs, its clock behind it -/
def itz (w : Int32 × Cz) : Option (Int32 × Cz) :=
  let t := (f_X7_next w.1 8).1
  let x1 := (f_X7_next w.1 8).2
  let c9 := (f_X7_next x1 32).1
  let x2 := (f_X7_next x1 32).2
  let x3 := (f_X7_next x2 65536).2
  let x4 := (f_X7_next x3 16).2
  let a9 := (f_X7_next x4 13).1
  let x5 := (f_X7_next x4 13).2
  if 1000000 < w.2.1 then none
  else if a9 = 4 ∨ a9 = 7 ∨ a9 = 8 ∨ a9 = 9 then none
  else if (a9 = 0 ∨ a9 = 1) ∧ t = 0 ∧ c9 = 1 then none
  else
    let a := az2 t a9 x5 w.2.2.1 w.2.2.2.2.1 w.2.2.2.2.2.1 (fun _ => w.2.2.2.2.2.2)
    let n := nxp a.1
    (runz n.1.toNatClampNeg (w.2.1, a.2.1, w.2.2.2.1, a.2.2.1, a.2.2.2.1, a.2.2.2.2 0)).map (fun z => (n.2, z))
def itzN : Nat → Int32 × Cz → Option (Int32 × Cz)
  | 0, w => some w
  | r + 1, w => (itz w).bind (itzN r)
theorem az2_w (t a9 x5 Mov Mfx Mip : Int32) (w1 w2 : Nat → Int32) (h : w1 0 = w2 0) : (az2 t a9 x5 Mov Mfx Mip w1).1 = (az2 t a9 x5 Mov Mfx Mip w2).1 ∧ (az2 t a9 x5 Mov Mfx Mip w1).2.1 = (az2 t a9 x5 Mov Mfx Mip w2).2.1 ∧ (az2 t a9 x5 Mov Mfx Mip w1).2.2.1 = (az2 t a9 x5 Mov Mfx Mip w2).2.2.1 ∧ (az2 t a9 x5 Mov Mfx Mip w1).2.2.2.1 = (az2 t a9 x5 Mov Mfx Mip w2).2.2.2.1 ∧ (az2 t a9 x5 Mov Mfx Mip w1).2.2.2.2 0 = (az2 t a9 x5 Mov Mfx Mip w2).2.2.2.2 0 := by
  have hu : ∀ (i : Nat) (v : Int32), upd w1 i v 0 = upd w2 i v 0 := fun i v => by
    unfold upd
    by_cases e : (0 : Nat) = i
    · rw [if_pos e, if_pos e]
    · rw [if_neg e, if_neg e, h]
  unfold az2
  repeat' split
  all_goals first | exact ⟨rfl, rfl, rfl, rfl, h⟩ | exact ⟨rfl, rfl, rfl, rfl, hu _ _⟩
theorem nI_or32 (a b : Nat) : nI a ||| nI b = nI (a ||| b) := by
  apply Int32.toBitVec_inj.mp
  rw [Int32.toBitVec_or]
  apply BitVec.eq_of_toNat_eq
  show (BitVec.ofNat 32 a ||| BitVec.ofNat 32 b).toNat = (BitVec.ofNat 32 (a ||| b)).toNat
  rw [BitVec.toNat_or, BitVec.toNat_ofNat, BitVec.toNat_ofNat, BitVec.toNat_ofNat, Nat.or_mod_two_pow]
theorem drV (a b : Int32) (ha : 0 ≤ a.toInt ∧ a.toInt < 65536) (hb : 0 ≤ b.toInt ∧ b.toInt < 16) : -524288 ≤ (((a <<< ((4 : Int32) &&& 31)) ||| b) - 524288).toInt ∧ (((a <<< ((4 : Int32) &&& 31)) ||| b) - 524288).toInt ≤ 524287 := by
  obtain ⟨x, hx, rfl⟩ : ∃ x, x < 65536 ∧ a = nI x := ⟨a.toNatClampNeg, by have := gI_clamp ha.1; omega, gI_nI ha.1⟩
  obtain ⟨y, hy, rfl⟩ : ∃ y, y < 16 ∧ b = nI y := ⟨b.toNatClampNeg, by have := gI_clamp hb.1; omega, gI_nI hb.1⟩
  have hor : x * 2 ^ 4 ||| y < 2 ^ 20 := Nat.or_lt_two_pow (by omega) (by omega)
  rw [pk_shlN _ 4 (by decide +kernel) (by omega), nI_or32]
  generalize x * 2 ^ 4 ||| y = v at hor
  have e := nI_toInt (n := v) (by omega)
  have o : (524288 : Int32).toInt = 524288 := (by decide)
  have q := gI_sub (x := nI v) (y := 524288) (by omega) (by omega)
  omega
theorem itz_time {w w1 : Int32 × Cz} (h : itz w = some w1) : w.2.1 ≤ w1.2.1 := by
  unfold itz at h
  dsimp only at h
  split at h
  · cases h
  split at h
  · cases h
  split at h
  · cases h
  obtain ⟨z, hz, e⟩ := Option.map_eq_some_iff.mp h
  rw [← e]
  exact (runz_time _ hz).1
theorem itzN_time : ∀ (r : Nat) {w w1 : Int32 × Cz}, itzN r w = some w1 → w.2.1 ≤ w1.2.1
  | 0, w, w1, h => by rw [← Option.some.inj h]; exact Nat.le_refl _
  | r + 1, w, w1, h => by
    obtain ⟨y, h1, h2⟩ := Option.bind_eq_some_iff.mp (show (itz w).bind (itzN r) = some w1 from h)
    exact Nat.le_trans (itz_time h1) (itzN_time r h2)
