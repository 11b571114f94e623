/-! PURE O: numbers, signs and locations of both assemblers -/
/-- the class's token that begins at the first place behind blanks from p on -/
def TK (L : Nat) (text : Nat → Int32) (p : Nat) (ki ts te nu : Int32) : Prop := ∃ ki0 nu0 : Int32, tkn (nI L) ki0 nu0 text (nI (skp L text p)) = (ki, ts, te, nu)
/-- the error parts of both, and, as long as there is none, the place -/
def JR (L : Nat) (text : Nat → Int32) (ec ep ki ts te nu ec2 ep2 pos bad : Int32) : Prop :=
  ec = ec2 ∧ ep = ep2 ∧ ((ec = 0 ∧ bad = 0 ∧ ∃ p : Nat, p ≤ L ∧ pos = nI p ∧ TK L text p ki ts te nu) ∨ (¬ ec = 0 ∧ ¬ bad = 0))
section pureO
variable {L : Nat} {text : Nat → Int32}
theorem TK.next {q : Nat} (hL : L ≤ 600) (hq : q ≤ L) (ki nu : Int32) : TK L text q (f_X0_readToken (nI L) ki (nI q) nu text).1 (f_X0_readToken (nI L) ki (nI q) nu text).2.1 (f_X0_readToken (nI L) ki (nI q) nu text).2.2.1 (f_X0_readToken (nI L) ki (nI q) nu text).2.2.2 :=
  ⟨ki, nu, by rw [token_nI ki nu hL (by omega)]⟩
theorem skp_L {p : Nat} (hp : p ≤ L) : p ≤ skp L text p ∧ skp L text p ≤ L := by
  have h := skp_rng (L := L) (p := p) (text := text)
  omega
/-- what a token is -/
theorem TK.cases {p : Nat} {ki ts te nu : Int32} (hL : L ≤ 600) (hp : p ≤ L) (h : TK L text p ki ts te nu) :
    ts = nI (skp L text p) ∧ ((L ≤ skp L text p ∧ ki = 0 ∧ te = nI L) ∨
      (skp L text p < L ∧ isLt (text (skp L text p)) ∧ ki = 1 ∧ te = nI (lee text (L - skp L text p) (skp L text p))) ∨
      (skp L text p < L ∧ isDg (text (skp L text p)) ∧ ki = (if dee text (L - skp L text p) (skp L text p) - skp L text p ≤ 6 then 2 else 3) ∧ te = nI (dee text (L - skp L text p) (skp L text p)) ∧ nu = dva text (L - skp L text p) (skp L text p) 0) ∨
      (skp L text p < L ∧ ¬ isLt (text (skp L text p)) ∧ ¬ isDg (text (skp L text p)) ∧ ki = sgK (text (skp L text p)) ∧ te = nI (skp L text p + 1))) := by
  obtain ⟨k0, n0, h⟩ := h
  have hq := skp_L (text := text) hp
  generalize skp L text p = q at *
  by_cases c : L ≤ q
  · rw [tkn_end _ _ c (by omega)] at h
    obtain ⟨rfl, rfl, rfl, rfl⟩ : (0 : Int32) = ki ∧ nI q = ts ∧ nI L = te ∧ n0 = nu := by
      simpa using h
    exact ⟨rfl, Or.inl ⟨c, rfl, rfl⟩⟩
  · by_cases cl : isLt (text q)
    · rw [tkn_let _ _ hL (by omega) cl] at h
      obtain ⟨rfl, rfl, rfl, rfl⟩ : (1 : Int32) = ki ∧ nI q = ts ∧ nI (lee text (L - q) q) = te ∧ n0 = nu := by
        simpa using h
      exact ⟨rfl, Or.inr (Or.inl ⟨by omega, cl, rfl, rfl⟩)⟩
    · by_cases cd : isDg (text q)
      · rw [tkn_dig _ _ hL (by omega) cd] at h
        have h1 := congrArg Prod.fst h
        have h2 := congrArg (fun z => z.2.1) h
        have h3 := congrArg (fun z => z.2.2.1) h
        have h4 := congrArg (fun z => z.2.2.2) h
        exact ⟨h2.symm, Or.inr (Or.inr (Or.inl ⟨by omega, cd, h1.symm, h3.symm, h4.symm⟩))⟩
      · rw [tkn_sgn _ _ hL (by omega) cl cd] at h
        have h1 := congrArg Prod.fst h
        have h2 := congrArg (fun z => z.2.1) h
        have h3 := congrArg (fun z => z.2.2.1) h
        exact ⟨h2.symm, Or.inr (Or.inr (Or.inr ⟨by omega, cl, cd, h1.symm, h3.symm⟩))⟩
theorem sgK_46 (c : Int32) : sgK c = 46 ↔ c = 46 := by
  unfold sgK
  by_cases h1 : c = 46
  · rw [if_pos h1]
  · rw [if_neg h1]
    by_cases h2 : c = 59
    · rw [if_pos h2]
    · rw [if_neg h2]
      by_cases h3 : c = 45
      · rw [if_pos h3]
      · rw [if_neg h3]
        exact ⟨fun z => absurd z (by decide), fun z => absurd z h1⟩
theorem sgK_59 (c : Int32) : sgK c = 59 ↔ c = 59 := by
  unfold sgK
  by_cases h1 : c = 46
  · rw [if_pos h1]
  · rw [if_neg h1]
    by_cases h2 : c = 59
    · rw [if_pos h2]
    · rw [if_neg h2]
      by_cases h3 : c = 45
      · rw [if_pos h3]
      · rw [if_neg h3]
        exact ⟨fun z => absurd z (by decide), fun z => absurd z h2⟩
theorem sgK_45 (c : Int32) : sgK c = 45 ↔ c = 45 := by
  unfold sgK
  by_cases h1 : c = 46
  · rw [if_pos h1]
  · rw [if_neg h1]
    by_cases h2 : c = 59
    · rw [if_pos h2]
    · rw [if_neg h2]
      by_cases h3 : c = 45
      · rw [if_pos h3]
      · rw [if_neg h3]
        exact ⟨fun z => absurd z (by decide), fun z => absurd z h3⟩
theorem sgK_2 (c : Int32) : ¬ sgK c = 2 ∧ ¬ sgK c = 1 ∧ ¬ sgK c = 0 := by
  unfold sgK
  by_cases h1 : c = 46
  · rw [if_pos h1, h1]; decide
  · rw [if_neg h1]
    by_cases h2 : c = 59
    · rw [if_pos h2, h2]; decide
    · rw [if_neg h2]
      by_cases h3 : c = 45
      · rw [if_pos h3, h3]; decide
      · rw [if_neg h3]; decide
/-- a kind that is one of the signs tells the letter itself -/
theorem TK.sign {p : Nat} {ki ts te nu s : Int32} (hL : L ≤ 600) (hp : p ≤ L) (h : TK L text p ki ts te nu) (hs : s = 46 ∨ s = 59 ∨ s = 45) : ki = s ↔ (skp L text p < L ∧ text (skp L text p) = s) := by
  have hl : ¬ isLt s ∧ ¬ isDg s := by rcases hs with rfl | rfl | rfl <;> decide
  have hk : ∀ c, sgK c = s ↔ c = s := by rcases hs with rfl | rfl | rfl; exact sgK_46; exact sgK_59; exact sgK_45
  obtain ⟨-, h⟩ := h.cases hL hp
  rcases h with ⟨h1, h2, -⟩ | ⟨h1, h2, h3, -⟩ | ⟨h1, h2, h3, -⟩ | ⟨h1, h2, h3, h4, -⟩
  · constructor
    · intro z; rw [h2] at z; rcases hs with rfl | rfl | rfl <;> exact absurd z (by decide)
    · intro z; omega
  · constructor
    · intro z; rw [h3] at z; rcases hs with rfl | rfl | rfl <;> exact absurd z (by decide)
    · intro z; rw [z.2] at h2; exact absurd h2 hl.1
  · constructor
    · intro z; rw [h3] at z; rcases hs with rfl | rfl | rfl <;> (split at z <;> exact absurd z (by decide))
    · intro z; rw [z.2] at h2; exact absurd h2 hl.2
  · rw [h4, hk]
    exact ⟨fun z => ⟨h1, z⟩, fun z => z.2⟩
theorem here_L {p : Nat} (hL : L ≤ 600) (hp : p ≤ L) : f_X7_here (nI L) (nI p) text = (if L ≤ skp L text p then -1 else text (skp L text p), nI (skp L text p)) := here_nI hL (by omega)
theorem here_is {p : Nat} {s : Int32} (hL : L ≤ 600) (hp : p ≤ L) (hs : ¬ s = -1) : (f_X7_here (nI L) (nI p) text).1 = s ↔ (skp L text p < L ∧ text (skp L text p) = s) := by
  rw [here_L hL hp]
  by_cases c : L ≤ skp L text p
  · rw [show ((if L ≤ skp L text p then (-1 : Int32) else text (skp L text p), nI (skp L text p)) : Int32 × Int32).1 = -1 from if_pos c]
    exact ⟨fun z => absurd z.symm hs, fun z => by omega⟩
  · rw [show ((if L ≤ skp L text p then (-1 : Int32) else text (skp L text p), nI (skp L text p)) : Int32 × Int32).1 = text (skp L text p) from if_neg c]
    exact ⟨fun z => ⟨by omega, z⟩, fun z => z.2⟩
theorem here_2 {p : Nat} (hL : L ≤ 600) (hp : p ≤ L) : (f_X7_here (nI L) (nI p) text).2 = nI (skp L text p) := by rw [here_L hL hp]
theorem fail_0 (ep ts c : Int32) : f_X0_fail 0 ep ts c = (c, ts) := rfl
theorem fail_1 {ec : Int32} (h : ¬ ec = 0) (ep ts c : Int32) : f_X0_fail ec ep ts c = (ec, ep) := if_neg h
/-- signs -/
theorem sym_JR {ec ep ki ts te nu ec2 ep2 pos bad s : Int32} (hL : L ≤ 600) (hs : s = 46 ∨ s = 59) (h : JR L text ec ep ki ts te nu ec2 ep2 pos bad) :
    JR L text (f_X0_readSymbol (nI L) ec ep ki ts te nu text s).1 (f_X0_readSymbol (nI L) ec ep ki ts te nu text s).2.1 (f_X0_readSymbol (nI L) ec ep ki ts te nu text s).2.2.1 (f_X0_readSymbol (nI L) ec ep ki ts te nu text s).2.2.2.1 (f_X0_readSymbol (nI L) ec ep ki ts te nu text s).2.2.2.2.1 (f_X0_readSymbol (nI L) ec ep ki ts te nu text s).2.2.2.2.2 (f_X7_sign (nI L) ec2 ep2 pos bad text s).1 (f_X7_sign (nI L) ec2 ep2 pos bad text s).2.1 (f_X7_sign (nI L) ec2 ep2 pos bad text s).2.2.1 (f_X7_sign (nI L) ec2 ep2 pos bad text s).2.2.2 ∧
    (∀ p : Nat, ec = 0 → pos = nI p → p ≤ L → (f_X0_readSymbol (nI L) ec ep ki ts te nu text s).1 = 0 → ∃ p' : Nat, p < p' ∧ p' ≤ L ∧ (f_X7_sign (nI L) ec2 ep2 pos bad text s).2.2.1 = nI p') := by
  have hs3 : s = 46 ∨ s = 59 ∨ s = 45 := by rcases hs with h | h; exact Or.inl h; exact Or.inr (Or.inl h)
  have hs1 : ¬ s = -1 := by rcases hs with rfl | rfl <;> decide
  obtain ⟨rfl, rfl, h⟩ := h
  unfold f_X0_readSymbol f_X7_sign
  rcases h with ⟨rfl, rfl, p, hp, rfl, ht⟩ | ⟨he, hb⟩
  · have hk := ht.sign hL hp hs3
    have hh := here_is (text := text) hL hp hs1
    have hq := skp_L (text := text) hp
    obtain ⟨e1, hc⟩ := ht.cases hL hp
    rw [if_pos rfl, here_2 hL hp]
    by_cases c : ki = s
    · have c2 := hk.mp c
      rw [if_pos c, if_pos (hh.mpr c2)]
      dsimp only
      have ete : te = nI (skp L text p + 1) := by
        have hl : ¬ isLt s ∧ ¬ isDg s := by rcases hs with rfl | rfl <;> decide
        rcases hc with ⟨h1, -⟩ | ⟨-, h2, -⟩ | ⟨-, h2, -⟩ | ⟨-, -, -, -, h5⟩
        · omega
        · rw [c2.2] at h2; exact absurd h2 hl.1
        · rw [c2.2] at h2; exact absurd h2 hl.2
        · exact h5
      rw [ete, nI_1]
      refine ⟨⟨rfl, rfl, Or.inl ⟨rfl, rfl, skp L text p + 1, by omega, rfl, TK.next hL (by omega) ki nu⟩⟩, fun p0 _ e0 hp0 _ => ⟨skp L text p + 1, ?_, by omega, rfl⟩⟩
      have := (nI_eq (by omega) (by omega)).mp e0
      omega
    · rw [if_neg c, if_neg (fun z => c (hk.mpr (hh.mp z))), fail_0, wrong_0, e1]
      have h10 : ¬ (1 : Int32) = 0 := by decide
      exact ⟨⟨rfl, rfl, Or.inr ⟨h10, h10⟩⟩, fun _ _ _ _ z => absurd z h10⟩
  · rw [if_neg hb]
    by_cases c : ki = s
    · rw [if_pos c]
      exact ⟨⟨rfl, rfl, Or.inr ⟨he, hb⟩⟩, fun _ z => absurd z he⟩
    · rw [if_neg c, fail_1 he]
      exact ⟨⟨rfl, rfl, Or.inr ⟨he, hb⟩⟩, fun _ z => absurd z he⟩
theorem dva_rng : ∀ (r p : Nat) (x : Int32) (m b : Nat), b = 10 ^ m → 0 ≤ x.toInt → x.toInt < (b : Int) → m + (dee text r p - p) ≤ 6 → 0 ≤ (dva text r p x).toInt ∧ (dva text r p x).toInt < 1000000 := by
  intro r
  induction r with
  | zero =>
    intro p x m b hb h0 h1 h2
    have : 10 ^ m ≤ 10 ^ 6 := Nat.pow_le_pow_right (by omega) (by omega)
    unfold dva
    omega
  | succ r ih =>
    intro p x m b hb h0 h1 h2
    unfold dva
    unfold dee at h2
    by_cases hd : isDg (text p)
    · rw [if_pos hd] at h2
      rw [if_pos hd]
      have hg := (dee_le text r (p + 1)).1
      have b1 := hd.1
      have b2 := hd.2
      have e10 : (10 : Int32).toInt = 10 := by decide
      have e48 : (48 : Int32).toInt = 48 := by decide
      have hm : 10 ^ m ≤ 10 ^ 5 := Nat.pow_le_pow_right (by omega) (by omega)
      have hm2 : 10 ^ (m + 1) = 10 ^ m * 10 := Nat.pow_succ 10 m
      rw [← hb] at hm hm2
      have m1 := gI_mul (x := 10) (y := x) (by rw [e10]; omega) (by rw [e10]; omega)
      rw [e10] at m1
      have m2 := gI_add (x := 10 * x) (y := text p) (by omega) (by omega)
      have m3 := gI_sub (x := 10 * x + text p) (y := 48) (by omega) (by omega)
      exact ih (p + 1) _ (m + 1) (b * 10) hm2.symm (by omega) (by omega) (by omega)
    · rw [if_neg hd] at h2
      rw [if_neg hd]
      have : 10 ^ m ≤ 10 ^ 6 := Nat.pow_le_pow_right (by omega) (by omega)
      omega
/-- numbers: lo, hi and the sign stand for what the class's limit says -/
theorem num_JR {ec ep ki ts te nu ec2 ep2 pos bad lim lo hi neg : Int32} (hL : L ≤ 600) (hr : ∀ x : Int32, 0 ≤ x.toInt → x.toInt < 1000000 → ((f_X7_in (Int32.toInt64 (if neg = 0 then x else -x)) (Int32.toInt64 lo) (Int32.toInt64 hi)) = 0 ↔ ¬ x ≤ lim)) (h : JR L text ec ep ki ts te nu ec2 ep2 pos bad) :
    JR L text (f_X0_readNumber (nI L) ec ep ki ts te nu text lim).2.1 (f_X0_readNumber (nI L) ec ep ki ts te nu text lim).2.2.1 (f_X0_readNumber (nI L) ec ep ki ts te nu text lim).2.2.2.1 (f_X0_readNumber (nI L) ec ep ki ts te nu text lim).2.2.2.2.1 (f_X0_readNumber (nI L) ec ep ki ts te nu text lim).2.2.2.2.2.1 (f_X0_readNumber (nI L) ec ep ki ts te nu text lim).2.2.2.2.2.2 (f_X7_number (nI L) ec2 ep2 pos bad text lo hi neg).2.1 (f_X7_number (nI L) ec2 ep2 pos bad text lo hi neg).2.2.1 (f_X7_number (nI L) ec2 ep2 pos bad text lo hi neg).2.2.2.1 (f_X7_number (nI L) ec2 ep2 pos bad text lo hi neg).2.2.2.2 ∧
    ((f_X0_readNumber (nI L) ec ep ki ts te nu text lim).2.1 = 0 → (f_X7_number (nI L) ec2 ep2 pos bad text lo hi neg).1 = (if neg = 0 then (f_X0_readNumber (nI L) ec ep ki ts te nu text lim).1 else -(f_X0_readNumber (nI L) ec ep ki ts te nu text lim).1) ∧ 0 ≤ (f_X0_readNumber (nI L) ec ep ki ts te nu text lim).1.toInt ∧ (f_X0_readNumber (nI L) ec ep ki ts te nu text lim).1 ≤ lim) ∧
    (∀ p : Nat, ec = 0 → pos = nI p → p ≤ L → (f_X0_readNumber (nI L) ec ep ki ts te nu text lim).2.1 = 0 → ∃ p' : Nat, p ≤ p' ∧ p' ≤ L ∧ (f_X7_number (nI L) ec2 ep2 pos bad text lo hi neg).2.2.2.1 = nI p') := by
  have h10 : ¬ (1 : Int32) = 0 := by decide
  have h20 : ¬ (2 : Int32) = 0 := by decide
  obtain ⟨rfl, rfl, h⟩ := h
  unfold f_X0_readNumber
  rcases h with ⟨rfl, rfl, p, hp, rfl, ht⟩ | ⟨he, hb⟩
  · have hq := skp_L (text := text) hp
    have hpL : 0 ≤ (nI L).toInt ∧ (nI L).toInt ≤ 600 := by rw [nI_toInt (by omega)]; omega
    have hpp : 0 ≤ (nI p).toInt ∧ (nI p).toInt ≤ 700 := by rw [nI_toInt (by omega)]; omega
    obtain ⟨e1, hc⟩ := ht.cases hL hp
    rw [number_eq hpL hpp, here_L hL hp]
    dsimp only
    rw [x7_dg]
    by_cases cd : skp L text p < L ∧ isDg (text (skp L text p))
    · obtain ⟨c1, c2⟩ := cd
      have c3 : isDg (if L ≤ skp L text p then (-1 : Int32) else text (skp L text p)) := by rw [if_neg (by omega)]; exact c2
      rw [if_pos c3, if_neg h10, digW_it hL (L - skp L text p) (skp L text p) 701 0 rfl (by omega) (by omega) (Nat.le_refl _)]
      obtain ⟨k1_, k2_, k3_⟩ : ki = (if dee text (L - skp L text p) (skp L text p) - skp L text p ≤ 6 then 2 else 3) ∧ te = nI (dee text (L - skp L text p) (skp L text p)) ∧ nu = dva text (L - skp L text p) (skp L text p) 0 := by
        rcases hc with ⟨h1, -⟩ | ⟨-, h2, -⟩ | ⟨-, -, h3, h4, h5⟩ | ⟨-, -, h3, -⟩
        · omega
        · exact absurd h2 (lt_dg c2)
        · exact ⟨h3, h4, h5⟩
        · exact absurd c2 h3
      have hd := dee_le text (L - skp L text p) (skp L text p)
      have hz : (0 : Int32).toInt = 0 := by decide
      have hv := fun z => dva_rng (text := text) (L - skp L text p) (skp L text p) 0 0 1 rfl (by omega) (by omega) z
      have hm := fun z => dvm_eq (text := text) (q := skp L text p) (L - skp L text p) (skp L text p) 0 (Nat.le_refl _) z
      unfold numF
      dsimp only
      by_cases h6 : dee text (L - skp L text p) (skp L text p) - skp L text p ≤ 6
      · rw [if_pos h6] at k1_
        rw [if_pos ((sub6 hd.1 (by omega)).mpr h6), hm (by omega), ← k3_, k1_, if_pos rfl]
        have hv2 := hv (by omega)
        rw [← k3_] at hv2
        have hr2 := hr nu hv2.1 hv2.2
        by_cases cl : nu ≤ lim
        · rw [if_neg (fun z => (hr2.mp z) cl), if_pos cl]
          dsimp only
          rw [k2_]
          exact ⟨⟨rfl, rfl, Or.inl ⟨rfl, rfl, _, by omega, rfl, TK.next hL (by omega) 2 nu⟩⟩, fun _ => ⟨rfl, hv2.1, cl⟩, fun p0 _ e0 hp0 _ => ⟨_, by have := (nI_eq (by omega) (by omega)).mp e0; omega, by omega, rfl⟩⟩
        · rw [if_pos (hr2.mpr cl), if_neg cl, fail_0, e1]
          exact ⟨⟨rfl, rfl, Or.inr ⟨h20, h10⟩⟩, fun z => absurd z h20, fun _ _ _ _ z => absurd z h20⟩
      · rw [if_neg h6] at k1_
        have h32 : ¬ (3 : Int32) = 2 := by decide
        rw [if_neg (fun z => h6 ((sub6 hd.1 (by omega)).mp z)), k1_, if_neg h32, fail_0, e1]
        exact ⟨⟨rfl, rfl, Or.inr ⟨h10, h10⟩⟩, fun z => absurd z h10, fun _ _ _ _ z => absurd z h10⟩
    · have c3 : ¬ isDg (if L ≤ skp L text p then (-1 : Int32) else text (skp L text p)) := by
        by_cases c : L ≤ skp L text p
        · rw [if_pos c]; decide
        · rw [if_neg c]; exact fun z => cd ⟨by omega, z⟩
      have hk : ¬ ki = 2 := by
        rcases hc with ⟨-, h2, -⟩ | ⟨-, -, h3, -⟩ | ⟨h1, h2, -⟩ | ⟨-, -, -, h4, -⟩
        · rw [h2]; decide
        · rw [h3]; decide
        · exact absurd ⟨h1, h2⟩ cd
        · rw [h4]; exact (sgK_2 _).1
      rw [if_neg c3, if_pos rfl, if_neg hk, fail_0, e1]
      exact ⟨⟨rfl, rfl, Or.inr ⟨h10, h10⟩⟩, fun z => absurd z h10, fun _ _ _ _ z => absurd z h10⟩
  · have en : f_X7_number (nI L) ec ep pos bad text lo hi neg = (0, ec, ep, pos, bad) := if_neg hb
    rw [en]
    by_cases c : ki = 2
    · rw [if_pos c]
      by_cases c2 : nu ≤ lim
      · rw [if_pos c2]
        exact ⟨⟨rfl, rfl, Or.inr ⟨he, hb⟩⟩, fun z => absurd z he, fun _ z => absurd z he⟩
      · rw [if_neg c2, fail_1 he]
        exact ⟨⟨rfl, rfl, Or.inr ⟨he, hb⟩⟩, fun z => absurd z he, fun _ z => absurd z he⟩
    · rw [if_neg c, fail_1 he]
      exact ⟨⟨rfl, rfl, Or.inr ⟨he, hb⟩⟩, fun z => absurd z he, fun _ z => absurd z he⟩
end pureO
