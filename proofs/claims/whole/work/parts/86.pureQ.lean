/-! PURE Q: locations, words and opcodes of both assemblers -/
theorem in32 (x a b : Int32) : f_X7_in (Int32.toInt64 x) (Int32.toInt64 a) (Int32.toInt64 b) = if x.toInt < a.toInt ∨ b.toInt < x.toInt then 0 else 1 := inI (gI_l a) (gI_l b)
theorem lim_0 (b : Int32) : ∀ x : Int32, 0 ≤ x.toInt → x.toInt < 1000000 → ((f_X7_in (Int32.toInt64 (if (0 : Int32) = 0 then x else -x)) (Int32.toInt64 0) (Int32.toInt64 b)) = 0 ↔ ¬ x ≤ b) := by
  intro x h0 h1
  rw [if_pos rfl, in32, Int32.le_iff_toInt_le]
  have e0 : (0 : Int32).toInt = 0 := by decide
  split
  · exact ⟨fun _ => by omega, fun _ => rfl⟩
  · exact ⟨fun z => absurd z (by decide), fun z => by omega⟩
section pureQ
variable {L : Nat} {text : Nat → Int32}
theorem num_mono {ec ep ki ts te nu lim : Int32} (he : ¬ ec = 0) : (f_X0_readNumber (nI L) ec ep ki ts te nu text lim).2.1 = ec := by
  unfold f_X0_readNumber
  split
  · split
    · rfl
    · rw [fail_1 he]
  · rw [fail_1 he]
theorem sym_mono {ec ep ki ts te nu s : Int32} (he : ¬ ec = 0) : (f_X0_readSymbol (nI L) ec ep ki ts te nu text s).1 = ec := by
  unfold f_X0_readSymbol
  split
  · rfl
  · rw [fail_1 he]
theorem loc_JR {ec ep ki ts te nu ec2 ep2 pos bad : Int32} {a : Int32 × Int32 × Int32 × Int32 × Int32 × Int32 × Int32} {b : Int32 × Int32 × Int32 × Int32 × Int32} (hL : L ≤ 600) (h : JR L text ec ep ki ts te nu ec2 ep2 pos bad) (ha : f_X0_readLocation (nI L) ec ep ki ts te nu text = a) (hb : f_X7_readLocation (nI L) ec2 ep2 pos bad text = b) :
    JR L text a.2.1 a.2.2.1 a.2.2.2.1 a.2.2.2.2.1 a.2.2.2.2.2.1 a.2.2.2.2.2.2 b.2.1 b.2.2.1 b.2.2.2.1 b.2.2.2.2 ∧ (a.2.1 = 0 → ec = 0 ∧ ∃ v : Nat, v < 256 ∧ a.1 = nI v ∧ b.1 = nI v) ∧ (∀ p : Nat, ec = 0 → pos = nI p → p ≤ L → a.2.1 = 0 → ∃ p' : Nat, p < p' ∧ p' ≤ L ∧ b.2.2.2.1 = nI p') := by
  unfold f_X0_readLocation at ha
  unfold f_X7_readLocation at hb
  dsimp only at ha hb
  obtain ⟨q1, q2, q3⟩ := num_JR (lim := 7) (lo := 0) (hi := 7) (neg := 0) hL (lim_0 7) h
  have m1 := fun he => num_mono (L := L) (text := text) (ec := ec) (ep := ep) (ki := ki) (ts := ts) (te := te) (nu := nu) (lim := 7) he
  generalize f_X0_readNumber (nI L) ec ep ki ts te nu text 7 = t1 at *
  generalize f_X7_number (nI L) ec2 ep2 pos bad text 0 7 0 = u1 at *
  obtain ⟨r1, r3⟩ := sym_JR (s := 46) hL (Or.inl rfl) q1
  have m2 := fun he => sym_mono (L := L) (text := text) (ec := t1.2.1) (ep := t1.2.2.1) (ki := t1.2.2.2.1) (ts := t1.2.2.2.2.1) (te := t1.2.2.2.2.2.1) (nu := t1.2.2.2.2.2.2) (s := 46) he
  generalize f_X0_readSymbol (nI L) t1.2.1 t1.2.2.1 t1.2.2.2.1 t1.2.2.2.2.1 t1.2.2.2.2.2.1 t1.2.2.2.2.2.2 text 46 = t2 at *
  generalize f_X7_sign (nI L) u1.2.1 u1.2.2.1 u1.2.2.2.1 u1.2.2.2.2 text 46 = u2 at *
  obtain ⟨s1, s2, s3⟩ := num_JR (lim := 31) (lo := 0) (hi := 31) (neg := 0) hL (lim_0 31) r1
  have m3 := fun he => num_mono (L := L) (text := text) (ec := t2.1) (ep := t2.2.1) (ki := t2.2.2.1) (ts := t2.2.2.2.1) (te := t2.2.2.2.2.1) (nu := t2.2.2.2.2.2) (lim := 31) he
  generalize f_X0_readNumber (nI L) t2.1 t2.2.1 t2.2.2.1 t2.2.2.2.1 t2.2.2.2.2.1 t2.2.2.2.2.2 text 31 = t3 at *
  generalize f_X7_number (nI L) u2.1 u2.2.1 u2.2.2.1 u2.2.2.2 text 0 31 0 = u3 at *
  subst ha hb
  dsimp only
  have z2 : t3.2.1 = 0 → t2.1 = 0 := fun z => Decidable.byContradiction fun y => y ((m3 y).symm.trans z)
  have z1 : t2.1 = 0 → t1.2.1 = 0 := fun z => Decidable.byContradiction fun y => y ((m2 y).symm.trans z)
  have z0 : t1.2.1 = 0 → ec = 0 := fun z => Decidable.byContradiction fun y => y ((m1 y).symm.trans z)
  refine ⟨s1, fun z => ⟨z0 (z1 (z2 z)), ?_⟩, fun p p0 p1 p2 z => ?_⟩
  · obtain ⟨a1, a2, a3⟩ := q2 (z1 (z2 z))
    obtain ⟨b1, b2, b3⟩ := s2 z
    rw [if_pos rfl] at a1 b1
    rw [Int32.le_iff_toInt_le] at a3 b3
    have e7 : (7 : Int32).toInt = 7 := by decide
    have e31 : (31 : Int32).toInt = 31 := by decide
    obtain ⟨x, hx, ex⟩ := of_rng (N := 8) (x := t1.1) (by omega) (by omega)
    obtain ⟨y, hy, ey⟩ := of_rng (N := 32) (x := t3.1) (by omega) (by omega)
    refine ⟨32 * x + y, by omega, ?_, ?_⟩
    · rw [ex, ey, locOf_nI]
    · rw [a1, b1, ex, ey, loc_nI]
  · obtain ⟨p', h1, h2, h3⟩ := q3 p p0 p1 p2 (z1 (z2 z))
    obtain ⟨p'', h4, h5, h6⟩ := r3 p' (z1 (z2 z)) h3 h2 (z2 z)
    obtain ⟨p3, h7, h8, h9⟩ := s3 p'' (z2 z) h6 h5 z
    exact ⟨p3, by omega, h8, h9⟩
/-- the model's number of the word that begins at p, and the class's comparisons of its token -/
theorem word_TK {p : Nat} {ki ts te nu : Int32} (hL : L ≤ 600) (hp : p ≤ L) (ht : TK L text p ki ts te nu) : ∃ (V : Int64) (e : Nat), f_X7_word (nI L) (nI p) text = (V, nI e, ts) ∧ p ≤ e ∧ e ≤ L ∧ (ki = 1 → te = nI e ∧ p < e) ∧ (¬ ki = 1 → V = 0) ∧ ∀ i : Nat, i < 20 → ((f_X0_tokenIs (nI L) ki ts te text i = 0) ↔ ¬ V.toInt = (wc i : Int)) := by
  have hq := skp_L (text := text) hp
  obtain ⟨e1, hc⟩ := ht.cases hL hp
  have h2 := here_2 (text := text) hL hp
  have hh := here_L (text := text) hL hp
  by_cases cl : skp L text p < L ∧ isLt (text (skp L text p))
  · obtain ⟨c1, c2⟩ := cl
    obtain ⟨k1_, k2_⟩ : ki = 1 ∧ te = nI (lee text (L - skp L text p) (skp L text p)) := by
      rcases hc with ⟨h1, -⟩ | ⟨-, -, h3, h4⟩ | ⟨-, h3, -⟩ | ⟨-, h3, -⟩
      · omega
      · exact ⟨h3, h4⟩
      · exact absurd c2 (lt_dg h3)
      · exact absurd c2 h3
    have hg := lee_le text (L - skp L text p) (skp L text p)
    have hg2 : skp L text p < lee text (L - skp L text p) (skp L text p) := by
      rw [show L - skp L text p = (L - skp L text p - 1) + 1 by omega]
      unfold lee
      rw [if_pos c2]
      exact (lee_le text _ _).1
    have hcx : isLt (f_X7_here (nI L) (nI p) text).1 := by rw [hh, if_neg (by omega)]; exact c2
    refine ⟨wva text (L - skp L text p) (skp L text p) 0 0, lee text (L - skp L text p) (skp L text p), ?_, by omega, by omega, fun _ => ⟨k2_, by omega⟩, fun z => absurd k1_ z, fun i hi => ?_⟩
    · unfold f_X7_word
      rw [h2, e1]
      have hw := word_itN hL hcx (L - skp L text p) (skp L text p) 701 0 0 rfl (by omega) (by omega) (Nat.zero_le _)
      rw [h2] at hw
      exact hw
    · rw [e1, k2_, tis hL (by omega) (by omega) (by omega), wva_is hi]
      exact ⟨fun z y => z ⟨k1_, y⟩, fun z y => z y.2⟩
  · have hcx : ¬ isLt (f_X7_here (nI L) (nI p) text).1 := by
      rw [hh]
      dsimp only
      by_cases c : L ≤ skp L text p
      · rw [if_pos c]; decide
      · rw [if_neg c]; exact fun z => cl ⟨by omega, z⟩
    have hk : ¬ ki = 1 := by
      rcases hc with ⟨-, h2, -⟩ | ⟨h1, h2, -⟩ | ⟨-, -, h3, -⟩ | ⟨-, -, -, h4, -⟩
      · rw [h2]; decide
      · exact absurd ⟨h1, h2⟩ cl
      · rw [h3]; split <;> decide
      · rw [h4]; exact (sgK_2 _).2.1
    refine ⟨0, skp L text p, ?_, hq.1, hq.2, fun z => absurd z hk, fun _ => rfl, fun i hi => ?_⟩
    · show wl_X7_word (nI L) (nI p) text (700 + 1) (f_X7_here (nI L) (nI p) text).2 0 0 = _
      unfold wl_X7_word
      rw [x7_lt, if_neg hcx, if_pos rfl, h2, e1]
    · have h0 : f_X0_tokenIs (nI L) ki ts te text i = 0 := if_neg hk
      have hw := wc_pos i hi
      have e0 : (0 : Int64).toInt = 0 := by decide
      refine ⟨fun _ z => ?_, fun _ => h0⟩
      rw [e0] at z
      generalize wc i = y at *
      omega
theorem opc_it {ki ts te : Int32} {mn : Nat → Int64} {V : Int64} (hmn : ∀ k : Nat, k < 16 → (mn k).toInt = (wc k : Int)) (hV : ∀ i : Nat, i < 20 → ((f_X0_tokenIs (nI L) ki ts te text i = 0) ↔ ¬ V.toInt = (wc i : Int))) : ∀ n k : Nat, k + n = 16 → wl_X7_opcodeOf mn V n k = wl_X0_opcodeOfToken (nI L) ki ts te text n k ∧ (wl_X7_opcodeOf mn V n k = -1 ∨ ∃ j : Nat, j < 16 ∧ wl_X7_opcodeOf mn V n k = nI j ∧ V.toInt = (wc j : Int)) := by
  intro n
  induction n with
  | zero => intro k _; exact ⟨rfl, Or.inl rfl⟩
  | succ n ih =>
    intro k hk
    unfold wl_X7_opcodeOf wl_X0_opcodeOfToken
    rw [nI_clamp (by omega)]
    have e : mn k = V ↔ V.toInt = (wc k : Int) := by
      rw [← hmn k (by omega)]
      exact ⟨fun z => by rw [z], fun z => Int64.toInt_inj.mp z.symm⟩
    by_cases c : V.toInt = (wc k : Int)
    · rw [if_pos (e.mpr c), if_neg (fun z => ((hV k (by omega)).mp z) c)]
      exact ⟨rfl, Or.inr ⟨k, by omega, rfl, c⟩⟩
    · rw [if_neg (fun z => c (e.mp z)), if_pos ((hV k (by omega)).mpr c)]
      exact ih (k + 1) (by omega)
theorem opc_TK {ki ts te : Int32} {mn : Nat → Int64} {V : Int64} (hmn : ∀ k : Nat, k < 16 → (mn k).toInt = (wc k : Int)) (hV : ∀ i : Nat, i < 20 → ((f_X0_tokenIs (nI L) ki ts te text i = 0) ↔ ¬ V.toInt = (wc i : Int))) : f_X7_opcodeOf mn V = f_X0_opcodeOfToken (nI L) ki ts te text ∧ (f_X7_opcodeOf mn V = -1 ∨ ∃ j : Nat, j < 16 ∧ f_X7_opcodeOf mn V = nI j ∧ V.toInt = (wc j : Int)) := opc_it hmn hV 16 0 rfl
end pureQ
