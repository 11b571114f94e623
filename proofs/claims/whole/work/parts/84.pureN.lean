/-! PURE N: words: the model's number of a word and the class's comparison, letter by letter -/
theorem gM_add {x y : Int64} (h1 : -9223372036854775808 ≤ x.toInt + y.toInt) (h2 : x.toInt + y.toInt < 9223372036854775808) : (x + y).toInt = x.toInt + y.toInt := by
  rw [Int64.toInt_add]; exact Int.bmod_eq_of_le (by omega) (by omega)
theorem gM_sub {x y : Int64} (h1 : -9223372036854775808 ≤ x.toInt - y.toInt) (h2 : x.toInt - y.toInt < 9223372036854775808) : (x - y).toInt = x.toInt - y.toInt := by
  rw [Int64.toInt_sub]; exact Int.bmod_eq_of_le (by omega) (by omega)
theorem gM_mul {x y : Int64} (h1 : -9223372036854775808 ≤ x.toInt * y.toInt) (h2 : x.toInt * y.toInt < 9223372036854775808) : (x * y).toInt = x.toInt * y.toInt := by
  rw [Int64.toInt_mul]; exact Int.bmod_eq_of_le (by omega) (by omega)
/-- the value of the first n of the digits d, in base 27 -/
def vN (d : Nat → Nat) : Nat → Nat
  | 0 => 0
  | n + 1 => 27 * vN d n + d n
def dgt (text : Nat → Int32) (q k : Nat) : Nat := (text (q + k)).toInt.toNat - 96
theorem vN_inj : ∀ (n m : Nat) (d e : Nat → Nat), (∀ k, k < n → 1 ≤ d k ∧ d k ≤ 26) → (∀ k, k < m → 1 ≤ e k ∧ e k ≤ 26) → vN d n = vN e m → n = m ∧ ∀ k, k < n → d k = e k := by
  intro n
  induction n with
  | zero =>
    intro m d e _ he h
    cases m with
    | zero => exact ⟨rfl, fun k hk => absurd hk (Nat.not_lt_zero _)⟩
    | succ m =>
      have := he m (Nat.lt_succ_self m)
      have h2 : 0 = 27 * vN e m + e m := h
      omega
  | succ n ih =>
    intro m d e hd he h
    cases m with
    | zero =>
      have := hd n (Nat.lt_succ_self n)
      have h2 : 27 * vN d n + d n = 0 := h
      omega
    | succ m =>
      have a1 := hd n (Nat.lt_succ_self n)
      have a2 := he m (Nat.lt_succ_self m)
      have h2 : 27 * vN d n + d n = 27 * vN e m + e m := h
      have h3 : vN d n = vN e m := by omega
      have h4 : d n = e m := by omega
      obtain ⟨r1, r2⟩ := ih m d e (fun k hk => hd k (Nat.lt_succ_of_lt hk)) (fun k hk => he k (Nat.lt_succ_of_lt hk)) h3
      subst r1
      refine ⟨rfl, fun k hk => ?_⟩
      rcases Nat.lt_succ_iff_lt_or_eq.mp hk with g | g
      · exact r2 k g
      · rw [g]; exact h4
theorem vN_le (d : Nat → Nat) (h : ∀ k, d k ≤ 26) : ∀ n : Nat, n ≤ 6 → vN d n ≤ 400000000 ∧ (n ≤ 5 → vN d n ≤ 14348906) := by
  intro n hn
  have e0 : vN d 0 = 0 := rfl
  have e1 : vN d 1 = 27 * vN d 0 + d 0 := rfl
  have e2 : vN d 2 = 27 * vN d 1 + d 1 := rfl
  have e3 : vN d 3 = 27 * vN d 2 + d 2 := rfl
  have e4 : vN d 4 = 27 * vN d 3 + d 3 := rfl
  have e5 : vN d 5 = 27 * vN d 4 + d 4 := rfl
  have e6 : vN d 6 = 27 * vN d 5 + d 5 := rfl
  have h0 := h 0
  have h1 := h 1
  have h2 := h 2
  have h3 := h 3
  have h4 := h 4
  have h5 := h 5
  have : n = 0 ∨ n = 1 ∨ n = 2 ∨ n = 3 ∨ n = 4 ∨ n = 5 ∨ n = 6 := by omega
  rcases this with rfl | rfl | rfl | rfl | rfl | rfl | rfl <;> omega
def wva (text : Nat → Int32) : Nat → Nat → Int64 → Nat → Int64
  | 0, _, x, _ => x
  | r + 1, p, x, j => if isLt (text p) then wva text r (p + 1) (if 6 ≤ j then -1 else ((27 * x) + (Int32.toInt64 (text p))) - 96) (j + 1) else x
theorem word_itN {L : Nat} {text : Nat → Int32} {pos : Int32} (hL : L ≤ 600) (hc : isLt (f_X7_here (nI L) pos text).1) : ∀ (r p n j : Nat) (x : Int64), L - p = r → r < n → p ≤ 700 → j ≤ p → wl_X7_word (nI L) pos text n (nI p) x (nI j) = (wva text r p x j, nI (lee text r p), (f_X7_here (nI L) pos text).2) := by
  intro r
  induction r with
  | zero =>
    intro p n j x hr hn hp hj
    obtain ⟨k, rfl⟩ : ∃ k, n = k + 1 := ⟨n - 1, by omega⟩
    unfold wl_X7_word wva lee
    rw [x7_lt, if_pos hc, if_neg (by decide), if_pos (nI_le (by omega) (by omega))]
  | succ r ih =>
    intro p n j x hr hn hp hj
    obtain ⟨k, rfl⟩ : ∃ k, n = k + 1 := ⟨n - 1, by omega⟩
    unfold wl_X7_word wva lee
    rw [x7_lt, if_pos hc, if_neg (by decide), if_neg (nI_ge (by omega) (by omega)), nI_clamp (by omega), x7_lt]
    by_cases h : isLt (text p)
    · rw [if_pos h, if_pos h, if_pos h, if_neg (by decide), nI_1, nI_1]
      by_cases h6 : 6 ≤ j
      · rw [if_pos (show (6 : Int32) ≤ nI j from nI_le (a := 6) h6 (by omega)), if_pos h6]
        exact ih (p + 1) k (j + 1) _ (by omega) (by omega) (by omega) (by omega)
      · rw [if_neg (show ¬ (6 : Int32) ≤ nI j from nI_ge (b := 6) (by omega) (by decide)), if_neg h6]
        exact ih (p + 1) k (j + 1) _ (by omega) (by omega) (by omega) (by omega)
    · rw [if_neg h, if_neg h, if_neg h, if_pos rfl]
theorem wva_neg {text : Nat → Int32} : ∀ (r p j : Nat), 6 < j → wva text r p (-1) j = -1 := by
  intro r
  induction r with
  | zero => intro p j _; rfl
  | succ r ih =>
    intro p j hj
    unfold wva
    split
    · rw [if_pos (by omega)]
      exact ih (p + 1) (j + 1) (by omega)
    · rfl
theorem wva_val {text : Nat → Int32} {q : Nat} : ∀ (r p j : Nat) (x : Int64), p = q + j → j ≤ 6 → (∀ k, k < j → isLt (text (q + k))) → x.toInt = (vN (dgt text q) j : Int) → (wva text r p x j).toInt = if lee text r p - q ≤ 6 then (vN (dgt text q) (lee text r p - q) : Int) else -1 := by
  intro r
  induction r with
  | zero =>
    intro p j x hp hj hl hx
    unfold wva lee
    rw [if_pos (by omega), show p - q = j by omega]
    exact hx
  | succ r ih =>
    intro p j x hp hj hl hx
    unfold wva lee
    by_cases h : isLt (text p)
    · rw [if_pos h, if_pos h]
      by_cases h6 : 6 ≤ j
      · have hg := (lee_le text r (p + 1)).1
        rw [if_pos h6, wva_neg r (p + 1) (j + 1) (by omega), if_neg (by omega)]
        decide
      · rw [if_neg h6]
        refine ih (p + 1) (j + 1) _ (by omega) (by omega) (fun k hk => ?_) ?_
        · rcases Nat.lt_succ_iff_lt_or_eq.mp hk with g | g
          · exact hl k g
          · rw [g, ← hp]; exact h
        · have hv : vN (dgt text q) j ≤ 14348906 := by
            have g := vN_le (fun k => if k < j then dgt text q k else 0) (fun k => by
              show (if k < j then dgt text q k else 0) ≤ 26
              split
              · next hk => have := (hl k hk).2; have := (hl k hk).1; unfold dgt; omega
              · omega) j hj
            have e : ∀ n, n ≤ j → vN (fun k => if k < j then dgt text q k else 0) n = vN (dgt text q) n := by
              intro n
              induction n with
              | zero => intro _; rfl
              | succ n ihn =>
                intro hn
                show 27 * vN _ n + (if n < j then dgt text q n else 0) = 27 * vN _ n + dgt text q n
                rw [ihn (by omega), if_pos (by omega)]
            rw [← e j (Nat.le_refl _)]
            exact g.2 (by omega)
          have e27 : (27 : Int64).toInt = 27 := by decide
          have e96 : (96 : Int64).toInt = 96 := by decide
          have b1 := h.1
          have b2 := h.2
          have m1 := gM_mul (x := 27) (y := x) (by rw [e27, hx]; omega) (by rw [e27, hx]; omega)
          have c1 : (Int32.toInt64 (text p)).toInt = (text p).toInt := gI_l _
          have m2 := gM_add (x := 27 * x) (y := Int32.toInt64 (text p)) (by rw [m1, e27, hx, c1]; omega) (by rw [m1, e27, hx, c1]; omega)
          have m3 := gM_sub (x := 27 * x + Int32.toInt64 (text p)) (y := 96) (by rw [m2, m1, e27, hx, c1, e96]; omega) (by rw [m2, m1, e27, hx, c1, e96]; omega)
          rw [m3, m2, m1, e27, hx, c1, e96]
          have ed : dgt text q j = (text p).toInt.toNat - 96 := by unfold dgt; rw [hp]
          show _ = ((27 * vN (dgt text q) j + dgt text q j : Nat) : Int)
          rw [ed]
          omega
    · rw [if_neg h, if_neg h, if_pos (by omega), show p - q = j by omega]
      exact hx
theorem lee_lt {text : Nat → Int32} : ∀ (r p k : Nat), p ≤ k → k < lee text r p → isLt (text k) := by
  intro r
  induction r with
  | zero => intro p k h1 h2; exact absurd h2 (Nat.not_lt.mpr h1)
  | succ r ih =>
    intro p k h1 h2
    unfold lee at h2
    by_cases h : isLt (text p)
    · rw [if_pos h] at h2
      by_cases e : k = p
      · rw [e]; exact h
      · exact ih (p + 1) k (by omega) h2
    · rw [if_neg h] at h2
      omega
def wc (i : Nat) : Nat := vN (fun k => (gBy i k).toInt.toNat - 96) (gLn i)
theorem gBy_lt : ∀ i : Nat, i < 20 → ∀ k : Nat, k < gLn i → isLt (gBy i k) := by decide +kernel
theorem gLn_5 : ∀ i : Nat, i < 20 → gLn i ≤ 5 ∧ 1 ≤ gLn i := by decide +kernel
theorem wc_at : wc 16 = 47 ∧ wc 17 = 10492274 ∧ wc 18 = 464134 ∧ wc 19 = 399641 := by decide +kernel
theorem wc_pos : ∀ i : Nat, i < 20 → 1 ≤ wc i := by decide +kernel
/-- the word at q is the word i -/
def isW (text : Nat → Int32) (q e i : Nat) : Prop := e - q = gLn i ∧ ∀ k : Nat, k < gLn i → text (q + k) = gBy i k
theorem wva_v {text : Nat → Int32} (r q : Nat) : (wva text r q 0 0).toInt = if lee text r q - q ≤ 6 then (vN (dgt text q) (lee text r q - q) : Int) else -1 :=
  wva_val (text := text) (q := q) r q 0 0 rfl (by omega) (fun k hk => absurd hk (Nat.not_lt_zero _)) (by show (0 : Int64).toInt = 0; decide)
theorem dg_rng {c : Int32} (h : isLt c) : 1 ≤ c.toInt.toNat - 96 ∧ c.toInt.toNat - 96 ≤ 26 := by
  have := h.1
  have := h.2
  omega
theorem dg_ext {a b : Int32} (ha : isLt a) (hb : isLt b) (e : a.toInt.toNat - 96 = b.toInt.toNat - 96) : a = b := by
  have := ha.1
  have := hb.1
  exact gI_ext (by omega)
theorem wc_eq (i : Nat) : wc i = vN (fun k => (gBy i k).toInt.toNat - 96) (gLn i) := rfl
theorem vN_cong {d e : Nat → Nat} : ∀ n : Nat, (∀ k, k < n → d k = e k) → vN d n = vN e n := by
  intro n
  induction n with
  | zero => intro _; rfl
  | succ n ih =>
    intro h
    show 27 * vN d n + d n = 27 * vN e n + e n
    rw [ih (fun k hk => h k (Nat.lt_succ_of_lt hk)), h n (Nat.lt_succ_self n)]
theorem wva_mp {text : Nat → Int32} {r q i : Nat} (hi : i < 20) (h : (wva text r q 0 0).toInt = (wc i : Int)) : isW text q (lee text r q) i := by
  have hg := (lee_le text r q).1
  rw [wva_v] at h
  by_cases h6 : lee text r q - q ≤ 6
  · rw [if_pos h6, wc_eq] at h
    have h' := Int.ofNat.inj h
    have hx : ∀ k, k < lee text r q - q → isLt (text (q + k)) := fun k hk => lee_lt r q (q + k) (by omega) (by omega)
    obtain ⟨g1, g2⟩ := vN_inj _ _ _ _ (fun k hk => dg_rng (hx k hk)) (fun k hk => dg_rng (gBy_lt i hi k hk)) h'
    exact ⟨g1, fun k hk => dg_ext (hx k (by omega)) (gBy_lt i hi k hk) (g2 k (by omega))⟩
  · rw [if_neg h6] at h
    generalize wc i = z at h
    omega
theorem wva_mpr {text : Nat → Int32} {r q i : Nat} (hi : i < 20) (h : isW text q (lee text r q) i) : (wva text r q 0 0).toInt = (wc i : Int) := by
  obtain ⟨g1, g2⟩ := h
  have h5 := gLn_5 i hi
  rw [wva_v, if_pos (by omega), g1, wc_eq]
  refine congrArg Int.ofNat (vN_cong _ (fun k hk => ?_))
  unfold dgt
  rw [g2 k hk]
theorem wva_is {text : Nat → Int32} {r q i : Nat} (hi : i < 20) : (wva text r q 0 0).toInt = (wc i : Int) ↔ isW text q (lee text r q) i := ⟨wva_mp hi, wva_mpr hi⟩
theorem tis_it {L q i : Nat} {text : Nat → Int32} (hL : L ≤ 600) : ∀ n k : Nat, k + n = gLn i → q + gLn i ≤ L → ((∀ j : Nat, k ≤ j → j < gLn i → text (q + j) = gBy i j) → wl_X0_tokenIs (nI L) (nI q) text i n k = 1) ∧ (¬ (∀ j : Nat, k ≤ j → j < gLn i → text (q + j) = gBy i j) → wl_X0_tokenIs (nI L) (nI q) text i n k = 0) := by
  intro n
  induction n with
  | zero => intro k hk hq; exact ⟨fun _ => rfl, fun h => absurd (fun j h1 h2 => by omega) h⟩
  | succ n ih =>
    intro k hk hq
    have eb : f_X0_byteAt (nI L) text (nI q + nI k) = text (q + k) := by rw [nI_add]; exact by_at hL (by omega)
    have ih' := ih (k + 1) (by omega) hq
    unfold wl_X0_tokenIs
    rw [eb, show f_J0_charAt_5068e i k = gBy i k from rfl]
    constructor
    · intro h
      rw [if_pos (h k (Nat.le_refl _) (by omega))]
      exact ih'.1 (fun j h1 h2 => h j (by omega) h2)
    · intro h
      by_cases c : text (q + k) = gBy i k
      · rw [if_pos c]
        refine ih'.2 (fun z => h (fun j h1 h2 => ?_))
        by_cases e : j = k
        · rw [e]; exact c
        · exact z j (by omega) h2
      · rw [if_neg c]
theorem tis {L q e i : Nat} {text : Nat → Int32} {ki : Int32} (hL : L ≤ 600) (hq : q ≤ e) (he : e ≤ L) (hi : i < 21) : (f_X0_tokenIs (nI L) ki (nI q) (nI e) text i = 0) ↔ ¬ (ki = 1 ∧ isW text q e i) := by
  unfold f_X0_tokenIs
  by_cases hk : ki = 1
  · rw [if_pos hk, show f_J0_length_8abf5 i = nI (gLn i) from rfl, pk_sub (show q ≤ e from hq)]
    have hl := gLn_le i hi
    by_cases hn : e - q = gLn i
    · rw [if_pos (by rw [hn])]
      have h := tis_it (text := text) (q := q) (i := i) hL (gLn i) 0 (by omega) (by omega)
      by_cases hb : ∀ j : Nat, 0 ≤ j → j < gLn i → text (q + j) = gBy i j
      · rw [h.1 hb]
        exact ⟨fun z => absurd z (by decide), fun z => absurd ⟨hk, hn, fun j hj => hb j (Nat.zero_le _) hj⟩ z⟩
      · rw [h.2 hb]
        exact ⟨fun _ z => hb (fun j _ hj => z.2.2 j hj), fun _ => rfl⟩
    · rw [if_neg (fun z => hn ((nI_eq (by omega) (by omega)).mp z))]
      exact ⟨fun _ z => hn z.2.1, fun _ => rfl⟩
  · rw [if_neg hk]
    exact ⟨fun _ z => hk z.1, fun _ => rfl⟩
