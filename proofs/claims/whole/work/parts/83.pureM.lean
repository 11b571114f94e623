/-! PURE M: tokens of the assembler: both programs' readers by Nat places -/
abbrev isLt (c : Int32) : Prop := 97 ≤ c.toInt ∧ c.toInt ≤ 122
abbrev isDg (c : Int32) : Prop := 48 ≤ c.toInt ∧ c.toInt ≤ 57
/-- bytes -/
def TB (text : Nat → Int32) : Prop := ∀ j : Nat, 0 ≤ (text j).toInt ∧ (text j).toInt < 256
theorem x0_lt (c : Int32) : f_X0_isLetter c = if isLt c then 1 else 0 := by
  have e1 : (97 : Int32).toInt = 97 := by decide
  have e2 : (122 : Int32).toInt = 122 := by decide
  unfold f_X0_isLetter
  by_cases h1 : c < 97
  · rw [if_pos h1]
    rw [gI_lt] at h1
    rw [if_neg (fun z : isLt c => by have := z.1; omega)]
  · rw [if_neg h1]
    rw [gI_lt] at h1
    by_cases h2 : 122 < c
    · rw [if_pos h2]
      rw [gI_lt] at h2
      rw [if_neg (fun z : isLt c => by have := z.2; omega)]
    · rw [if_neg h2]
      rw [gI_lt] at h2
      rw [if_pos (⟨by omega, by omega⟩ : isLt c)]
theorem x0_dg (c : Int32) : f_X0_isDigit c = if isDg c then 1 else 0 := by
  have e1 : (48 : Int32).toInt = 48 := by decide
  have e2 : (57 : Int32).toInt = 57 := by decide
  unfold f_X0_isDigit
  by_cases h1 : c < 48
  · rw [if_pos h1]
    rw [gI_lt] at h1
    rw [if_neg (fun z : isDg c => by have := z.1; omega)]
  · rw [if_neg h1]
    rw [gI_lt] at h1
    by_cases h2 : 57 < c
    · rw [if_pos h2]
      rw [gI_lt] at h2
      rw [if_neg (fun z : isDg c => by have := z.2; omega)]
    · rw [if_neg h2]
      rw [gI_lt] at h2
      rw [if_pos (⟨by omega, by omega⟩ : isDg c)]
theorem x7_lt (c : Int32) : f_X7_in (Int32.toInt64 c) 97 122 = if isLt c then 1 else 0 := by
  rw [inI (a := 97) (b := 122) (by decide) (by decide)]
  by_cases h : isLt c
  · rw [if_pos h, if_neg (by have := h.1; have := h.2; omega)]
  · rw [if_neg h, if_pos]
    exact Decidable.byContradiction fun z => h ⟨by omega, by omega⟩
theorem x7_dg (c : Int32) : f_X7_in (Int32.toInt64 c) 48 57 = if isDg c then 1 else 0 := by
  rw [inI (a := 48) (b := 57) (by decide) (by decide)]
  by_cases h : isDg c
  · rw [if_pos h, if_neg (by have := h.1; have := h.2; omega)]
  · rw [if_neg h, if_pos]
    exact Decidable.byContradiction fun z => h ⟨by omega, by omega⟩
theorem by_at {L p : Nat} {text : Nat → Int32} (hL : L ≤ 600) (hp : p < L) : f_X0_byteAt (nI L) text (nI p) = text p := by
  unfold f_X0_byteAt
  rw [if_neg (nI_pos (by omega)), if_neg (nI_ge hp (by omega)), if_neg (show ¬ (600 : Int32) ≤ nI p from nI_ge (b := 600) (by omega) (by decide)), nI_clamp (by omega)]
def sk (text : Nat → Int32) : Nat → Nat → Nat
  | 0, p => p
  | r + 1, p => if text p = 32 ∨ text p = 10 then sk text r (p + 1) else p
def skp (L : Nat) (text : Nat → Int32) (p : Nat) : Nat := sk text (L - p) p
def lee (text : Nat → Int32) : Nat → Nat → Nat
  | 0, p => p
  | r + 1, p => if isLt (text p) then lee text r (p + 1) else p
def dee (text : Nat → Int32) : Nat → Nat → Nat
  | 0, p => p
  | r + 1, p => if isDg (text p) then dee text r (p + 1) else p
def dva (text : Nat → Int32) : Nat → Nat → Int32 → Int32
  | 0, _, x => x
  | r + 1, p, x => if isDg (text p) then dva text r (p + 1) (((10 * x) + text p) - 48) else x
def dvm (text : Nat → Int32) (q : Nat) : Nat → Nat → Int32 → Int32
  | 0, _, x => x
  | r + 1, p, x => if isDg (text p) then dvm text q r (p + 1) (if 6 ≤ p - q then x else (((10 * x) + text p) - 48)) else x
theorem sk_le (text : Nat → Int32) : ∀ r p : Nat, p ≤ sk text r p ∧ sk text r p ≤ p + r := by
  intro r
  induction r with
  | zero => intro p; exact ⟨Nat.le_refl _, Nat.le_refl _⟩
  | succ r ih =>
    intro p
    unfold sk
    split
    · have := ih (p + 1); omega
    · omega
theorem lee_le (text : Nat → Int32) : ∀ r p : Nat, p ≤ lee text r p ∧ lee text r p ≤ p + r := by
  intro r
  induction r with
  | zero => intro p; exact ⟨Nat.le_refl _, Nat.le_refl _⟩
  | succ r ih =>
    intro p
    unfold lee
    split
    · have := ih (p + 1); omega
    · omega
theorem dee_le (text : Nat → Int32) : ∀ r p : Nat, p ≤ dee text r p ∧ dee text r p ≤ p + r := by
  intro r
  induction r with
  | zero => intro p; exact ⟨Nat.le_refl _, Nat.le_refl _⟩
  | succ r ih =>
    intro p
    unfold dee
    split
    · have := ih (p + 1); omega
    · omega
theorem skp_rng {L p : Nat} {text : Nat → Int32} : p ≤ skp L text p ∧ (skp L text p ≤ L ∨ skp L text p = p) := by
  unfold skp
  have h := sk_le text (L - p) p
  omega
theorem sk_stop (text : Nat → Int32) : ∀ r p : Nat, sk text r p = p + r ∨ ¬ (text (sk text r p) = 32 ∨ text (sk text r p) = 10) := by
  intro r
  induction r with
  | zero => intro p; exact Or.inl rfl
  | succ r ih =>
    intro p
    unfold sk
    split
    · rcases ih (p + 1) with h | h
      · exact Or.inl (by omega)
      · exact Or.inr h
    · next h => exact Or.inr h
theorem hereN_it {L : Nat} {text : Nat → Int32} (pos0 : Int32) (hL : L ≤ 600) : ∀ r p n : Nat, L - p = r → r < n → p ≤ 700 → wl_X7_here (nI L) pos0 text n (nI p) = (if L ≤ sk text r p then -1 else text (sk text r p), nI (sk text r p)) := by
  intro r
  induction r with
  | zero =>
    intro p n hr hn hp
    obtain ⟨k, rfl⟩ : ∃ k, n = k + 1 := ⟨n - 1, by omega⟩
    unfold wl_X7_here sk
    rw [if_pos (nI_le (by omega) (by omega)), if_pos (by omega)]
  | succ r ih =>
    intro p n hr hn hp
    obtain ⟨k, rfl⟩ : ∃ k, n = k + 1 := ⟨n - 1, by omega⟩
    unfold wl_X7_here sk
    rw [if_neg (nI_ge (by omega) (by omega)), nI_clamp (by omega)]
    by_cases h1 : text p = 32
    · rw [if_pos h1, if_pos (Or.inl h1), nI_1]
      exact ih (p + 1) k (by omega) (by omega) (by omega)
    · rw [if_neg h1]
      by_cases h2 : text p = 10
      · rw [if_pos h2, if_pos (Or.inr h2), nI_1]
        exact ih (p + 1) k (by omega) (by omega) (by omega)
      · have hz : ¬ (text p = 32 ∨ text p = 10) := fun z => z.elim h1 h2
        rw [if_neg h2, if_neg hz, if_neg (by omega)]
theorem here_nI {L p : Nat} {text : Nat → Int32} (hL : L ≤ 600) (hp : p ≤ 700) : f_X7_here (nI L) (nI p) text = (if L ≤ skp L text p then -1 else text (skp L text p), nI (skp L text p)) :=
  hereN_it (nI p) hL (L - p) p 701 rfl (by omega) hp
theorem let_it {L : Nat} {text : Nat → Int32} (te : Int32) (hL : L ≤ 600) : ∀ r p n : Nat, L - p = r → r < n → p ≤ 700 → wl_X0_readLetters (nI L) te text n (nI p) = nI (lee text r p) := by
  intro r
  induction r with
  | zero =>
    intro p n hr hn hp
    obtain ⟨k, rfl⟩ : ∃ k, n = k + 1 := ⟨n - 1, by omega⟩
    unfold wl_X0_readLetters lee
    rw [if_pos (nI_le (by omega) (by omega))]
  | succ r ih =>
    intro p n hr hn hp
    obtain ⟨k, rfl⟩ : ∃ k, n = k + 1 := ⟨n - 1, by omega⟩
    unfold wl_X0_readLetters lee
    rw [if_neg (nI_ge (by omega) (by omega)), by_at hL (by omega), x0_lt]
    by_cases h : isLt (text p)
    · rw [if_pos h, if_pos h, if_neg (by decide), nI_1]
      exact ih (p + 1) k (by omega) (by omega) (by omega)
    · rw [if_neg h, if_neg h, if_pos rfl]
theorem letters_nI {L p : Nat} {text : Nat → Int32} (hL : L ≤ 600) (hp : p ≤ 600) : f_X0_readLetters (nI L) (nI p) text = nI (lee text (L - p) p) := by
  unfold f_X0_readLetters
  rw [nI_toInt (by omega), nI_toInt (by omega)]
  exact let_it _ hL (L - p) p _ rfl (by omega) (by omega)
theorem sub6 {e q : Nat} (hq : q ≤ e) (he : e < 2 ^ 30) : ((nI e - nI q) ≤ 6) ↔ e - q ≤ 6 := by
  rw [Int32.le_iff_toInt_le, pk_sub_toInt (by omega) (by omega)]
  have : (6 : Int32).toInt = 6 := by decide
  omega
theorem dig_it {L q : Nat} {text : Nat → Int32} (ki : Int32) (hL : L ≤ 600) : ∀ (r p n : Nat) (x : Int32), L - p = r → r < n → p ≤ 700 → q ≤ p → wl_X0_readDigits (nI L) ki (nI q) text n (nI p) x = (if dee text r p - q ≤ 6 then 2 else 3, nI (dee text r p), dva text r p x) := by
  intro r
  induction r with
  | zero =>
    intro p n x hr hn hp hq
    obtain ⟨k, rfl⟩ : ∃ k, n = k + 1 := ⟨n - 1, by omega⟩
    unfold wl_X0_readDigits dee dva
    rw [if_pos (nI_le (by omega) (by omega))]
    by_cases h6 : p - q ≤ 6
    · rw [if_pos h6, if_pos ((sub6 hq (by omega)).mpr h6)]
    · rw [if_neg h6, if_neg (fun z => h6 ((sub6 hq (by omega)).mp z))]
  | succ r ih =>
    intro p n x hr hn hp hq
    obtain ⟨k, rfl⟩ : ∃ k, n = k + 1 := ⟨n - 1, by omega⟩
    unfold wl_X0_readDigits dee dva
    rw [if_neg (nI_ge (by omega) (by omega)), by_at hL (by omega), x0_dg]
    by_cases h : isDg (text p)
    · rw [if_pos h, if_pos h, if_pos h, if_neg (by decide), nI_1]
      exact ih (p + 1) k _ (by omega) (by omega) (by omega) (by omega)
    · rw [if_neg h, if_neg h, if_neg h, if_pos rfl]
      by_cases h6 : p - q ≤ 6
      · rw [if_pos h6, if_pos ((sub6 hq (by omega)).mpr h6)]
      · rw [if_neg h6, if_neg (fun z => h6 ((sub6 hq (by omega)).mp z))]
theorem digits_nI {L q : Nat} {text : Nat → Int32} (ki : Int32) (hL : L ≤ 600) (hq : q ≤ 600) : f_X0_readDigits (nI L) ki (nI q) text = (if dee text (L - q) q - q ≤ 6 then 2 else 3, nI (dee text (L - q) q), dva text (L - q) q 0) := by
  unfold f_X0_readDigits
  rw [nI_toInt (by omega), nI_toInt (by omega)]
  exact dig_it ki hL (L - q) q _ 0 rfl (by omega) (by omega) (Nat.le_refl _)
theorem digW_it {L q : Nat} {text : Nat → Int32} (hL : L ≤ 600) : ∀ (r p n : Nat) (x : Int32), L - p = r → r < n → p ≤ 700 → q ≤ p → digW (nI L) text (nI q) n (nI p) x = (nI (dee text r p), dvm text q r p x) := by
  intro r
  induction r with
  | zero =>
    intro p n x hr hn hp hq
    obtain ⟨k, rfl⟩ : ∃ k, n = k + 1 := ⟨n - 1, by omega⟩
    unfold digW dee dvm
    rw [if_pos (nI_le (by omega) (by omega))]
  | succ r ih =>
    intro p n x hr hn hp hq
    obtain ⟨k, rfl⟩ : ∃ k, n = k + 1 := ⟨n - 1, by omega⟩
    unfold digW dee dvm
    rw [if_neg (nI_ge (by omega) (by omega)), nI_clamp (by omega), x7_dg]
    by_cases h : isDg (text p)
    · rw [if_pos h, if_pos h, if_pos h, if_neg (by decide), nI_1]
      have e6 : (6 ≤ (nI p - nI q)) ↔ 6 ≤ p - q := by
        rw [Int32.le_iff_toInt_le, pk_sub_toInt (by omega) (by omega)]
        have : (6 : Int32).toInt = 6 := by decide
        omega
      have e7 : (if 6 ≤ (nI p - nI q) then x else (((10 * x) + text p) - 48)) = (if 6 ≤ p - q then x else (((10 * x) + text p) - 48)) := by
        by_cases h6 : 6 ≤ p - q
        · rw [if_pos h6, if_pos (e6.mpr h6)]
        · rw [if_neg h6, if_neg (fun z => h6 (e6.mp z))]
      rw [e7]
      exact ih (p + 1) k _ (by omega) (by omega) (by omega) (by omega)
    · rw [if_neg h, if_neg h, if_neg h, if_pos rfl]
/-- up to six digits both sums are one -/
theorem dvm_eq {q : Nat} {text : Nat → Int32} : ∀ (r p : Nat) (x : Int32), q ≤ p → dee text r p ≤ q + 6 → dvm text q r p x = dva text r p x := by
  intro r
  induction r with
  | zero => intro p x hq h; rfl
  | succ r ih =>
    intro p x hq h
    unfold dvm dva
    unfold dee at h
    by_cases hd : isDg (text p)
    · rw [if_pos hd] at h
      rw [if_pos hd, if_pos hd]
      have := (dee_le text r (p + 1)).1
      rw [if_neg (show ¬ 6 ≤ p - q by omega)]
      exact ih (p + 1) _ (by omega) h
    · rw [if_neg hd, if_neg hd]
/-- the class's token from the place y on, blanks behind it -/
def tkn (len ki nu : Int32) (text : Nat → Int32) (y : Int32) : Int32 × Int32 × Int32 × Int32 :=
  if y < len then
    if (f_X0_isLetter (f_X0_byteAt len text y)) = 0 then
      if (f_X0_isDigit (f_X0_byteAt len text y)) = 0 then
        if (f_X0_byteAt len text y) = 46 then
          ((f_X0_byteAt len text y), y, (f_J9_min_7cf53 (y + 1) len), nu)
        else
          if (f_X0_byteAt len text y) = 59 then
            ((f_X0_byteAt len text y), y, (f_J9_min_7cf53 (y + 1) len), nu)
          else
            if (f_X0_byteAt len text y) = 45 then
              ((f_X0_byteAt len text y), y, (f_J9_min_7cf53 (y + 1) len), nu)
            else
              (3, y, (f_J9_min_7cf53 (y + 1) len), nu)
      else
        ((f_X0_readDigits len ki y text).1, y, (f_X0_readDigits len ki y text).2.1, (f_X0_readDigits len ki y text).2.2)
    else
      (1, y, (f_X0_readLetters len (f_J9_min_7cf53 (y + 1) len) text), nu)
  else
    (0, y, (f_J9_min_7cf53 (y + 1) len), nu)
theorem tok_step (len ki te nu : Int32) (text : Nat → Int32) (n : Nat) (y : Int32) : wl_X0_readToken len ki te nu text (n + 1) y = if len ≤ y then tkn len ki nu text y else if (f_X0_isBlank (f_X0_byteAt len text y)) = 0 then tkn len ki nu text y else wl_X0_readToken len ki te nu text n (y + 1) := rfl
theorem x0_bl (c : Int32) : f_X0_isBlank c = if c = 32 ∨ c = 10 then 1 else 0 := by
  unfold f_X0_isBlank
  by_cases h1 : c = 10
  · rw [if_pos h1, if_pos (Or.inr h1)]
  · rw [if_neg h1]
    by_cases h2 : c = 32
    · rw [if_pos h2, if_pos (Or.inl h2)]
    · rw [if_neg h2, if_neg (fun z => z.elim h2 h1)]
theorem tok_it {L : Nat} {text : Nat → Int32} (ki te nu : Int32) (hL : L ≤ 600) : ∀ r p n : Nat, L - p = r → r < n → p ≤ 700 → wl_X0_readToken (nI L) ki te nu text n (nI p) = tkn (nI L) ki nu text (nI (sk text r p)) := by
  intro r
  induction r with
  | zero =>
    intro p n hr hn hp
    obtain ⟨k, rfl⟩ : ∃ k, n = k + 1 := ⟨n - 1, by omega⟩
    rw [tok_step, if_pos (nI_le (by omega) (by omega))]
    rfl
  | succ r ih =>
    intro p n hr hn hp
    obtain ⟨k, rfl⟩ : ∃ k, n = k + 1 := ⟨n - 1, by omega⟩
    rw [tok_step, if_neg (nI_ge (by omega) (by omega)), by_at hL (by omega), x0_bl]
    unfold sk
    by_cases h : text p = 32 ∨ text p = 10
    · rw [if_pos h, if_pos h, if_neg (by decide), nI_1]
      exact ih (p + 1) k (by omega) (by omega) (by omega)
    · rw [if_neg h, if_neg h, if_pos rfl]
theorem token_nI {L p : Nat} {text : Nat → Int32} (ki nu : Int32) (hL : L ≤ 600) (hp : p ≤ 700) : f_X0_readToken (nI L) ki (nI p) nu text = tkn (nI L) ki nu text (nI (skp L text p)) := by
  unfold f_X0_readToken
  rw [nI_toInt (by omega), nI_toInt (by omega)]
  exact tok_it ki _ nu hL (L - p) p _ rfl (by omega) hp
theorem min1 {L q : Nat} (hq : q < L) (hL : L ≤ 600) : f_J9_min_7cf53 (nI q + 1) (nI L) = nI (q + 1) := by
  rw [nI_1]
  unfold f_J9_min_7cf53
  exact if_neg (nI_nlt (by omega) (by omega))
theorem min2 {L q : Nat} (hq : L ≤ q) (h7 : q ≤ 700) : f_J9_min_7cf53 (nI q + 1) (nI L) = nI L := by
  rw [nI_1]
  unfold f_J9_min_7cf53
  exact if_pos (nI_lt (by omega) (by omega))
theorem tkn_end {L q : Nat} {text : Nat → Int32} (ki nu : Int32) (hq : L ≤ q) (h7 : q ≤ 700) : tkn (nI L) ki nu text (nI q) = (0, nI q, nI L, nu) := by
  unfold tkn
  rw [if_neg (nI_nlt hq (by omega)), min2 hq h7]
theorem tkn_let {L q : Nat} {text : Nat → Int32} (ki nu : Int32) (hL : L ≤ 600) (hq : q < L) (h : isLt (text q)) : tkn (nI L) ki nu text (nI q) = (1, nI q, nI (lee text (L - q) q), nu) := by
  unfold tkn
  rw [if_pos (nI_lt hq (by omega)), by_at hL hq, x0_lt, if_pos h, if_neg (by decide), min1 hq hL, letters_nI hL (by omega)]
  have e : lee text (L - q) q = lee text (L - (q + 1)) (q + 1) := by
    rw [show L - q = (L - (q + 1)) + 1 by omega]
    exact if_pos h
  rw [e]
theorem lt_dg {c : Int32} (h : isDg c) : ¬ isLt c := fun z => by have := h.2; have := z.1; omega
theorem tkn_dig {L q : Nat} {text : Nat → Int32} (ki nu : Int32) (hL : L ≤ 600) (hq : q < L) (h : isDg (text q)) : tkn (nI L) ki nu text (nI q) = (if dee text (L - q) q - q ≤ 6 then 2 else 3, nI q, nI (dee text (L - q) q), dva text (L - q) q 0) := by
  unfold tkn
  rw [if_pos (nI_lt hq (by omega)), by_at hL hq, x0_lt, if_neg (lt_dg h), if_pos rfl, x0_dg, if_pos h, if_neg (by decide), digits_nI ki hL (by omega)]
/-- a sign or what is no token at all -/
def sgK (c : Int32) : Int32 := if c = 46 then c else if c = 59 then c else if c = 45 then c else 3
theorem tkn_sgn {L q : Nat} {text : Nat → Int32} (ki nu : Int32) (hL : L ≤ 600) (hq : q < L) (h : ¬ isLt (text q)) (hd : ¬ isDg (text q)) : tkn (nI L) ki nu text (nI q) = (sgK (text q), nI q, nI (q + 1), nu) := by
  unfold tkn sgK
  rw [if_pos (nI_lt hq (by omega)), by_at hL hq, x0_lt, if_neg h, if_pos rfl, x0_dg, if_neg hd, if_pos rfl, min1 hq hL]
  split
  · rfl
  · split
    · rfl
    · split <;> rfl
