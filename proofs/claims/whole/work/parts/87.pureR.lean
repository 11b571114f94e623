/-! PURE R: places, writes, and the frozen error -/
def cnW (wri : Nat → Int32) : Nat → Nat
  | 0 => 0
  | n + 1 => cnW wri n + (if wri n = 0 then 0 else 1)
/-- the place and what is written so far -/
def PW (pl wcn : Int32) (words wri : Nat → Int32) (plc : Int32) (draft wri2 : Nat → Int32) : Prop :=
  ∃ P : Nat, P < 256 ∧ pl = nI P ∧ plc = nI P ∧ (∀ j : Nat, j < 256 → wri2 j = wri j ∧ g01 (wri j) ∧ (¬ wri j = 0 → draft j = words j &&& 1048575)) ∧ wcn = nI (cnW wri 256)
theorem cnW_le (wri : Nat → Int32) : ∀ n : Nat, cnW wri n ≤ n := by
  intro n
  induction n with
  | zero => exact Nat.le_refl _
  | succ n ih =>
    show cnW wri n + (if wri n = 0 then 0 else 1) ≤ n + 1
    split <;> omega
theorem cnW_upd {wri : Nat → Int32} {P : Nat} (h : wri P = 0) : ∀ n : Nat, cnW (upd wri P 1) n = cnW wri n + (if P < n then 1 else 0) := by
  intro n
  induction n with
  | zero => rfl
  | succ n ih =>
    show cnW (upd wri P 1) n + (if upd wri P 1 n = 0 then 0 else 1) = cnW wri n + (if wri n = 0 then 0 else 1) + _
    rw [ih]
    by_cases e : n = P
    · subst e
      have h1 : ¬ upd wri n 1 n = 0 := by unfold upd; rw [if_pos rfl]; decide
      rw [if_neg h1, if_pos h, if_neg (Nat.lt_irrefl _), if_pos (Nat.lt_succ_self _)]
    · have h1 : upd wri P 1 n = wri n := if_neg e
      rw [h1]
      by_cases g : P < n
      · have a : (if P < n then 1 else 0 : Nat) = 1 := if_pos g
        have b : (if P < n + 1 then 1 else 0 : Nat) = 1 := if_pos (by omega)
        rw [a, b]; omega
      · have a : (if P < n then 1 else 0 : Nat) = 0 := if_neg g
        have b : (if P < n + 1 then 1 else 0 : Nat) = 0 := if_neg (by omega)
        rw [a, b]; omega
theorem after_nI {P : Nat} (hP : P < 256) : f_X0_placeAfter (nI P) = nI (32 * (P / 32) + (P + 1) % 32) ∧ f_X7_after (nI P) = nI (32 * (P / 32) + (P + 1) % 32) := by
  constructor
  · unfold f_X0_placeAfter
    rw [div32_nI (by omega), nI_1, cyc_nI (by omega), locOf_nI]
  · unfold f_X7_after
    rw [div32_nI (by omega), nI_1, mod32_nI (by omega), show (32 : Int32) = nI 32 from rfl, pk_mul, nI_add, Nat.mul_comm]
theorem nar1 : vp_nar .boolean 1 = 1 := by decide
theorem isW_nI {wri : Nat → Int32} {P : Nat} (hP : P < 256) : f_X0_isWritten wri (nI P) = wri P := by
  unfold f_X0_isWritten
  rw [ix255 hP]
theorem PW.write {pl wcn plc v v2 : Int32} {words wri draft wri2 : Nat → Int32} (h : PW pl wcn words wri plc draft wri2) (h0 : f_X0_isWritten wri pl = 0) (hv : v &&& 1048575 = v2 &&& 1048575) :
    PW (f_X0_write wcn pl words wri v).2.1 (f_X0_write wcn pl words wri v).1 (f_X0_write wcn pl words wri v).2.2.1 (f_X0_write wcn pl words wri v).2.2.2 (f_X7_writes plc draft wri2 v2).1 (f_X7_writes plc draft wri2 v2).2.1 (f_X7_writes plc draft wri2 v2).2.2 := by
  obtain ⟨P, hP, rfl, rfl, hw, rfl⟩ := h
  rw [isW_nI hP] at h0
  unfold f_X0_write f_X7_writes
  dsimp only
  rw [ix255 hP, nI_clamp (by omega), nar1]
  have ha := after_nI hP
  refine ⟨32 * (P / 32) + (P + 1) % 32, by omega, ha.1, ha.2, fun j hj => ?_, ?_⟩
  · obtain ⟨a, b, c⟩ := hw j hj
    by_cases e : j = P
    · subst e
      have e1 : ∀ (f : Nat → Int32) (x : Int32), upd f j x j = x := fun f x => if_pos rfl
      rw [e1, e1, e1, e1]
      exact ⟨rfl, Or.inr rfl, fun _ => hv.symm⟩
    · have e1 : ∀ (f : Nat → Int32) (x : Int32), upd f P x j = f j := fun f x => if_neg e
      rw [e1, e1, e1, e1]
      exact ⟨a, b, c⟩
  · rw [nI_1, cnW_upd h0, if_pos hP]
theorem PW.move {pl wcn plc : Int32} {words wri draft wri2 : Nat → Int32} (h : PW pl wcn words wri plc draft wri2) {v : Nat} (hv : v < 256) : PW (nI v) wcn words wri (nI v) draft wri2 := by
  obtain ⟨P, hP, -, -, hw, e⟩ := h
  exact ⟨v, hv, rfl, rfl, hw, e⟩
/-- both programs look at the same flag -/
theorem PW.flag {pl wcn plc : Int32} {words wri draft wri2 : Nat → Int32} (h : PW pl wcn words wri plc draft wri2) : wri2 (Int32.toNatClampNeg plc) = f_X0_isWritten wri pl := by
  obtain ⟨P, hP, rfl, rfl, hw, -⟩ := h
  rw [isW_nI hP, nI_clamp (by omega)]
  exact (hw P hP).1
section pureR
variable {L : Nat} {text : Nat → Int32}
theorem num_frz {ec ep ki ts te nu lim : Int32} (he : ¬ ec = 0) : (f_X0_readNumber (nI L) ec ep ki ts te nu text lim).2.1 = ec ∧ (f_X0_readNumber (nI L) ec ep ki ts te nu text lim).2.2.1 = ep := by
  unfold f_X0_readNumber
  split
  · split
    · exact ⟨rfl, rfl⟩
    · rw [fail_1 he]; exact ⟨rfl, rfl⟩
  · rw [fail_1 he]; exact ⟨rfl, rfl⟩
theorem sym_frz {ec ep ki ts te nu s : Int32} (he : ¬ ec = 0) : (f_X0_readSymbol (nI L) ec ep ki ts te nu text s).1 = ec ∧ (f_X0_readSymbol (nI L) ec ep ki ts te nu text s).2.1 = ep := by
  unfold f_X0_readSymbol
  split
  · exact ⟨rfl, rfl⟩
  · rw [fail_1 he]; exact ⟨rfl, rfl⟩
theorem loc_frz {ec ep ki ts te nu : Int32} (he : ¬ ec = 0) : (f_X0_readLocation (nI L) ec ep ki ts te nu text).2.1 = ec ∧ (f_X0_readLocation (nI L) ec ep ki ts te nu text).2.2.1 = ep := by
  unfold f_X0_readLocation
  dsimp only
  have a := num_frz (L := L) (text := text) (ep := ep) (ki := ki) (ts := ts) (te := te) (nu := nu) (lim := 7) he
  generalize f_X0_readNumber (nI L) ec ep ki ts te nu text 7 = t1 at *
  have b := sym_frz (L := L) (text := text) (ep := t1.2.2.1) (ki := t1.2.2.2.1) (ts := t1.2.2.2.2.1) (te := t1.2.2.2.2.2.1) (nu := t1.2.2.2.2.2.2) (s := 46) (show ¬ t1.2.1 = 0 by rw [a.1]; exact he)
  generalize f_X0_readSymbol (nI L) t1.2.1 t1.2.2.1 t1.2.2.2.1 t1.2.2.2.2.1 t1.2.2.2.2.2.1 t1.2.2.2.2.2.2 text 46 = t2 at *
  have c := num_frz (L := L) (text := text) (ep := t2.2.1) (ki := t2.2.2.1) (ts := t2.2.2.2.1) (te := t2.2.2.2.2.1) (nu := t2.2.2.2.2.2) (lim := 31) (show ¬ t2.1 = 0 by rw [b.1, a.1]; exact he)
  rw [c.1, c.2, b.1, b.2, a.1, a.2]
  exact ⟨rfl, rfl⟩
theorem sign_frz {ec ep pos bad s : Int32} (hb : ¬ bad = 0) : f_X7_sign (nI L) ec ep pos bad text s = (ec, ep, pos, bad) := if_neg hb
theorem numb_frz {ec ep pos bad lo hi neg : Int32} (hb : ¬ bad = 0) : f_X7_number (nI L) ec ep pos bad text lo hi neg = (0, ec, ep, pos, bad) := if_neg hb
theorem loc7_frz {ec ep pos bad : Int32} (hb : ¬ bad = 0) : (f_X7_readLocation (nI L) ec ep pos bad text).2 = (ec, ep, pos, bad) := by
  unfold f_X7_readLocation
  rw [numb_frz hb]
  dsimp only
  rw [sign_frz hb]
  dsimp only
  rw [numb_frz hb]
/-- an error on both sides -/
theorem JR.err {ec ep ki ts te nu ec2 ep2 pos bad : Int32} (h1 : ec = ec2) (h2 : ep = ep2) (h3 : ¬ ec = 0) (h4 : ¬ bad = 0) : JR L text ec ep ki ts te nu ec2 ep2 pos bad := ⟨h1, h2, Or.inr ⟨h3, h4⟩⟩
theorem JR.ok {ki ts te nu ep : Int32} {p : Nat} (hp : p ≤ L) (h : TK L text p ki ts te nu) : JR L text 0 ep ki ts te nu 0 ep (nI p) 0 := ⟨rfl, rfl, Or.inl ⟨rfl, rfl, p, hp, rfl, h⟩⟩
theorem skp_idem {p : Nat} (hp : p ≤ L) : skp L text (skp L text p) = skp L text p := by
  have hq := skp_L (text := text) hp
  have hs := sk_stop text (L - p) p
  have he : sk text (L - p) p = skp L text p := rfl
  rw [he] at hs
  rcases hs with h | h
  · have : skp L text p = L := by omega
    rw [this]
    show sk text (L - L) L = L
    rw [Nat.sub_self]
    rfl
  · show sk text (L - skp L text p) (skp L text p) = skp L text p
    cases hr : L - skp L text p with
    | zero => rfl
    | succ r =>
      unfold sk
      rw [if_neg h]
theorem TK.skip {p : Nat} {ki ts te nu : Int32} (hp : p ≤ L) (h : TK L text p ki ts te nu) : TK L text (skp L text p) ki ts te nu := by
  obtain ⟨a, b, e⟩ := h
  exact ⟨a, b, by rw [skp_idem hp]; exact e⟩
end pureR
theorem enc_y : ∀ p : Nat, p < 16 → ∀ t : Nat, t < 8 → ∀ c : Nat, c < 32 → 0 ≤ (nI p ||| ((nI t <<< ((4 : Int32) &&& 31)) ||| (nI c <<< ((7 : Int32) &&& 31)))).toInt ∧ (nI p ||| ((nI t <<< ((4 : Int32) &&& 31)) ||| (nI c <<< ((7 : Int32) &&& 31)))).toInt < 4096 := by decide +kernel
theorem enc_eq {p a n : Nat} (hp : p < 16) (ha : a < 256) (hn : n < 256) : f_X3_encode (nI p) (nI a) (nI n) &&& 1048575 = f_X7_coded (nI p) (nI a) (nI n) &&& 1048575 := by
  unfold f_X3_encode f_X7_coded
  have hy := enc_y p hp (a / 32) (by omega) (a % 32) (by omega)
  have hw := wn_eq (x := nI p ||| ((nI (a / 32) <<< ((4 : Int32) &&& 31)) ||| (nI (a % 32) <<< ((7 : Int32) &&& 31)))) (t := n / 32) (c := n % 32) (by omega) (by omega)
  rw [sg_self (by omega), show 32 * (n / 32) + n % 32 = n by omega] at hw
  rw [div32_nI (by omega), cyc_nI (by omega), mod32_nI (by omega), div32_nI (by omega), mod32_nI (by omega), hw.1]
  have e12 : (nI p ||| ((nI (a / 32) <<< ((4 : Int32) &&& 31)) ||| (nI (a % 32) <<< ((7 : Int32) &&& 31)))) &&& 4095 = (nI p ||| ((nI (a / 32) <<< ((4 : Int32) &&& 31)) ||| (nI (a % 32) <<< ((7 : Int32) &&& 31)))) := gI_ext (by rw [gI_and12]; omega)
  rw [e12] at hw ⊢
  rw [← Int32.or_assoc (nI p)] at hw ⊢
  rw [mask_self hw.2]
