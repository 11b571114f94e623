/-! PURE S: statements that end with a location, and words -/
def mWd (len ep e ts bg plc sta : Int32) (text draft wri : Nat → Int32) : Int32 × Int32 × Int32 × Int32 × Int32 × Int32 × Int32 × (Nat → Int32) × (Nat → Int32) :=
  if (wri (Int32.toNatClampNeg plc)) = 0 then
    let t14 := (f_X7_here len e text)
    if t14.1 = 45 then
      let t23 := (f_X7_number len 0 ep (t14.2 + 1) 0 text (-524288) 524287 1)
      if t23.2.2.2.2 = 0 then
        let t26 := (f_X7_writes plc draft wri t23.1)
        let t27 := (f_X7_sign len t23.2.1 t23.2.2.1 t23.2.2.2.1 t23.2.2.2.2 text 59)
        (t27.1, t27.2.1, t27.2.2.1, bg, t27.2.2.2, t26.1, sta, t26.2.1, t26.2.2)
      else
        let t25 := (f_X7_sign len t23.2.1 t23.2.2.1 t23.2.2.2.1 t23.2.2.2.2 text 59)
        (t25.1, t25.2.1, t25.2.2.1, bg, t25.2.2.2, plc, sta, draft, wri)
    else
      let t17 := (f_X7_number len 0 ep (t14.2 + 0) 0 text (-524288) 524287 0)
      if t17.2.2.2.2 = 0 then
        let t20 := (f_X7_writes plc draft wri t17.1)
        let t21 := (f_X7_sign len t17.2.1 t17.2.2.1 t17.2.2.2.1 t17.2.2.2.2 text 59)
        (t21.1, t21.2.1, t21.2.2.1, bg, t21.2.2.2, t20.1, sta, t20.2.1, t20.2.2)
      else
        let t19 := (f_X7_sign len t17.2.1 t17.2.2.1 t17.2.2.2.1 t17.2.2.2.2 text 59)
        (t19.1, t19.2.1, t19.2.2.1, bg, t19.2.2.2, plc, sta, draft, wri)
  else
    let t28 := (f_X7_wrong 0 ep 0 3 ts)
    let t29 := (f_X7_sign len t28.1 t28.2.1 e t28.2.2 text 59)
    (t29.1, t29.2.1, t29.2.2.1, bg, t29.2.2.2, plc, sta, draft, wri)
theorem lim_m : ∀ x : Int32, 0 ≤ x.toInt → x.toInt < 1000000 → ((f_X7_in (Int32.toInt64 (if (1 : Int32) = 0 then x else -x)) (Int32.toInt64 (-524288)) (Int32.toInt64 524287)) = 0 ↔ ¬ x ≤ 524288) := by
  intro x h0 h1
  have h10 : ¬ (1 : Int32) = 0 := by decide
  have e1 : (-524288 : Int32).toInt = -524288 := by decide
  have e2 : (524287 : Int32).toInt = 524287 := by decide
  have e3 : (524288 : Int32).toInt = 524288 := by decide
  have e4 : (-x).toInt = -x.toInt := by
    rw [Int32.toInt_neg]
    exact Int.bmod_eq_of_le (by omega) (by omega)
  rw [if_neg h10, in32, Int32.le_iff_toInt_le, e1, e2, e3, e4]
  split
  · exact ⟨fun _ => by omega, fun _ => rfl⟩
  · exact ⟨fun z => absurd z (by decide), fun z => by omega⟩
theorem lim_p : ∀ x : Int32, 0 ≤ x.toInt → x.toInt < 1000000 → ((f_X7_in (Int32.toInt64 (if (0 : Int32) = 0 then x else -x)) (Int32.toInt64 (-524288)) (Int32.toInt64 524287)) = 0 ↔ ¬ x ≤ 524287) := by
  intro x h0 h1
  have e1 : (-524288 : Int32).toInt = -524288 := by decide
  have e2 : (524287 : Int32).toInt = 524287 := by decide
  rw [if_pos rfl, in32, Int32.le_iff_toInt_le, e1, e2]
  split
  · exact ⟨fun _ => by omega, fun _ => rfl⟩
  · exact ⟨fun z => absurd z (by decide), fun z => by omega⟩
section pureS
variable {L : Nat} {text : Nat → Int32}
theorem JR.both {ec ep ki ts te nu ec2 ep2 pos bad : Int32} (h : JR L text ec ep ki ts te nu ec2 ep2 pos bad) : ec = 0 ↔ bad = 0 := by
  obtain ⟨-, -, h⟩ := h
  rcases h with ⟨a, b, -⟩ | ⟨a, b⟩
  · exact ⟨fun _ => b, fun _ => a⟩
  · exact ⟨fun z => absurd z a, fun z => absurd z b⟩
theorem JR.pos {ec ep ki ts te nu ec2 ep2 pos bad : Int32} (h : JR L text ec ep ki ts te nu ec2 ep2 pos bad) (he : ec = 0) : ∃ p : Nat, p ≤ L ∧ pos = nI p ∧ TK L text p ki ts te nu := by
  obtain ⟨-, -, h⟩ := h
  rcases h with ⟨-, -, h⟩ | ⟨a, -⟩
  · exact h
  · exact absurd he a
theorem st_loc {e : Nat} (hL : L ≤ 600) (he : e ≤ L) (ki nu ep : Int32) {a : Int32 × Int32 × Int32 × Int32 × Int32 × Int32 × Int32} {b : Int32 × Int32 × Int32 × Int32 × Int32} {c : Int32 × Int32 × Int32 × Int32 × Int32 × Int32} {d : Int32 × Int32 × Int32 × Int32}
    (ha : f_X0_readLocation (nI L) 0 ep (f_X0_readToken (nI L) ki (nI e) nu text).1 (f_X0_readToken (nI L) ki (nI e) nu text).2.1 (f_X0_readToken (nI L) ki (nI e) nu text).2.2.1 (f_X0_readToken (nI L) ki (nI e) nu text).2.2.2 text = a) (hb : f_X7_readLocation (nI L) 0 ep (nI e) 0 text = b)
    (hc : f_X0_readSymbol (nI L) a.2.1 a.2.2.1 a.2.2.2.1 a.2.2.2.2.1 a.2.2.2.2.2.1 a.2.2.2.2.2.2 text 59 = c) (hd : f_X7_sign (nI L) b.2.1 b.2.2.1 b.2.2.2.1 b.2.2.2.2 text 59 = d) :
    JR L text c.1 c.2.1 c.2.2.1 c.2.2.2.1 c.2.2.2.2.1 c.2.2.2.2.2 d.1 d.2.1 d.2.2.1 d.2.2.2 ∧ (c.1 = 0 → ∃ v p' : Nat, v < 256 ∧ a.1 = nI v ∧ b.1 = nI v ∧ e < p' ∧ p' ≤ L ∧ d.2.2.1 = nI p') := by
  obtain ⟨q1, q2, q3⟩ := loc_JR hL (JR.ok (ep := ep) he (TK.next hL he ki nu)) ha hb
  obtain ⟨r1, r2⟩ := sym_JR (s := 59) hL (Or.inr rfl) q1
  have m := fun z => sym_mono (L := L) (text := text) (ec := a.2.1) (ep := a.2.2.1) (ki := a.2.2.2.1) (ts := a.2.2.2.2.1) (te := a.2.2.2.2.2.1) (nu := a.2.2.2.2.2.2) (s := 59) z
  rw [hc, hd] at r1 r2
  rw [hc] at m
  refine ⟨r1, fun z => ?_⟩
  have z0 : a.2.1 = 0 := Decidable.byContradiction fun y => y ((m y).symm.trans z)
  obtain ⟨-, v, hv, e1, e2⟩ := q2 z0
  obtain ⟨p1, h1, h2, h3⟩ := q3 e rfl rfl he z0
  obtain ⟨p2, h4, h5, h6⟩ := r2 p1 z0 h3 h2 z
  exact ⟨v, p2, hv, e1, e2, by omega, h5, h6⟩
theorem refuse_0 {ep pl ts : Int32} {wri : Nat → Int32} (h : f_X0_isWritten wri pl = 0) : f_X0_refuseWrittenPlace 0 ep pl ts wri = (0, ep) := if_pos h
theorem refuse_3 {ep pl ts : Int32} {wri : Nat → Int32} (h : ¬ f_X0_isWritten wri pl = 0) : f_X0_refuseWrittenPlace 0 ep pl ts wri = (3, ts) := if_neg h
theorem st_word {e : Nat} (hL : L ≤ 600) (he : e ≤ L) (ki ts nu ep bg sta : Int32) {wcn pl plc : Int32} {words wri draft wri2 : Nat → Int32} (hPW : PW pl wcn words wri plc draft wri2) {a : Int32 × Int32 × Int32 × Int32 × Int32 × Int32 × Int32 × Int32 × (Nat → Int32) × (Nat → Int32)} {c : Int32 × Int32 × Int32 × Int32 × Int32 × Int32} {m : Int32 × Int32 × Int32 × Int32 × Int32 × Int32 × Int32 × (Nat → Int32) × (Nat → Int32)}
    (ha : f_X0_readWordStatement (nI L) 0 ep wcn pl ki ts (nI e) nu text words wri = a) (hc : f_X0_readSymbol (nI L) a.1 a.2.1 a.2.2.2.2.1 a.2.2.2.2.2.1 a.2.2.2.2.2.2.1 a.2.2.2.2.2.2.2.1 text 59 = c) (hm : mWd (nI L) ep (nI e) ts bg plc sta text draft wri2 = m) :
    JR L text c.1 c.2.1 c.2.2.1 c.2.2.2.1 c.2.2.2.2.1 c.2.2.2.2.2 m.1 m.2.1 m.2.2.1 m.2.2.2.2.1 ∧ (c.1 = 0 → PW a.2.2.2.1 a.2.2.1 a.2.2.2.2.2.2.2.2.1 a.2.2.2.2.2.2.2.2.2 m.2.2.2.2.2.1 m.2.2.2.2.2.2.2.1 m.2.2.2.2.2.2.2.2 ∧ m.2.2.2.2.2.2.1 = sta ∧ ∃ p' : Nat, e < p' ∧ p' ≤ L ∧ m.2.2.1 = nI p') := by
  have hf := hPW.flag
  have h30 : ¬ (3 : Int32) = 0 := by decide
  have h10 : ¬ (1 : Int32) = 0 := by decide
  have ht := TK.next (text := text) hL he ki nu
  unfold mWd at hm
  unfold f_X0_readWordStatement at ha
  generalize f_X0_readToken (nI L) ki (nI e) nu text = t2 at *
  rw [hf] at hm
  by_cases h0 : f_X0_isWritten wri pl = 0
  · rw [if_pos h0] at hm
    rw [refuse_0 h0] at ha
    dsimp only at ha hm
    have hk := ht.sign hL he (Or.inr (Or.inr rfl) : (45 : Int32) = 46 ∨ (45 : Int32) = 59 ∨ (45 : Int32) = 45)
    have hh := here_is (text := text) (s := 45) hL he (by decide)
    have hq := skp_L (text := text) he
    rw [here_2 hL he] at hm
    by_cases c45 : t2.1 = 45
    · have c2 := hk.mp c45
      rw [if_pos c45] at ha
      rw [if_pos (hh.mpr c2), nI_1] at hm
      have ete : t2.2.2.1 = nI (skp L text e + 1) := by
        obtain ⟨-, hcs⟩ := ht.cases hL he
        have hl : ¬ isLt 45 ∧ ¬ isDg 45 := by decide
        rcases hcs with ⟨h1, -⟩ | ⟨-, h2, -⟩ | ⟨-, h2, -⟩ | ⟨-, -, -, -, h5⟩
        · omega
        · rw [c2.2] at h2; exact absurd h2 hl.1
        · rw [c2.2] at h2; exact absurd h2 hl.2
        · exact h5
      rw [ete] at ha
      have ht2 := TK.next (text := text) hL (show skp L text e + 1 ≤ L by omega) t2.1 t2.2.2.2
      generalize f_X0_readToken (nI L) t2.1 (nI (skp L text e + 1)) t2.2.2.2 text = t10 at *
      obtain ⟨q1, q2, q3⟩ := num_JR (lim := 524288) (lo := -524288) (hi := 524287) (neg := 1) hL lim_m (JR.ok (ep := ep) (show skp L text e + 1 ≤ L by omega) ht2)
      generalize f_X0_readNumber (nI L) 0 ep t10.1 t10.2.1 t10.2.2.1 t10.2.2.2 text 524288 = t12 at *
      generalize f_X7_number (nI L) 0 ep (nI (skp L text e + 1)) 0 text (-524288) 524287 1 = u at *
      have hb := q1.both
      obtain ⟨r1, r2⟩ := sym_JR (s := 59) hL (Or.inr rfl) q1
      have mo := fun z => sym_mono (L := L) (text := text) (ec := t12.2.1) (ep := t12.2.2.1) (ki := t12.2.2.2.1) (ts := t12.2.2.2.2.1) (te := t12.2.2.2.2.2.1) (nu := t12.2.2.2.2.2.2) (s := 59) z
      subst ha
      dsimp only at hc ⊢
      rw [hc] at r1 r2 mo
      by_cases hbb : u.2.2.2.2 = 0
      · rw [if_pos hbb] at hm
        subst hm
        dsimp only
        refine ⟨r1, fun z => ?_⟩
        have z0 := hb.mpr hbb
        obtain ⟨v1, v2, v3⟩ := q2 z0
        rw [if_neg h10] at v1
        obtain ⟨p1, g1, g2, g3⟩ := q3 _ rfl rfl (show skp L text e + 1 ≤ L by omega) z0
        obtain ⟨p2, g4, g5, g6⟩ := r2 p1 z0 g3 g2 z
        exact ⟨hPW.write h0 (by rw [v1]), rfl, p2, by omega, g5, g6⟩
      · rw [if_neg hbb] at hm
        subst hm
        dsimp only
        refine ⟨r1, fun z => ?_⟩
        exact absurd (hb.mp (Decidable.byContradiction fun y => y ((mo y).symm.trans z))) hbb
    · rw [if_neg c45] at ha
      rw [if_neg (fun z => c45 (hk.mpr (hh.mp z))), Int32.add_zero] at hm
      have hts := ht.skip he
      obtain ⟨q1, q2, q3⟩ := num_JR (lim := 524287) (lo := -524288) (hi := 524287) (neg := 0) hL lim_p (JR.ok (ep := ep) hq.2 hts)
      generalize f_X0_readNumber (nI L) 0 ep t2.1 t2.2.1 t2.2.2.1 t2.2.2.2 text 524287 = t12 at *
      generalize f_X7_number (nI L) 0 ep (nI (skp L text e)) 0 text (-524288) 524287 0 = u at *
      have hb := q1.both
      obtain ⟨r1, r2⟩ := sym_JR (s := 59) hL (Or.inr rfl) q1
      have mo := fun z => sym_mono (L := L) (text := text) (ec := t12.2.1) (ep := t12.2.2.1) (ki := t12.2.2.2.1) (ts := t12.2.2.2.2.1) (te := t12.2.2.2.2.2.1) (nu := t12.2.2.2.2.2.2) (s := 59) z
      subst ha
      dsimp only at hc ⊢
      rw [hc] at r1 r2 mo
      by_cases hbb : u.2.2.2.2 = 0
      · rw [if_pos hbb] at hm
        subst hm
        dsimp only
        refine ⟨r1, fun z => ?_⟩
        have z0 := hb.mpr hbb
        obtain ⟨v1, v2, v3⟩ := q2 z0
        rw [if_pos rfl] at v1
        obtain ⟨p1, g1, g2, g3⟩ := q3 _ rfl rfl hq.2 z0
        obtain ⟨p2, g4, g5, g6⟩ := r2 p1 z0 g3 g2 z
        exact ⟨hPW.write h0 (by rw [v1]), rfl, p2, by omega, g5, g6⟩
      · rw [if_neg hbb] at hm
        subst hm
        dsimp only
        refine ⟨r1, fun z => ?_⟩
        exact absurd (hb.mp (Decidable.byContradiction fun y => y ((mo y).symm.trans z))) hbb
  · rw [if_neg h0, wrong_0] at hm
    rw [refuse_3 h0] at ha
    dsimp only at ha hm
    rw [sign_frz h10] at hm
    have hfr : a.1 = 3 ∧ a.2.1 = ts := by
      subst ha
      split
      · exact num_frz h30
      · exact num_frz h30
    have hs := sym_frz (L := L) (text := text) (ec := a.1) (ep := a.2.1) (ki := a.2.2.2.2.1) (ts := a.2.2.2.2.2.1) (te := a.2.2.2.2.2.2.1) (nu := a.2.2.2.2.2.2.2.1) (s := 59) (by rw [hfr.1]; exact h30)
    rw [hc, hfr.1, hfr.2] at hs
    subst hm
    dsimp only
    refine ⟨JR.err hs.1 hs.2 (by rw [hs.1]; exact h30) h10, fun z => absurd (hs.1.symm.trans z) h30⟩
end pureS
