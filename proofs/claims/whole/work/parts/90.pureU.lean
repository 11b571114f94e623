/-! PURE U: a whole statement -/
theorem form_has : ∀ o : Nat, o < 16 → (f_X7_hasOperand (nI o) = 0 → ((nI o = 8 ∨ nI o = 9) → f_X3_operandForm (nI o) = 2) ∧ (¬ (nI o = 8 ∨ nI o = 9) → ¬ f_X3_operandForm (nI o) = 1 ∧ ¬ f_X3_operandForm (nI o) = 2)) ∧ (¬ f_X7_hasOperand (nI o) = 0 → f_X3_operandForm (nI o) = 1) := by decide +kernel
section pureU
variable {L : Nat} {text : Nat → Int32}
/-- what the model does with an opcode -/
def mIn (len ep e ts plc sta p0 : Int32) (text draft wri : Nat → Int32) : Int32 × Int32 × Int32 × Int32 × Int32 × Int32 × Int32 × (Nat → Int32) × (Nat → Int32) :=
  if (wri (Int32.toNatClampNeg plc)) = 0 then
    let t7 := (f_X7_instruction len 0 ep e ts 0 plc text draft wri p0)
    let t8 := (f_X7_sign len t7.1 t7.2.1 t7.2.2.1 t7.2.2.2.2.1 text 59)
    (t8.1, t8.2.1, t8.2.2.1, t7.2.2.2.1, t8.2.2.2, t7.2.2.2.2.2.1, sta, t7.2.2.2.2.2.2.1, t7.2.2.2.2.2.2.2)
  else
    let t9 := (f_X7_wrong 0 ep 0 3 ts)
    let t10 := (f_X7_sign len t9.1 t9.2.1 e t9.2.2 text 59)
    (t10.1, t10.2.1, t10.2.2.1, ts, t10.2.2.2, plc, sta, draft, wri)
theorem st_inst {e o : Nat} (hL : L ≤ 600) (ho : o < 16) (he : e ≤ L) (ki ts nu ep sta : Int32) {wcn pl plc : Int32} {words wri draft wri2 : Nat → Int32} (hPW : PW pl wcn words wri plc draft wri2) {a : Int32 × Int32 × Int32 × Int32 × Int32 × Int32 × Int32 × Int32 × (Nat → Int32) × (Nat → Int32)} {c : Int32 × Int32 × Int32 × Int32 × Int32 × Int32} {m : Int32 × Int32 × Int32 × Int32 × Int32 × Int32 × Int32 × (Nat → Int32) × (Nat → Int32)}
    (ha : f_X0_readInstruction (nI L) 0 ep wcn pl ki ts (nI e) nu text words wri (nI o) = a) (hc : f_X0_readSymbol (nI L) a.1 a.2.1 a.2.2.2.2.1 a.2.2.2.2.2.1 a.2.2.2.2.2.2.1 a.2.2.2.2.2.2.2.1 text 59 = c) (hm : mIn (nI L) ep (nI e) ts plc sta (nI o) text draft wri2 = m) :
    JR L text c.1 c.2.1 c.2.2.1 c.2.2.2.1 c.2.2.2.2.1 c.2.2.2.2.2 m.1 m.2.1 m.2.2.1 m.2.2.2.2.1 ∧ (c.1 = 0 → PW a.2.2.2.1 a.2.2.1 a.2.2.2.2.2.2.2.2.1 a.2.2.2.2.2.2.2.2.2 m.2.2.2.2.2.1 m.2.2.2.2.2.2.2.1 m.2.2.2.2.2.2.2.2 ∧ m.2.2.2.2.2.2.1 = sta ∧ ∃ p' : Nat, e < p' ∧ p' ≤ L ∧ m.2.2.1 = nI p') := by
  have hf := hPW.flag
  have h30 : ¬ (3 : Int32) = 0 := by decide
  have h10 : ¬ (1 : Int32) = 0 := by decide
  have ht := TK.next (text := text) hL he ki nu
  have hfo := form_has o ho
  unfold mIn at hm
  rw [ins_cls] at ha
  dsimp only at ha
  generalize f_X0_readToken (nI L) ki (nI e) nu text = t2 at *
  rw [hf] at hm
  by_cases h0 : f_X0_isWritten wri pl = 0
  · rw [if_pos h0, inst_eq] at hm
    rw [refuse_0 h0] at ha
    dsimp only at ha hm
    have j0 : JR L text 0 ep t2.1 t2.2.1 t2.2.2.1 t2.2.2.2 0 ep (nI e) 0 := JR.ok he ht
    by_cases hop : f_X7_hasOperand (nI o) = 0
    · rw [if_pos hop] at hm
      obtain ⟨g1, g2⟩ := hfo.1 hop
      by_cases h89 : nI o = 8 ∨ nI o = 9
      · have hform := g1 h89
        have h21 : ¬ (2 : Int32) = 1 := by decide
        rw [hform, if_neg h21, if_pos rfl] at ha
        have hmm : ∀ (α : Type) (x y : α), (if nI o = 8 then x else if nI o = 9 then x else y) = x := by
          intro α x y
          by_cases c8 : nI o = 8
          · exact if_pos c8
          · rw [if_neg c8, if_pos (h89.resolve_left c8)]
        rw [hmm] at hm
        obtain ⟨q1, q2, q3⟩ := num_JR (lim := 31) (lo := 0) (hi := 31) (neg := 0) hL (lim_0 31) j0
        generalize f_X0_readNumber (nI L) 0 ep t2.1 t2.2.1 t2.2.2.1 t2.2.2.2 text 31 = t11 at *
        generalize f_X7_number (nI L) 0 ep (nI e) 0 text 0 31 0 = u at *
        have hv : t11.2.1 = 0 → ∃ v : Nat, v < 256 ∧ t11.1 = nI v ∧ u.1 = nI v := by
          intro z
          obtain ⟨v1, v2, v3⟩ := q2 z
          rw [if_pos rfl] at v1
          rw [Int32.le_iff_toInt_le] at v3
          have e31 : (31 : Int32).toInt = 31 := by decide
          obtain ⟨x, hx, ex⟩ := of_rng (N := 32) (x := t11.1) (by omega) (by omega)
          exact ⟨x, by omega, ex, by rw [v1, ex]⟩
        generalize hy : insT (nI L) plc text draft wri2 ts (nI o) u.1 u.2.1 u.2.2.1 u.2.2.2.1 u.2.2.2.2 = y at hm
        generalize hd : f_X7_sign (nI L) y.1 y.2.1 y.2.2.1 y.2.2.2.2.1 text 59 = d at hm
        obtain ⟨r1, r2⟩ := st_then hL ho q1 hv hPW (fun _ => h0) ha hc hy hd
        subst hm
        dsimp only
        refine ⟨r1, fun z => ?_⟩
        obtain ⟨z0, z1, z2⟩ := r2 z
        obtain ⟨p1, k1', k2', k3'⟩ := q3 e rfl rfl he z0
        obtain ⟨p2, k4, k5, k6⟩ := z2 p1 k3' k2'
        exact ⟨z1, rfl, p2, by omega, k5, k6⟩
      · obtain ⟨f1, f2⟩ := g2 h89
        rw [if_neg f1, if_neg f2] at ha
        rw [if_neg (fun z => h89 (Or.inl z)), if_neg (fun z => h89 (Or.inr z))] at hm
        generalize hy : insT (nI L) plc text draft wri2 ts (nI o) 0 0 ep (nI e) 0 = y at hm
        generalize hd : f_X7_sign (nI L) y.1 y.2.1 y.2.2.1 y.2.2.2.2.1 text 59 = d at hm
        obtain ⟨r1, r2⟩ := st_then hL ho j0 (fun _ => ⟨0, by omega, rfl, rfl⟩) hPW (fun _ => h0) ha hc hy hd
        subst hm
        dsimp only
        refine ⟨r1, fun z => ?_⟩
        obtain ⟨z0, z1, z2⟩ := r2 z
        obtain ⟨p2, k4, k5, k6⟩ := z2 e rfl he
        exact ⟨z1, rfl, p2, by omega, k5, k6⟩
    · rw [if_neg hop] at hm
      rw [if_pos (hfo.2 hop)] at ha
      obtain ⟨q1, q2, q3⟩ := loc_JR hL j0 rfl rfl
      generalize f_X0_readLocation (nI L) 0 ep t2.1 t2.2.1 t2.2.2.1 t2.2.2.2 text = t18 at *
      generalize f_X7_readLocation (nI L) 0 ep (nI e) 0 text = u at *
      generalize hy : insT (nI L) plc text draft wri2 ts (nI o) u.1 u.2.1 u.2.2.1 u.2.2.2.1 u.2.2.2.2 = y at hm
      generalize hd : f_X7_sign (nI L) y.1 y.2.1 y.2.2.1 y.2.2.2.2.1 text 59 = d at hm
      obtain ⟨r1, r2⟩ := st_then hL ho q1 (fun z => (q2 z).2) hPW (fun _ => h0) ha hc hy hd
      subst hm
      dsimp only
      refine ⟨r1, fun z => ?_⟩
      obtain ⟨z0, z1, z2⟩ := r2 z
      obtain ⟨p1, k1', k2', k3'⟩ := q3 e rfl rfl he z0
      obtain ⟨p2, k4, k5, k6⟩ := z2 p1 k3' k2'
      exact ⟨z1, rfl, p2, by omega, k5, k6⟩
  · rw [if_neg h0, wrong_0] at hm
    rw [refuse_3 h0] at ha
    dsimp only at ha hm
    rw [sign_frz h10] at hm
    have hfr : a.1 = 3 ∧ a.2.1 = ts := by
      subst ha
      by_cases c1 : f_X3_operandForm (nI o) = 1
      · rw [if_pos c1]
        have hl := loc_frz (L := L) (text := text) (ep := ts) (ki := t2.1) (ts := t2.2.1) (te := t2.2.2.1) (nu := t2.2.2.2) h30
        have hx := fun z => cTl_frz (L := L) (text := text) (p := nI o) (a := (f_X0_readLocation (nI L) 3 ts t2.1 t2.2.1 t2.2.2.1 t2.2.2.2 text).1) (ec := (f_X0_readLocation (nI L) 3 ts t2.1 t2.2.1 t2.2.2.1 t2.2.2.2 text).2.1) (ep := (f_X0_readLocation (nI L) 3 ts t2.1 t2.2.1 t2.2.2.1 t2.2.2.2 text).2.2.1) (wcn := wcn) (pl := pl) (ki := (f_X0_readLocation (nI L) 3 ts t2.1 t2.2.1 t2.2.2.1 t2.2.2.2 text).2.2.2.1) (ts := (f_X0_readLocation (nI L) 3 ts t2.1 t2.2.1 t2.2.2.1 t2.2.2.2 text).2.2.2.2.1) (te := (f_X0_readLocation (nI L) 3 ts t2.1 t2.2.1 t2.2.2.1 t2.2.2.2 text).2.2.2.2.2.1) (nu := (f_X0_readLocation (nI L) 3 ts t2.1 t2.2.1 t2.2.2.1 t2.2.2.2 text).2.2.2.2.2.2) (words := words) (wri := wri) z
        have hx2 := hx (by rw [hl.1]; exact h30)
        exact ⟨hx2.1.trans hl.1, hx2.2.trans hl.2⟩
      · rw [if_neg c1]
        by_cases c2 : f_X3_operandForm (nI o) = 2
        · rw [if_pos c2]
          have hl := num_frz (L := L) (text := text) (ep := ts) (ki := t2.1) (ts := t2.2.1) (te := t2.2.2.1) (nu := t2.2.2.2) (lim := 31) h30
          have hx := fun z => cTl_frz (L := L) (text := text) (p := nI o) (a := (f_X0_readNumber (nI L) 3 ts t2.1 t2.2.1 t2.2.2.1 t2.2.2.2 text 31).1) (ec := (f_X0_readNumber (nI L) 3 ts t2.1 t2.2.1 t2.2.2.1 t2.2.2.2 text 31).2.1) (ep := (f_X0_readNumber (nI L) 3 ts t2.1 t2.2.1 t2.2.2.1 t2.2.2.2 text 31).2.2.1) (wcn := wcn) (pl := pl) (ki := (f_X0_readNumber (nI L) 3 ts t2.1 t2.2.1 t2.2.2.1 t2.2.2.2 text 31).2.2.2.1) (ts := (f_X0_readNumber (nI L) 3 ts t2.1 t2.2.1 t2.2.2.1 t2.2.2.2 text 31).2.2.2.2.1) (te := (f_X0_readNumber (nI L) 3 ts t2.1 t2.2.1 t2.2.2.1 t2.2.2.2 text 31).2.2.2.2.2.1) (nu := (f_X0_readNumber (nI L) 3 ts t2.1 t2.2.1 t2.2.2.1 t2.2.2.2 text 31).2.2.2.2.2.2) (words := words) (wri := wri) z
          have hx2 := hx (by rw [hl.1]; exact h30)
          exact ⟨hx2.1.trans hl.1, hx2.2.trans hl.2⟩
        · rw [if_neg c2]
          exact cTl_frz h30
    have hs := sym_frz (L := L) (text := text) (ec := a.1) (ep := a.2.1) (ki := a.2.2.2.2.1) (ts := a.2.2.2.2.2.1) (te := a.2.2.2.2.2.2.1) (nu := a.2.2.2.2.2.2.2.1) (s := 59) (by rw [hfr.1]; exact h30)
    rw [hc, hfr.1, hfr.2] at hs
    subst hm
    dsimp only
    exact ⟨JR.err hs.1 hs.2 (by rw [hs.1]; exact h30) h10, fun z => absurd (hs.1.symm.trans z) h30⟩
end pureU
