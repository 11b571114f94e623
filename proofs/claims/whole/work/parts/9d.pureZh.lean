/-! PURE Zh: the snapshots of both sides -/
/-- a snapshot slot: never saved, or the same computer as the saved row -/
def SN1 (B : Nat) (f : Int32) (tm : Int32) (et : Int32) (wt : Int32) (sta : Int32) (he : Int32) (ac : Int32) (ov : Int32) (dr : Int32) (bits : Nat → Int32) (slips : Nat → Int32) (pt : Int32) (ot : Int32) (fp : Int32) (on : Int32) (temps : Nat → Int32) (fi : Int32) (li : Int32) (rin : Nat → Int32) (fo : Int32) (lo : Int32) (rout : Nat → Int32) (cnt : Nat → Int32) (w : Nat → Int32) : Prop := f = 0 ∨ ∃ T : Nat, T ≤ B ∧ CR T tm et wt sta he ac ov dr bits slips pt ot fp on temps fi li rin fo lo rout cnt w
section SNs
variable {B T : Nat} {et wt tm sta he ac ov dr pt ot fp on fi li fo lo etu wtu tmu stau heu acu ovu dru ptu otu fpu onu fiu liu fou lou etv wtv tmv stav hev acv ovv drv ptv otv fpv onv fiv liv fov lov : Int32} {bits slips temps rin rout cnt bitsu slipsu tempsu rinu routu cntu bitsv slipsv tempsv rinv routv cntv w row : Nat → Int32}
theorem SN1.mono {f : Int32} {C : Nat} (h : SN1 B f tm et wt sta he ac ov dr bits slips pt ot fp on temps fi li rin fo lo rout cnt row) (hB : B ≤ C) : SN1 C f tm et wt sta he ac ov dr bits slips pt ot fp on temps fi li rin fo lo rout cnt row := h.elim Or.inl (fun ⟨T, h1, h2⟩ => Or.inr ⟨T, Nat.le_trans h1 hB, h2⟩)
theorem SN1.agree {f : Int32} {row2 : Nat → Int32} (h : SN1 B f tm et wt sta he ac ov dr bits slips pt ot fp on temps fi li rin fo lo rout cnt row) (hv : ∀ j, j < 670 → row2 j = row j) : SN1 B f tm et wt sta he ac ov dr bits slips pt ot fp on temps fi li rin fo lo rout cnt row2 := h.elim Or.inl (fun ⟨T, h1, h2⟩ => Or.inr ⟨T, h1, h2.agree hv⟩)
theorem SN1.of {f : Int32} (hB : T ≤ B) (h : CR T tm et wt sta he ac ov dr bits slips pt ot fp on temps fi li rin fo lo rout cnt row) : SN1 B f tm et wt sta he ac ov dr bits slips pt ot fp on temps fi li rin fo lo rout cnt row := Or.inr ⟨T, hB, h⟩
set_option maxRecDepth 100000 in
theorem cs_save {sv sw p : Int32} {saved : Nat → Int32} (h : CR T tm et wt sta he ac ov dr bits slips pt ot fp on temps fi li rin fo lo rout cnt w) (hT : T ≤ B) (g1 : g01 sv) (g2 : g01 sw) (hu : SN1 B sv tmu etu wtu stau heu acu ovu dru bitsu slipsu ptu otu fpu onu tempsu fiu liu rinu fou lou routu cntu (fun j => saved j)) (hv : SN1 B sw tmv etv wtv stav hev acv ovv drv bitsv slipsv ptv otv fpv onv tempsv fiv liv rinv fov lov routv cntv (fun j => saved (670 + j))) (gn : g01 on) (go : g01 ov) (q1 : g01 onu) (q2 : g01 ovu) (q3 : g01 onv) (q4 : g01 ovv)
    {c : Int32 × Int32 × Int32 × Int32 × Int32 × Int32 × Int32 × Int32 × Int32 × Int32 × (Nat → Int32) × (Nat → Int32) × Int32 × Int32 × Int32 × Int32 × (Nat → Int32) × Int32 × Int32 × (Nat → Int32) × Int32 × Int32 × (Nat → Int32) × (Nat → Int32) × Int32 × Int32 × Int32 × Int32 × Int32 × Int32 × Int32 × Int32 × (Nat → Int32) × (Nat → Int32) × Int32 × Int32 × Int32 × Int32 × (Nat → Int32) × Int32 × Int32 × (Nat → Int32) × Int32 × Int32 × (Nat → Int32) × (Nat → Int32)} {m : Int32 × Int32 × Int32 × (Nat → Int32)} (hc : f_X6_save sv sw et wt tm sta he ac ov dr bits slips pt ot fp on temps fi li rin fo lo rout cnt etu wtu tmu stau heu acu ovu dru bitsu slipsu ptu otu fpu onu tempsu fiu liu rinu fou lou routu cntu etv wtv tmv stav hev acv ovv drv bitsv slipsv ptv otv fpv onv tempsv fiv liv rinv fov lov routv cntv p = c) (hm : f_X7_save sv sw w saved p = m) :
    k1 (th_X6_save p) = m.1 ∧ c.1 = m.2.1 ∧ c.2.1 = m.2.2.1 ∧ g01 c.1 ∧ g01 c.2.1 ∧ SN1 B c.1 c.2.2.2.2.1 c.2.2.1 c.2.2.2.1 c.2.2.2.2.2.1 c.2.2.2.2.2.2.1 c.2.2.2.2.2.2.2.1 c.2.2.2.2.2.2.2.2.1 c.2.2.2.2.2.2.2.2.2.1 c.2.2.2.2.2.2.2.2.2.2.1 c.2.2.2.2.2.2.2.2.2.2.2.1 c.2.2.2.2.2.2.2.2.2.2.2.2.1 c.2.2.2.2.2.2.2.2.2.2.2.2.2.1 c.2.2.2.2.2.2.2.2.2.2.2.2.2.2.1 c.2.2.2.2.2.2.2.2.2.2.2.2.2.2.2.1 c.2.2.2.2.2.2.2.2.2.2.2.2.2.2.2.2.1 c.2.2.2.2.2.2.2.2.2.2.2.2.2.2.2.2.2.1 c.2.2.2.2.2.2.2.2.2.2.2.2.2.2.2.2.2.2.1 c.2.2.2.2.2.2.2.2.2.2.2.2.2.2.2.2.2.2.2.1 c.2.2.2.2.2.2.2.2.2.2.2.2.2.2.2.2.2.2.2.2.1 c.2.2.2.2.2.2.2.2.2.2.2.2.2.2.2.2.2.2.2.2.2.1 c.2.2.2.2.2.2.2.2.2.2.2.2.2.2.2.2.2.2.2.2.2.2.1 c.2.2.2.2.2.2.2.2.2.2.2.2.2.2.2.2.2.2.2.2.2.2.2.1 (fun j => m.2.2.2 j) ∧ SN1 B c.2.1 c.2.2.2.2.2.2.2.2.2.2.2.2.2.2.2.2.2.2.2.2.2.2.2.2.2.2.1 c.2.2.2.2.2.2.2.2.2.2.2.2.2.2.2.2.2.2.2.2.2.2.2.2.1 c.2.2.2.2.2.2.2.2.2.2.2.2.2.2.2.2.2.2.2.2.2.2.2.2.2.1 c.2.2.2.2.2.2.2.2.2.2.2.2.2.2.2.2.2.2.2.2.2.2.2.2.2.2.2.1 c.2.2.2.2.2.2.2.2.2.2.2.2.2.2.2.2.2.2.2.2.2.2.2.2.2.2.2.2.1 c.2.2.2.2.2.2.2.2.2.2.2.2.2.2.2.2.2.2.2.2.2.2.2.2.2.2.2.2.2.1 c.2.2.2.2.2.2.2.2.2.2.2.2.2.2.2.2.2.2.2.2.2.2.2.2.2.2.2.2.2.2.1 c.2.2.2.2.2.2.2.2.2.2.2.2.2.2.2.2.2.2.2.2.2.2.2.2.2.2.2.2.2.2.2.1 c.2.2.2.2.2.2.2.2.2.2.2.2.2.2.2.2.2.2.2.2.2.2.2.2.2.2.2.2.2.2.2.2.1 c.2.2.2.2.2.2.2.2.2.2.2.2.2.2.2.2.2.2.2.2.2.2.2.2.2.2.2.2.2.2.2.2.2.1 c.2.2.2.2.2.2.2.2.2.2.2.2.2.2.2.2.2.2.2.2.2.2.2.2.2.2.2.2.2.2.2.2.2.2.1 c.2.2.2.2.2.2.2.2.2.2.2.2.2.2.2.2.2.2.2.2.2.2.2.2.2.2.2.2.2.2.2.2.2.2.2.1 c.2.2.2.2.2.2.2.2.2.2.2.2.2.2.2.2.2.2.2.2.2.2.2.2.2.2.2.2.2.2.2.2.2.2.2.2.1 c.2.2.2.2.2.2.2.2.2.2.2.2.2.2.2.2.2.2.2.2.2.2.2.2.2.2.2.2.2.2.2.2.2.2.2.2.2.1 c.2.2.2.2.2.2.2.2.2.2.2.2.2.2.2.2.2.2.2.2.2.2.2.2.2.2.2.2.2.2.2.2.2.2.2.2.2.2.1 c.2.2.2.2.2.2.2.2.2.2.2.2.2.2.2.2.2.2.2.2.2.2.2.2.2.2.2.2.2.2.2.2.2.2.2.2.2.2.2.1 c.2.2.2.2.2.2.2.2.2.2.2.2.2.2.2.2.2.2.2.2.2.2.2.2.2.2.2.2.2.2.2.2.2.2.2.2.2.2.2.2.1 c.2.2.2.2.2.2.2.2.2.2.2.2.2.2.2.2.2.2.2.2.2.2.2.2.2.2.2.2.2.2.2.2.2.2.2.2.2.2.2.2.2.1 c.2.2.2.2.2.2.2.2.2.2.2.2.2.2.2.2.2.2.2.2.2.2.2.2.2.2.2.2.2.2.2.2.2.2.2.2.2.2.2.2.2.2.1 c.2.2.2.2.2.2.2.2.2.2.2.2.2.2.2.2.2.2.2.2.2.2.2.2.2.2.2.2.2.2.2.2.2.2.2.2.2.2.2.2.2.2.2.1 c.2.2.2.2.2.2.2.2.2.2.2.2.2.2.2.2.2.2.2.2.2.2.2.2.2.2.2.2.2.2.2.2.2.2.2.2.2.2.2.2.2.2.2.2.1 c.2.2.2.2.2.2.2.2.2.2.2.2.2.2.2.2.2.2.2.2.2.2.2.2.2.2.2.2.2.2.2.2.2.2.2.2.2.2.2.2.2.2.2.2.2 (fun j => m.2.2.2 (670 + j)) ∧ g01 c.2.2.2.2.2.2.2.2.2.2.2.2.2.2.2.1 ∧ g01 c.2.2.2.2.2.2.2.2.1 ∧ g01 c.2.2.2.2.2.2.2.2.2.2.2.2.2.2.2.2.2.2.2.2.2.2.2.2.2.2.2.2.2.2.2.2.2.2.2.2.2.1 ∧ g01 c.2.2.2.2.2.2.2.2.2.2.2.2.2.2.2.2.2.2.2.2.2.2.2.2.2.2.2.2.2.2.1 := by
  have ea := cs_saveA (w := w) (saved := saved) g1 g2 p
  have e := rs_iff p
  unfold f_X6_save at hc
  rcases save7 (w := w) (saved := saved) (p := p) g1 g2 with ⟨d, s⟩ | ⟨d, z, s⟩ | ⟨d, z, s⟩
  · rw [if_pos d] at e
    rw [e, if_neg (Option.some_ne_none _)] at hc
    rw [s] at hm ea
    subst hc hm
    dsimp only at ea ⊢
    exact ⟨ea, rfl, rfl, g1, g2, hu, hv, q1, q2, q3, q4⟩
  · rw [if_neg d] at e
    rw [e, if_pos rfl, if_pos z] at hc
    rw [s] at hm ea
    subst hc hm
    dsimp only at ea ⊢
    refine ⟨ea, rfl, rfl, Or.inr rfl, g2, SN1.of hT (h.copy.agree (fun j hj => ?_)), hv.agree (fun j hj => ?_), gn, go, q3, q4⟩
    · have r := row_same (saved := saved) (w := w) (s := 0) (by decide) j hj
      rw [Nat.mul_zero, Nat.zero_add] at r
      exact r
    · have r := row_other (saved := saved) (w := w) (s := 0) (r := 1) (by decide) (by decide) j hj
      rw [Nat.mul_one] at r
      exact r
  · have z0 : ¬ p = 0 := by
      rw [z]
      decide
    rw [if_neg d] at e
    rw [e, if_pos rfl, if_neg z0] at hc
    rw [s] at hm ea
    subst hc hm
    dsimp only at ea ⊢
    refine ⟨ea, rfl, rfl, g1, Or.inr rfl, hu.agree (fun j hj => ?_), SN1.of hT (h.copy.agree (fun j hj => ?_)), q1, q2, gn, go⟩
    · have r := row_other (saved := saved) (w := w) (s := 1) (r := 0) (by decide) (by decide) j hj
      rw [Nat.mul_zero, Nat.zero_add] at r
      exact r
    · have r := row_same (saved := saved) (w := w) (s := 1) (by decide) j hj
      rw [Nat.mul_one] at r
      exact r
set_option maxRecDepth 100000 in
theorem cs_restore {sv sw p : Int32} {saved : Nat → Int32} (h : CR T tm et wt sta he ac ov dr bits slips pt ot fp on temps fi li rin fo lo rout cnt w) (hT : T ≤ B) (hu : SN1 B sv tmu etu wtu stau heu acu ovu dru bitsu slipsu ptu otu fpu onu tempsu fiu liu rinu fou lou routu cntu (fun j => saved j)) (hv : SN1 B sw tmv etv wtv stav hev acv ovv drv bitsv slipsv ptv otv fpv onv tempsv fiv liv rinv fov lov routv cntv (fun j => saved (670 + j))) (gn : g01 on) (go : g01 ov) (q1 : g01 onu) (q2 : g01 ovu) (q3 : g01 onv) (q4 : g01 ovv)
    {c : Int32 × Int32 × Int32 × Int32 × Int32 × Int32 × Int32 × Int32 × (Nat → Int32) × (Nat → Int32) × Int32 × Int32 × Int32 × Int32 × (Nat → Int32) × Int32 × Int32 × (Nat → Int32) × Int32 × Int32 × (Nat → Int32) × (Nat → Int32)} {m : Int32 × (Nat → Int32)} (hc : f_X6_restore sv sw et wt tm sta he ac ov dr bits slips pt ot fp on temps fi li rin fo lo rout cnt etu wtu tmu stau heu acu ovu dru bitsu slipsu ptu otu fpu onu tempsu fiu liu rinu fou lou routu cntu etv wtv tmv stav hev acv ovv drv bitsv slipsv ptv otv fpv onv tempsv fiv liv rinv fov lov routv cntv p = c) (hm : f_X7_restore sv sw w saved p = m) :
    k2 sIO (th_X6_restore sv sw p) = m.1 ∧ (∃ T2 : Nat, T2 ≤ B ∧ CR T2 c.2.2.1 c.1 c.2.1 c.2.2.2.1 c.2.2.2.2.1 c.2.2.2.2.2.1 c.2.2.2.2.2.2.1 c.2.2.2.2.2.2.2.1 c.2.2.2.2.2.2.2.2.1 c.2.2.2.2.2.2.2.2.2.1 c.2.2.2.2.2.2.2.2.2.2.1 c.2.2.2.2.2.2.2.2.2.2.2.1 c.2.2.2.2.2.2.2.2.2.2.2.2.1 c.2.2.2.2.2.2.2.2.2.2.2.2.2.1 c.2.2.2.2.2.2.2.2.2.2.2.2.2.2.1 c.2.2.2.2.2.2.2.2.2.2.2.2.2.2.2.1 c.2.2.2.2.2.2.2.2.2.2.2.2.2.2.2.2.1 c.2.2.2.2.2.2.2.2.2.2.2.2.2.2.2.2.2.1 c.2.2.2.2.2.2.2.2.2.2.2.2.2.2.2.2.2.2.1 c.2.2.2.2.2.2.2.2.2.2.2.2.2.2.2.2.2.2.2.1 c.2.2.2.2.2.2.2.2.2.2.2.2.2.2.2.2.2.2.2.2.1 c.2.2.2.2.2.2.2.2.2.2.2.2.2.2.2.2.2.2.2.2.2 m.2) ∧ g01 c.2.2.2.2.2.2.2.2.2.2.2.2.2.1 ∧ g01 c.2.2.2.2.2.2.1 := by
  have ea := cs_restoreA hm
  have e := rs_iff p
  unfold f_X6_restore at hc
  rcases restore7 hm with ⟨d, s⟩ | ⟨d, z, s⟩ | ⟨d, z, s⟩
  · rw [if_pos d] at e
    rw [e, if_neg (Option.some_ne_none _)] at hc
    rw [s] at ea ⊢
    subst hc
    dsimp only at ea ⊢
    exact ⟨ea, ⟨T, hT, h⟩, gn, go⟩
  · rw [if_neg d] at e
    rw [e, if_pos rfl, if_pos z] at hc
    rcases s with ⟨d2, s⟩ | ⟨d2, -, s⟩
    · rw [if_pos d2] at hc
      rw [s] at ea ⊢
      subst hc
      dsimp only at ea ⊢
      exact ⟨ea, ⟨T, hT, h⟩, gn, go⟩
    · rw [if_neg d2] at hc
      obtain ⟨T2, h1, h2⟩ := hu.resolve_left d2
      subst hc
      dsimp only at ea ⊢
      exact ⟨ea, ⟨T2, h1, h2.copy.agree s⟩, q1, q2⟩
  · have z0 : ¬ p = 0 := by
      rw [z]
      decide
    rw [if_neg d] at e
    rw [e, if_pos rfl, if_neg z0] at hc
    rcases s with ⟨d2, s⟩ | ⟨d2, -, s⟩
    · rw [if_pos d2] at hc
      rw [s] at ea ⊢
      subst hc
      dsimp only at ea ⊢
      exact ⟨ea, ⟨T, hT, h⟩, gn, go⟩
    · rw [if_neg d2] at hc
      obtain ⟨T2, h1, h2⟩ := hv.resolve_left d2
      subst hc
      dsimp only at ea ⊢
      exact ⟨ea, ⟨T2, h1, h2.copy.agree s⟩, q3, q4⟩
end SNs
