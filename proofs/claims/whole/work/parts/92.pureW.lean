/-! PURE W: the assembler's loop -/
theorem wri0C (wri : Nat → Int32) : ∀ k : Nat, k ≤ 256 → ∀ j : Nat, it_X0_beginText_2 wri k j = if j < k then 0 else wri j := by
  intro k
  induction k with
  | zero => intro _ j; exact (if_neg (Nat.not_lt_zero j)).symm
  | succ k ih =>
    intro hk j
    show upd (it_X0_beginText_2 wri k) (Int32.toNatClampNeg (nI k)) (vp_nar .boolean 0) j = _
    rw [nI_clamp (by omega)]
    by_cases e : j = k
    · have e1 : upd (it_X0_beginText_2 wri k) k (vp_nar .boolean 0) j = vp_nar .boolean 0 := if_pos e
      rw [e1, if_pos (by omega)]
      decide
    · have e1 : upd (it_X0_beginText_2 wri k) k (vp_nar .boolean 0) j = it_X0_beginText_2 wri k j := if_neg e
      rw [e1, ih (by omega) j]
      by_cases g : j < k
      · rw [if_pos g, if_pos (by omega)]
      · rw [if_neg g, if_neg (by omega)]
theorem wri0M (wri : Nat → Int32) : ∀ k : Nat, k ≤ 256 → ∀ j : Nat, it_X7_assemble_37 wri k j = if j < k then 0 else wri j := by
  intro k
  induction k with
  | zero => intro _ j; exact (if_neg (Nat.not_lt_zero j)).symm
  | succ k ih =>
    intro hk j
    show upd (it_X7_assemble_37 wri k) (Int32.toNatClampNeg (nI k)) (vp_nar .boolean 0) j = _
    rw [nI_clamp (by omega)]
    by_cases e : j = k
    · have e1 : upd (it_X7_assemble_37 wri k) k (vp_nar .boolean 0) j = vp_nar .boolean 0 := if_pos e
      rw [e1, if_pos (by omega)]
      decide
    · have e1 : upd (it_X7_assemble_37 wri k) k (vp_nar .boolean 0) j = it_X7_assemble_37 wri k j := if_neg e
      rw [e1, ih (by omega) j]
      by_cases g : j < k
      · rw [if_pos g, if_pos (by omega)]
      · rw [if_neg g, if_neg (by omega)]
theorem cnW_0 {wri : Nat → Int32} : ∀ n : Nat, (∀ j : Nat, j < n → wri j = 0) → cnW wri n = 0 := by
  intro n
  induction n with
  | zero => intro _; rfl
  | succ n ih =>
    intro h
    show cnW wri n + (if wri n = 0 then 0 else 1) = 0
    rw [ih (fun j hj => h j (by omega)), if_pos (h n (Nat.lt_succ_self n))]
/-- the start of both -/
theorem PW.begin (words wri draft wri2 : Nat → Int32) : PW 0 0 words (it_X0_beginText_2 wri 256) 0 draft (it_X7_assemble_37 wri2 256) := by
  have hc : ∀ j : Nat, j < 256 → it_X0_beginText_2 wri 256 j = 0 := fun j hj => by rw [wri0C wri 256 (Nat.le_refl _) j, if_pos hj]
  have hm : ∀ j : Nat, j < 256 → it_X7_assemble_37 wri2 256 j = 0 := fun j hj => by rw [wri0M wri2 256 (Nat.le_refl _) j, if_pos hj]
  refine ⟨0, by omega, rfl, rfl, fun j hj => ⟨(hm j hj).trans (hc j hj).symm, Or.inl (hc j hj), fun z => absurd (hc j hj) z⟩, ?_⟩
  rw [cnW_0 256 hc]
  rfl
/-- a start place: none, or one of the 256 -/
def slR (x : Int32) : Prop := x = -1 ∨ ∃ v : Nat, v < 256 ∧ x = nI v
/-- what both loops leave -/
def AS (c : (Nat → Int32) × (Nat → Int32) × Int32 × Int32 × Int32 × Int32 × Int32 × Int32 × Int32 × Int32 × Int32 × Int32) (m : (Nat → Int32) × (Nat → Int32) × Int32 × Int32 × Int32 × Int32 × Int32 × Int32 × Int32) : Prop :=
  c.2.2.1 = m.2.2.1 ∧ c.2.2.2.1 = m.2.2.2.1 ∧ ((c.2.2.1 = 0 ∧ m.2.2.2.2.2.2.1 = 0 ∧ PW c.2.2.2.2.2.2.1 c.2.2.2.2.1 c.1 c.2.1 m.2.2.2.2.2.2.2.1 m.1 m.2.1 ∧ c.2.2.2.2.2.1 = m.2.2.2.2.2.2.2.2 ∧ slR c.2.2.2.2.2.1) ∨ (¬ c.2.2.1 = 0 ∧ ¬ m.2.2.2.2.2.2.1 = 0))
section pureW
variable {L : Nat} {text : Nat → Int32}
theorem TK.end_iff {p : Nat} {ki ts te nu : Int32} (hL : L ≤ 600) (hp : p ≤ L) (h : TK L text p ki ts te nu) : ki = 0 ↔ L ≤ skp L text p := by
  obtain ⟨-, h⟩ := h.cases hL hp
  rcases h with ⟨a, b, -⟩ | ⟨a, -, b, -⟩ | ⟨a, -, b, -⟩ | ⟨a, -, -, b, -⟩
  · exact ⟨fun _ => a, fun _ => b⟩
  · refine ⟨fun z => ?_, fun z => by omega⟩
    rw [b] at z
    exact absurd z (by decide)
  · refine ⟨fun z => ?_, fun z => by omega⟩
    rw [b] at z
    have h2 : ¬ (2 : Int32) = 0 := by decide
    have h3 : ¬ (3 : Int32) = 0 := by decide
    split at z
    · exact absurd z h2
    · exact absurd z h3
  · refine ⟨fun z => ?_, fun z => by omega⟩
    rw [b] at z
    exact absurd z (sgK_2 _).2.2
theorem wlC_end {n : Nat} {words wri : Nat → Int32} {ec ep wcn sl pl ki ts te nu x : Int32} {len : Int32} (h : 600 ≤ x ∨ ki = 0) : wl_X0_translate len text n words wri ec ep wcn sl pl ki ts te nu x = (words, wri, ec, ep, wcn, sl, pl, ki, ts, te, nu, x) := by
  cases n with
  | zero => rfl
  | succ n =>
    have e : wl_X0_translate len text (n + 1) words wri ec ep wcn sl pl ki ts te nu x = if 600 ≤ x then (words, wri, ec, ep, wcn, sl, pl, ki, ts, te, nu, x) else if ki = 0 then (words, wri, ec, ep, wcn, sl, pl, ki, ts, te, nu, x) else _ := rfl
    rw [e]
    by_cases c : 600 ≤ x
    · rw [if_pos c]
    · rw [if_neg c, if_pos (h.resolve_left c)]
theorem wlM_end {n : Nat} {len : Int32} {mn : Nat → Int64} {z3 z4 : Nat → Int32} {ec ep pos bg plc sta : Int32} (h : (f_X7_here len pos text).1 = -1) : wl_X7_assemble len text mn (n + 1) z3 z4 ec ep pos bg 0 plc sta = (z3, z4, ec, ep, (f_X7_here len pos text).2, bg, 0, plc, sta) := by
  have e : wl_X7_assemble len text mn (n + 1) z3 z4 ec ep pos bg 0 plc sta = if (0 : Int32) = 0 then (if (f_X7_here len pos text).1 = -1 then (z3, z4, ec, ep, (f_X7_here len pos text).2, bg, 0, plc, sta) else _) else _ := rfl
  rw [e, if_pos rfl, if_pos h]
theorem wlM_step {n : Nat} {len : Int32} {mn : Nat → Int64} {z3 z4 : Nat → Int32} {ec ep pos bg plc sta y : Int32} {m : Int32 × Int32 × Int32 × Int32 × Int32 × Int32 × Int32 × (Nat → Int32) × (Nat → Int32)} (h : ¬ (f_X7_here len pos text).1 = -1) (hy : (f_X7_here len pos text).2 = y) (hm : f_X7_statement len ec ep y 0 plc sta text z3 z4 mn = m) :
    wl_X7_assemble len text mn (n + 1) z3 z4 ec ep pos bg 0 plc sta = wl_X7_assemble len text mn n m.2.2.2.2.2.2.2.1 m.2.2.2.2.2.2.2.2 m.1 m.2.1 m.2.2.1 m.2.2.2.1 m.2.2.2.2.1 m.2.2.2.2.2.1 m.2.2.2.2.2.2.1 := by
  subst hy
  subst hm
  have e : wl_X7_assemble len text mn (n + 1) z3 z4 ec ep pos bg 0 plc sta = if (0 : Int32) = 0 then (if (f_X7_here len pos text).1 = -1 then (z3, z4, ec, ep, (f_X7_here len pos text).2, bg, 0, plc, sta) else _) else _ := rfl
  rw [e, if_pos rfl, if_neg h]
set_option maxHeartbeats 4000000 in
theorem as_loop {mn : Nat → Int64} (hL : L ≤ 600) (hT : TB text) (hmn : ∀ k : Nat, k < 16 → (mn k).toInt = (wc k : Int)) :
    ∀ (n p i : Nat) (words wri draft wri2 : Nat → Int32) (ep wcn sl pl ki ts te nu bg plc sta : Int32), p ≤ L → i ≤ p → 600 < i + n → TK L text p ki ts te nu → PW pl wcn words wri plc draft wri2 → sl = sta → slR sl →
    AS (wl_X0_translate (nI L) text n words wri 0 ep wcn sl pl ki ts te nu (nI i)) (wl_X7_assemble (nI L) text mn (n + 1) draft wri2 0 ep (nI p) bg 0 plc sta) := by
  intro n
  induction n with
  | zero => intro p i words wri draft wri2 ep wcn sl pl ki ts te nu bg plc sta hp hi hn; exfalso; omega
  | succ n ih =>
    intro p i words wri draft wri2 ep wcn sl pl ki ts te nu bg plc sta hp hi hn ht hPW hsl hsr
    have hq := skp_L (text := text) hp
    have hh := here_nI (text := text) hL (show p ≤ 700 by omega)
    by_cases ce : L ≤ skp L text p
    · have hk := (ht.end_iff hL hp).mpr ce
      rw [if_pos ce] at hh
      rw [wlC_end (Or.inr hk), wlM_end (by rw [hh])]
      exact ⟨rfl, rfl, Or.inl ⟨rfl, rfl, hPW, hsl, hsr⟩⟩
    · have hk : ¬ ki = 0 := fun z => ce ((ht.end_iff hL hp).mp z)
      rw [if_neg ce] at hh
      have hx : ¬ 600 ≤ nI i := fun z => by
        have z2 := (nI_leI (a := 600) (b := i) (by omega) (by omega)).mp z
        omega
      have ht2 := hT (skp L text p)
      have hne : ¬ (f_X7_here (nI L) (nI p) text).1 = -1 := by
        rw [hh]
        intro z
        have z2 : text (skp L text p) = -1 := z
        rw [z2] at ht2
        exact absurd ht2.1 (by decide)
      generalize hb : trS (nI L) ep wcn sl pl ki ts te nu text words wri = b
      generalize hm : f_X7_statement (nI L) 0 ep (nI (skp L text p)) 0 plc sta text draft wri2 mn = m
      have r := st_all hL hq.2 hmn (ht.skip hp) hPW hsl hb hm
      rw [tr_step hx hk hb, wlM_step hne (by rw [hh]) hm]
      obtain ⟨⟨r1, r2, r3⟩, r4⟩ := r
      rcases r3 with ⟨e1, e2, p1, hp1, e3, ht1⟩ | ⟨e1, e2⟩
      · obtain ⟨s1, s2, s6, p2, s3, s4, s5⟩ := r4 e1
        have hpp : p1 = p2 := (nI_eq (by omega) (by omega)).mp (e3.symm.trans s5)
        subst hpp
        rw [← r1, ← r2, e1, e2, e3, nI_1]
        exact ih p1 (i + 1) _ _ _ _ _ _ _ _ _ _ _ _ _ _ _ hp1 (by omega) (by omega) ht1 s1 s2 (s6.elim (fun z => z ▸ hsr) Or.inr)
      · obtain ⟨s1, s2⟩ := wlC_err (len := nI L) (text := text) n b.1 b.2.1 b.2.2.1 b.2.2.2.1 b.2.2.2.2.1 b.2.2.2.2.2.1 b.2.2.2.2.2.2.1 b.2.2.2.2.2.2.2.1 b.2.2.2.2.2.2.2.2.1 b.2.2.2.2.2.2.2.2.2.1 b.2.2.2.2.2.2.2.2.2.2 (nI i + 1) e1
        rw [wlM_err e2]
        refine ⟨s1.trans r1, s2.trans r2, Or.inr ⟨?_, e2⟩⟩
        rw [s1]
        exact e1
/-- the two loops, as both programs start them -/
theorem as_run {mn : Nat → Int64} (hL : L ≤ 600) (hT : TB text) (hmn : ∀ k : Nat, k < 16 → (mn k).toInt = (wc k : Int)) (ki nu bg : Int32) (words wri draft wri2 : Nat → Int32) :
    AS (wl_X0_translate (nI L) text 601 words (it_X0_beginText_2 wri 256) 0 (-1) 0 (-1) 0 (f_X0_readToken (nI L) ki 0 nu text).1 (f_X0_readToken (nI L) ki 0 nu text).2.1 (f_X0_readToken (nI L) ki 0 nu text).2.2.1 (f_X0_readToken (nI L) ki 0 nu text).2.2.2 0) (wl_X7_assemble (nI L) text mn 602 draft (it_X7_assemble_37 wri2 256) 0 (-1) 0 bg 0 0 (-1)) :=
  as_loop hL hT hmn 601 0 0 words _ draft _ (-1) 0 (-1) 0 _ _ _ _ bg 0 (-1) (Nat.zero_le _) (Nat.le_refl _) (by omega) (TK.next hL (Nat.zero_le _) ki nu) (PW.begin words wri draft wri2) rfl (Or.inl rfl)
end pureW
