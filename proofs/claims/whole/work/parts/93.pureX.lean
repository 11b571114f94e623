/-! PURE X: assemble -/
section pureX
variable {L : Nat} {text : Nat → Int32}
theorem trans_ok {len ki nu : Int32} {words wri : Nat → Int32} {c : (Nat → Int32) × (Nat → Int32) × Int32 × Int32 × Int32 × Int32 × Int32 × Int32 × Int32 × Int32 × Int32 × Int32} (hc : wl_X0_translate len text 601 words (it_X0_beginText_2 wri 256) 0 (-1) 0 (-1) 0 (f_X0_readToken len ki 0 nu text).1 (f_X0_readToken len ki 0 nu text).2.1 (f_X0_readToken len ki 0 nu text).2.2.1 (f_X0_readToken len ki 0 nu text).2.2.2 0 = c) (h : c.2.2.1 = 0) :
    f_X0_translate len ki nu text words wri = (1, c.2.2.1, c.2.2.2.1, c.2.2.2.2.1, c.2.2.2.2.2.1, c.2.2.2.2.2.2.1, c.2.2.2.2.2.2.2.1, c.2.2.2.2.2.2.2.2.1, c.2.2.2.2.2.2.2.2.2.1, c.2.2.2.2.2.2.2.2.2.2.1, c.1, c.2.1) := by
  unfold f_X0_translate f_X0_beginText
  dsimp only
  rw [hc]
  exact if_pos h
theorem trans_no {len ki nu : Int32} {words wri : Nat → Int32} {c : (Nat → Int32) × (Nat → Int32) × Int32 × Int32 × Int32 × Int32 × Int32 × Int32 × Int32 × Int32 × Int32 × Int32} (hc : wl_X0_translate len text 601 words (it_X0_beginText_2 wri 256) 0 (-1) 0 (-1) 0 (f_X0_readToken len ki 0 nu text).1 (f_X0_readToken len ki 0 nu text).2.1 (f_X0_readToken len ki 0 nu text).2.2.1 (f_X0_readToken len ki 0 nu text).2.2.2 0 = c) (h : ¬ c.2.2.1 = 0) :
    f_X0_translate len ki nu text words wri = (0, c.2.2.1, c.2.2.2.1, c.2.2.2.2.1, c.2.2.2.2.2.1, c.2.2.2.2.2.2.1, c.2.2.2.2.2.2.2.1, c.2.2.2.2.2.2.2.2.1, c.2.2.2.2.2.2.2.2.2.1, c.2.2.2.2.2.2.2.2.2.2.1, c.1, c.2.1) := by
  unfold f_X0_translate f_X0_beginText
  dsimp only
  rw [hc]
  exact if_neg h
theorem st101 {len bg : Int32} {draft wri2 v0 : Nat → Int32} {v1 : Int32} {mn : Nat → Int64} {k : Nat} {m : (Nat → Int32) × (Nat → Int32) × Int32 × Int32 × Int32 × Int32 × Int32 × Int32 × Int32} (hm : wl_X7_assemble len text mn 602 draft (it_X7_assemble_37 wri2 256) 0 (-1) 0 bg 0 0 (-1) = m) (hk : k < 256) :
    st_X7_assemble_101 len bg text draft wri2 mn k v0 v1 = if m.2.1 k = 0 then (v0, v1) else (upd v0 (414 + k) (m.1 k), v1 + 1) := by
  unfold st_X7_assemble_101
  rw [hm, nI_clamp (n := k) (by omega), nI_lit414, nI_add, nI_clamp (by omega)]
section CRx
variable {T : Nat} {tm et wt sta he ac ov dr pt ot fp on fi li fo lo : Int32} {bits slips temps rin rout cnt w : Nat → Int32}
theorem put_it (h : CR T tm et wt sta he ac ov dr bits slips pt ot fp on temps fi li rin fo lo rout cnt w) {ki nu bg pl wcn plc a1 a2 a3 a4 a5 a6 a7 a8 a9 : Int32} {words wri draft wri2 W R : Nat → Int32} {mn : Nat → Int64} {m : (Nat → Int32) × (Nat → Int32) × Int32 × Int32 × Int32 × Int32 × Int32 × Int32 × Int32}
    (ht : f_X0_translate (nI L) ki nu text words wri = (1, a1, a2, a3, a4, a5, a6, a7, a8, a9, W, R)) (hm : wl_X7_assemble (nI L) text mn 602 draft (it_X7_assemble_37 wri2 256) 0 (-1) 0 bg 0 0 (-1) = m) (hPW : PW pl wcn W R plc m.1 m.2.1) : ∀ n : Nat, n ≤ 256 →
    CR T tm et wt sta he ac ov dr (it_X6_assemble_32 bits (nI L) ki nu text words wri n) slips pt ot fp on temps fi li rin fo lo rout cnt (it_X7_assemble_101 (nI L) bg w text draft wri2 mn n).1 ∧ (it_X7_assemble_101 (nI L) bg w text draft wri2 mn n).2 = nI (cnW R n) := by
  intro n
  induction n with
  | zero => intro _; exact ⟨h, rfl⟩
  | succ n ih =>
    intro hn
    obtain ⟨i1, i2⟩ := ih (by omega)
    obtain ⟨P, -, -, -, hw, -⟩ := hPW
    obtain ⟨q1, q2, q3⟩ := hw n (by omega)
    have e1 : it_X6_assemble_32 bits (nI L) ki nu text words wri (n + 1) = if R n = 0 then it_X6_assemble_32 bits (nI L) ki nu text words wri n else f_X5_putWord (it_X6_assemble_32 bits (nI L) ki nu text words wri n) (nI n) (W n) := by
      show st_X6_assemble_32 (nI L) ki nu text words wri n (it_X6_assemble_32 bits (nI L) ki nu text words wri n) = _
      unfold st_X6_assemble_32 f_X0_wordFor
      rw [ht]
      dsimp only
      rw [isW_nI (by omega), ix255 (by omega)]
    have e2 : it_X7_assemble_101 (nI L) bg w text draft wri2 mn (n + 1) = if m.2.1 n = 0 then ((it_X7_assemble_101 (nI L) bg w text draft wri2 mn n).1, (it_X7_assemble_101 (nI L) bg w text draft wri2 mn n).2) else (upd (it_X7_assemble_101 (nI L) bg w text draft wri2 mn n).1 (414 + n) (m.1 n), (it_X7_assemble_101 (nI L) bg w text draft wri2 mn n).2 + 1) := st101 hm (by omega)
    rw [e1, e2, q1]
    show _ ∧ _ = nI (cnW R n + (if R n = 0 then 0 else 1))
    by_cases z : R n = 0
    · rw [if_pos z, if_pos z, if_pos z]
      exact ⟨i1, i2⟩
    · rw [if_neg z, if_neg z, if_neg z, q3 z]
      dsimp only
      exact ⟨⟨i1.1, i1.2.1.put (by omega) (W n), i1.2.2.hi (by omega)⟩, by rw [i2, nI_1]⟩
set_option maxHeartbeats 4000000 in
theorem cs_assemble (h : CR T tm et wt sta he ac ov dr bits slips pt ot fp on temps fi li rin fo lo rout cnt w) (hL : L ≤ 600) (hT : TB text) {mn : Nat → Int64} (hmn : ∀ k : Nat, k < 16 → (mn k).toInt = (wc k : Int)) (ec ep wcn sl pl ki ts te nu bg : Int32) (words wri draft wri2 : Nat → Int32)
    {c : Int32 × Int32 × Int32 × (Nat → Int32) × Int32 × Int32 × Int32 × Int32 × Int32 × Int32 × Int32 × Int32 × Int32 × Int32 × (Nat → Int32) × (Nat → Int32)} {m : Int32 × Int32 × Int32 × Int32 × Int32 × Int32 × Int32 × Int32 × Int32 × Int32 × (Nat → Int32) × (Nat → Int32) × (Nat → Int32)}
    (hc : fA_X6_assemble sta he bits (nI L) ec ep wcn sl pl ki ts te nu text words wri = c) (hm : f_X7_assemble (nI L) bg w text draft wri2 mn = m) :
    k1 (th_X6_assemble (nI L) ki nu text words wri) = m.2.1 ∧ (th_X6_assemble (nI L) ki nu text words wri = none → c.1 = m.1) ∧
    CR T tm et wt c.2.1 c.2.2.1 ac ov dr c.2.2.2.1 slips pt ot fp on temps fi li rin fo lo rout cnt m.2.2.2.2.2.2.2.2.2.2.1 ∧ c.2.2.2.2.1 = 0 ∧ m.2.2.1 = 0 ∧ c.2.2.2.2.2.1 = m.2.2.2.1 ∧ c.2.2.2.2.2.2.1 = m.2.2.2.2.1 := by
  have hAS := as_run (text := text) hL hT hmn ki nu bg words wri draft wri2
  generalize hu : wl_X0_translate (nI L) text 601 words (it_X0_beginText_2 wri 256) 0 (-1) 0 (-1) 0 (f_X0_readToken (nI L) ki 0 nu text).1 (f_X0_readToken (nI L) ki 0 nu text).2.1 (f_X0_readToken (nI L) ki 0 nu text).2.2.1 (f_X0_readToken (nI L) ki 0 nu text).2.2.2 0 = u at hAS
  generalize hv : wl_X7_assemble (nI L) text mn 602 draft (it_X7_assemble_37 wri2 256) 0 (-1) 0 bg 0 0 (-1) = v at hAS
  obtain ⟨s1, s2, s3⟩ := hAS
  unfold f_X7_assemble at hm
  rw [hv] at hm
  rcases s3 with ⟨e1, e2, e3, e4, e5⟩ | ⟨e1, e2⟩
  · have ht := trans_ok hu e1
    have hth : th_X6_assemble (nI L) ki nu text words wri = none := by
      unfold th_X6_assemble
      rw [ht]
      exact if_neg (show ¬ (1 : Int32) = 0 by decide)
    rw [fA_n _ _ _ _ _ _ _ _ _ _ _ _ _ _ _ _ hth] at hc
    obtain ⟨r1, r2⟩ := put_it h ht hv e3 256 (Nat.le_refl _)
    obtain ⟨P, -, -, -, -, ew⟩ := e3
    unfold f_X6_assemble at hc
    rw [ht] at hc
    have h10 : ¬ (1 : Int32) = 0 := by decide
    dsimp only at hc
    rw [if_neg h10] at hc
    rw [if_pos e2] at hm
    rw [hth]
    by_cases z : u.2.2.2.2.2.1 = -1
    · rw [if_pos z] at hc
      rw [if_pos (e4 ▸ z)] at hm
      subst hc hm
      dsimp only
      exact ⟨rfl, fun _ => ew.trans r2.symm, r1, rfl, rfl, s1, s2⟩
    · rw [if_neg z] at hc
      rw [if_neg (e4 ▸ z)] at hm
      subst hc hm
      unfold f_X2_makeReadyAt
      dsimp only
      refine ⟨rfl, fun _ => ew.trans r2.symm, ?_, rfl, rfl, s1, s2⟩
      rw [← e4]
      obtain ⟨V, hV, eV⟩ := e5.resolve_left z
      have hr : 0 ≤ (u.2.2.2.2.2.1).toInt ∧ (u.2.2.2.2.2.1).toInt < 256 := by
        rw [eV, nI_toInt (by omega)]
        omega
      obtain ⟨g0, hW, ⟨⟨a1, a2, a3, a4, a5, a6, a7, a8⟩, b, c9, d, e⟩⟩ := r1
      refine ⟨g0, hW.frame (fun j hj => by rw [pu (by omega), pu (by omega)]), ⟨?_, ?_, pus, ?_, ?_, ?_, ?_, ?_⟩, fun k hk => by rw [pu (by omega), pu (by omega)]; exact b k hk, c9.frame (fun i hi => by rw [pu (by omega), pu (by omega)]), d.frame (fun i hi => by rw [pu (by omega), pu (by omega)]), hr, e.2⟩
      · rw [pu (by decide), pu (by decide)]; exact a1
      · rw [pu (by decide), pu (by decide)]; exact a2
      · rw [pu (by decide), pus]
      · rw [pu (by decide), pu (by decide)]; exact a5
      · rw [pu (by decide), pu (by decide)]; exact a6
      · rw [pu (by decide), pu (by decide)]; exact a7
      · rw [pu (by decide), pu (by decide)]; exact a8
  · have ht := trans_no hu e1
    have hth : th_X6_assemble (nI L) ki nu text words wri = some sIA := by
      unfold th_X6_assemble
      rw [ht]
      exact if_pos rfl
    rw [fA_x _ _ _ _ _ _ _ _ _ _ _ _ _ _ _ _ hth, ht] at hc
    rw [if_neg e2] at hm
    unfold f_X7_fails at hm
    rw [hth]
    subst hc hm
    dsimp only
    exact ⟨rfl, fun z => absurd z (Option.some_ne_none _), h, rfl, rfl, s1, s2⟩
end CRx
end pureX
