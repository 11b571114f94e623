/-! PURE T: instructions -/
/-- what the class does behind the operand a -/
def cTl (len p a ec ep wcn pl ki ts te nu : Int32) (text words wri : Nat → Int32) : Int32 × Int32 × Int32 × Int32 × Int32 × Int32 × Int32 × Int32 × (Nat → Int32) × (Nat → Int32) :=
  if (f_X0_tokenIs len ki ts te text 19) = 0 then
    let t21 := (f_X0_write wcn pl words wri (f_X3_encode p a (f_X0_placeAfter pl)))
    (ec, ep, t21.1, t21.2.1, ki, ts, te, nu, t21.2.2.1, t21.2.2.2)
  else
    let t22 := (f_X0_readToken len ki te nu text)
    let t23 := (f_X0_readLocation len ec ep t22.1 t22.2.1 t22.2.2.1 t22.2.2.2 text)
    let t24 := (f_X0_write wcn pl words wri (f_X3_encode p a t23.1))
    (t23.2.1, t23.2.2.1, t24.1, t24.2.1, t23.2.2.2.1, t23.2.2.2.2.1, t23.2.2.2.2.2.1, t23.2.2.2.2.2.2, t24.2.2.1, t24.2.2.2)
theorem ins_cls (len ec ep wcn pl ki ts te nu : Int32) (text words wri : Nat → Int32) (p0 : Int32) : f_X0_readInstruction len ec ep wcn pl ki ts te nu text words wri p0 =
    (let t1 := f_X0_refuseWrittenPlace ec ep pl ts wri
     let t2 := f_X0_readToken len ki te nu text
     if f_X3_operandForm p0 = 1 then
       let t18 := f_X0_readLocation len t1.1 t1.2 t2.1 t2.2.1 t2.2.2.1 t2.2.2.2 text
       cTl len p0 t18.1 t18.2.1 t18.2.2.1 wcn pl t18.2.2.2.1 t18.2.2.2.2.1 t18.2.2.2.2.2.1 t18.2.2.2.2.2.2 text words wri
     else
       if f_X3_operandForm p0 = 2 then
         let t11 := f_X0_readNumber len t1.1 t1.2 t2.1 t2.2.1 t2.2.2.1 t2.2.2.2 text 31
         cTl len p0 t11.1 t11.2.1 t11.2.2.1 wcn pl t11.2.2.2.1 t11.2.2.2.2.1 t11.2.2.2.2.2.1 t11.2.2.2.2.2.2 text words wri
       else cTl len p0 0 t1.1 t1.2 wcn pl t2.1 t2.2.1 t2.2.2.1 t2.2.2.2 text words wri) := by
  unfold f_X0_readInstruction cTl
  dsimp only
section pureT
variable {L : Nat} {text : Nat → Int32}
theorem V_eq {V : Int64} {i : Nat} {z : Int64} (hz : z.toInt = (wc i : Int)) : V = z ↔ V.toInt = (wc i : Int) := by
  rw [← hz]
  exact ⟨fun h => by rw [h], fun h => Int64.toInt_inj.mp h⟩
theorem wc_47 : (47 : Int64).toInt = (wc 16 : Int) := by rw [wc_at.1]; decide
theorem wc_st : (10492274 : Int64).toInt = (wc 17 : Int) := by rw [wc_at.2.1]; decide
theorem wc_wd : (464134 : Int64).toInt = (wc 18 : Int) := by rw [wc_at.2.2.1]; decide
theorem wc_th : (399641 : Int64).toInt = (wc 19 : Int) := by rw [wc_at.2.2.2]; decide
theorem cTl_frz {p a ec ep wcn pl ki ts te nu : Int32} {words wri : Nat → Int32} (he : ¬ ec = 0) : (cTl (nI L) p a ec ep wcn pl ki ts te nu text words wri).1 = ec ∧ (cTl (nI L) p a ec ep wcn pl ki ts te nu text words wri).2.1 = ep := by
  unfold cTl
  by_cases c : (f_X0_tokenIs (nI L) ki ts te text 19) = 0
  · rw [if_pos c]
    exact ⟨rfl, rfl⟩
  · rw [if_neg c]
    dsimp only
    exact loc_frz he
theorem st_then {o : Nat} {a a2 ec ep ki ts te nu ec2 ep2 pos bad bg wcn pl plc : Int32} {words wri draft wri2 : Nat → Int32} (hL : L ≤ 600) (ho : o < 16) (h : JR L text ec ep ki ts te nu ec2 ep2 pos bad) (hv : ec = 0 → ∃ v : Nat, v < 256 ∧ a = nI v ∧ a2 = nI v) (hPW : PW pl wcn words wri plc draft wri2) (h0 : ec = 0 → f_X0_isWritten wri pl = 0)
    {x : Int32 × Int32 × Int32 × Int32 × Int32 × Int32 × Int32 × Int32 × (Nat → Int32) × (Nat → Int32)} {c : Int32 × Int32 × Int32 × Int32 × Int32 × Int32} {y : tyI} {d : Int32 × Int32 × Int32 × Int32}
    (hx : cTl (nI L) (nI o) a ec ep wcn pl ki ts te nu text words wri = x) (hc : f_X0_readSymbol (nI L) x.1 x.2.1 x.2.2.2.2.1 x.2.2.2.2.2.1 x.2.2.2.2.2.2.1 x.2.2.2.2.2.2.2.1 text 59 = c) (hy : insT (nI L) plc text draft wri2 bg (nI o) a2 ec2 ep2 pos bad = y) (hd : f_X7_sign (nI L) y.1 y.2.1 y.2.2.1 y.2.2.2.2.1 text 59 = d) :
    JR L text c.1 c.2.1 c.2.2.1 c.2.2.2.1 c.2.2.2.2.1 c.2.2.2.2.2 d.1 d.2.1 d.2.2.1 d.2.2.2 ∧ (c.1 = 0 → ec = 0 ∧ PW x.2.2.2.1 x.2.2.1 x.2.2.2.2.2.2.2.2.1 x.2.2.2.2.2.2.2.2.2 y.2.2.2.2.2.1 y.2.2.2.2.2.2.1 y.2.2.2.2.2.2.2 ∧ ∀ p : Nat, pos = nI p → p ≤ L → ∃ p' : Nat, p < p' ∧ p' ≤ L ∧ d.2.2.1 = nI p') := by
  have h10 : ¬ (1 : Int32) = 0 := by decide
  by_cases he : ec = 0
  · have hb := h.both.mp he
    obtain ⟨p, hp, hpos, ht⟩ := h.pos he
    obtain ⟨v, hv1, hv2, hv3⟩ := hv he
    have hw0 := h0 he
    obtain ⟨P, hP, hpl, hplc, hPP⟩ := id hPW
    obtain ⟨j1, j2, -⟩ := h
    subst he hb hpos hv2 hv3 j1 j2
    have hq := skp_L (text := text) hp
    have hts := ht.skip hp
    obtain ⟨V, e, w1, w2, w3, w4, w5, w6⟩ := word_TK hL hq.2 hts
    obtain ⟨e1, hcs⟩ := ht.cases hL hp
    have hlet : (f_X7_in (Int32.toInt64 (f_X7_here (nI L) (nI p) text).1) 97 122) = 0 ↔ ¬ ki = 1 := by
      rw [x7_lt, here_L hL hp]
      dsimp only
      have hm1 : ¬ isLt (-1) := by decide
      have h01 : ¬ (0 : Int32) = 1 := by decide
      have h21 : ¬ (2 : Int32) = 1 := by decide
      have h31 : ¬ (3 : Int32) = 1 := by decide
      rcases hcs with ⟨g1, g2, -⟩ | ⟨g1, g2, g3, -⟩ | ⟨g1, g2, g3, -⟩ | ⟨g1, g2, g3, g4, -⟩
      · rw [show (if L ≤ skp L text p then (-1 : Int32) else text (skp L text p)) = -1 from if_pos g1, if_neg hm1, g2]
        exact ⟨fun _ => h01, fun _ => rfl⟩
      · rw [show (if L ≤ skp L text p then (-1 : Int32) else text (skp L text p)) = text (skp L text p) from if_neg (by omega), if_pos g2, g3]
        exact ⟨fun z => absurd z h10, fun z => absurd rfl z⟩
      · rw [show (if L ≤ skp L text p then (-1 : Int32) else text (skp L text p)) = text (skp L text p) from if_neg (by omega), if_neg (lt_dg g2), g3]
        refine ⟨fun _ => ?_, fun _ => rfl⟩
        split
        · exact h21
        · exact h31
      · rw [show (if L ≤ skp L text p then (-1 : Int32) else text (skp L text p)) = text (skp L text p) from if_neg (by omega), if_neg g2, g4]
        exact ⟨fun _ => (sgK_2 _).2.1, fun _ => rfl⟩
    unfold insT at hy
    rw [if_pos rfl] at hy
    dsimp only at hy
    unfold cTl at hx
    dsimp only at hx
    have hA := after_nI hP
    have hwr : ∀ n : Nat, n < 256 → f_X3_encode (nI o) (nI v) (nI n) &&& 1048575 = f_X7_coded (nI o) (nI v) (nI n) &&& 1048575 := fun n hn => enc_eq ho hv1 hn
    have hwr2 : f_X3_encode (nI o) (nI v) (f_X0_placeAfter pl) &&& 1048575 = f_X7_coded (nI o) (nI v) (f_X7_after plc) &&& 1048575 := by
      rw [hpl, hplc, hA.1, hA.2]
      exact hwr _ (by omega)
    by_cases ck : ki = 1
    · rw [if_neg (fun z => hlet.mp z ck), here_2 hL hp, w1] at hy
      dsimp only at hy
      obtain ⟨te1, te2⟩ := w4 ck
      by_cases c19 : f_X0_tokenIs (nI L) ki ts te text 19 = 0
      · -- another word: both fail there
        rw [if_pos c19] at hx
        rw [if_neg (fun z => (w6 19 (by decide)).mp c19 ((V_eq wc_th).mp z)), wrong_0] at hy
        dsimp only at hy
        have hfz := loc7_frz (L := L) (text := text) (ec := 1) (ep := ts) (pos := nI e) h10
        generalize f_X7_readLocation (nI L) 1 ts (nI e) 1 text = t16 at *
        have f4 : t16.2.2.2.2 = 1 := by rw [hfz]
        have f1 : t16.2.1 = 1 := by rw [hfz]
        have f2 : t16.2.2.1 = ts := by rw [hfz]
        rw [if_neg (by rw [f4]; exact h10)] at hy
        subst hx hy
        dsimp only at hc hd
        rw [sign_frz (by rw [f4]; exact h10)] at hd
        have hsy : f_X0_readSymbol (nI L) 0 ep ki ts te nu text 59 = (1, ts, ki, ts, te, nu) := by
          unfold f_X0_readSymbol
          rw [if_neg (by rw [ck]; decide), fail_0]
        rw [hsy] at hc
        subst hc hd
        dsimp only
        exact ⟨JR.err f1.symm f2.symm h10 (by rw [f4]; exact h10), fun z => absurd z h10⟩
      · rw [if_neg c19] at hx
        have hV : V = 399641 := (V_eq wc_th).mpr (Decidable.byContradiction fun z => c19 ((w6 19 (by decide)).mpr z))
        rw [if_pos hV] at hy
        rw [te1] at hx
        have hT := TK.next (text := text) hL w3 ki nu
        generalize f_X0_readToken (nI L) ki (nI e) nu text = t22 at *
        obtain ⟨q1, q2, q3⟩ := loc_JR hL (JR.ok (ep := ep) w3 hT) rfl rfl
        generalize f_X0_readLocation (nI L) 0 ep t22.1 t22.2.1 t22.2.2.1 t22.2.2.2 text = t23 at *
        generalize f_X7_readLocation (nI L) 0 ep (nI e) 0 text = t12 at *
        have hbo := q1.both
        obtain ⟨r1, r2⟩ := sym_JR (s := 59) hL (Or.inr rfl) q1
        have mo := fun z => sym_mono (L := L) (text := text) (ec := t23.2.1) (ep := t23.2.2.1) (ki := t23.2.2.2.1) (ts := t23.2.2.2.2.1) (te := t23.2.2.2.2.2.1) (nu := t23.2.2.2.2.2.2) (s := 59) z
        subst hx
        dsimp only at hc ⊢
        rw [hc] at r1 r2 mo
        by_cases hbb : t12.2.2.2.2 = 0
        · rw [if_pos hbb] at hy
          subst hy
          dsimp only at hd ⊢
          rw [hd] at r1 r2
          refine ⟨r1, fun z => ⟨rfl, ?_, fun p0 ep0 hp0 => ?_⟩⟩
          · obtain ⟨-, u, hu, u1, u2⟩ := q2 (hbo.mpr hbb)
            rw [u1, u2]
            exact hPW.write hw0 (hwr u hu)
          · have z0 := hbo.mpr hbb
            obtain ⟨p1, g1, g2, g3⟩ := q3 e rfl rfl w3 z0
            obtain ⟨p2, g4, g5, g6⟩ := r2 p1 z0 g3 g2 z
            have := (nI_eq (by omega) (by omega)).mp ep0
            exact ⟨p2, by omega, g5, g6⟩
        · rw [if_neg hbb] at hy
          subst hy
          dsimp only at hd ⊢
          rw [hd] at r1 r2
          exact ⟨r1, fun z => absurd (hbo.mp (Decidable.byContradiction fun y => y ((mo y).symm.trans z))) hbb⟩
    · rw [if_pos (hlet.mpr ck), here_2 hL hp] at hy
      have c19 : f_X0_tokenIs (nI L) ki ts te text 19 = 0 := if_neg ck
      rw [if_pos c19] at hx
      subst hx hy
      dsimp only at hc hd ⊢
      obtain ⟨r1, r2⟩ := sym_JR (s := 59) hL (Or.inr rfl) (JR.ok (ep := ep) hq.2 hts)
      rw [hc, hd] at r1 r2
      refine ⟨r1, fun z => ⟨rfl, hPW.write hw0 hwr2, fun p0 ep0 hp0 => ?_⟩⟩
      obtain ⟨p2, g4, g5, g6⟩ := r2 _ rfl rfl hq.2 z
      have := (nI_eq (by omega) (by omega)).mp ep0
      exact ⟨p2, by omega, g5, g6⟩
  · have hb : ¬ bad = 0 := fun z => he (h.both.mpr z)
    have hfz := cTl_frz (L := L) (text := text) (p := nI o) (a := a) (ep := ep) (wcn := wcn) (pl := pl) (ki := ki) (ts := ts) (te := te) (nu := nu) (words := words) (wri := wri) he
    rw [hx] at hfz
    have hs := sym_frz (L := L) (text := text) (ec := x.1) (ep := x.2.1) (ki := x.2.2.2.2.1) (ts := x.2.2.2.2.2.1) (te := x.2.2.2.2.2.2.1) (nu := x.2.2.2.2.2.2.2.1) (s := 59) (by rw [hfz.1]; exact he)
    rw [hc, hfz.1, hfz.2] at hs
    unfold insT at hy
    rw [if_neg hb] at hy
    subst hy
    dsimp only at hd
    rw [sign_frz hb] at hd
    subst hd
    dsimp only
    exact ⟨JR.err (hs.1.trans h.1) (hs.2.trans h.2.1) (by rw [hs.1]; exact he) hb, fun z => absurd (hs.1.symm.trans z) he⟩
end pureT
