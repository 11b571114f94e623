/-! OWN BASE 2: rows of two instructions, remainders, booleans -/
theorem k_im_obj : Cond.instanceMethod Lib.objectInit ∈ gT := gT_tab (i := 39) (by decide +kernel) (by decide +kernel)
theorem k_cd_obj : Cond.code Lib.objectInit ⟨#[0xb1]⟩ 1 none ∈ gT := gT_tab (i := 40) (by decide +kernel) (by decide +kernel)
def gUshr (x y : Int32) : Int32 := (x.toUInt32 >>> (y.toUInt32 &&& Int32.toUInt32 31)).toInt32
def g01 (v : Int32) : Prop := v = 0 ∨ v = 1
theorem g01_0 : g01 0 := Or.inl rfl
theorem g01_1 : g01 1 := Or.inr rfl
theorem gNz {v : Int32} (h : g01 v) : narrow .boolean (.int v) = .int v := by rcases h with rfl | rfl <;> rfl
theorem gFz {v : Int32} (h : g01 v) : fits .boolean (.int v) = true := by rcases h with rfl | rfl <;> rfl
theorem gNarZ {v : Int32} (h : g01 v) : vp_nar .boolean v = v := by rcases h with rfl | rfl <;> rfl
section gRows
variable {p : Program} {l : Launch} {e : Env} {R : Room} {s : State} {m : MethodId} {args : Array Value} {below : List Frame} {meth : Method} {c : Code} {H : Heap} {locs : List Loc} {cells slots : Nat} {Q : State → Prop}
variable {cc : ByteArray} {pc tgt nL idx : Nat} {ls : Array Slot} {rest : List Value} {off : Int} {own : String}
theorem gIrem {x y : Int32} (hx : p.tables.exec = Jvm.exec) (hb : c.code = cc) (hdg : decode cc pc = .ok (.irem, 1)) (hne : ¬ y = 0) (k : W p l e R s m args below meth c H locs cells slots Q (F0 m (pc + 1) ls (.int (x % y) :: rest))) : W p l e R s m args below meth c H locs cells slots Q (F0 m pc ls (.int y :: .int x :: rest)) :=
  lv_irem hx hb hdg hne (by rw [irem_eq_mod]; exact k)
theorem gIald {D : va_G} {cl : List vw_C} {ws : va_W} {tys : List (ClassId × FieldType)} {a : Nat} (hx : p.tables.exec = Jvm.exec) (hb : c.code = cc) (hK : va_K D cl tys s) (hP : va_P D cl ws H) (q0 t0 : Nat) {cA : ClassId} {n : Nat} {f : Nat → Int32} (ha : ws[q0]? = some (a, .inl (cA, n, .inl f))) (ht : tys[t0]? = some (cA, .int)) {i : Int32} {k : Nat} (hi : i.toNatClampNeg = k) (hin : vp_in i n) (hdg : decode cc pc = .ok (.iaload, 1))
    (kk : W p l e R s m args below meth c H locs cells slots Q (F0 m (pc + 1) ls (.int (f k) :: rest))) : W p l e R s m args below meth c H locs cells slots Q (F0 m pc ls (.int i :: .ref a :: rest)) :=
  va_iald hx hb hK hP q0 t0 ha ht hin hdg (by rw [hi]; exact kk)
theorem gIast {D : va_G} {cl : List vw_C} {ws : va_W} {tys : List (ClassId × FieldType)} {a : Nat} {A : Nat → Prop} {H0 : Heap} (hx : p.tables.exec = Jvm.exec) (hb : c.code = cc) (hK : va_K D cl tys s) (hP : va_P D cl ws H) (hD : va_D A ws) (hS : va_S A H0 H locs) (q0 t0 : Nat) {cA : ClassId} {n : Nat} {f : Nat → Int32} (ha : ws[q0]? = some (a, .inl (cA, n, .inl f))) (ht : tys[t0]? = some (cA, .int)) {i x : Int32} {k : Nat} (hi : i.toNatClampNeg = k) (hin : vp_in i n) (hdg : decode cc pc = .ok (.iastore, 1))
    (kk : ∀ (H1 : Heap) (locs1 : List Loc), va_P D cl (ws.set q0 (a, .inl (cA, n, .inl (upd f k x)))) H1 → va_D A (ws.set q0 (a, .inl (cA, n, .inl (upd f k x)))) → va_S A H0 H1 locs1 → W p l e R s m args below meth c H1 locs1 cells slots Q (F0 m (pc + 1) ls rest)) : W p l e R s m args below meth c H locs cells slots Q (F0 m pc ls (.int x :: .int i :: .ref a :: rest)) := by
  subst hi
  exact va_iast hx hb hK hP hD hS q0 t0 ha ht hin hdg kk
theorem gLc_lt {x y : Int64} (hx : p.tables.exec = Jvm.exec) (hb : c.code = cc) (h1 : decode cc pc = .ok (.lcmp, 1)) (h2 : decode cc (pc + 1) = .ok (.ifCond .lt off, 3)) (ht : ((pc + 1 : Nat) : Int) + off = (tgt : Int)) (kt : x < y → W p l e R s m args below meth c H locs cells slots Q (F0 m tgt ls rest)) (kf : ¬ x < y → W p l e R s m args below meth c H locs cells slots Q (F0 m (pc + 1 + 3) ls rest)) : W p l e R s m args below meth c H locs cells slots Q (F0 m pc ls (.long y :: .long x :: rest)) :=
  W.lcmp hx hb h1 (lv_if_lt hx hb h2 ht (fun c => kt ((lg_cmp_lt x y).mp c)) (fun c => kf (fun q => c ((lg_cmp_lt x y).mpr q))))
theorem gLc_ge {x y : Int64} (hx : p.tables.exec = Jvm.exec) (hb : c.code = cc) (h1 : decode cc pc = .ok (.lcmp, 1)) (h2 : decode cc (pc + 1) = .ok (.ifCond .ge off, 3)) (ht : ((pc + 1 : Nat) : Int) + off = (tgt : Int)) (kt : y ≤ x → W p l e R s m args below meth c H locs cells slots Q (F0 m tgt ls rest)) (kf : ¬ y ≤ x → W p l e R s m args below meth c H locs cells slots Q (F0 m (pc + 1 + 3) ls rest)) : W p l e R s m args below meth c H locs cells slots Q (F0 m pc ls (.long y :: .long x :: rest)) :=
  W.lcmp hx hb h1 (lv_if_ge hx hb h2 ht (fun c => kt ((lg_cmp_ge x y).mp c)) (fun c => kf (fun q => c ((lg_cmp_ge x y).mpr q))))
theorem gLc_gt {x y : Int64} (hx : p.tables.exec = Jvm.exec) (hb : c.code = cc) (h1 : decode cc pc = .ok (.lcmp, 1)) (h2 : decode cc (pc + 1) = .ok (.ifCond .gt off, 3)) (ht : ((pc + 1 : Nat) : Int) + off = (tgt : Int)) (kt : y < x → W p l e R s m args below meth c H locs cells slots Q (F0 m tgt ls rest)) (kf : ¬ y < x → W p l e R s m args below meth c H locs cells slots Q (F0 m (pc + 1 + 3) ls rest)) : W p l e R s m args below meth c H locs cells slots Q (F0 m pc ls (.long y :: .long x :: rest)) :=
  W.lcmp hx hb h1 (lv_if_gt hx hb h2 ht (fun c => kt ((lg_cmp_gt x y).mp c)) (fun c => kf (fun q => c ((lg_cmp_gt x y).mpr q))))
theorem gLc_le {x y : Int64} (hx : p.tables.exec = Jvm.exec) (hb : c.code = cc) (h1 : decode cc pc = .ok (.lcmp, 1)) (h2 : decode cc (pc + 1) = .ok (.ifCond .le off, 3)) (ht : ((pc + 1 : Nat) : Int) + off = (tgt : Int)) (kt : x ≤ y → W p l e R s m args below meth c H locs cells slots Q (F0 m tgt ls rest)) (kf : ¬ x ≤ y → W p l e R s m args below meth c H locs cells slots Q (F0 m (pc + 1 + 3) ls rest)) : W p l e R s m args below meth c H locs cells slots Q (F0 m pc ls (.long y :: .long x :: rest)) :=
  W.lcmp hx hb h1 (lv_if_le hx hb h2 ht (fun c => kt ((lg_cmp_le x y).mp c)) (fun c => kf (fun q => c ((lg_cmp_le x y).mpr q))))
theorem gLc_eq {x y : Int64} (hx : p.tables.exec = Jvm.exec) (hb : c.code = cc) (h1 : decode cc pc = .ok (.lcmp, 1)) (h2 : decode cc (pc + 1) = .ok (.ifCond .eq off, 3)) (ht : ((pc + 1 : Nat) : Int) + off = (tgt : Int)) (kt : x = y → W p l e R s m args below meth c H locs cells slots Q (F0 m tgt ls rest)) (kf : ¬ x = y → W p l e R s m args below meth c H locs cells slots Q (F0 m (pc + 1 + 3) ls rest)) : W p l e R s m args below meth c H locs cells slots Q (F0 m pc ls (.long y :: .long x :: rest)) :=
  W.lcmp hx hb h1 (lv_if_eq hx hb h2 ht (fun c => kt ((lg_cmp_eq x y).mp c)) (fun c => kf (fun q => c ((lg_cmp_eq x y).mpr q))))
theorem gLc_ne {x y : Int64} (hx : p.tables.exec = Jvm.exec) (hb : c.code = cc) (h1 : decode cc pc = .ok (.lcmp, 1)) (h2 : decode cc (pc + 1) = .ok (.ifCond .ne off, 3)) (ht : ((pc + 1 : Nat) : Int) + off = (tgt : Int)) (kt : ¬ x = y → W p l e R s m args below meth c H locs cells slots Q (F0 m tgt ls rest)) (kf : x = y → W p l e R s m args below meth c H locs cells slots Q (F0 m (pc + 1 + 3) ls rest)) : W p l e R s m args below meth c H locs cells slots Q (F0 m pc ls (.long y :: .long x :: rest)) :=
  W.lcmp hx hb h1 (lv_if_ne hx hb h2 ht (fun c => kt (fun q => c ((lg_cmp_eq x y).mpr q))) (fun c => kf ((lg_cmp_eq x y).mp c)))
end gRows
theorem k_na_ac : Cond.native arraycopyName ∈ gT := gT_tab (i := 537) (by decide +kernel) (by decide +kernel)
theorem k_st_ac : Cond.static arraycopyName ∈ gT := gT_tab (i := 536) (by decide +kernel) (by decide +kernel)
/-! NEST -/
theorem kn_X6_11 : (RX6, 11, yX2_init, "DelayLineStore") ∈ gNest := by decide +kernel
theorem kn_X2_11 : (RX2, 11, yX5_init, "DelayLineStore") ∈ gNest := by decide +kernel
theorem kn_X2_27 : (RX2, 27, yX4_init, "DelayLineStore") ∈ gNest := by decide +kernel
theorem kn_X6_27 : (RX6, 27, yX0_init, "DelayLineStore") ∈ gNest := by decide +kernel
theorem kn_X5_21 : (RX5, 21, yX6_wrap, "DelayLineStore") ∈ gNest := by decide +kernel
theorem kn_X2_129 : (RX2, 129, yX6_waitingUntil, "DelayLineStore") ∈ gNest := by decide +kernel
theorem kn_X1_38 : (RX1, 38, yX6_delayOf, "DelayLineStore") ∈ gNest := by decide +kernel
theorem kn_X2_145 : (RX2, 145, yX6_mismatchOf, "DelayLineStore") ∈ gNest := by decide +kernel
theorem kn_X5_26 : (RX5, 26, yX6_locationOf, "DelayLineStore") ∈ gNest := by decide +kernel
theorem kn_X5_51 : (RX5, 51, yX6_cycleOf, "DelayLineStore") ∈ gNest := by decide +kernel
theorem kn_X3_9 : (RX3, 9, yX6_locationOf, "DelayLineStore") ∈ gNest := by decide +kernel
theorem kn_X2_105 : (RX2, 105, yX6_cycleOf, "DelayLineStore") ∈ gNest := by decide +kernel
theorem kn_X2_108 : (RX2, 108, yX6_wrap, "DelayLineStore") ∈ gNest := by decide +kernel
theorem kn_X3_13 : (RX3, 13, yX6_cycleOf, "DelayLineStore") ∈ gNest := by decide +kernel
theorem kn_X5_61 : (RX5, 61, yX6_copyRow, "DelayLineStore") ∈ gNest := by decide +kernel
theorem kn_X1_49 : (RX1, 49, yX6_copyRow, "DelayLineStore") ∈ gNest := by decide +kernel
theorem kn_X4_22 : (RX4, 22, yX6_copyRow, "DelayLineStore") ∈ gNest := by decide +kernel
theorem kn_X2_175 : (RX2, 175, yX6_copyRow, "DelayLineStore") ∈ gNest := by decide +kernel
theorem kn_L_229 : (RL, 229, yX8_init, "DelayLineStoreLaw") ∈ gNest := by decide +kernel
theorem kf_L_182 : (RL, 182, "DelayLineStoreLaw$Machine", "bits", "[[Z", "DelayLineStoreLaw") ∈ gNestF := by decide +kernel
theorem kf_L_104 : (RL, 104, "DelayLineStoreLaw$Machine", "warm", "[I", "DelayLineStoreLaw") ∈ gNestF := by decide +kernel
theorem kf_L_111 : (RL, 111, "DelayLineStoreLaw$Machine", "slips", "[I", "DelayLineStoreLaw") ∈ gNestF := by decide +kernel
theorem kf_L_133 : (RL, 133, "DelayLineStoreLaw$Machine", "counts", "[[I", "DelayLineStoreLaw") ∈ gNestF := by decide +kernel
theorem kf_L_193 : (RL, 193, "DelayLineStoreLaw$Machine", "in", "Ljava/util/ArrayList;", "DelayLineStoreLaw") ∈ gNestF := by decide +kernel
theorem kf_L_88 : (RL, 88, "DelayLineStoreLaw$Machine", "out", "Ljava/util/ArrayList;", "DelayLineStoreLaw") ∈ gNestF := by decide +kernel
theorem kf_L_36 : (RL, 36, "DelayLineStoreLaw$Machine", "time", "I", "DelayLineStoreLaw") ∈ gNestF := by decide +kernel
theorem kf_L_44 : (RL, 44, "DelayLineStoreLaw$Machine", "acc", "I", "DelayLineStoreLaw") ∈ gNestF := by decide +kernel
theorem kf_L_55 : (RL, 55, "DelayLineStoreLaw$Machine", "tank", "I", "DelayLineStoreLaw") ∈ gNestF := by decide +kernel
theorem kf_L_58 : (RL, 58, "DelayLineStoreLaw$Machine", "cycle", "I", "DelayLineStoreLaw") ∈ gNestF := by decide +kernel
theorem kf_L_50 : (RL, 50, "DelayLineStoreLaw$Machine", "state", "I", "DelayLineStoreLaw") ∈ gNestF := by decide +kernel
theorem kf_L_64 : (RL, 64, "DelayLineStoreLaw$Machine", "done", "I", "DelayLineStoreLaw") ∈ gNestF := by decide +kernel
theorem kf_L_70 : (RL, 70, "DelayLineStoreLaw$Machine", "waited", "I", "DelayLineStoreLaw") ∈ gNestF := by decide +kernel
theorem kf_L_75 : (RL, 75, "DelayLineStoreLaw$Machine", "dropouts", "I", "DelayLineStoreLaw") ∈ gNestF := by decide +kernel
theorem kf_L_155 : (RL, 155, "DelayLineStoreLaw$Machine", "oven", "I", "DelayLineStoreLaw") ∈ gNestF := by decide +kernel
theorem kf_L_161 : (RL, 161, "DelayLineStoreLaw$Machine", "pilot", "I", "DelayLineStoreLaw") ∈ gNestF := by decide +kernel
theorem kf_L_174 : (RL, 174, "DelayLineStoreLaw$Machine", "fixed", "I", "DelayLineStoreLaw") ∈ gNestF := by decide +kernel
theorem kf_L_167 : (RL, 167, "DelayLineStoreLaw$Machine", "isPilot", "Z", "DelayLineStoreLaw") ∈ gNestF := by decide +kernel
theorem kf_L_81 : (RL, 81, "DelayLineStoreLaw$Machine", "isOver", "Z", "DelayLineStoreLaw") ∈ gNestF := by decide +kernel
