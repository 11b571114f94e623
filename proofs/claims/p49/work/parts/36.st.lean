/-! OWN BASE 3: the two statics that constructors read -/
def gSt (G : gG) (A : Nat → Prop) (U : State) : Prop := va_Z "java/lang/String" "COMPACT_STRINGS" "Z" (.int 1) A U U.heap ∧ va_Z "java/util/ArrayList" "DEFAULTCAPACITY_EMPTY_ELEMENTDATA" "[Ljava/lang/Object;" (.ref G.2.2) A U U.heap
def gPx (G : gG) (as : List Value) (ws : va_W) (sz : Nat) : Array Value → State → Prop := va_Pc as (fun U => U.heap.size = sz ∧ va_P G.1 vwCl ws U.heap ∧ va_K G.1 vwCl (gTy G) U ∧ va_D (fun _ => True) ws ∧ gEnv G U ∧ gSt G (va_A ws sz) U)
theorem gPx_blind {G : gG} {as : List Value} {ws : va_W} {sz : Nat} : FrameBlind (gPx G as ws sz) := fun a U g mk q => by
  obtain ⟨q0, q1, qP, qK, qD, qN, qS⟩ := q
  exact ⟨q0, q1, qP, va_K.moved (u := U) (U := U.calling g mk a) (Vm.Alike.refl U.vm) qK, qD, gEnv.same (s := U) (U := U.calling g mk a) rfl qN, va_Z.moved (u := U) (U := U.calling g mk a) (Vm.Alike.refl U.vm) qS.1, va_Z.moved (u := U) (U := U.calling g mk a) (Vm.Alike.refl U.vm) qS.2⟩
section gSts
variable {s : State} {H : Heap} {locs : List Loc} {G : gG} {ws wc : va_W} {A : Nat → Prop}
theorem gSt.at {U : State} (hSt : gSt G A s) (hD : va_D A ws) (hS : va_S A s.heap H locs) (hA : ∀ q, s.heap.size ≤ q → A q) (isC : List Nat) (hC : isC.map (fun i => ws[i]?) = wc.map some) (hU : U.heap = H) (hvm : s.vm.Alike U.vm) : gSt G (va_A wc H.size) U := by
  have hF := va_free (wc := wc) hD hS hA isC hC
  refine ⟨?_, ?_⟩
  · rw [hU]; exact ((hSt.1.kept (fun a h1 h2 => hS.2.1 a h1 h2)).narrow hF).moved hvm
  · rw [hU]; exact ((hSt.2.kept (fun a h1 h2 => hS.2.1 a h1 h2)).narrow hF).moved hvm
end gSts
