/-! OWN: small lemmas -/
theorem gIteZ {α : Type} {Q c : Prop} [Decidable c] {x y z : α} (hz : z = if c then x else y) (hx : c → z = x → Q) (hy : ¬ c → z = y → Q) : Q := by
  by_cases h : c
  · rw [if_pos h] at hz; exact hx h hz
  · rw [if_neg h] at hz; exact hy h hz
theorem cntLt {x : Int32} {k : Nat} (h : k < x.toNatClampNeg) : ¬ x ≤ nI k := by
  have h2 : x.toNatClampNeg = x.toInt.toNat := rfl
  have h3 := gI_hi x
  have e := nI_toInt (n := k) (by omega)
  rw [gI_le]; omega
theorem cntEq {x : Int32} (h : 0 ≤ x.toInt) : x ≤ nI x.toNatClampNeg := by
  rw [← gI_nI h]; exact Int32.le_refl _
section gNews
variable {p : Program} {l : Launch} {e : Env} {R : Room} {s : State} {m : MethodId} {args : Array Value} {below : List Frame} {meth : Method} {c : Code} {H : Heap} {locs : List Loc} {cells slots : Nat} {Q : State → Prop} {G : gG}
variable {cc : ByteArray} {pc : Nat} {rest : List Value} {ws : va_W} {A : Nat → Prop} {ls : Array Slot}
theorem gNewa {atype : ArrayType} {ty : FieldType} (hexec : p.tables.exec = Jvm.exec) (hb : c.code = cc) (harr : (Cond.arrayClass (newarray.typeOf atype)).before args s = true) (hty : newarray.typeOf atype = ty) (hK : va_K G.1 vwCl (gTy G) s) (hP : va_P G.1 vwCl ws H) (hD : va_D A ws) (hS : va_S A s.heap H locs) (hA : ∀ q, s.heap.size ≤ q → A q) (t0 : Nat) {cG : ClassId} (ht0 : (gTy G)[t0]? = some (cG, ty))
    {x : Int32} {N' : Nat} {a0 : vp_A} (ha : ∀ cA : ClassId, vp_cell cA a0 = arrV cA N' (fun _ => defaultValue ty)) (hn : ¬ x < 0) (hN : x.toNatClampNeg = N') (hbytes : N' * componentBytes ty ≤ 536870912) (hcells : cells + 1 ≤ R.cells) (hslots : slots + N' ≤ R.slots) (hdg : decode cc pc = .ok (.newarray atype, 2))
    (kk : ∀ (q : Nat) (H1 : Heap), va_P G.1 vwCl (ws ++ [(q, .inl (cG, a0))]) H1 → va_D A (ws ++ [(q, .inl (cG, a0))]) → va_S A s.heap H1 locs →
      W p l e R s m args below meth c H1 locs (cells + 1) (slots + N') Q (F0 m (pc + 2) ls (.ref q :: rest))) : W p l e R s m args below meth c H locs cells slots Q (F0 m pc ls (.int x :: rest)) := by
  refine va_newa hexec hb harr hty hK hP hD hS hA ha hn hN hbytes hcells hslots hdg (fun q cA H1 hK1 hP1 hD1 hS1 => ?_)
  have h1 := (hK1.2 (gTy G).length (cA, ty) (by simp)).2
  have h2 := (hK.2 t0 (cG, ty) ht0).2
  subst hty
  have e : cA = cG := by cases atype <;> exact Option.some.inj (Eq.trans (Eq.symm (show s.vm.findClass _ = some cA from h1)) h2)
  subst e
  exact kk q H1 hP1 hD1 hS1
end gNews
