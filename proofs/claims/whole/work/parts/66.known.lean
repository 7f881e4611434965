/-! the law: what is known of the machine at its start -/
theorem bw_arr {U : State} {cA : ClassId} {ty : FieldType} {k : Class} {comp : ClassId} (h1 : U.vm.classes[cA]? = some k) (h2 : k.kind = .array comp ty) : ArrOfT U cA ty := fun n z => ⟨fun k h => (by cases h), k, h1, comp, h2⟩
theorem bw_tysK {args : Array Value} {s : State} {dC : Nat → ClassId} {dI : Nat → Nat → Nat} (hc : ∀ (k : Nat) (q : vw_C), vwCl[k]? = some q → u_Kn s q.1 q.2.1 q.2.2 (dC k) (dI k))
    (h1 : (Cond.arrayClass .int).before args s = true) (h2 : (Cond.arrayClass .long).before args s = true) (h3 : (Cond.arrayOver (.object "BidMarket$Tape")).before args s = true) (h4 : (Cond.arrayOver (.array .int)).before args s = true) (h5 : (Cond.arrayOver (.array .long)).before args s = true) :
    ∃ cI cJ cT cII cJJ : ClassId, va_K (dC, dI) vwCl (bw_tys cI cJ cT cII cJJ) s := by
  obtain ⟨cI, kI, pI, a1, a2, a3⟩ := Cond.arrayClass_spec h1
  obtain ⟨cJ, kJ, pJ, b1, b2, b3⟩ := Cond.arrayClass_spec h2
  obtain ⟨pT, cT, kT, t1, t2, t3, t4, t5⟩ := Cond.arrayOver_spec h3
  obtain ⟨pII, cII, kII, i1, i2, i3, i4, i5⟩ := arrayOverA_spec h4
  obtain ⟨pJJ, cJJ, kJJ, j1, j2, j3, j4, j5⟩ := arrayOverA_spec h5
  refine ⟨cI, cJ, cT, cII, cJJ, hc, fun k q hq => ?_⟩
  match k, hq with
  | 0, hq => cases hq; exact ⟨bw_arr a2 a3, a1⟩
  | 1, hq => cases hq; exact ⟨bw_arr b2 b3, b1⟩
  | 2, hq => cases hq; exact ⟨bw_arr t3 t4, kT, pT, t3, t4, t1, t5⟩
  | 3, hq => cases hq; exact ⟨bw_arr i3 i4, i5⟩
  | 4, hq => cases hq; exact ⟨bw_arr j3 j4, j5⟩
  | k + 5, hq => simp [bw_tys] at hq
theorem bw_SCof {args : Array Value} {s : State} {A : Nat → Prop} (hts : ∀ w ∈ lw_tbl, w.before args s = true) (hg : (Jvm.Cond.and given_1 narrow_1).before args s = true) (hA : ∀ a : Nat, a < s.heap.size → ¬ A a) : ∃ sc : Nat, bw_SC sc A s s.heap := by
  have hs := flat_of_before _ hg
  have e0 := va_eqt (hs (Cond.eq (Term.elem (Term.static "BidMarket$Market" "SCALE" "[I") (Term.int 0)) (Term.int 50)) (by decide +kernel))
  have e1 := va_eqt (hs (Cond.eq (Term.elem (Term.static "BidMarket$Market" "SCALE" "[I") (Term.int 1)) (Term.int 10)) (by decide +kernel))
  have e2 := va_eqt (hs (Cond.eq (Term.elem (Term.static "BidMarket$Market" "SCALE" "[I") (Term.int 2)) (Term.int 2)) (by decide +kernel))
  have e3 := va_eqt (hs (Cond.eq (Term.elem (Term.static "BidMarket$Market" "SCALE" "[I") (Term.int 3)) (Term.int 1)) (by decide +kernel))
  have el := va_eqt (hs (Cond.eq (Term.length (Term.static "BidMarket$Market" "SCALE" "[I")) (Term.int 4)) (by decide +kernel))
  have ha := hs (Cond.arrayOf (Term.static "BidMarket$Market" "SCALE" "[I") .int) (by decide +kernel)
  obtain ⟨t, h1, h2⟩ := va_Tof (N := 4) (f := fun j => .int (bw_scale j)) (A := A) (by decide) ha el (fun j hj => match j, hj with | 0, _ => e0 | 1, _ => e1 | 2, _ => e2 | 3, _ => e3 | j + 4, h => absurd h (by omega)) hA
  exact ⟨t, va_Zref (hts (Cond.laysStatic "BidMarket$Market" "SCALE" "[I") (by decide +kernel)) (hts (Cond.initialized "BidMarket$Market") (by decide +kernel)) h1 hA, h2⟩
theorem bw_Xof {args : Array Value} {s : State} (hts : ∀ w ∈ lw_tbl, w.before args s = true) : bw_X s :=
  ⟨hts (Cond.arrayOver (.array .int)) (by decide +kernel), hts (Cond.arrayOver (.array .long)) (by decide +kernel), hts (Cond.arrayOver (.object "BidMarket$Tape")) (by decide +kernel),
    va_tabs rfl rfl (hts (.methodLinkNest RX7 11 yX1_init RX7) (by decide +kernel)), va_tabs rfl rfl (hts (.methodLinkNest RX7 30 yX3_init RX7) (by decide +kernel)), va_tabs rfl rfl (hts (.methodLinkNest RX7 37 yX6_init RX7) (by decide +kernel)), va_tabs rfl rfl (hts (.methodLinkNest RX7 44 yX0_init RX7) (by decide +kernel)), va_tabs rfl rfl (hts (.methodLinkNest RX7 59 yX5_init RX7) (by decide +kernel))⟩
