set_option maxHeartbeats 4000000 in
set_option maxRecDepth 100000 in
theorem mX0_tell (l : Launch) (dC : Nat → ClassId) (dI : Nat → Nat → Nat) (cI cJ cT cII cJJ : ClassId) (ad : Nat → Nat) (sz : Nat) (ck : Int32) (cc : Int32) (cd : Int32) (a1 : Int32) (a2 : Int32) (a3 : Int32) (Post : Int32 → Int32 → Int32 → Prop) (hw : wpX0_tell ck cc cd a1 a2 a3 Post) : Met l yX0_tell wsX0_tell ({ frames := 0, cells := 0, slots := 0, locals := 0 } : Room) (va_Pc [.ref (ad 0), .int a1, .int a2, .int a3] (fun U => U.heap.size = sz ∧ va_P (dC, dI) vwCl (wdX0_tell cI cJ cT cII cJJ ad ck cc cd) U.heap ∧ va_K (dC, dI) vwCl (bw_tys cI cJ cT cII cJJ) U ∧ va_D (fun _ => True) (wdX0_tell cI cJ cT cII cJJ ad ck cc cd))) (va_Qv (fun (u : Int32 × Int32 × Int32) => Post u.1 u.2.1 u.2.2) (fun (u : Int32 × Int32 × Int32) t => va_P (dC, dI) vwCl (wdX0_tell cI cJ cT cII cJJ ad u.1 u.2.1 u.2.2) t.heap) (va_A (wdX0_tell cI cJ cT cII cJJ ad ck cc cd) sz)) 0 0 (va_A (wdX0_tell cI cJ cT cII cJJ ad ck cc cd) sz) := by
  refine Met.ofW (cc := cX0_tell) (maxL := 4) (ret := none) (by decide) rfl ?_
  intro p e s m args below meth c s₁ B hml hv
  obtain ⟨rfl, hsz, hP, hK, hD0⟩ := hv
  have hx := B.exec
  have hb := B.bytes
  have hr := B.returns
  have hts := atoms_spec (ws := wsX0_tell) B.pre
  have hown : s.vm.findClass RX0 = some m.cls := findClass_of_methodNamed B.named
  have hlocks := B.notSynchronized
  subst hsz
  have hD := hD0.self (sz := s.heap.size)
  generalize hAe : va_A (wdX0_tell cI cJ cT cII cJJ ad ck cc cd) s.heap.size = A at hD ⊢
  have hA : ∀ q : Nat, s.heap.size ≤ q → A q := fun q h => by rw [← hAe]; exact Or.inr h
  have hS : va_S A s.heap s.heap [] := va_S.rf
  have hl := lv_entry ([.ref (ad 0), .int a1, .int a2, .int a3]) (n := 4) (Nat.le_of_ble_eq_true rfl)
  rw [lg_entry_eq]
  generalize (lg_sl ([.ref (ad 0), .int a1, .int a2, .int a3]) ++ List.replicate (4 - (lg_sl ([.ref (ad 0), .int a1, .int a2, .int a3])).length) Slot.unset).toArray = ls at hl ⊢
  have hl : lv_has ls 4 [(0, .ref (ad 0)), (1, .int a1), (2, .int a2), (3, .int a3)] := hl
  unfold wpX0_tell at hw
  refine lv_aload_n hx hb dX0_tell_0 rfl (lv_at hl 0 rfl) ?_
  refine lv_iload_n hx hb dX0_tell_1 rfl (lv_at hl 1 rfl) ?_
  refine va_put (D := (dC, dI)) (ci := 0) (v := .int a1) (ty := .int) (C := RX0) (T := TX0) (N := 3) hx hb hts (fun w h => List.mem_cons_of_mem _ (List.mem_append_right _ h)) tyX0 tyX0_ok nmX0 hown hK hP hD hS 0 rfl rfl 0 (by decide) (hts (.fieldLink RX0 9 "BidMarket$Complaint" "kind" "I") (List.mem_of_getElem? (i := 1) rfl)) (fun _ h9 => h9) rfl (by decide +kernel) rfl rfl (Nat.le_of_ble_eq_true rfl) dX0_tell_2 (fun H locs hP hD hS => ?_)
  have hP : va_P (dC, dI) vwCl (wdX0_tell cI cJ cT cII cJJ ad a1 cc cd) H := hP
  have hD : va_D A (wdX0_tell cI cJ cT cII cJJ ad a1 cc cd) := hD
  refine lv_aload_n hx hb dX0_tell_5 rfl (lv_at hl 0 rfl) ?_
  refine lv_iload_n hx hb dX0_tell_6 rfl (lv_at hl 2 rfl) ?_
  refine va_put (D := (dC, dI)) (ci := 0) (v := .int a2) (ty := .int) (C := RX0) (T := TX0) (N := 3) hx hb hts (fun w h => List.mem_cons_of_mem _ (List.mem_append_right _ h)) tyX0 tyX0_ok nmX0 hown hK hP hD hS 0 rfl rfl 1 (by decide) (hts (.fieldLink RX0 15 "BidMarket$Complaint" "cause" "I") (List.mem_of_getElem? (i := 2) rfl)) (fun _ h9 => h9) rfl (by decide +kernel) rfl rfl (Nat.le_of_ble_eq_true rfl) dX0_tell_7 (fun H locs hP hD hS => ?_)
  have hP : va_P (dC, dI) vwCl (wdX0_tell cI cJ cT cII cJJ ad a1 a2 cd) H := hP
  have hD : va_D A (wdX0_tell cI cJ cT cII cJJ ad a1 a2 cd) := hD
  refine lv_aload_n hx hb dX0_tell_10 rfl (lv_at hl 0 rfl) ?_
  refine lv_iload_n hx hb dX0_tell_11 rfl (lv_at hl 3 rfl) ?_
  refine va_put (D := (dC, dI)) (ci := 0) (v := .int a3) (ty := .int) (C := RX0) (T := TX0) (N := 3) hx hb hts (fun w h => List.mem_cons_of_mem _ (List.mem_append_right _ h)) tyX0 tyX0_ok nmX0 hown hK hP hD hS 0 rfl rfl 2 (by decide) (hts (.fieldLink RX0 18 "BidMarket$Complaint" "causeOfCause" "I") (List.mem_of_getElem? (i := 3) rfl)) (fun _ h9 => h9) rfl (by decide +kernel) rfl rfl (Nat.le_of_ble_eq_true rfl) dX0_tell_12 (fun H locs hP hD hS => ?_)
  have hP : va_P (dC, dI) vwCl (wdX0_tell cI cJ cT cII cJJ ad a1 a2 a3) H := hP
  have hD : va_D A (wdX0_tell cI cJ cT cII cJJ ad a1 a2 a3) := hD
  exact W.vret hx hb hr (fun t ht hW => ⟨⟨(a1, a2, a3), rfl, hw, by show va_P _ _ _ t.heap; rw [ht]; exact hP⟩, hS.F ht⟩) hS.2.2 dX0_tell_15
set_option maxHeartbeats 4000000 in
set_option maxRecDepth 100000 in
theorem mX4_become (l : Launch) (dC : Nat → ClassId) (dI : Nat → Nat → Nat) (cI cJ cT cII cJJ : ClassId) (ad : Nat → Nat) (ad2 : Nat → Nat) (sz : Nat) (ru : Int32) (N : Nat) (rl : Nat → Int32) (rr : Nat → Int32) (ru2 : Int32) (N2 : Nat) (rl2 : Nat → Int32) (rr2 : Nat → Int32) (Post : Int32 → (Nat → Int32) → (Nat → Int32) → Prop) (hw : wpX4_become ru N rl rr ru2 N2 rl2 rr2 Post) : Met l yX4_become wsX4_become ({ frames := 1, cells := 0, slots := 0, locals := 64 } : Room) (va_Pc [.ref (ad 0), .ref (ad2 0)] (fun U => U.heap.size = sz ∧ va_P (dC, dI) vwCl (wdX4_become cI cJ cT cII cJJ ad ad2 ru N rl rr ru2 N2 rl2 rr2) U.heap ∧ va_K (dC, dI) vwCl (bw_tys cI cJ cT cII cJJ) U ∧ va_D (fun _ => True) (wdX4_become cI cJ cT cII cJJ ad ad2 ru N rl rr ru2 N2 rl2 rr2))) (va_Qv (fun (u : Int32 × (Nat → Int32) × (Nat → Int32)) => Post u.1 u.2.1 u.2.2) (fun (u : Int32 × (Nat → Int32) × (Nat → Int32)) t => va_P (dC, dI) vwCl (wdX4_become cI cJ cT cII cJJ ad ad2 u.1 N u.2.1 u.2.2 ru2 N2 rl2 rr2) t.heap) (va_A (wdX4_become cI cJ cT cII cJJ ad ad2 ru N rl rr ru2 N2 rl2 rr2) sz)) 0 0 (va_A (wdX4_become cI cJ cT cII cJJ ad ad2 ru N rl rr ru2 N2 rl2 rr2) sz) := by
  refine Met.ofW (cc := cX4_become) (maxL := 2) (ret := none) (by decide) rfl ?_
  intro p e s m args below meth c s₁ B hml hv
  obtain ⟨rfl, hsz, hP, hK, hD0⟩ := hv
  have hx := B.exec
  have hb := B.bytes
  have hr := B.returns
  have hts := atoms_spec (ws := wsX4_become) B.pre
  have hown : s.vm.findClass RX4 = some m.cls := findClass_of_methodNamed B.named
  have hlocks := B.notSynchronized
  subst hsz
  have hD := hD0.self (sz := s.heap.size)
  generalize hAe : va_A (wdX4_become cI cJ cT cII cJJ ad ad2 ru N rl rr ru2 N2 rl2 rr2) s.heap.size = A at hD ⊢
  have hA : ∀ q : Nat, s.heap.size ≤ q → A q := fun q h => by rw [← hAe]; exact Or.inr h
  have hS : va_S A s.heap s.heap [] := va_S.rf
  have hl := lv_entry ([.ref (ad 0), .ref (ad2 0)]) (n := 2) (Nat.le_of_ble_eq_true rfl)
  rw [lg_entry_eq]
  generalize (lg_sl ([.ref (ad 0), .ref (ad2 0)]) ++ List.replicate (2 - (lg_sl ([.ref (ad 0), .ref (ad2 0)])).length) Slot.unset).toArray = ls at hl ⊢
  have hl : lv_has ls 2 [(0, .ref (ad 0)), (1, .ref (ad2 0))] := hl
  unfold wpX4_become at hw
  refine lv_aload_n hx hb dX4_become_0 rfl (lv_at hl 0 rfl) ?_
  refine lv_aload_n hx hb dX4_become_1 rfl (lv_at hl 1 rfl) ?_
  refine va_get (D := (dC, dI)) (ci := 4) (v := .int ru2) (C := RX4) (T := TX4) (N := 3) hx hb hts (fun w h => List.mem_cons_of_mem _ (List.mem_append_right _ h)) hown hK hP 3 rfl rfl 2 (by decide) (hts (.fieldLink RX4 9 "BidMarket$Rows" "used" "I") (List.mem_of_getElem? (i := 1) rfl)) (fun _ h9 => h9) rfl dX4_become_2 ?_
  refine lv_aload_n hx hb dX4_become_5 rfl (lv_at hl 0 rfl) ?_
  refine va_get (D := (dC, dI)) (ci := 4) (v := .ref (ad 1)) (C := RX4) (T := TX4) (N := 3) hx hb hts (fun w h => List.mem_cons_of_mem _ (List.mem_append_right _ h)) hown hK hP 0 rfl rfl 0 (by decide) (hts (.fieldLink RX4 15 "BidMarket$Rows" "left" "[I") (List.mem_of_getElem? (i := 2) rfl)) (fun _ h9 => h9) rfl dX4_become_6 ?_
  refine va_alen hx hb hK hP 1 0 rfl rfl (v := Int32.ofNat N) rfl dX4_become_9 ?_
  refine va_mmin hx hb (hml.trans hl.1.symm) hown (hts (.methodLink RX4 22 Lib.Math.min.name) (List.mem_of_getElem? (i := 3) rfl)) (hts (.static Lib.Math.min.name) (List.mem_of_getElem? (i := 4) rfl)) (hts (.initialized "java/lang/Math") (List.mem_of_getElem? (i := 5) rfl)) (hts (.code Lib.Math.min.name Lib.Math.min.code 2 (some .int)) (List.mem_of_getElem? (i := 6) rfl)) (Nat.le_of_ble_eq_true rfl) (Nat.le_of_ble_eq_true rfl) (Nat.le_of_ble_eq_true rfl) (Nat.le_of_ble_eq_true rfl) dX4_become_10 ?_
  refine va_put (D := (dC, dI)) (ci := 4) (v := .int (if (Int32.ofNat N) < ru2 then (Int32.ofNat N) else ru2)) (ty := .int) (C := RX4) (T := TX4) (N := 3) hx hb hts (fun w h => List.mem_cons_of_mem _ (List.mem_append_right _ h)) tyX4 tyX4_ok nmX4 hown hK hP hD hS 0 rfl rfl 2 (by decide) (hts (.fieldLink RX4 9 "BidMarket$Rows" "used" "I") (List.mem_of_getElem? (i := 1) rfl)) (fun _ h9 => h9) rfl (by decide +kernel) rfl rfl (Nat.le_of_ble_eq_true rfl) dX4_become_13 (fun H locs hP hD hS => ?_)
  have hP : va_P (dC, dI) vwCl (wdX4_become cI cJ cT cII cJJ ad ad2 (if (Int32.ofNat N) < ru2 then (Int32.ofNat N) else ru2) N rl rr ru2 N2 rl2 rr2) H := hP
  have hD : va_D A (wdX4_become cI cJ cT cII cJJ ad ad2 (if (Int32.ofNat N) < ru2 then (Int32.ofNat N) else ru2) N rl rr ru2 N2 rl2 rr2) := hD
  refine lv_aload_n hx hb dX4_become_16 rfl (lv_at hl 1 rfl) ?_
  refine va_get (D := (dC, dI)) (ci := 4) (v := .ref (ad2 1)) (C := RX4) (T := TX4) (N := 3) hx hb hts (fun w h => List.mem_cons_of_mem _ (List.mem_append_right _ h)) hown hK hP 3 rfl rfl 0 (by decide) (hts (.fieldLink RX4 15 "BidMarket$Rows" "left" "[I") (List.mem_of_getElem? (i := 2) rfl)) (fun _ h9 => h9) rfl dX4_become_17 ?_
  refine lv_iconst (v := 0) hx hb dX4_become_20 (by decide) ?_
  refine lv_aload_n hx hb dX4_become_21 rfl (lv_at hl 0 rfl) ?_
  refine va_get (D := (dC, dI)) (ci := 4) (v := .ref (ad 1)) (C := RX4) (T := TX4) (N := 3) hx hb hts (fun w h => List.mem_cons_of_mem _ (List.mem_append_right _ h)) hown hK hP 0 rfl rfl 0 (by decide) (hts (.fieldLink RX4 15 "BidMarket$Rows" "left" "[I") (List.mem_of_getElem? (i := 2) rfl)) (fun _ h9 => h9) rfl dX4_become_22 ?_
  refine lv_iconst (v := 0) hx hb dX4_become_25 (by decide) ?_
  refine lv_aload_n hx hb dX4_become_26 rfl (lv_at hl 0 rfl) ?_
  refine va_get (D := (dC, dI)) (ci := 4) (v := .int (if (Int32.ofNat N) < ru2 then (Int32.ofNat N) else ru2)) (C := RX4) (T := TX4) (N := 3) hx hb hts (fun w h => List.mem_cons_of_mem _ (List.mem_append_right _ h)) hown hK hP 0 rfl rfl 2 (by decide) (hts (.fieldLink RX4 9 "BidMarket$Rows" "used" "I") (List.mem_of_getElem? (i := 1) rfl)) (fun _ h9 => h9) rfl dX4_become_27 ?_
  have h1 := hw.1
  have hw := hw.2
  have h2 := hw.1
  have hw := hw.2
  have h3 := hw.1
  have hw := hw.2
  have h4 := hw.1
  have hw := hw.2
  have h5 := hw.1
  have hw := hw.2
  refine va_copyi (ty := .int) hx hb (hml.trans hl.1.symm) hown (hts (.methodLink RX4 28 arraycopyName) (List.mem_of_getElem? (i := 7) rfl)) (hts (.native arraycopyName) (List.mem_of_getElem? (i := 8) rfl)) (hts (.static arraycopyName) (List.mem_of_getElem? (i := 9) rfl)) (hts (.initialized "java/lang/System") (List.mem_of_getElem? (i := 10) rfl)) hK hP hD hS 4 1 0 0 rfl rfl rfl rfl rfl h1 h2 h3 h4 h5 (fun _ _ => rfl) (Nat.le_of_ble_eq_true rfl) (Nat.le_of_ble_eq_true rfl) dX4_become_30 (fun H locs hP hD hS => ?_)
  have hP : va_P (dC, dI) vwCl (wdX4_become cI cJ cT cII cJJ ad ad2 (if (Int32.ofNat N) < ru2 then (Int32.ofNat N) else ru2) N (va_cpy rl2 rl (0 : Int32).toNatClampNeg (0 : Int32).toNatClampNeg (if (Int32.ofNat N) < ru2 then (Int32.ofNat N) else ru2).toNatClampNeg) rr ru2 N2 rl2 rr2) H := hP
  have hD : va_D A (wdX4_become cI cJ cT cII cJJ ad ad2 (if (Int32.ofNat N) < ru2 then (Int32.ofNat N) else ru2) N (va_cpy rl2 rl (0 : Int32).toNatClampNeg (0 : Int32).toNatClampNeg (if (Int32.ofNat N) < ru2 then (Int32.ofNat N) else ru2).toNatClampNeg) rr ru2 N2 rl2 rr2) := hD
  refine lv_aload_n hx hb dX4_become_33 rfl (lv_at hl 1 rfl) ?_
  refine va_get (D := (dC, dI)) (ci := 4) (v := .ref (ad2 2)) (C := RX4) (T := TX4) (N := 3) hx hb hts (fun w h => List.mem_cons_of_mem _ (List.mem_append_right _ h)) hown hK hP 3 rfl rfl 1 (by decide) (hts (.fieldLink RX4 19 "BidMarket$Rows" "right" "[I") (List.mem_of_getElem? (i := 11) rfl)) (fun _ h9 => h9) rfl dX4_become_34 ?_
  refine lv_iconst (v := 0) hx hb dX4_become_37 (by decide) ?_
  refine lv_aload_n hx hb dX4_become_38 rfl (lv_at hl 0 rfl) ?_
  refine va_get (D := (dC, dI)) (ci := 4) (v := .ref (ad 2)) (C := RX4) (T := TX4) (N := 3) hx hb hts (fun w h => List.mem_cons_of_mem _ (List.mem_append_right _ h)) hown hK hP 0 rfl rfl 1 (by decide) (hts (.fieldLink RX4 19 "BidMarket$Rows" "right" "[I") (List.mem_of_getElem? (i := 11) rfl)) (fun _ h9 => h9) rfl dX4_become_39 ?_
  refine lv_iconst (v := 0) hx hb dX4_become_42 (by decide) ?_
  refine lv_aload_n hx hb dX4_become_43 rfl (lv_at hl 0 rfl) ?_
  refine va_get (D := (dC, dI)) (ci := 4) (v := .int (if (Int32.ofNat N) < ru2 then (Int32.ofNat N) else ru2)) (C := RX4) (T := TX4) (N := 3) hx hb hts (fun w h => List.mem_cons_of_mem _ (List.mem_append_right _ h)) hown hK hP 0 rfl rfl 2 (by decide) (hts (.fieldLink RX4 9 "BidMarket$Rows" "used" "I") (List.mem_of_getElem? (i := 1) rfl)) (fun _ h9 => h9) rfl dX4_become_44 ?_
  have h6 := hw.1
  have hw := hw.2
  have h7 := hw.1
  have hw := hw.2
  have h8 := hw.1
  have hw := hw.2
  have h9 := hw.1
  have hw := hw.2
  have h10 := hw.1
  have hw := hw.2
  refine va_copyi (ty := .int) hx hb (hml.trans hl.1.symm) hown (hts (.methodLink RX4 28 arraycopyName) (List.mem_of_getElem? (i := 7) rfl)) (hts (.native arraycopyName) (List.mem_of_getElem? (i := 8) rfl)) (hts (.static arraycopyName) (List.mem_of_getElem? (i := 9) rfl)) (hts (.initialized "java/lang/System") (List.mem_of_getElem? (i := 10) rfl)) hK hP hD hS 5 2 0 0 rfl rfl rfl rfl rfl h6 h7 h8 h9 h10 (fun _ _ => rfl) (Nat.le_of_ble_eq_true rfl) (Nat.le_of_ble_eq_true rfl) dX4_become_47 (fun H locs hP hD hS => ?_)
  have hP : va_P (dC, dI) vwCl (wdX4_become cI cJ cT cII cJJ ad ad2 (if (Int32.ofNat N) < ru2 then (Int32.ofNat N) else ru2) N (va_cpy rl2 rl (0 : Int32).toNatClampNeg (0 : Int32).toNatClampNeg (if (Int32.ofNat N) < ru2 then (Int32.ofNat N) else ru2).toNatClampNeg) (va_cpy rr2 rr (0 : Int32).toNatClampNeg (0 : Int32).toNatClampNeg (if (Int32.ofNat N) < ru2 then (Int32.ofNat N) else ru2).toNatClampNeg) ru2 N2 rl2 rr2) H := hP
  have hD : va_D A (wdX4_become cI cJ cT cII cJJ ad ad2 (if (Int32.ofNat N) < ru2 then (Int32.ofNat N) else ru2) N (va_cpy rl2 rl (0 : Int32).toNatClampNeg (0 : Int32).toNatClampNeg (if (Int32.ofNat N) < ru2 then (Int32.ofNat N) else ru2).toNatClampNeg) (va_cpy rr2 rr (0 : Int32).toNatClampNeg (0 : Int32).toNatClampNeg (if (Int32.ofNat N) < ru2 then (Int32.ofNat N) else ru2).toNatClampNeg) ru2 N2 rl2 rr2) := hD
  exact W.vret hx hb hr (fun t ht hW => ⟨⟨(if (Int32.ofNat N) < ru2 then (Int32.ofNat N) else ru2, va_cpy rl2 rl (0 : Int32).toNatClampNeg (0 : Int32).toNatClampNeg (if (Int32.ofNat N) < ru2 then (Int32.ofNat N) else ru2).toNatClampNeg, va_cpy rr2 rr (0 : Int32).toNatClampNeg (0 : Int32).toNatClampNeg (if (Int32.ofNat N) < ru2 then (Int32.ofNat N) else ru2).toNatClampNeg), rfl, hw, by show va_P _ _ _ t.heap; rw [ht]; exact hP⟩, hS.F ht⟩) hS.2.2 dX4_become_50
set_option maxHeartbeats 4000000 in
set_option maxRecDepth 100000 in
theorem mX1_become (l : Launch) (dC : Nat → ClassId) (dI : Nat → Nat → Nat) (cI cJ cT cII cJJ : ClassId) (ad : Nat → Nat) (ad2 : Nat → Nat) (sz : Nat) (n : Int32) (pa : Int32) (br : Int32) (th : Nat → Int32) (pe : Nat → Int32) (pr : Nat → Int32) (w : Nat → Nat → Int32) (seru : Int32) (serl : Nat → Int32) (serr : Nat → Int32) (plru : Int32) (plrl : Nat → Int32) (plrr : Nat → Int32) (boru : Int32) (borl : Nat → Int32) (borr : Nat → Int32) (n2 : Int32) (pa2 : Int32) (br2 : Int32) (th2 : Nat → Int32) (pe2 : Nat → Int32) (pr2 : Nat → Int32) (w2 : Nat → Nat → Int32) (seru2 : Int32) (serl2 : Nat → Int32) (serr2 : Nat → Int32) (plru2 : Int32) (plrl2 : Nat → Int32) (plrr2 : Nat → Int32) (boru2 : Int32) (borl2 : Nat → Int32) (borr2 : Nat → Int32) (Post : Int32 → Int32 → (Nat → Int32) → (Nat → Int32) → (Nat → Int32) → (Nat → Nat → Int32) → Int32 → (Nat → Int32) → (Nat → Int32) → Int32 → (Nat → Int32) → (Nat → Int32) → Int32 → (Nat → Int32) → (Nat → Int32) → Prop) (hw : wpX1_become n pa th pe pr w seru serl serr plru plrl plrr boru borl borr n2 pa2 th2 pe2 pr2 w2 seru2 serl2 serr2 plru2 plrl2 plrr2 boru2 borl2 borr2 Post) : Met l yX1_become wsX1_become ({ frames := 2, cells := 0, slots := 0, locals := 86 } : Room) (va_Pc [.ref (ad 0), .ref (ad2 0)] (fun U => U.heap.size = sz ∧ va_P (dC, dI) vwCl (wdX1_become cI cJ cT cII cJJ ad ad2 n pa br th pe pr w seru serl serr plru plrl plrr boru borl borr n2 pa2 br2 th2 pe2 pr2 w2 seru2 serl2 serr2 plru2 plrl2 plrr2 boru2 borl2 borr2) U.heap ∧ va_K (dC, dI) vwCl (bw_tys cI cJ cT cII cJJ) U ∧ va_D (fun _ => True) (wdX1_become cI cJ cT cII cJJ ad ad2 n pa br th pe pr w seru serl serr plru plrl plrr boru borl borr n2 pa2 br2 th2 pe2 pr2 w2 seru2 serl2 serr2 plru2 plrl2 plrr2 boru2 borl2 borr2))) (va_Qv (fun (u : Int32 × Int32 × (Nat → Int32) × (Nat → Int32) × (Nat → Int32) × (Nat → Nat → Int32) × Int32 × (Nat → Int32) × (Nat → Int32) × Int32 × (Nat → Int32) × (Nat → Int32) × Int32 × (Nat → Int32) × (Nat → Int32)) => Post u.1 u.2.1 u.2.2.1 u.2.2.2.1 u.2.2.2.2.1 u.2.2.2.2.2.1 u.2.2.2.2.2.2.1 u.2.2.2.2.2.2.2.1 u.2.2.2.2.2.2.2.2.1 u.2.2.2.2.2.2.2.2.2.1 u.2.2.2.2.2.2.2.2.2.2.1 u.2.2.2.2.2.2.2.2.2.2.2.1 u.2.2.2.2.2.2.2.2.2.2.2.2.1 u.2.2.2.2.2.2.2.2.2.2.2.2.2.1 u.2.2.2.2.2.2.2.2.2.2.2.2.2.2) (fun (u : Int32 × Int32 × (Nat → Int32) × (Nat → Int32) × (Nat → Int32) × (Nat → Nat → Int32) × Int32 × (Nat → Int32) × (Nat → Int32) × Int32 × (Nat → Int32) × (Nat → Int32) × Int32 × (Nat → Int32) × (Nat → Int32)) t => va_P (dC, dI) vwCl (wdX1_become cI cJ cT cII cJJ ad ad2 u.1 u.2.1 br u.2.2.1 u.2.2.2.1 u.2.2.2.2.1 u.2.2.2.2.2.1 u.2.2.2.2.2.2.1 u.2.2.2.2.2.2.2.1 u.2.2.2.2.2.2.2.2.1 u.2.2.2.2.2.2.2.2.2.1 u.2.2.2.2.2.2.2.2.2.2.1 u.2.2.2.2.2.2.2.2.2.2.2.1 u.2.2.2.2.2.2.2.2.2.2.2.2.1 u.2.2.2.2.2.2.2.2.2.2.2.2.2.1 u.2.2.2.2.2.2.2.2.2.2.2.2.2.2 n2 pa2 br2 th2 pe2 pr2 w2 seru2 serl2 serr2 plru2 plrl2 plrr2 boru2 borl2 borr2) t.heap) (va_A (wdX1_become cI cJ cT cII cJJ ad ad2 n pa br th pe pr w seru serl serr plru plrl plrr boru borl borr n2 pa2 br2 th2 pe2 pr2 w2 seru2 serl2 serr2 plru2 plrl2 plrr2 boru2 borl2 borr2) sz)) 0 0 (va_A (wdX1_become cI cJ cT cII cJJ ad ad2 n pa br th pe pr w seru serl serr plru plrl plrr boru borl borr n2 pa2 br2 th2 pe2 pr2 w2 seru2 serl2 serr2 plru2 plrl2 plrr2 boru2 borl2 borr2) sz) := by
  refine Met.ofW (cc := cX1_become) (maxL := 2) (ret := none) (by decide) rfl ?_
  intro p e s m args below meth c s₁ B hml hv
  obtain ⟨rfl, hsz, hP, hK, hD0⟩ := hv
  have hx := B.exec
  have hb := B.bytes
  have hr := B.returns
  have hts := atoms_spec (ws := wsX1_become) B.pre
  have hown : s.vm.findClass RX1 = some m.cls := findClass_of_methodNamed B.named
  have hlocks := B.notSynchronized
  subst hsz
  have hD := hD0.self (sz := s.heap.size)
  generalize hAe : va_A (wdX1_become cI cJ cT cII cJJ ad ad2 n pa br th pe pr w seru serl serr plru plrl plrr boru borl borr n2 pa2 br2 th2 pe2 pr2 w2 seru2 serl2 serr2 plru2 plrl2 plrr2 boru2 borl2 borr2) s.heap.size = A at hD ⊢
  have hA : ∀ q : Nat, s.heap.size ≤ q → A q := fun q h => by rw [← hAe]; exact Or.inr h
  have hS : va_S A s.heap s.heap [] := va_S.rf
  have hl := lv_entry ([.ref (ad 0), .ref (ad2 0)]) (n := 2) (Nat.le_of_ble_eq_true rfl)
  rw [lg_entry_eq]
  generalize (lg_sl ([.ref (ad 0), .ref (ad2 0)]) ++ List.replicate (2 - (lg_sl ([.ref (ad 0), .ref (ad2 0)])).length) Slot.unset).toArray = ls at hl ⊢
  have hl : lv_has ls 2 [(0, .ref (ad 0)), (1, .ref (ad2 0))] := hl
  unfold wpX1_become at hw
  refine lv_aload_n hx hb dX1_become_0 rfl (lv_at hl 0 rfl) ?_
  refine va_get (D := (dC, dI)) (ci := 1) (v := .ref (ad 1)) (C := RX1) (T := TX1) (N := 4) hx hb hts (fun w h => List.mem_cons_of_mem _ (List.mem_append_left _ (List.mem_append_left _ (List.mem_append_right _ h)))) hown hK hP 0 rfl rfl 0 (by decide) (hts (.fieldLink RX1 10 "BidMarket$Holdings" "market" "LBidMarket$Market;") (List.mem_of_getElem? (i := 1) rfl)) (fun _ h9 => h9) rfl dX1_become_1 ?_
  refine lv_aload_n hx hb dX1_become_4 rfl (lv_at hl 1 rfl) ?_
  refine va_get (D := (dC, dI)) (ci := 1) (v := .ref (ad2 1)) (C := RX1) (T := TX1) (N := 4) hx hb hts (fun w h => List.mem_cons_of_mem _ (List.mem_append_left _ (List.mem_append_left _ (List.mem_append_right _ h)))) hown hK hP 23 rfl rfl 0 (by decide) (hts (.fieldLink RX1 10 "BidMarket$Holdings" "market" "LBidMarket$Market;") (List.mem_of_getElem? (i := 1) rfl)) (fun _ h9 => h9) rfl dX1_become_5 ?_
  refine bw_wvv (wc := (wdX2_become cI cJ cT cII cJJ (fun k => ad (k + 1)) (fun k => ad2 (k + 1)) n pa br th pe pr w n2 pa2 br2 th2 pe2 pr2 w2)) (w1 := (fun (u : Int32 × Int32 × (Nat → Int32) × (Nat → Int32) × (Nat → Int32) × (Nat → Nat → Int32)) => wdX2_become cI cJ cT cII cJJ (fun k => ad (k + 1)) (fun k => ad2 (k + 1)) u.1 u.2.1 br u.2.2.1 u.2.2.2.1 u.2.2.2.2.1 u.2.2.2.2.2 n2 pa2 br2 th2 pe2 pr2 w2)) (As := [.ref (ad2 1)]) (rest := []) ⟨hx, hb, hml, hown, hts⟩ (mX2_become l dC dI cI cJ cT cII cJJ (fun k => ad (k + 1)) (fun k => ad2 (k + 1)) _ n pa br th pe pr w n2 pa2 br2 th2 pe2 pr2 w2 _ hw) (cwV 1 hts gX1_become_X2_become rfl rfl rfl hdX2_become ⟨Nat.le_of_ble_eq_true rfl, Nat.le_of_ble_eq_true rfl⟩) hK hP hD hS hA [1, 2, 3, 4, 5, 6, 7, 8, 9, 10, 11, 12, 13, 24, 25, 26, 27, 28, 29, 30, 31, 32, 33, 34, 35, 36] rfl (by decide) (fun _ => rfl) rfl rfl rfl rfl hl.1 rfl (Nat.le_of_ble_eq_true rfl) ⟨Nat.le_of_ble_eq_true rfl, Nat.le_of_ble_eq_true rfl⟩ dX1_become_8 (fun u H locs hw hP hD hS => ?_)
  obtain ⟨y1, y2, y3, y4, y5, y6⟩ := u
  try dsimp only at hw
  have hP : va_P (dC, dI) vwCl (wdX1_become cI cJ cT cII cJJ ad ad2 y1 y2 br y3 y4 y5 y6 seru serl serr plru plrl plrr boru borl borr n2 pa2 br2 th2 pe2 pr2 w2 seru2 serl2 serr2 plru2 plrl2 plrr2 boru2 borl2 borr2) H := hP
  have hD : va_D A (wdX1_become cI cJ cT cII cJJ ad ad2 y1 y2 br y3 y4 y5 y6 seru serl serr plru plrl plrr boru borl borr n2 pa2 br2 th2 pe2 pr2 w2 seru2 serl2 serr2 plru2 plrl2 plrr2 boru2 borl2 borr2) := hD
  refine lv_aload_n hx hb dX1_become_11 rfl (lv_at hl 0 rfl) ?_
  refine va_get (D := (dC, dI)) (ci := 1) (v := .ref (ad 14)) (C := RX1) (T := TX1) (N := 4) hx hb hts (fun w h => List.mem_cons_of_mem _ (List.mem_append_left _ (List.mem_append_left _ (List.mem_append_right _ h)))) hown hK hP 0 rfl rfl 1 (by decide) (hts (.fieldLink RX1 21 "BidMarket$Holdings" "seen" "LBidMarket$Rows;") (List.mem_of_getElem? (i := 2) rfl)) (fun _ h9 => h9) rfl dX1_become_12 ?_
  refine lv_aload_n hx hb dX1_become_15 rfl (lv_at hl 1 rfl) ?_
  refine va_get (D := (dC, dI)) (ci := 1) (v := .ref (ad2 14)) (C := RX1) (T := TX1) (N := 4) hx hb hts (fun w h => List.mem_cons_of_mem _ (List.mem_append_left _ (List.mem_append_left _ (List.mem_append_right _ h)))) hown hK hP 23 rfl rfl 1 (by decide) (hts (.fieldLink RX1 21 "BidMarket$Holdings" "seen" "LBidMarket$Rows;") (List.mem_of_getElem? (i := 2) rfl)) (fun _ h9 => h9) rfl dX1_become_16 ?_
  refine bw_wvv (wc := (wdX4_become cI cJ cT cII cJJ (fun k => ad (k + 14)) (fun k => ad2 (k + 14)) seru 5 serl serr seru2 5 serl2 serr2)) (w1 := (fun (u : Int32 × (Nat → Int32) × (Nat → Int32)) => wdX4_become cI cJ cT cII cJJ (fun k => ad (k + 14)) (fun k => ad2 (k + 14)) u.1 5 u.2.1 u.2.2 seru2 5 serl2 serr2)) (As := [.ref (ad2 14)]) (rest := []) ⟨hx, hb, hml, hown, hts⟩ (mX4_become l dC dI cI cJ cT cII cJJ (fun k => ad (k + 14)) (fun k => ad2 (k + 14)) _ seru 5 serl serr seru2 5 serl2 serr2 _ hw) (cwV 1 hts gX1_become_X4_become rfl rfl rfl hdX4_become ⟨Nat.le_of_ble_eq_true rfl, Nat.le_of_ble_eq_true rfl⟩) hK hP hD hS hA [14, 15, 16, 37, 38, 39] rfl (by decide) (fun _ => rfl) rfl rfl rfl rfl hl.1 rfl (Nat.le_of_ble_eq_true rfl) ⟨Nat.le_of_ble_eq_true rfl, Nat.le_of_ble_eq_true rfl⟩ dX1_become_19 (fun u H locs hw hP hD hS => ?_)
  obtain ⟨y7, y8, y9⟩ := u
  try dsimp only at hw
  have hP : va_P (dC, dI) vwCl (wdX1_become cI cJ cT cII cJJ ad ad2 y1 y2 br y3 y4 y5 y6 y7 y8 y9 plru plrl plrr boru borl borr n2 pa2 br2 th2 pe2 pr2 w2 seru2 serl2 serr2 plru2 plrl2 plrr2 boru2 borl2 borr2) H := hP
  have hD : va_D A (wdX1_become cI cJ cT cII cJJ ad ad2 y1 y2 br y3 y4 y5 y6 y7 y8 y9 plru plrl plrr boru borl borr n2 pa2 br2 th2 pe2 pr2 w2 seru2 serl2 serr2 plru2 plrl2 plrr2 boru2 borl2 borr2) := hD
  refine lv_aload_n hx hb dX1_become_22 rfl (lv_at hl 0 rfl) ?_
  refine va_get (D := (dC, dI)) (ci := 1) (v := .ref (ad 17)) (C := RX1) (T := TX1) (N := 4) hx hb hts (fun w h => List.mem_cons_of_mem _ (List.mem_append_left _ (List.mem_append_left _ (List.mem_append_right _ h)))) hown hK hP 0 rfl rfl 2 (by decide) (hts (.fieldLink RX1 25 "BidMarket$Holdings" "plan" "LBidMarket$Rows;") (List.mem_of_getElem? (i := 3) rfl)) (fun _ h9 => h9) rfl dX1_become_23 ?_
  refine lv_aload_n hx hb dX1_become_26 rfl (lv_at hl 1 rfl) ?_
  refine va_get (D := (dC, dI)) (ci := 1) (v := .ref (ad2 17)) (C := RX1) (T := TX1) (N := 4) hx hb hts (fun w h => List.mem_cons_of_mem _ (List.mem_append_left _ (List.mem_append_left _ (List.mem_append_right _ h)))) hown hK hP 23 rfl rfl 2 (by decide) (hts (.fieldLink RX1 25 "BidMarket$Holdings" "plan" "LBidMarket$Rows;") (List.mem_of_getElem? (i := 3) rfl)) (fun _ h9 => h9) rfl dX1_become_27 ?_
  refine bw_wvv (wc := (wdX4_become cI cJ cT cII cJJ (fun k => ad (k + 17)) (fun k => ad2 (k + 17)) plru 10 plrl plrr plru2 10 plrl2 plrr2)) (w1 := (fun (u : Int32 × (Nat → Int32) × (Nat → Int32)) => wdX4_become cI cJ cT cII cJJ (fun k => ad (k + 17)) (fun k => ad2 (k + 17)) u.1 10 u.2.1 u.2.2 plru2 10 plrl2 plrr2)) (As := [.ref (ad2 17)]) (rest := []) ⟨hx, hb, hml, hown, hts⟩ (mX4_become l dC dI cI cJ cT cII cJJ (fun k => ad (k + 17)) (fun k => ad2 (k + 17)) _ plru 10 plrl plrr plru2 10 plrl2 plrr2 _ hw) (cwV 1 hts gX1_become_X4_become rfl rfl rfl hdX4_become ⟨Nat.le_of_ble_eq_true rfl, Nat.le_of_ble_eq_true rfl⟩) hK hP hD hS hA [17, 18, 19, 40, 41, 42] rfl (by decide) (fun _ => rfl) rfl rfl rfl rfl hl.1 rfl (Nat.le_of_ble_eq_true rfl) ⟨Nat.le_of_ble_eq_true rfl, Nat.le_of_ble_eq_true rfl⟩ dX1_become_30 (fun u H locs hw hP hD hS => ?_)
  obtain ⟨y10, y11, y12⟩ := u
  try dsimp only at hw
  have hP : va_P (dC, dI) vwCl (wdX1_become cI cJ cT cII cJJ ad ad2 y1 y2 br y3 y4 y5 y6 y7 y8 y9 y10 y11 y12 boru borl borr n2 pa2 br2 th2 pe2 pr2 w2 seru2 serl2 serr2 plru2 plrl2 plrr2 boru2 borl2 borr2) H := hP
  have hD : va_D A (wdX1_become cI cJ cT cII cJJ ad ad2 y1 y2 br y3 y4 y5 y6 y7 y8 y9 y10 y11 y12 boru borl borr n2 pa2 br2 th2 pe2 pr2 w2 seru2 serl2 serr2 plru2 plrl2 plrr2 boru2 borl2 borr2) := hD
  refine lv_aload_n hx hb dX1_become_33 rfl (lv_at hl 0 rfl) ?_
  refine va_get (D := (dC, dI)) (ci := 1) (v := .ref (ad 20)) (C := RX1) (T := TX1) (N := 4) hx hb hts (fun w h => List.mem_cons_of_mem _ (List.mem_append_left _ (List.mem_append_left _ (List.mem_append_right _ h)))) hown hK hP 0 rfl rfl 3 (by decide) (hts (.fieldLink RX1 28 "BidMarket$Holdings" "book" "LBidMarket$Rows;") (List.mem_of_getElem? (i := 4) rfl)) (fun _ h9 => h9) rfl dX1_become_34 ?_
  refine lv_aload_n hx hb dX1_become_37 rfl (lv_at hl 1 rfl) ?_
  refine va_get (D := (dC, dI)) (ci := 1) (v := .ref (ad2 20)) (C := RX1) (T := TX1) (N := 4) hx hb hts (fun w h => List.mem_cons_of_mem _ (List.mem_append_left _ (List.mem_append_left _ (List.mem_append_right _ h)))) hown hK hP 23 rfl rfl 3 (by decide) (hts (.fieldLink RX1 28 "BidMarket$Holdings" "book" "LBidMarket$Rows;") (List.mem_of_getElem? (i := 4) rfl)) (fun _ h9 => h9) rfl dX1_become_38 ?_
  refine bw_wvv (wc := (wdX4_become cI cJ cT cII cJJ (fun k => ad (k + 20)) (fun k => ad2 (k + 20)) boru 8 borl borr boru2 8 borl2 borr2)) (w1 := (fun (u : Int32 × (Nat → Int32) × (Nat → Int32)) => wdX4_become cI cJ cT cII cJJ (fun k => ad (k + 20)) (fun k => ad2 (k + 20)) u.1 8 u.2.1 u.2.2 boru2 8 borl2 borr2)) (As := [.ref (ad2 20)]) (rest := []) ⟨hx, hb, hml, hown, hts⟩ (mX4_become l dC dI cI cJ cT cII cJJ (fun k => ad (k + 20)) (fun k => ad2 (k + 20)) _ boru 8 borl borr boru2 8 borl2 borr2 _ hw) (cwV 1 hts gX1_become_X4_become rfl rfl rfl hdX4_become ⟨Nat.le_of_ble_eq_true rfl, Nat.le_of_ble_eq_true rfl⟩) hK hP hD hS hA [20, 21, 22, 43, 44, 45] rfl (by decide) (fun _ => rfl) rfl rfl rfl rfl hl.1 rfl (Nat.le_of_ble_eq_true rfl) ⟨Nat.le_of_ble_eq_true rfl, Nat.le_of_ble_eq_true rfl⟩ dX1_become_41 (fun u H locs hw hP hD hS => ?_)
  obtain ⟨y13, y14, y15⟩ := u
  try dsimp only at hw
  have hP : va_P (dC, dI) vwCl (wdX1_become cI cJ cT cII cJJ ad ad2 y1 y2 br y3 y4 y5 y6 y7 y8 y9 y10 y11 y12 y13 y14 y15 n2 pa2 br2 th2 pe2 pr2 w2 seru2 serl2 serr2 plru2 plrl2 plrr2 boru2 borl2 borr2) H := hP
  have hD : va_D A (wdX1_become cI cJ cT cII cJJ ad ad2 y1 y2 br y3 y4 y5 y6 y7 y8 y9 y10 y11 y12 y13 y14 y15 n2 pa2 br2 th2 pe2 pr2 w2 seru2 serl2 serr2 plru2 plrl2 plrr2 boru2 borl2 borr2) := hD
  exact W.vret hx hb hr (fun t ht hW => ⟨⟨(y1, y2, y3, y4, y5, y6, y7, y8, y9, y10, y11, y12, y13, y14, y15), rfl, hw, by show va_P _ _ _ t.heap; rw [ht]; exact hP⟩, hS.F ht⟩) hS.2.2 dX1_become_44
set_option maxHeartbeats 4000000 in
set_option maxRecDepth 100000 in
theorem mX3_mostOfSet (l : Launch) (dC : Nat → ClassId) (dI : Nat → Nat → Nat) (cI cJ cT cII cJJ : ClassId) (ad : Nat → Nat) (ad2 : Nat → Nat) (su : Nat → Int32) (n2 : Int32) (pa2 : Int32) (br2 : Int32) (w2 : Nat → Nat → Int32) (a2 : Int32) (Post : Int32 → Prop) (hw : wpX3_mostOfSet su n2 w2 a2 Post) : Met l yX3_mostOfSet wsX3_mostOfSet ({ frames := 1, cells := 0, slots := 0, locals := 64 } : Room) (va_Pc [.ref (ad 0), .ref (ad2 0), .int a2] (fun U => va_P (dC, dI) vwCl (wdX3_mostOfSet cI cJ cT cII cJJ ad ad2 su n2 pa2 br2 w2) U.heap ∧ va_K (dC, dI) vwCl (bw_tys cI cJ cT cII cJJ) U)) (vp_Si Post) 0 0 (fun _ => False) := by
  refine Met.ofW (cc := cX3_mostOfSet) (maxL := 7) (ret := (some .int)) (by decide) rfl ?_
  intro p e s m args below meth c s₁ B hml hv
  obtain ⟨rfl, hP, hK⟩ := hv
  have hx := B.exec
  have hb := B.bytes
  have hr := B.returns
  have hts := atoms_spec (ws := wsX3_mostOfSet) B.pre
  have hown : s.vm.findClass RX3 = some m.cls := findClass_of_methodNamed B.named
  have hlocks := B.notSynchronized
  have hl := lv_entry ([.ref (ad 0), .ref (ad2 0), .int a2]) (n := 7) (Nat.le_of_ble_eq_true rfl)
  rw [lg_entry_eq]
  generalize (lg_sl ([.ref (ad 0), .ref (ad2 0), .int a2]) ++ List.replicate (7 - (lg_sl ([.ref (ad 0), .ref (ad2 0), .int a2])).length) Slot.unset).toArray = ls at hl ⊢
  have hl : lv_has ls 7 [(0, .ref (ad 0)), (1, .ref (ad2 0)), (2, .int a2)] := hl
  have kB84 : ∀ (K14 : Int32 → Int32 → Int32 → Prop), (∀ (v3 : Int32) (v4 : Int32) (v5 : Int32), ∀ ls : Array Slot, lv_has ls 7 [(0, .ref (ad 0)), (1, .ref (ad2 0)), (2, .int a2), (3, .int v3), (4, .int v4), (5, .int v5)] → K14 v3 v4 v5 → W p l e (headSpec wsX3_mostOfSet ({ frames := 1, cells := 0, slots := 0, locals := 64 } : Room)).room s m ([.ref (ad 0), .ref (ad2 0), .int a2] : List Value).toArray below meth c s.heap [] 0 0 (MQ below (vp_Si Post) ([.ref (ad 0), .ref (ad2 0), .int a2] : List Value).toArray s 0 0 (fun _ => False)) (F0 m 14 ls [])) → ∀ (v3 : Int32) (v4 : Int32) (v5 : Int32), ∀ ls : Array Slot, lv_has ls 7 [(0, .ref (ad 0)), (1, .ref (ad2 0)), (2, .int a2), (3, .int v3), (4, .int v4), (5, .int v5)] → wpX3_mostOfSet_B84 su n2 w2 a2 K14 Post v3 v4 v5 → W p l e (headSpec wsX3_mostOfSet ({ frames := 1, cells := 0, slots := 0, locals := 64 } : Room)).room s m ([.ref (ad 0), .ref (ad2 0), .int a2] : List Value).toArray below meth c s.heap [] 0 0 (MQ below (vp_Si Post) ([.ref (ad 0), .ref (ad2 0), .int a2] : List Value).toArray s 0 0 (fun _ => False)) (F0 m 84 ls []) := by
    intro K14 hK14 v3 v4 v5 ls hl hw
    unfold wpX3_mostOfSet_B84 at hw
    obtain ⟨x7, ex7⟩ : ∃ y : Int32, y = v5 + 1 := ⟨_, rfl⟩
    have hw := hw x7 ex7
    refine lv_iinc (v := x7) (lv' := [(5, .int x7), (0, .ref (ad 0)), (1, .ref (ad2 0)), (2, .int a2), (3, .int v3), (4, .int v4)]) hx hb dX3_mostOfSet_84 hl (k := 5) rfl (by rw [ex7]; rfl) (by decide) rfl (fun ls hl => ?_)
    refine lv_goto (tgt := 14) hx hb dX3_mostOfSet_87 (by decide) ?_
    exact hK14 v3 v4 x7 ls (lv_sub hl [1, 2, 3, 4, 5, 0] rfl) hw
  have kB14 : ∀ f : Nat, ∀ (v3 : Int32) (v4 : Int32) (v5 : Int32), ∀ ls : Array Slot, lv_has ls 7 [(0, .ref (ad 0)), (1, .ref (ad2 0)), (2, .int a2), (3, .int v3), (4, .int v4), (5, .int v5)] → wpX3_mostOfSet_B14 su n2 w2 a2 Post f v3 v4 v5 → W p l e (headSpec wsX3_mostOfSet ({ frames := 1, cells := 0, slots := 0, locals := 64 } : Room)).room s m ([.ref (ad 0), .ref (ad2 0), .int a2] : List Value).toArray below meth c s.heap [] 0 0 (MQ below (vp_Si Post) ([.ref (ad 0), .ref (ad2 0), .int a2] : List Value).toArray s 0 0 (fun _ => False)) (F0 m 14 ls []) := by
    intro  f
    induction f with
    | zero => intro v3 v4 v5 ls hl hw; exact (show False from hw).elim
    | succ f ih =>
      intro v3 v4 v5 ls hl hw
      rw [wpX3_mostOfSet_B14] at hw
      refine lv_iload hx hb dX3_mostOfSet_14 (lv_at hl 5 rfl) ?_
      refine lv_aload_n hx hb dX3_mostOfSet_16 rfl (lv_at hl 1 rfl) ?_
      refine va_get (D := (dC, dI)) (ci := 2) (v := .int n2) (C := RX2) (T := TX2) (N := 7) hx hb hts (fun w h => List.mem_cons_of_mem _ (List.mem_append_left _ (List.mem_append_right _ h))) hown hK hP 2 rfl rfl 4 (by decide) (hts (.fieldLink RX3 15 "BidMarket$Market" "n" "I") (List.mem_of_getElem? (i := 1) rfl)) (fun _ h9 => h9) rfl dX3_mostOfSet_17 ?_
      refine lv_icmp_ge (tgt := 90) hx hb dX3_mostOfSet_20 (by decide) (fun c4 => ?_) (fun c4 => ?_)
      · have hw := hw.1 c4
        refine lv_iload hx hb dX3_mostOfSet_90 (lv_at hl 4 rfl) ?_
        exact W.iret (v := v4) hx hb hr (fun t ht hW => ⟨v4, rfl, hw, ht⟩) (fun _ h => by cases h) dX3_mostOfSet_92
      · have hw := hw.2 c4
        refine lv_iconst (v := 1) hx hb dX3_mostOfSet_23 (by decide) ?_
        refine lv_iload hx hb dX3_mostOfSet_24 (lv_at hl 5 rfl) ?_
        refine lv_ishl hx hb dX3_mostOfSet_26 ?_
        refine lv_topi (fun x5 ex5 => ?_)
        have hw := hw x5 ex5
        refine lv_istore (lv' := [(6, .int x5), (0, .ref (ad 0)), (1, .ref (ad2 0)), (2, .int a2), (3, .int v3), (4, .int v4), (5, .int v5)]) hx hb dX3_mostOfSet_27 hl (by decide) rfl (fun ls hl => ?_)
        refine lv_iload_n hx hb dX3_mostOfSet_29 rfl (lv_at hl 3 rfl) ?_
        refine lv_iload hx hb dX3_mostOfSet_30 (lv_at hl 0 rfl) ?_
        refine lv_iand hx hb dX3_mostOfSet_32 ?_
        refine lv_if_eq (tgt := 84) hx hb dX3_mostOfSet_33 (by decide) (fun c6 => ?_) (fun c6 => ?_)
        · have hw := hw.1 c6
          exact kB84 (wpX3_mostOfSet_B14 su n2 w2 a2 Post f) ih v3 v4 v5 ls (lv_sub hl [1, 2, 3, 4, 5, 6] rfl) hw
        · have hw := hw.2 c6
          refine lv_aload_n hx hb dX3_mostOfSet_36 rfl (lv_at hl 2 rfl) ?_
          refine lv_iload_n hx hb dX3_mostOfSet_37 rfl (lv_at hl 4 rfl) ?_
          refine lv_iload hx hb dX3_mostOfSet_38 (lv_at hl 6 rfl) ?_
          refine bw_pvi (wc := (wdX2_allows cI cJ cT cII cJJ ad2 n2 pa2 br2 w2)) (As := [.int v3, .int v5]) (rest := []) ⟨hx, hb, hml, hown, hts⟩ (mX2_allows l dC dI cI cJ cT cII cJJ ad2 n2 pa2 br2 w2 v3 v5 _ hw) (cwV 2 hts gX3_mostOfSet_X2_allows rfl rfl rfl hdX2_allows ⟨Nat.le_of_ble_eq_true rfl, Nat.le_of_ble_eq_true rfl⟩) hK hP [2, 3, 4, 5, 6, 7, 8, 9, 10, 11] rfl rfl rfl rfl rfl hl.1 rfl (Nat.le_of_ble_eq_true rfl) ⟨Nat.le_of_ble_eq_true rfl, Nat.le_of_ble_eq_true rfl⟩ dX3_mostOfSet_40 (fun r8 hw => ?_)
          refine lv_if_eq (tgt := 84) hx hb dX3_mostOfSet_43 (by decide) (fun c9 => ?_) (fun c9 => ?_)
          · have hw := hw.1 c9
            exact kB84 (wpX3_mostOfSet_B14 su n2 w2 a2 Post f) ih v3 v4 v5 ls (lv_sub hl [1, 2, 3, 4, 5, 6] rfl) hw
          · have hw := hw.2 c9
            refine lv_aload_n hx hb dX3_mostOfSet_46 rfl (lv_at hl 1 rfl) ?_
            refine va_get (D := (dC, dI)) (ci := 3) (v := .ref (ad 1)) (C := RX3) (T := TX3) (N := 1) hx hb hts (fun w h => List.mem_cons_of_mem _ (List.mem_append_right _ h)) hown hK hP 0 rfl rfl 0 (by decide) (hts (.fieldLink RX3 9 "BidMarket$Optimum" "sums" "[I") (List.mem_of_getElem? (i := 2) rfl)) (fun _ h9 => h9) rfl dX3_mostOfSet_47 ?_
            refine lv_iload_n hx hb dX3_mostOfSet_50 rfl (lv_at hl 3 rfl) ?_
            refine lv_iload hx hb dX3_mostOfSet_51 (lv_at hl 0 rfl) ?_
            refine lv_ixor hx hb dX3_mostOfSet_53 ?_
            have h10 := hw.1
            have hw := hw.2
            refine va_iald hx hb hK hP 1 0 rfl rfl h10 dX3_mostOfSet_54 ?_
            refine lv_if_lt (tgt := 84) hx hb dX3_mostOfSet_55 (by decide) (fun c11 => ?_) (fun c11 => ?_)
            · have hw := hw.1 c11
              exact kB84 (wpX3_mostOfSet_B14 su n2 w2 a2 Post f) ih v3 v4 v5 ls (lv_sub hl [1, 2, 3, 4, 5, 6] rfl) hw
            · have hw := hw.2 c11
              refine lv_iload hx hb dX3_mostOfSet_58 (lv_at hl 5 rfl) ?_
              refine lv_aload_n hx hb dX3_mostOfSet_60 rfl (lv_at hl 1 rfl) ?_
              refine va_get (D := (dC, dI)) (ci := 3) (v := .ref (ad 1)) (C := RX3) (T := TX3) (N := 1) hx hb hts (fun w h => List.mem_cons_of_mem _ (List.mem_append_right _ h)) hown hK hP 0 rfl rfl 0 (by decide) (hts (.fieldLink RX3 9 "BidMarket$Optimum" "sums" "[I") (List.mem_of_getElem? (i := 2) rfl)) (fun _ h9 => h9) rfl dX3_mostOfSet_61 ?_
              refine lv_iload_n hx hb dX3_mostOfSet_64 rfl (lv_at hl 3 rfl) ?_
              refine lv_iload hx hb dX3_mostOfSet_65 (lv_at hl 0 rfl) ?_
              refine lv_ixor hx hb dX3_mostOfSet_67 ?_
              have h12 := hw.1
              have hw := hw.2
              refine va_iald hx hb hK hP 1 0 rfl rfl h12 dX3_mostOfSet_68 ?_
              refine lv_aload_n hx hb dX3_mostOfSet_69 rfl (lv_at hl 2 rfl) ?_
              refine va_get (D := (dC, dI)) (ci := 2) (v := .ref (ad2 4)) (C := RX2) (T := TX2) (N := 7) hx hb hts (fun w h => List.mem_cons_of_mem _ (List.mem_append_left _ (List.mem_append_right _ h))) hown hK hP 2 rfl rfl 0 (by decide) (hts (.fieldLink RX3 35 "BidMarket$Market" "worths" "[[I") (List.mem_of_getElem? (i := 3) rfl)) (fun _ h9 => h9) rfl dX3_mostOfSet_70 ?_
              refine lv_iload_n hx hb dX3_mostOfSet_73 rfl (lv_at hl 4 rfl) ?_
              have h13 := hw.1
              have hw := hw.2
              have q14 := bw_lt h13
              refine bw_aald (g := fun i => ad2 (i + 5)) (b := ad2 (v3.toNatClampNeg + 5)) hx hb hK hP 3 3 rfl rfl rfl (fun k h => if_pos h) h13 rfl dX3_mostOfSet_74 ?_
              refine lv_iload hx hb dX3_mostOfSet_75 (lv_at hl 6 rfl) ?_
              have h15 := hw.1
              have hw := hw.2
              have g16 : ∀ k, k < 8 → ((wdX3_mostOfSet cI cJ cT cII cJJ ad ad2 su n2 pa2 br2 w2))[4 + k]? = some (ad2 (k + 5), .inl (cI, 8, .inl (w2 k))) := bw_all8 rfl rfl rfl rfl rfl rfl rfl rfl
              refine va_iald hx hb hK hP (4 + v3.toNatClampNeg) 0 (g16 _ q14) rfl h15 dX3_mostOfSet_77 ?_
              refine lv_iadd hx hb dX3_mostOfSet_78 ?_
              refine va_mmax hx hb (hml.trans hl.1.symm) hown (hts (.methodLink RX3 39 Lib.Math.max.name) (List.mem_of_getElem? (i := 4) rfl)) (hts (.static Lib.Math.max.name) (List.mem_of_getElem? (i := 5) rfl)) (hts (.initialized "java/lang/Math") (List.mem_of_getElem? (i := 6) rfl)) (hts (.code Lib.Math.max.name Lib.Math.max.code 2 (some .int)) (List.mem_of_getElem? (i := 7) rfl)) (Nat.le_of_ble_eq_true rfl) (Nat.le_of_ble_eq_true rfl) (Nat.le_of_ble_eq_true rfl) (Nat.le_of_ble_eq_true rfl) dX3_mostOfSet_79 ?_
              refine lv_topi (fun x17 ex17 => ?_)
              have hw := hw x17 ex17
              refine lv_istore (lv' := [(4, .int x17), (6, .int x5), (0, .ref (ad 0)), (1, .ref (ad2 0)), (2, .int a2), (3, .int v3), (5, .int v5)]) hx hb dX3_mostOfSet_82 hl (by decide) rfl (fun ls hl => ?_)
              exact kB84 (wpX3_mostOfSet_B14 su n2 w2 a2 Post f) ih v3 x17 v5 ls (lv_sub hl [2, 3, 4, 5, 0, 6] rfl) hw
  unfold wpX3_mostOfSet at hw
  refine lv_iload_n hx hb dX3_mostOfSet_0 rfl (lv_at hl 2 rfl) ?_
  refine bw_psi (wc := []) (As := [.int a2]) (rest := []) ⟨hx, hb, hml, hown, hts⟩ (mJ6_bitCount_0f7a4 l dC dI cI cJ cT cII cJJ a2 _ hw) (va_cwS 1 hts gX3_mostOfSet_J6_bitCount_0f7a4 rfl rfl rfl hdJ6_bitCount_0f7a4 ⟨Nat.le_of_ble_eq_true rfl, Nat.le_of_ble_eq_true rfl⟩) hK hP [] rfl rfl hl.1 rfl (Nat.le_of_ble_eq_true rfl) ⟨Nat.le_of_ble_eq_true rfl, Nat.le_of_ble_eq_true rfl⟩ dX3_mostOfSet_1 (fun r1 hw => ?_)
  refine lv_iconst (v := 1) hx hb dX3_mostOfSet_4 (by decide) ?_
  refine lv_isub hx hb dX3_mostOfSet_5 ?_
  refine lv_topi (fun x2 ex2 => ?_)
  have hw := hw x2 ex2
  refine lv_istore_n (lv' := [(3, .int x2), (0, .ref (ad 0)), (1, .ref (ad2 0)), (2, .int a2)]) hx hb dX3_mostOfSet_6 rfl hl (by decide) rfl (fun ls hl => ?_)
  refine lv_bipush (v := (-5)) hx hb dX3_mostOfSet_7 (by decide) ?_
  refine lv_topi (fun x3 ex3 => ?_)
  have hw := hw x3 ex3
  refine lv_istore (lv' := [(4, .int x3), (3, .int x2), (0, .ref (ad 0)), (1, .ref (ad2 0)), (2, .int a2)]) hx hb dX3_mostOfSet_9 hl (by decide) rfl (fun ls hl => ?_)
  refine lv_iconst (v := 0) hx hb dX3_mostOfSet_11 (by decide) ?_
  refine lv_istore (lv' := [(5, .int 0), (4, .int x3), (3, .int x2), (0, .ref (ad 0)), (1, .ref (ad2 0)), (2, .int a2)]) hx hb dX3_mostOfSet_12 hl (by decide) rfl (fun ls hl => ?_)
  obtain ⟨f1, hw⟩ := hw
  exact kB14 f1 x2 x3 0 ls (lv_sub hl [3, 4, 5, 2, 1, 0] rfl) hw
set_option maxHeartbeats 4000000 in
set_option maxRecDepth 100000 in
theorem mX3_mostWorth (l : Launch) (dC : Nat → ClassId) (dI : Nat → Nat → Nat) (cI cJ cT cII cJJ : ClassId) (ad : Nat → Nat) (ad2 : Nat → Nat) (sz : Nat) (su : Nat → Int32) (n2 : Int32) (pa2 : Int32) (br2 : Int32) (w2 : Nat → Nat → Int32) (Post : Int32 → (Nat → Int32) → Prop) (hw : wpX3_mostWorth su n2 w2 Post) : Met l yX3_mostWorth wsX3_mostWorth ({ frames := 2, cells := 0, slots := 0, locals := 90 } : Room) (va_Pc [.ref (ad 0), .ref (ad2 0)] (fun U => U.heap.size = sz ∧ va_P (dC, dI) vwCl (wdX3_mostWorth cI cJ cT cII cJJ ad ad2 su n2 pa2 br2 w2) U.heap ∧ va_K (dC, dI) vwCl (bw_tys cI cJ cT cII cJJ) U ∧ va_D (fun _ => True) (wdX3_mostWorth cI cJ cT cII cJJ ad ad2 su n2 pa2 br2 w2))) (va_Qi (fun (r : Int32) (u : (Nat → Int32)) => Post r u) (fun (u : (Nat → Int32)) t => va_P (dC, dI) vwCl (wdX3_mostWorth cI cJ cT cII cJJ ad ad2 u n2 pa2 br2 w2) t.heap) (va_A (wdX3_mostWorth cI cJ cT cII cJJ ad ad2 su n2 pa2 br2 w2) sz)) 0 0 (va_A (wdX3_mostWorth cI cJ cT cII cJJ ad ad2 su n2 pa2 br2 w2) sz) := by
  refine Met.ofW (cc := cX3_mostWorth) (maxL := 4) (ret := (some .int)) (by decide) rfl ?_
  intro p e s m args below meth c s₁ B hml hv
  obtain ⟨rfl, hsz, hP, hK, hD0⟩ := hv
  have hx := B.exec
  have hb := B.bytes
  have hr := B.returns
  have hts := atoms_spec (ws := wsX3_mostWorth) B.pre
  have hown : s.vm.findClass RX3 = some m.cls := findClass_of_methodNamed B.named
  have hlocks := B.notSynchronized
  subst hsz
  have hD := hD0.self (sz := s.heap.size)
  generalize hAe : va_A (wdX3_mostWorth cI cJ cT cII cJJ ad ad2 su n2 pa2 br2 w2) s.heap.size = A at hD ⊢
  have hA : ∀ q : Nat, s.heap.size ≤ q → A q := fun q h => by rw [← hAe]; exact Or.inr h
  have hS : va_S A s.heap s.heap [] := va_S.rf
  have hl := lv_entry ([.ref (ad 0), .ref (ad2 0)]) (n := 4) (Nat.le_of_ble_eq_true rfl)
  rw [lg_entry_eq]
  generalize (lg_sl ([.ref (ad 0), .ref (ad2 0)]) ++ List.replicate (4 - (lg_sl ([.ref (ad 0), .ref (ad2 0)])).length) Slot.unset).toArray = ls at hl ⊢
  have hl : lv_has ls 4 [(0, .ref (ad 0)), (1, .ref (ad2 0))] := hl
  have kB16 : ∀ f : Nat, ∀ (v2 : Int32) (v3 : Int32) (su : Nat → Int32), ∀ (H : Heap) (locs : List Loc), va_P (dC, dI) vwCl (wdX3_mostWorth cI cJ cT cII cJJ ad ad2 su n2 pa2 br2 w2) H → va_D A (wdX3_mostWorth cI cJ cT cII cJJ ad ad2 su n2 pa2 br2 w2) → va_S A s.heap H locs → ∀ ls : Array Slot, lv_has ls 4 [(0, .ref (ad 0)), (1, .ref (ad2 0)), (2, .int v2), (3, .int v3)] → wpX3_mostWorth_B16 n2 w2 Post f v2 v3 su → W p l e (headSpec wsX3_mostWorth ({ frames := 2, cells := 0, slots := 0, locals := 90 } : Room)).room s m ([.ref (ad 0), .ref (ad2 0)] : List Value).toArray below meth c H locs 0 0 (MQ below (va_Qi (fun (r : Int32) (u : (Nat → Int32)) => Post r u) (fun (u : (Nat → Int32)) t => va_P (dC, dI) vwCl (wdX3_mostWorth cI cJ cT cII cJJ ad ad2 u n2 pa2 br2 w2) t.heap) A) ([.ref (ad 0), .ref (ad2 0)] : List Value).toArray s 0 0 A) (F0 m 16 ls []) := by
    intro  f
    induction f with
    | zero => intro v2 v3 su H locs hP hD hS ls hl hw; exact (show False from hw).elim
    | succ f ih =>
      intro v2 v3 su H locs hP hD hS ls hl hw
      rw [wpX3_mostWorth_B16] at hw
      refine lv_iload_n hx hb dX3_mostWorth_16 rfl (lv_at hl 3 rfl) ?_
      refine lv_iload_n hx hb dX3_mostWorth_17 rfl (lv_at hl 2 rfl) ?_
      refine lv_icmp_ge (tgt := 39) hx hb dX3_mostWorth_18 (by decide) (fun c3 => ?_) (fun c3 => ?_)
      · have hw := hw.1 c3
        refine lv_aload_n hx hb dX3_mostWorth_39 rfl (lv_at hl 0 rfl) ?_
        refine va_get (D := (dC, dI)) (ci := 3) (v := .ref (ad 1)) (C := RX3) (T := TX3) (N := 1) hx hb hts (fun w h => List.mem_cons_of_mem _ (List.mem_append_right _ h)) hown hK hP 0 rfl rfl 0 (by decide) (hts (.fieldLink RX3 9 "BidMarket$Optimum" "sums" "[I") (List.mem_of_getElem? (i := 2) rfl)) (fun _ h9 => h9) rfl dX3_mostWorth_40 ?_
        refine lv_iload_n hx hb dX3_mostWorth_43 rfl (lv_at hl 2 rfl) ?_
        refine lv_iconst (v := 1) hx hb dX3_mostWorth_44 (by decide) ?_
        refine lv_isub hx hb dX3_mostWorth_45 ?_
        have h4 := hw.1
        have hw := hw.2
        refine va_iald hx hb hK hP 1 0 rfl rfl h4 dX3_mostWorth_46 ?_
        exact W.iret (v := su (v2 - 1).toNatClampNeg) hx hb hr (fun t ht hW => ⟨⟨su (v2 - 1).toNatClampNeg, su, rfl, hw, by show va_P _ _ _ t.heap; rw [ht]; exact hP⟩, hS.F ht⟩) hS.2.2 dX3_mostWorth_47
      · have hw := hw.2 c3
        refine lv_aload_n hx hb dX3_mostWorth_21 rfl (lv_at hl 0 rfl) ?_
        refine va_get (D := (dC, dI)) (ci := 3) (v := .ref (ad 1)) (C := RX3) (T := TX3) (N := 1) hx hb hts (fun w h => List.mem_cons_of_mem _ (List.mem_append_right _ h)) hown hK hP 0 rfl rfl 0 (by decide) (hts (.fieldLink RX3 9 "BidMarket$Optimum" "sums" "[I") (List.mem_of_getElem? (i := 2) rfl)) (fun _ h9 => h9) rfl dX3_mostWorth_22 ?_
        refine lv_iload_n hx hb dX3_mostWorth_25 rfl (lv_at hl 3 rfl) ?_
        refine lv_aload_n hx hb dX3_mostWorth_26 rfl (lv_at hl 0 rfl) ?_
        refine lv_aload_n hx hb dX3_mostWorth_27 rfl (lv_at hl 1 rfl) ?_
        refine lv_iload_n hx hb dX3_mostWorth_28 rfl (lv_at hl 3 rfl) ?_
        refine bw_pvi (wc := (wdX3_mostOfSet cI cJ cT cII cJJ ad ad2 su n2 pa2 br2 w2)) (As := [.ref (ad2 0), .int v3]) (rest := [.int v3, .ref (ad 1)]) ⟨hx, hb, hml, hown, hts⟩ (mX3_mostOfSet l dC dI cI cJ cT cII cJJ ad ad2 su n2 pa2 br2 w2 v3 _ hw) (cwV 2 hts gX3_mostWorth_X3_mostOfSet rfl rfl rfl hdX3_mostOfSet ⟨Nat.le_of_ble_eq_true rfl, Nat.le_of_ble_eq_true rfl⟩) hK hP [0, 1, 2, 3, 4, 5, 6, 7, 8, 9, 10, 11] rfl rfl rfl rfl rfl hl.1 rfl (Nat.le_of_ble_eq_true rfl) ⟨Nat.le_of_ble_eq_true rfl, Nat.le_of_ble_eq_true rfl⟩ dX3_mostWorth_29 (fun r5 hw => ?_)
        have h6 := hw.1
        have hw := hw.2
        refine va_iast hx hb hK hP hD hS 1 0 rfl rfl h6 dX3_mostWorth_32 (fun H locs hP hD hS => ?_)
        have hP : va_P (dC, dI) vwCl (wdX3_mostWorth cI cJ cT cII cJJ ad ad2 (upd su v3.toNatClampNeg r5) n2 pa2 br2 w2) H := hP
        have hD : va_D A (wdX3_mostWorth cI cJ cT cII cJJ ad ad2 (upd su v3.toNatClampNeg r5) n2 pa2 br2 w2) := hD
        obtain ⟨x7, ex7⟩ : ∃ y : Int32, y = v3 + 1 := ⟨_, rfl⟩
        have hw := hw x7 ex7
        refine lv_iinc (v := x7) (lv' := [(3, .int x7), (0, .ref (ad 0)), (1, .ref (ad2 0)), (2, .int v2)]) hx hb dX3_mostWorth_33 hl (k := 3) rfl (by rw [ex7]; rfl) (by decide) rfl (fun ls hl => ?_)
        refine lv_goto (tgt := 16) hx hb dX3_mostWorth_36 (by decide) ?_
        exact ih v2 x7 (upd su v3.toNatClampNeg r5) _ _ hP hD hS ls (lv_sub hl [1, 2, 3, 0] rfl) hw
  unfold wpX3_mostWorth at hw
  refine lv_iconst (v := 1) hx hb dX3_mostWorth_0 (by decide) ?_
  refine lv_aload_n hx hb dX3_mostWorth_1 rfl (lv_at hl 1 rfl) ?_
  refine va_get (D := (dC, dI)) (ci := 2) (v := .int n2) (C := RX2) (T := TX2) (N := 7) hx hb hts (fun w h => List.mem_cons_of_mem _ (List.mem_append_left _ (List.mem_append_right _ h))) hown hK hP 2 rfl rfl 4 (by decide) (hts (.fieldLink RX3 15 "BidMarket$Market" "n" "I") (List.mem_of_getElem? (i := 1) rfl)) (fun _ h9 => h9) rfl dX3_mostWorth_2 ?_
  refine lv_ishl hx hb dX3_mostWorth_5 ?_
  refine lv_topi (fun x1 ex1 => ?_)
  have hw := hw x1 ex1
  refine lv_istore_n (lv' := [(2, .int x1), (0, .ref (ad 0)), (1, .ref (ad2 0))]) hx hb dX3_mostWorth_6 rfl hl (by decide) rfl (fun ls hl => ?_)
  refine lv_aload_n hx hb dX3_mostWorth_7 rfl (lv_at hl 1 rfl) ?_
  refine va_get (D := (dC, dI)) (ci := 3) (v := .ref (ad 1)) (C := RX3) (T := TX3) (N := 1) hx hb hts (fun w h => List.mem_cons_of_mem _ (List.mem_append_right _ h)) hown hK hP 0 rfl rfl 0 (by decide) (hts (.fieldLink RX3 9 "BidMarket$Optimum" "sums" "[I") (List.mem_of_getElem? (i := 2) rfl)) (fun _ h9 => h9) rfl dX3_mostWorth_8 ?_
  refine lv_iconst (v := 0) hx hb dX3_mostWorth_11 (by decide) ?_
  refine lv_iconst (v := 0) hx hb dX3_mostWorth_12 (by decide) ?_
  have h2 := hw.1
  have hw := hw.2
  refine va_iast hx hb hK hP hD hS 1 0 rfl rfl h2 dX3_mostWorth_13 (fun H locs hP hD hS => ?_)
  have hP : va_P (dC, dI) vwCl (wdX3_mostWorth cI cJ cT cII cJJ ad ad2 (upd su (0 : Int32).toNatClampNeg 0) n2 pa2 br2 w2) H := hP
  have hD : va_D A (wdX3_mostWorth cI cJ cT cII cJJ ad ad2 (upd su (0 : Int32).toNatClampNeg 0) n2 pa2 br2 w2) := hD
  refine lv_iconst (v := 1) hx hb dX3_mostWorth_14 (by decide) ?_
  refine lv_istore_n (lv' := [(3, .int 1), (2, .int x1), (0, .ref (ad 0)), (1, .ref (ad2 0))]) hx hb dX3_mostWorth_15 rfl hl (by decide) rfl (fun ls hl => ?_)
  obtain ⟨f1, hw⟩ := hw
  exact kB16 f1 x1 1 (upd su (0 : Int32).toNatClampNeg 0) _ _ hP hD hS ls (lv_sub hl [2, 3, 1, 0] rfl) hw
set_option maxHeartbeats 4000000 in
set_option maxRecDepth 100000 in
theorem mX3_allowedToSome (l : Launch) (dC : Nat → ClassId) (dI : Nat → Nat → Nat) (cI cJ cT cII cJJ : ClassId) (ad : Nat → Nat) (ad2 : Nat → Nat) (n2 : Int32) (pa2 : Int32) (br2 : Int32) (w2 : Nat → Nat → Int32) (a2 : Int32) (Post : Int32 → Prop) (hw : wpX3_allowedToSome n2 w2 a2 Post) : Met l yX3_allowedToSome wsX3_allowedToSome ({ frames := 2, cells := 0, slots := 0, locals := 45 } : Room) (va_Pc [.ref (ad 0), .ref (ad2 0), .int a2] (fun U => va_P (dC, dI) vwCl (wdX3_allowedToSome cI cJ cT cII cJJ ad ad2 n2 pa2 br2 w2) U.heap ∧ va_K (dC, dI) vwCl (bw_tys cI cJ cT cII cJJ) U)) (vp_Si Post) 0 0 (fun _ => False) := by
  refine Met.ofW (cc := cX3_allowedToSome) (maxL := 5) (ret := (some .int)) (by decide) rfl ?_
  intro p e s m args below meth c s₁ B hml hv
  obtain ⟨rfl, hP, hK⟩ := hv
  have hx := B.exec
  have hb := B.bytes
  have hr := B.returns
  have hts := atoms_spec (ws := wsX3_allowedToSome) B.pre
  have hown : s.vm.findClass RX3 = some m.cls := findClass_of_methodNamed B.named
  have hlocks := B.notSynchronized
  have hl := lv_entry ([.ref (ad 0), .ref (ad2 0), .int a2]) (n := 5) (Nat.le_of_ble_eq_true rfl)
  rw [lg_entry_eq]
  generalize (lg_sl ([.ref (ad 0), .ref (ad2 0), .int a2]) ++ List.replicate (5 - (lg_sl ([.ref (ad 0), .ref (ad2 0), .int a2])).length) Slot.unset).toArray = ls at hl ⊢
  have hl : lv_has ls 5 [(0, .ref (ad 0)), (1, .ref (ad2 0)), (2, .int a2)] := hl
  have kB32 : ∀ (K5 : Int32 → Int32 → Prop), (∀ (v3 : Int32) (v4 : Int32), ∀ ls : Array Slot, lv_has ls 5 [(1, .ref (ad2 0)), (2, .int a2), (3, .int v3), (4, .int v4)] → K5 v3 v4 → W p l e (headSpec wsX3_allowedToSome ({ frames := 2, cells := 0, slots := 0, locals := 45 } : Room)).room s m ([.ref (ad 0), .ref (ad2 0), .int a2] : List Value).toArray below meth c s.heap [] 0 0 (MQ below (vp_Si Post) ([.ref (ad 0), .ref (ad2 0), .int a2] : List Value).toArray s 0 0 (fun _ => False)) (F0 m 5 ls [])) → ∀ (v3 : Int32) (v4 : Int32), ∀ ls : Array Slot, lv_has ls 5 [(1, .ref (ad2 0)), (2, .int a2), (3, .int v3), (4, .int v4)] → wpX3_allowedToSome_B32 n2 w2 a2 K5 Post v3 v4 → W p l e (headSpec wsX3_allowedToSome ({ frames := 2, cells := 0, slots := 0, locals := 45 } : Room)).room s m ([.ref (ad 0), .ref (ad2 0), .int a2] : List Value).toArray below meth c s.heap [] 0 0 (MQ below (vp_Si Post) ([.ref (ad 0), .ref (ad2 0), .int a2] : List Value).toArray s 0 0 (fun _ => False)) (F0 m 32 ls []) := by
    intro K5 hK5 v3 v4 ls hl hw
    unfold wpX3_allowedToSome_B32 at hw
    obtain ⟨x3, ex3⟩ : ∃ y : Int32, y = v4 + 1 := ⟨_, rfl⟩
    have hw := hw x3 ex3
    refine lv_iinc (v := x3) (lv' := [(4, .int x3), (1, .ref (ad2 0)), (2, .int a2), (3, .int v3)]) hx hb dX3_allowedToSome_32 hl (k := 3) rfl (by rw [ex3]; rfl) (by decide) rfl (fun ls hl => ?_)
    refine lv_goto (tgt := 5) hx hb dX3_allowedToSome_35 (by decide) ?_
    exact hK5 v3 x3 ls (lv_sub hl [1, 2, 3, 0] rfl) hw
  have kB5 : ∀ f : Nat, ∀ (v3 : Int32) (v4 : Int32), ∀ ls : Array Slot, lv_has ls 5 [(1, .ref (ad2 0)), (2, .int a2), (3, .int v3), (4, .int v4)] → wpX3_allowedToSome_B5 n2 w2 a2 Post f v3 v4 → W p l e (headSpec wsX3_allowedToSome ({ frames := 2, cells := 0, slots := 0, locals := 45 } : Room)).room s m ([.ref (ad 0), .ref (ad2 0), .int a2] : List Value).toArray below meth c s.heap [] 0 0 (MQ below (vp_Si Post) ([.ref (ad 0), .ref (ad2 0), .int a2] : List Value).toArray s 0 0 (fun _ => False)) (F0 m 5 ls []) := by
    intro  f
    induction f with
    | zero => intro v3 v4 ls hl hw; exact (show False from hw).elim
    | succ f ih =>
      intro v3 v4 ls hl hw
      rw [wpX3_allowedToSome_B5] at hw
      refine lv_iload hx hb dX3_allowedToSome_5 (lv_at hl 3 rfl) ?_
      refine lv_aload_n hx hb dX3_allowedToSome_7 rfl (lv_at hl 0 rfl) ?_
      refine va_get (D := (dC, dI)) (ci := 2) (v := .int n2) (C := RX2) (T := TX2) (N := 7) hx hb hts (fun w h => List.mem_cons_of_mem _ (List.mem_append_right _ h)) hown hK hP 1 rfl rfl 4 (by decide) (hts (.fieldLink RX3 15 "BidMarket$Market" "n" "I") (List.mem_of_getElem? (i := 1) rfl)) (fun _ h9 => h9) rfl dX3_allowedToSome_8 ?_
      refine lv_icmp_ge (tgt := 38) hx hb dX3_allowedToSome_11 (by decide) (fun c1 => ?_) (fun c1 => ?_)
      · have hw := hw.1 c1
        refine lv_iload_n hx hb dX3_allowedToSome_38 rfl (lv_at hl 2 rfl) ?_
        exact W.iret (v := v3) hx hb hr (fun t ht hW => ⟨v3, rfl, hw, ht⟩) (fun _ h => by cases h) dX3_allowedToSome_39
      · have hw := hw.2 c1
        refine lv_iload_n hx hb dX3_allowedToSome_14 rfl (lv_at hl 1 rfl) ?_
        refine lv_iconst (v := 1) hx hb dX3_allowedToSome_15 (by decide) ?_
        refine lv_iload hx hb dX3_allowedToSome_16 (lv_at hl 3 rfl) ?_
        refine lv_ishl hx hb dX3_allowedToSome_18 ?_
        refine lv_iand hx hb dX3_allowedToSome_19 ?_
        refine lv_if_eq (tgt := 32) hx hb dX3_allowedToSome_20 (by decide) (fun c2 => ?_) (fun c2 => ?_)
        · have hw := hw.1 c2
          exact kB32 (wpX3_allowedToSome_B5 n2 w2 a2 Post f) ih v3 v4 ls hl hw
        · have hw := hw.2 c2
          refine lv_iload_n hx hb dX3_allowedToSome_23 rfl (lv_at hl 2 rfl) ?_
          refine lv_aload_n hx hb dX3_allowedToSome_24 rfl (lv_at hl 0 rfl) ?_
          refine lv_iload hx hb dX3_allowedToSome_25 (lv_at hl 3 rfl) ?_
          refine bw_pvi (wc := (wdX2_allowedTo cI cJ cT cII cJJ ad2 n2 pa2 br2 w2)) (As := [.int v4]) (rest := [.int v3]) ⟨hx, hb, hml, hown, hts⟩ (mX2_allowedTo l dC dI cI cJ cT cII cJJ ad2 n2 pa2 br2 w2 v4 _ hw) (cwV 1 hts gX3_allowedToSome_X2_allowedTo rfl rfl rfl hdX2_allowedTo ⟨Nat.le_of_ble_eq_true rfl, Nat.le_of_ble_eq_true rfl⟩) hK hP [1, 2, 3, 4, 5, 6, 7, 8, 9, 10] rfl rfl rfl rfl rfl hl.1 rfl (Nat.le_of_ble_eq_true rfl) ⟨Nat.le_of_ble_eq_true rfl, Nat.le_of_ble_eq_true rfl⟩ dX3_allowedToSome_27 (fun r4 hw => ?_)
          refine lv_ior hx hb dX3_allowedToSome_30 ?_
          refine lv_topi (fun x5 ex5 => ?_)
          have hw := hw x5 ex5
          refine lv_istore_n (lv' := [(3, .int x5), (1, .ref (ad2 0)), (2, .int a2), (4, .int v4)]) hx hb dX3_allowedToSome_31 rfl hl (by decide) rfl (fun ls hl => ?_)
          exact kB32 (wpX3_allowedToSome_B5 n2 w2 a2 Post f) ih x5 v4 ls (lv_sub hl [1, 2, 0, 3] rfl) hw
  unfold wpX3_allowedToSome at hw
  refine lv_iconst (v := 0) hx hb dX3_allowedToSome_0 (by decide) ?_
  refine lv_istore_n (lv' := [(3, .int 0), (0, .ref (ad 0)), (1, .ref (ad2 0)), (2, .int a2)]) hx hb dX3_allowedToSome_1 rfl hl (by decide) rfl (fun ls hl => ?_)
  refine lv_iconst (v := 0) hx hb dX3_allowedToSome_2 (by decide) ?_
  refine lv_istore (lv' := [(4, .int 0), (3, .int 0), (0, .ref (ad 0)), (1, .ref (ad2 0)), (2, .int a2)]) hx hb dX3_allowedToSome_3 hl (by decide) rfl (fun ls hl => ?_)
  obtain ⟨f1, hw⟩ := hw
  exact kB5 f1 0 0 ls (lv_sub hl [3, 4, 1, 0] rfl) hw
set_option maxHeartbeats 4000000 in
set_option maxRecDepth 100000 in
theorem mX3_leastLacking (l : Launch) (dC : Nat → ClassId) (dI : Nat → Nat → Nat) (cI cJ cT cII cJJ : ClassId) (ad : Nat → Nat) (ad2 : Nat → Nat) (n2 : Int32) (pa2 : Int32) (br2 : Int32) (w2 : Nat → Nat → Int32) (Post : Int32 → Prop) (hw : wpX3_leastLacking n2 w2 Post) : Met l yX3_leastLacking wsX3_leastLacking ({ frames := 3, cells := 0, slots := 0, locals := 69 } : Room) (va_Pc [.ref (ad 0), .ref (ad2 0)] (fun U => va_P (dC, dI) vwCl (wdX3_leastLacking cI cJ cT cII cJJ ad ad2 n2 pa2 br2 w2) U.heap ∧ va_K (dC, dI) vwCl (bw_tys cI cJ cT cII cJJ) U)) (vp_Si Post) 0 0 (fun _ => False) := by
  refine Met.ofW (cc := cX3_leastLacking) (maxL := 7) (ret := (some .int)) (by decide) rfl ?_
  intro p e s m args below meth c s₁ B hml hv
  obtain ⟨rfl, hP, hK⟩ := hv
  have hx := B.exec
  have hb := B.bytes
  have hr := B.returns
  have hts := atoms_spec (ws := wsX3_leastLacking) B.pre
  have hown : s.vm.findClass RX3 = some m.cls := findClass_of_methodNamed B.named
  have hlocks := B.notSynchronized
  have hl := lv_entry ([.ref (ad 0), .ref (ad2 0)]) (n := 7) (Nat.le_of_ble_eq_true rfl)
  rw [lg_entry_eq]
  generalize (lg_sl ([.ref (ad 0), .ref (ad2 0)]) ++ List.replicate (7 - (lg_sl ([.ref (ad 0), .ref (ad2 0)])).length) Slot.unset).toArray = ls at hl ⊢
  have hl : lv_has ls 7 [(0, .ref (ad 0)), (1, .ref (ad2 0))] := hl
  have kB68 : ∀ (K12 : Int32 → Int32 → Int32 → Prop), (∀ (v2 : Int32) (v3 : Int32) (v4 : Int32), ∀ ls : Array Slot, lv_has ls 7 [(0, .ref (ad 0)), (1, .ref (ad2 0)), (2, .int v2), (3, .int v3), (4, .int v4)] → K12 v2 v3 v4 → W p l e (headSpec wsX3_leastLacking ({ frames := 3, cells := 0, slots := 0, locals := 69 } : Room)).room s m ([.ref (ad 0), .ref (ad2 0)] : List Value).toArray below meth c s.heap [] 0 0 (MQ below (vp_Si Post) ([.ref (ad 0), .ref (ad2 0)] : List Value).toArray s 0 0 (fun _ => False)) (F0 m 12 ls [])) → ∀ (v2 : Int32) (v3 : Int32) (v4 : Int32), ∀ ls : Array Slot, lv_has ls 7 [(0, .ref (ad 0)), (1, .ref (ad2 0)), (2, .int v2), (3, .int v3), (4, .int v4)] → wpX3_leastLacking_B68 n2 w2 K12 Post v2 v3 v4 → W p l e (headSpec wsX3_leastLacking ({ frames := 3, cells := 0, slots := 0, locals := 69 } : Room)).room s m ([.ref (ad 0), .ref (ad2 0)] : List Value).toArray below meth c s.heap [] 0 0 (MQ below (vp_Si Post) ([.ref (ad 0), .ref (ad2 0)] : List Value).toArray s 0 0 (fun _ => False)) (F0 m 68 ls []) := by
    intro K12 hK12 v2 v3 v4 ls hl hw
    unfold wpX3_leastLacking_B68 at hw
    obtain ⟨x6, ex6⟩ : ∃ y : Int32, y = v4 + 1 := ⟨_, rfl⟩
    have hw := hw x6 ex6
    refine lv_iinc (v := x6) (lv' := [(4, .int x6), (0, .ref (ad 0)), (1, .ref (ad2 0)), (2, .int v2), (3, .int v3)]) hx hb dX3_leastLacking_68 hl (k := 4) rfl (by rw [ex6]; rfl) (by decide) rfl (fun ls hl => ?_)
    refine lv_goto (tgt := 12) hx hb dX3_leastLacking_71 (by decide) ?_
    exact hK12 v2 v3 x6 ls (lv_sub hl [1, 2, 3, 4, 0] rfl) hw
  have kB43 : ∀ (K12 : Int32 → Int32 → Int32 → Prop), (∀ (v2 : Int32) (v3 : Int32) (v4 : Int32), ∀ ls : Array Slot, lv_has ls 7 [(0, .ref (ad 0)), (1, .ref (ad2 0)), (2, .int v2), (3, .int v3), (4, .int v4)] → K12 v2 v3 v4 → W p l e (headSpec wsX3_leastLacking ({ frames := 3, cells := 0, slots := 0, locals := 69 } : Room)).room s m ([.ref (ad 0), .ref (ad2 0)] : List Value).toArray below meth c s.heap [] 0 0 (MQ below (vp_Si Post) ([.ref (ad 0), .ref (ad2 0)] : List Value).toArray s 0 0 (fun _ => False)) (F0 m 12 ls [])) → ∀ (v2 : Int32) (v3 : Int32) (v4 : Int32) (v5 : Int32) (s0 : Int32), ∀ ls : Array Slot, lv_has ls 7 [(0, .ref (ad 0)), (1, .ref (ad2 0)), (2, .int v2), (3, .int v3), (4, .int v4), (5, .int v5)] → wpX3_leastLacking_B43 n2 w2 K12 Post v2 v3 v4 v5 s0 → W p l e (headSpec wsX3_leastLacking ({ frames := 3, cells := 0, slots := 0, locals := 69 } : Room)).room s m ([.ref (ad 0), .ref (ad2 0)] : List Value).toArray below meth c s.heap [] 0 0 (MQ below (vp_Si Post) ([.ref (ad 0), .ref (ad2 0)] : List Value).toArray s 0 0 (fun _ => False)) (F0 m 43 ls [.int s0]) := by
    intro K12 hK12 v2 v3 v4 v5 s0 ls hl hw
    unfold wpX3_leastLacking_B43 at hw
    refine lv_istore (lv' := [(6, .int s0), (0, .ref (ad 0)), (1, .ref (ad2 0)), (2, .int v2), (3, .int v3), (4, .int v4), (5, .int v5)]) hx hb dX3_leastLacking_43 hl (by decide) rfl (fun ls hl => ?_)
    refine lv_iload hx hb dX3_leastLacking_45 (lv_at hl 0 rfl) ?_
    refine lv_if_eq (tgt := 68) hx hb dX3_leastLacking_47 (by decide) (fun c5 => ?_) (fun c5 => ?_)
    · have hw := hw.1 c5
      exact kB68 K12 hK12 v2 v3 v4 ls (lv_sub hl [1, 2, 3, 4, 5] rfl) hw
    · have hw := hw.2 c5
      refine lv_aload_n hx hb dX3_leastLacking_50 rfl (lv_at hl 1 rfl) ?_
      refine lv_aload_n hx hb dX3_leastLacking_51 rfl (lv_at hl 2 rfl) ?_
      refine lv_iload hx hb dX3_leastLacking_52 (lv_at hl 5 rfl) ?_
      refine bw_pvi (wc := (wdX3_allowedToSome cI cJ cT cII cJJ ad ad2 n2 pa2 br2 w2)) (As := [.ref (ad2 0), .int v4]) (rest := []) ⟨hx, hb, hml, hown, hts⟩ (mX3_allowedToSome l dC dI cI cJ cT cII cJJ ad ad2 n2 pa2 br2 w2 v4 _ hw) (cwV 2 hts gX3_leastLacking_X3_allowedToSome rfl rfl rfl hdX3_allowedToSome ⟨Nat.le_of_ble_eq_true rfl, Nat.le_of_ble_eq_true rfl⟩) hK hP [0, 1, 2, 3, 4, 5, 6, 7, 8, 9, 10] rfl rfl rfl rfl rfl hl.1 rfl (Nat.le_of_ble_eq_true rfl) ⟨Nat.le_of_ble_eq_true rfl, Nat.le_of_ble_eq_true rfl⟩ dX3_leastLacking_54 (fun r7 hw => ?_)
      refine bw_psi (wc := []) (As := [.int r7]) (rest := []) ⟨hx, hb, hml, hown, hts⟩ (mJ6_bitCount_0f7a4 l dC dI cI cJ cT cII cJJ r7 _ hw) (va_cwS 1 hts gX3_leastLacking_J6_bitCount_0f7a4 rfl rfl rfl hdJ6_bitCount_0f7a4 ⟨Nat.le_of_ble_eq_true rfl, Nat.le_of_ble_eq_true rfl⟩) hK hP [] rfl rfl hl.1 rfl (Nat.le_of_ble_eq_true rfl) ⟨Nat.le_of_ble_eq_true rfl, Nat.le_of_ble_eq_true rfl⟩ dX3_leastLacking_57 (fun r8 hw => ?_)
      refine lv_iload hx hb dX3_leastLacking_60 (lv_at hl 6 rfl) ?_
      refine lv_icmp_ge (tgt := 68) hx hb dX3_leastLacking_62 (by decide) (fun c9 => ?_) (fun c9 => ?_)
      · have hw := hw.1 c9
        exact kB68 K12 hK12 v2 v3 v4 ls (lv_sub hl [1, 2, 3, 4, 5] rfl) hw
      · have hw := hw.2 c9
        refine lv_iload hx hb dX3_leastLacking_65 (lv_at hl 5 rfl) ?_
        refine lv_istore_n (lv' := [(2, .int v4), (6, .int s0), (0, .ref (ad 0)), (1, .ref (ad2 0)), (3, .int v3), (4, .int v4), (5, .int v5)]) hx hb dX3_leastLacking_67 rfl hl (by decide) rfl (fun ls hl => ?_)
        exact kB68 K12 hK12 v4 v3 v4 ls (lv_sub hl [2, 3, 0, 4, 5] rfl) hw
  have kB38 : ∀ (K12 : Int32 → Int32 → Int32 → Prop), (∀ (v2 : Int32) (v3 : Int32) (v4 : Int32), ∀ ls : Array Slot, lv_has ls 7 [(0, .ref (ad 0)), (1, .ref (ad2 0)), (2, .int v2), (3, .int v3), (4, .int v4)] → K12 v2 v3 v4 → W p l e (headSpec wsX3_leastLacking ({ frames := 3, cells := 0, slots := 0, locals := 69 } : Room)).room s m ([.ref (ad 0), .ref (ad2 0)] : List Value).toArray below meth c s.heap [] 0 0 (MQ below (vp_Si Post) ([.ref (ad 0), .ref (ad2 0)] : List Value).toArray s 0 0 (fun _ => False)) (F0 m 12 ls [])) → ∀ (v2 : Int32) (v3 : Int32) (v4 : Int32) (v5 : Int32), ∀ ls : Array Slot, lv_has ls 7 [(0, .ref (ad 0)), (1, .ref (ad2 0)), (2, .int v2), (3, .int v3), (4, .int v4), (5, .int v5)] → wpX3_leastLacking_B38 n2 w2 K12 Post v2 v3 v4 v5 → W p l e (headSpec wsX3_leastLacking ({ frames := 3, cells := 0, slots := 0, locals := 69 } : Room)).room s m ([.ref (ad 0), .ref (ad2 0)] : List Value).toArray below meth c s.heap [] 0 0 (MQ below (vp_Si Post) ([.ref (ad 0), .ref (ad2 0)] : List Value).toArray s 0 0 (fun _ => False)) (F0 m 38 ls []) := by
    intro K12 hK12 v2 v3 v4 v5 ls hl hw
    unfold wpX3_leastLacking_B38 at hw
    refine lv_iconst (v := 1) hx hb dX3_leastLacking_38 (by decide) ?_
    refine lv_goto (tgt := 43) hx hb dX3_leastLacking_39 (by decide) ?_
    exact kB43 K12 hK12 v2 v3 v4 v5 1 ls hl hw
  have kB12 : ∀ f : Nat, ∀ (v2 : Int32) (v3 : Int32) (v4 : Int32), ∀ ls : Array Slot, lv_has ls 7 [(0, .ref (ad 0)), (1, .ref (ad2 0)), (2, .int v2), (3, .int v3), (4, .int v4)] → wpX3_leastLacking_B12 n2 w2 Post f v2 v3 v4 → W p l e (headSpec wsX3_leastLacking ({ frames := 3, cells := 0, slots := 0, locals := 69 } : Room)).room s m ([.ref (ad 0), .ref (ad2 0)] : List Value).toArray below meth c s.heap [] 0 0 (MQ below (vp_Si Post) ([.ref (ad 0), .ref (ad2 0)] : List Value).toArray s 0 0 (fun _ => False)) (F0 m 12 ls []) := by
    intro  f
    induction f with
    | zero => intro v2 v3 v4 ls hl hw; exact (show False from hw).elim
    | succ f ih =>
      intro v2 v3 v4 ls hl hw
      rw [wpX3_leastLacking_B12] at hw
      refine lv_iload hx hb dX3_leastLacking_12 (lv_at hl 4 rfl) ?_
      refine lv_iload_n hx hb dX3_leastLacking_14 rfl (lv_at hl 3 rfl) ?_
      refine lv_icmp_ge (tgt := 74) hx hb dX3_leastLacking_15 (by decide) (fun c2 => ?_) (fun c2 => ?_)
      · have hw := hw.1 c2
        refine lv_iload_n hx hb dX3_leastLacking_74 rfl (lv_at hl 2 rfl) ?_
        exact W.iret (v := v2) hx hb hr (fun t ht hW => ⟨v2, rfl, hw, ht⟩) (fun _ h => by cases h) dX3_leastLacking_75
      · have hw := hw.2 c2
        refine lv_iload hx hb dX3_leastLacking_18 (lv_at hl 4 rfl) ?_
        refine bw_psi (wc := []) (As := [.int v4]) (rest := []) ⟨hx, hb, hml, hown, hts⟩ (mJ6_bitCount_0f7a4 l dC dI cI cJ cT cII cJJ v4 _ hw) (va_cwS 1 hts gX3_leastLacking_J6_bitCount_0f7a4 rfl rfl rfl hdJ6_bitCount_0f7a4 ⟨Nat.le_of_ble_eq_true rfl, Nat.le_of_ble_eq_true rfl⟩) hK hP [] rfl rfl hl.1 rfl (Nat.le_of_ble_eq_true rfl) ⟨Nat.le_of_ble_eq_true rfl, Nat.le_of_ble_eq_true rfl⟩ dX3_leastLacking_20 (fun r3 hw => ?_)
        refine lv_istore (lv' := [(5, .int r3), (0, .ref (ad 0)), (1, .ref (ad2 0)), (2, .int v2), (3, .int v3), (4, .int v4)]) hx hb dX3_leastLacking_23 hl (by decide) rfl (fun ls hl => ?_)
        refine lv_iload_n hx hb dX3_leastLacking_25 rfl (lv_at hl 3 rfl) ?_
        refine lv_if_eq (tgt := 38) hx hb dX3_leastLacking_26 (by decide) (fun c4 => ?_) (fun c4 => ?_)
        · have hw := hw.1 c4
          exact kB38 (wpX3_leastLacking_B12 n2 w2 Post f) ih v2 v3 v4 r3 ls (lv_sub hl [1, 2, 3, 4, 5, 0] rfl) hw
        · have hw := hw.2 c4
          refine lv_iload hx hb dX3_leastLacking_29 (lv_at hl 0 rfl) ?_
          refine lv_iload_n hx hb dX3_leastLacking_31 rfl (lv_at hl 3 rfl) ?_
          refine bw_psi (wc := []) (As := [.int v2]) (rest := [.int r3]) ⟨hx, hb, hml, hown, hts⟩ (mJ6_bitCount_0f7a4 l dC dI cI cJ cT cII cJJ v2 _ hw) (va_cwS 1 hts gX3_leastLacking_J6_bitCount_0f7a4 rfl rfl rfl hdJ6_bitCount_0f7a4 ⟨Nat.le_of_ble_eq_true rfl, Nat.le_of_ble_eq_true rfl⟩) hK hP [] rfl rfl hl.1 rfl (Nat.le_of_ble_eq_true rfl) ⟨Nat.le_of_ble_eq_true rfl, Nat.le_of_ble_eq_true rfl⟩ dX3_leastLacking_32 (fun r10 hw => ?_)
          refine lv_icmp_ge (tgt := 42) hx hb dX3_leastLacking_35 (by decide) (fun c11 => ?_) (fun c11 => ?_)
          · have hw := hw.1 c11
            refine lv_iconst (v := 0) hx hb dX3_leastLacking_42 (by decide) ?_
            exact kB43 (wpX3_leastLacking_B12 n2 w2 Post f) ih v2 v3 v4 r3 0 ls (lv_sub hl [1, 2, 3, 4, 5, 0] rfl) hw
          · have hw := hw.2 c11
            exact kB38 (wpX3_leastLacking_B12 n2 w2 Post f) ih v2 v3 v4 r3 ls (lv_sub hl [1, 2, 3, 4, 5, 0] rfl) hw
  unfold wpX3_leastLacking at hw
  refine lv_iconst (v := 0) hx hb dX3_leastLacking_0 (by decide) ?_
  refine lv_istore_n (lv' := [(2, .int 0), (0, .ref (ad 0)), (1, .ref (ad2 0))]) hx hb dX3_leastLacking_1 rfl hl (by decide) rfl (fun ls hl => ?_)
  refine lv_iconst (v := 1) hx hb dX3_leastLacking_2 (by decide) ?_
  refine lv_aload_n hx hb dX3_leastLacking_3 rfl (lv_at hl 2 rfl) ?_
  refine va_get (D := (dC, dI)) (ci := 2) (v := .int n2) (C := RX2) (T := TX2) (N := 7) hx hb hts (fun w h => List.mem_cons_of_mem _ (List.mem_append_right _ h)) hown hK hP 1 rfl rfl 4 (by decide) (hts (.fieldLink RX3 15 "BidMarket$Market" "n" "I") (List.mem_of_getElem? (i := 1) rfl)) (fun _ h9 => h9) rfl dX3_leastLacking_4 ?_
  refine lv_ishl hx hb dX3_leastLacking_7 ?_
  refine lv_topi (fun x1 ex1 => ?_)
  have hw := hw x1 ex1
  refine lv_istore_n (lv' := [(3, .int x1), (2, .int 0), (0, .ref (ad 0)), (1, .ref (ad2 0))]) hx hb dX3_leastLacking_8 rfl hl (by decide) rfl (fun ls hl => ?_)
  refine lv_iconst (v := 1) hx hb dX3_leastLacking_9 (by decide) ?_
  refine lv_istore (lv' := [(4, .int 1), (3, .int x1), (2, .int 0), (0, .ref (ad 0)), (1, .ref (ad2 0))]) hx hb dX3_leastLacking_10 hl (by decide) rfl (fun ls hl => ?_)
  obtain ⟨f1, hw⟩ := hw
  exact kB12 f1 0 x1 1 ls (lv_sub hl [3, 4, 2, 1, 0] rfl) hw
set_option maxHeartbeats 4000000 in
set_option maxRecDepth 100000 in
theorem mX4_empty (l : Launch) (dC : Nat → ClassId) (dI : Nat → Nat → Nat) (cI cJ cT cII cJJ : ClassId) (ad : Nat → Nat) (sz : Nat) (ru : Int32) (Post : Int32 → Int32 → Prop) (hw : wpX4_empty ru Post) : Met l yX4_empty wsX4_empty ({ frames := 0, cells := 0, slots := 0, locals := 0 } : Room) (va_Pc [.ref (ad 0)] (fun U => U.heap.size = sz ∧ va_P (dC, dI) vwCl (wdX4_empty cI cJ cT cII cJJ ad ru) U.heap ∧ va_K (dC, dI) vwCl (bw_tys cI cJ cT cII cJJ) U ∧ va_D (fun _ => True) (wdX4_empty cI cJ cT cII cJJ ad ru))) (va_Qi (fun (r : Int32) (u : Int32) => Post r u) (fun (u : Int32) t => va_P (dC, dI) vwCl (wdX4_empty cI cJ cT cII cJJ ad u) t.heap) (va_A (wdX4_empty cI cJ cT cII cJJ ad ru) sz)) 0 0 (va_A (wdX4_empty cI cJ cT cII cJJ ad ru) sz) := by
  refine Met.ofW (cc := cX4_empty) (maxL := 1) (ret := (some .int)) (by decide) rfl ?_
  intro p e s m args below meth c s₁ B hml hv
  obtain ⟨rfl, hsz, hP, hK, hD0⟩ := hv
  have hx := B.exec
  have hb := B.bytes
  have hr := B.returns
  have hts := atoms_spec (ws := wsX4_empty) B.pre
  have hown : s.vm.findClass RX4 = some m.cls := findClass_of_methodNamed B.named
  have hlocks := B.notSynchronized
  subst hsz
  have hD := hD0.self (sz := s.heap.size)
  generalize hAe : va_A (wdX4_empty cI cJ cT cII cJJ ad ru) s.heap.size = A at hD ⊢
  have hA : ∀ q : Nat, s.heap.size ≤ q → A q := fun q h => by rw [← hAe]; exact Or.inr h
  have hS : va_S A s.heap s.heap [] := va_S.rf
  have hl := lv_entry ([.ref (ad 0)]) (n := 1) (Nat.le_of_ble_eq_true rfl)
  rw [lg_entry_eq]
  generalize (lg_sl ([.ref (ad 0)]) ++ List.replicate (1 - (lg_sl ([.ref (ad 0)])).length) Slot.unset).toArray = ls at hl ⊢
  have hl : lv_has ls 1 [(0, .ref (ad 0))] := hl
  unfold wpX4_empty at hw
  refine lv_aload_n hx hb dX4_empty_0 rfl (lv_at hl 0 rfl) ?_
  refine lv_iconst (v := 0) hx hb dX4_empty_1 (by decide) ?_
  refine va_put (D := (dC, dI)) (ci := 4) (v := .int 0) (ty := .int) (C := RX4) (T := TX4) (N := 3) hx hb hts (fun w h => List.mem_cons_of_mem _ (List.mem_append_right _ h)) tyX4 tyX4_ok nmX4 hown hK hP hD hS 0 rfl rfl 2 (by decide) (hts (.fieldLink RX4 9 "BidMarket$Rows" "used" "I") (List.mem_of_getElem? (i := 1) rfl)) (fun _ h9 => h9) rfl (by decide +kernel) rfl rfl (Nat.le_of_ble_eq_true rfl) dX4_empty_2 (fun H locs hP hD hS => ?_)
  have hP : va_P (dC, dI) vwCl (wdX4_empty cI cJ cT cII cJJ ad 0) H := hP
  have hD : va_D A (wdX4_empty cI cJ cT cII cJJ ad 0) := hD
  refine lv_aload_n hx hb dX4_empty_5 rfl (lv_at hl 0 rfl) ?_
  refine va_get (D := (dC, dI)) (ci := 4) (v := .int 0) (C := RX4) (T := TX4) (N := 3) hx hb hts (fun w h => List.mem_cons_of_mem _ (List.mem_append_right _ h)) hown hK hP 0 rfl rfl 2 (by decide) (hts (.fieldLink RX4 9 "BidMarket$Rows" "used" "I") (List.mem_of_getElem? (i := 1) rfl)) (fun _ h9 => h9) rfl dX4_empty_6 ?_
  exact W.iret (v := 0) hx hb hr (fun t ht hW => ⟨⟨0, 0, rfl, hw, by show va_P _ _ _ t.heap; rw [ht]; exact hP⟩, hS.F ht⟩) hS.2.2 dX4_empty_9
set_option maxHeartbeats 4000000 in
set_option maxRecDepth 100000 in
theorem mX4_append (l : Launch) (dC : Nat → ClassId) (dI : Nat → Nat → Nat) (cI cJ cT cII cJJ : ClassId) (ad : Nat → Nat) (sz : Nat) (ru : Int32) (N : Nat) (rl : Nat → Int32) (rr : Nat → Int32) (a1 : Int32) (a2 : Int32) (Post : Int32 → Int32 → (Nat → Int32) → (Nat → Int32) → Prop) (hw : wpX4_append ru N rl rr a1 a2 Post) : Met l yX4_append wsX4_append ({ frames := 0, cells := 0, slots := 0, locals := 0 } : Room) (va_Pc [.ref (ad 0), .int a1, .int a2] (fun U => U.heap.size = sz ∧ va_P (dC, dI) vwCl (wdX4_append cI cJ cT cII cJJ ad ru N rl rr) U.heap ∧ va_K (dC, dI) vwCl (bw_tys cI cJ cT cII cJJ) U ∧ va_D (fun _ => True) (wdX4_append cI cJ cT cII cJJ ad ru N rl rr))) (va_Qi (fun (r : Int32) (u : Int32 × (Nat → Int32) × (Nat → Int32)) => Post r u.1 u.2.1 u.2.2) (fun (u : Int32 × (Nat → Int32) × (Nat → Int32)) t => va_P (dC, dI) vwCl (wdX4_append cI cJ cT cII cJJ ad u.1 N u.2.1 u.2.2) t.heap) (va_A (wdX4_append cI cJ cT cII cJJ ad ru N rl rr) sz)) 0 0 (va_A (wdX4_append cI cJ cT cII cJJ ad ru N rl rr) sz) := by
  refine Met.ofW (cc := cX4_append) (maxL := 3) (ret := (some .int)) (by decide) rfl ?_
  intro p e s m args below meth c s₁ B hml hv
  obtain ⟨rfl, hsz, hP, hK, hD0⟩ := hv
  have hx := B.exec
  have hb := B.bytes
  have hr := B.returns
  have hts := atoms_spec (ws := wsX4_append) B.pre
  have hown : s.vm.findClass RX4 = some m.cls := findClass_of_methodNamed B.named
  have hlocks := B.notSynchronized
  subst hsz
  have hD := hD0.self (sz := s.heap.size)
  generalize hAe : va_A (wdX4_append cI cJ cT cII cJJ ad ru N rl rr) s.heap.size = A at hD ⊢
  have hA : ∀ q : Nat, s.heap.size ≤ q → A q := fun q h => by rw [← hAe]; exact Or.inr h
  have hS : va_S A s.heap s.heap [] := va_S.rf
  have hl := lv_entry ([.ref (ad 0), .int a1, .int a2]) (n := 3) (Nat.le_of_ble_eq_true rfl)
  rw [lg_entry_eq]
  generalize (lg_sl ([.ref (ad 0), .int a1, .int a2]) ++ List.replicate (3 - (lg_sl ([.ref (ad 0), .int a1, .int a2])).length) Slot.unset).toArray = ls at hl ⊢
  have hl : lv_has ls 3 [(0, .ref (ad 0)), (1, .int a1), (2, .int a2)] := hl
  unfold wpX4_append at hw
  refine lv_aload_n hx hb dX4_append_0 rfl (lv_at hl 0 rfl) ?_
  refine va_get (D := (dC, dI)) (ci := 4) (v := .int ru) (C := RX4) (T := TX4) (N := 3) hx hb hts (fun w h => List.mem_cons_of_mem _ (List.mem_append_right _ h)) hown hK hP 0 rfl rfl 2 (by decide) (hts (.fieldLink RX4 9 "BidMarket$Rows" "used" "I") (List.mem_of_getElem? (i := 1) rfl)) (fun _ h9 => h9) rfl dX4_append_1 ?_
  refine lv_aload_n hx hb dX4_append_4 rfl (lv_at hl 0 rfl) ?_
  refine va_get (D := (dC, dI)) (ci := 4) (v := .ref (ad 1)) (C := RX4) (T := TX4) (N := 3) hx hb hts (fun w h => List.mem_cons_of_mem _ (List.mem_append_right _ h)) hown hK hP 0 rfl rfl 0 (by decide) (hts (.fieldLink RX4 15 "BidMarket$Rows" "left" "[I") (List.mem_of_getElem? (i := 2) rfl)) (fun _ h9 => h9) rfl dX4_append_5 ?_
  refine va_alen hx hb hK hP 1 0 rfl rfl (v := Int32.ofNat N) rfl dX4_append_8 ?_
  refine lv_icmp_lt (tgt := 15) hx hb dX4_append_9 (by decide) (fun c1 => ?_) (fun c1 => ?_)
  · have hw := hw.1 c1
    refine lv_aload_n hx hb dX4_append_15 rfl (lv_at hl 0 rfl) ?_
    refine va_get (D := (dC, dI)) (ci := 4) (v := .ref (ad 1)) (C := RX4) (T := TX4) (N := 3) hx hb hts (fun w h => List.mem_cons_of_mem _ (List.mem_append_right _ h)) hown hK hP 0 rfl rfl 0 (by decide) (hts (.fieldLink RX4 15 "BidMarket$Rows" "left" "[I") (List.mem_of_getElem? (i := 2) rfl)) (fun _ h9 => h9) rfl dX4_append_16 ?_
    refine lv_aload_n hx hb dX4_append_19 rfl (lv_at hl 0 rfl) ?_
    refine va_get (D := (dC, dI)) (ci := 4) (v := .int ru) (C := RX4) (T := TX4) (N := 3) hx hb hts (fun w h => List.mem_cons_of_mem _ (List.mem_append_right _ h)) hown hK hP 0 rfl rfl 2 (by decide) (hts (.fieldLink RX4 9 "BidMarket$Rows" "used" "I") (List.mem_of_getElem? (i := 1) rfl)) (fun _ h9 => h9) rfl dX4_append_20 ?_
    refine lv_iload_n hx hb dX4_append_23 rfl (lv_at hl 1 rfl) ?_
    have h2 := hw.1
    have hw := hw.2
    refine va_iast hx hb hK hP hD hS 1 0 rfl rfl h2 dX4_append_24 (fun H locs hP hD hS => ?_)
    have hP : va_P (dC, dI) vwCl (wdX4_append cI cJ cT cII cJJ ad ru N (upd rl ru.toNatClampNeg a1) rr) H := hP
    have hD : va_D A (wdX4_append cI cJ cT cII cJJ ad ru N (upd rl ru.toNatClampNeg a1) rr) := hD
    refine lv_aload_n hx hb dX4_append_25 rfl (lv_at hl 0 rfl) ?_
    refine va_get (D := (dC, dI)) (ci := 4) (v := .ref (ad 2)) (C := RX4) (T := TX4) (N := 3) hx hb hts (fun w h => List.mem_cons_of_mem _ (List.mem_append_right _ h)) hown hK hP 0 rfl rfl 1 (by decide) (hts (.fieldLink RX4 19 "BidMarket$Rows" "right" "[I") (List.mem_of_getElem? (i := 3) rfl)) (fun _ h9 => h9) rfl dX4_append_26 ?_
    refine lv_aload_n hx hb dX4_append_29 rfl (lv_at hl 0 rfl) ?_
    refine va_get (D := (dC, dI)) (ci := 4) (v := .int ru) (C := RX4) (T := TX4) (N := 3) hx hb hts (fun w h => List.mem_cons_of_mem _ (List.mem_append_right _ h)) hown hK hP 0 rfl rfl 2 (by decide) (hts (.fieldLink RX4 9 "BidMarket$Rows" "used" "I") (List.mem_of_getElem? (i := 1) rfl)) (fun _ h9 => h9) rfl dX4_append_30 ?_
    refine lv_iload_n hx hb dX4_append_33 rfl (lv_at hl 2 rfl) ?_
    have h3 := hw.1
    have hw := hw.2
    refine va_iast hx hb hK hP hD hS 2 0 rfl rfl h3 dX4_append_34 (fun H locs hP hD hS => ?_)
    have hP : va_P (dC, dI) vwCl (wdX4_append cI cJ cT cII cJJ ad ru N (upd rl ru.toNatClampNeg a1) (upd rr ru.toNatClampNeg a2)) H := hP
    have hD : va_D A (wdX4_append cI cJ cT cII cJJ ad ru N (upd rl ru.toNatClampNeg a1) (upd rr ru.toNatClampNeg a2)) := hD
    refine lv_aload_n hx hb dX4_append_35 rfl (lv_at hl 0 rfl) ?_
    refine lv_dup hx hb dX4_append_36 rfl ?_
    refine va_get (D := (dC, dI)) (ci := 4) (v := .int ru) (C := RX4) (T := TX4) (N := 3) hx hb hts (fun w h => List.mem_cons_of_mem _ (List.mem_append_right _ h)) hown hK hP 0 rfl rfl 2 (by decide) (hts (.fieldLink RX4 9 "BidMarket$Rows" "used" "I") (List.mem_of_getElem? (i := 1) rfl)) (fun _ h9 => h9) rfl dX4_append_37 ?_
    refine lv_iconst (v := 1) hx hb dX4_append_40 (by decide) ?_
    refine lv_iadd hx hb dX4_append_41 ?_
    refine va_put (D := (dC, dI)) (ci := 4) (v := .int (ru + 1)) (ty := .int) (C := RX4) (T := TX4) (N := 3) hx hb hts (fun w h => List.mem_cons_of_mem _ (List.mem_append_right _ h)) tyX4 tyX4_ok nmX4 hown hK hP hD hS 0 rfl rfl 2 (by decide) (hts (.fieldLink RX4 9 "BidMarket$Rows" "used" "I") (List.mem_of_getElem? (i := 1) rfl)) (fun _ h9 => h9) rfl (by decide +kernel) rfl rfl (Nat.le_of_ble_eq_true rfl) dX4_append_42 (fun H locs hP hD hS => ?_)
    have hP : va_P (dC, dI) vwCl (wdX4_append cI cJ cT cII cJJ ad (ru + 1) N (upd rl ru.toNatClampNeg a1) (upd rr ru.toNatClampNeg a2)) H := hP
    have hD : va_D A (wdX4_append cI cJ cT cII cJJ ad (ru + 1) N (upd rl ru.toNatClampNeg a1) (upd rr ru.toNatClampNeg a2)) := hD
    refine lv_aload_n hx hb dX4_append_45 rfl (lv_at hl 0 rfl) ?_
    refine va_get (D := (dC, dI)) (ci := 4) (v := .int (ru + 1)) (C := RX4) (T := TX4) (N := 3) hx hb hts (fun w h => List.mem_cons_of_mem _ (List.mem_append_right _ h)) hown hK hP 0 rfl rfl 2 (by decide) (hts (.fieldLink RX4 9 "BidMarket$Rows" "used" "I") (List.mem_of_getElem? (i := 1) rfl)) (fun _ h9 => h9) rfl dX4_append_46 ?_
    exact W.iret (v := ru + 1) hx hb hr (fun t ht hW => ⟨⟨ru + 1, (ru + 1, upd rl ru.toNatClampNeg a1, upd rr ru.toNatClampNeg a2), rfl, hw, by show va_P _ _ _ t.heap; rw [ht]; exact hP⟩, hS.F ht⟩) hS.2.2 dX4_append_49
  · have hw := hw.2 c1
    refine lv_bipush (v := (-4)) hx hb dX4_append_12 (by decide) ?_
    exact W.iret (v := (-4)) hx hb hr (fun t ht hW => ⟨⟨(-4), (ru, rl, rr), rfl, hw, by show va_P _ _ _ t.heap; rw [ht]; exact hP⟩, hS.F ht⟩) hS.2.2 dX4_append_14
set_option maxHeartbeats 4000000 in
set_option maxRecDepth 100000 in
theorem mX5_becomeRow (l : Launch) (dC : Nat → ClassId) (dI : Nat → Nat → Nat) (cI cJ cT cII cJJ : ClassId) (ad : Nat → Nat) (sz : Nat) (so : Int32) (le : Int32) (it : Nat → Int64) (a1 : Int32) (a2 : Int32) (Post : Int32 → Int32 → (Nat → Int64) → Prop) (hw : wpX5_becomeRow so le it a1 a2 Post) : Met l yX5_becomeRow wsX5_becomeRow ({ frames := 0, cells := 0, slots := 0, locals := 0 } : Room) (va_Pc [.ref (ad 0), .int a1, .int a2] (fun U => U.heap.size = sz ∧ va_P (dC, dI) vwCl (wdX5_becomeRow cI cJ cT cII cJJ ad so le it) U.heap ∧ va_K (dC, dI) vwCl (bw_tys cI cJ cT cII cJJ) U ∧ va_D (fun _ => True) (wdX5_becomeRow cI cJ cT cII cJJ ad so le it))) (va_Qv (fun (u : Int32 × Int32 × (Nat → Int64)) => Post u.1 u.2.1 u.2.2) (fun (u : Int32 × Int32 × (Nat → Int64)) t => va_P (dC, dI) vwCl (wdX5_becomeRow cI cJ cT cII cJJ ad u.1 u.2.1 u.2.2) t.heap) (va_A (wdX5_becomeRow cI cJ cT cII cJJ ad so le it) sz)) 0 0 (va_A (wdX5_becomeRow cI cJ cT cII cJJ ad so le it) sz) := by
  refine Met.ofW (cc := cX5_becomeRow) (maxL := 4) (ret := none) (by decide) rfl ?_
  intro p e s m args below meth c s₁ B hml hv
  obtain ⟨rfl, hsz, hP, hK, hD0⟩ := hv
  have hx := B.exec
  have hb := B.bytes
  have hr := B.returns
  have hts := atoms_spec (ws := wsX5_becomeRow) B.pre
  have hown : s.vm.findClass RX5 = some m.cls := findClass_of_methodNamed B.named
  have hlocks := B.notSynchronized
  subst hsz
  have hD := hD0.self (sz := s.heap.size)
  generalize hAe : va_A (wdX5_becomeRow cI cJ cT cII cJJ ad so le it) s.heap.size = A at hD ⊢
  have hA : ∀ q : Nat, s.heap.size ≤ q → A q := fun q h => by rw [← hAe]; exact Or.inr h
  have hS : va_S A s.heap s.heap [] := va_S.rf
  have hl := lv_entry ([.ref (ad 0), .int a1, .int a2]) (n := 4) (Nat.le_of_ble_eq_true rfl)
  rw [lg_entry_eq]
  generalize (lg_sl ([.ref (ad 0), .int a1, .int a2]) ++ List.replicate (4 - (lg_sl ([.ref (ad 0), .int a1, .int a2])).length) Slot.unset).toArray = ls at hl ⊢
  have hl : lv_has ls 4 [(0, .ref (ad 0)), (1, .int a1), (2, .int a2)] := hl
  have kB12 : ∀ f : Nat, ∀ (v3 : Int32) (so : Int32) (le : Int32) (it : Nat → Int64), ∀ (H : Heap) (locs : List Loc), va_P (dC, dI) vwCl (wdX5_becomeRow cI cJ cT cII cJJ ad so le it) H → va_D A (wdX5_becomeRow cI cJ cT cII cJJ ad so le it) → va_S A s.heap H locs → ∀ ls : Array Slot, lv_has ls 4 [(0, .ref (ad 0)), (3, .int v3)] → wpX5_becomeRow_B12 a1 a2 Post f v3 so le it → W p l e (headSpec wsX5_becomeRow ({ frames := 0, cells := 0, slots := 0, locals := 0 } : Room)).room s m ([.ref (ad 0), .int a1, .int a2] : List Value).toArray below meth c H locs 0 0 (MQ below (va_Qv (fun (u : Int32 × Int32 × (Nat → Int64)) => Post u.1 u.2.1 u.2.2) (fun (u : Int32 × Int32 × (Nat → Int64)) t => va_P (dC, dI) vwCl (wdX5_becomeRow cI cJ cT cII cJJ ad u.1 u.2.1 u.2.2) t.heap) A) ([.ref (ad 0), .int a1, .int a2] : List Value).toArray s 0 0 A) (F0 m 12 ls []) := by
    intro  f
    induction f with
    | zero => intro v3 so le it H locs hP hD hS ls hl hw; exact (show False from hw).elim
    | succ f ih =>
      intro v3 so le it H locs hP hD hS ls hl hw
      rw [wpX5_becomeRow_B12] at hw
      refine lv_iload_n hx hb dX5_becomeRow_12 rfl (lv_at hl 1 rfl) ?_
      refine lv_bipush (v := 60) hx hb dX5_becomeRow_13 (by decide) ?_
      refine lv_icmp_ge (tgt := 31) hx hb dX5_becomeRow_15 (by decide) (fun c1 => ?_) (fun c1 => ?_)
      · have hw := hw.1 c1
        exact W.vret hx hb hr (fun t ht hW => ⟨⟨(so, le, it), rfl, hw, by show va_P _ _ _ t.heap; rw [ht]; exact hP⟩, hS.F ht⟩) hS.2.2 dX5_becomeRow_31
      · have hw := hw.2 c1
        refine lv_aload_n hx hb dX5_becomeRow_18 rfl (lv_at hl 0 rfl) ?_
        refine va_get (D := (dC, dI)) (ci := 5) (v := .ref (ad 1)) (C := RX5) (T := TX5) (N := 3) hx hb hts (fun w h => List.mem_cons_of_mem _ (List.mem_append_right _ h)) hown hK hP 0 rfl rfl 0 (by decide) (hts (.fieldLink RX5 9 "BidMarket$Tape" "items" "[J") (List.mem_of_getElem? (i := 3) rfl)) (fun _ h9 => h9) rfl dX5_becomeRow_19 ?_
        refine lv_iload_n hx hb dX5_becomeRow_22 rfl (lv_at hl 1 rfl) ?_
        refine lv_lconst (v := 0) hx hb dX5_becomeRow_23 (by decide) ?_
        have h2 := hw.1
        have hw := hw.2
        refine va_last hx hb hK hP hD hS 1 1 rfl rfl h2 dX5_becomeRow_24 (fun H locs hP hD hS => ?_)
        have hP : va_P (dC, dI) vwCl (wdX5_becomeRow cI cJ cT cII cJJ ad so le (vp_updL it v3.toNatClampNeg 0)) H := hP
        have hD : va_D A (wdX5_becomeRow cI cJ cT cII cJJ ad so le (vp_updL it v3.toNatClampNeg 0)) := hD
        obtain ⟨x3, ex3⟩ : ∃ y : Int32, y = v3 + 1 := ⟨_, rfl⟩
        have hw := hw x3 ex3
        refine lv_iinc (v := x3) (lv' := [(3, .int x3), (0, .ref (ad 0))]) hx hb dX5_becomeRow_25 hl (k := 1) rfl (by rw [ex3]; rfl) (by decide) rfl (fun ls hl => ?_)
        refine lv_goto (tgt := 12) hx hb dX5_becomeRow_28 (by decide) ?_
        exact ih x3 so le (vp_updL it v3.toNatClampNeg 0) _ _ hP hD hS ls (lv_sub hl [1, 0] rfl) hw
  unfold wpX5_becomeRow at hw
  refine lv_aload_n hx hb dX5_becomeRow_0 rfl (lv_at hl 0 rfl) ?_
  refine lv_iload_n hx hb dX5_becomeRow_1 rfl (lv_at hl 1 rfl) ?_
  refine va_put (D := (dC, dI)) (ci := 5) (v := .int a1) (ty := .int) (C := RX5) (T := TX5) (N := 3) hx hb hts (fun w h => List.mem_cons_of_mem _ (List.mem_append_right _ h)) tyX5 tyX5_ok nmX5 hown hK hP hD hS 0 rfl rfl 1 (by decide) (hts (.fieldLink RX5 13 "BidMarket$Tape" "sort" "I") (List.mem_of_getElem? (i := 1) rfl)) (fun _ h9 => h9) rfl (by decide +kernel) rfl rfl (Nat.le_of_ble_eq_true rfl) dX5_becomeRow_2 (fun H locs hP hD hS => ?_)
  have hP : va_P (dC, dI) vwCl (wdX5_becomeRow cI cJ cT cII cJJ ad a1 le it) H := hP
  have hD : va_D A (wdX5_becomeRow cI cJ cT cII cJJ ad a1 le it) := hD
  refine lv_aload_n hx hb dX5_becomeRow_5 rfl (lv_at hl 0 rfl) ?_
  refine lv_iload_n hx hb dX5_becomeRow_6 rfl (lv_at hl 2 rfl) ?_
  refine va_put (D := (dC, dI)) (ci := 5) (v := .int a2) (ty := .int) (C := RX5) (T := TX5) (N := 3) hx hb hts (fun w h => List.mem_cons_of_mem _ (List.mem_append_right _ h)) tyX5 tyX5_ok nmX5 hown hK hP hD hS 0 rfl rfl 2 (by decide) (hts (.fieldLink RX5 17 "BidMarket$Tape" "length" "I") (List.mem_of_getElem? (i := 2) rfl)) (fun _ h9 => h9) rfl (by decide +kernel) rfl rfl (Nat.le_of_ble_eq_true rfl) dX5_becomeRow_7 (fun H locs hP hD hS => ?_)
  have hP : va_P (dC, dI) vwCl (wdX5_becomeRow cI cJ cT cII cJJ ad a1 a2 it) H := hP
  have hD : va_D A (wdX5_becomeRow cI cJ cT cII cJJ ad a1 a2 it) := hD
  refine lv_iconst (v := 0) hx hb dX5_becomeRow_10 (by decide) ?_
  refine lv_istore_n (lv' := [(3, .int 0), (0, .ref (ad 0)), (1, .int a1), (2, .int a2)]) hx hb dX5_becomeRow_11 rfl hl (by decide) rfl (fun ls hl => ?_)
  obtain ⟨f1, hw⟩ := hw
  exact kB12 f1 0 a1 a2 it _ _ hP hD hS ls (lv_sub hl [1, 0] rfl) hw
set_option maxHeartbeats 4000000 in
set_option maxRecDepth 100000 in
theorem mX5_hasPlace (l : Launch) (dC : Nat → ClassId) (dI : Nat → Nat → Nat) (cI cJ cT cII cJJ : ClassId) (ad : Nat → Nat) (so : Int32) (le : Int32) (a1 : Int32) (Post : Int32 → Prop) (hw : wpX5_hasPlace le a1 Post) : Met l yX5_hasPlace wsX5_hasPlace ({ frames := 0, cells := 0, slots := 0, locals := 0 } : Room) (va_Pc [.ref (ad 0), .int a1] (fun U => va_P (dC, dI) vwCl (wdX5_hasPlace cI cJ cT cII cJJ ad so le) U.heap ∧ va_K (dC, dI) vwCl (bw_tys cI cJ cT cII cJJ) U)) (vp_Si Post) 0 0 (fun _ => False) := by
  refine Met.ofW (cc := cX5_hasPlace) (maxL := 2) (ret := (some .boolean)) (by decide) rfl ?_
  intro p e s m args below meth c s₁ B hml hv
  obtain ⟨rfl, hP, hK⟩ := hv
  have hx := B.exec
  have hb := B.bytes
  have hr := B.returns
  have hts := atoms_spec (ws := wsX5_hasPlace) B.pre
  have hown : s.vm.findClass RX5 = some m.cls := findClass_of_methodNamed B.named
  have hlocks := B.notSynchronized
  have hl := lv_entry ([.ref (ad 0), .int a1]) (n := 2) (Nat.le_of_ble_eq_true rfl)
  rw [lg_entry_eq]
  generalize (lg_sl ([.ref (ad 0), .int a1]) ++ List.replicate (2 - (lg_sl ([.ref (ad 0), .int a1])).length) Slot.unset).toArray = ls at hl ⊢
  have hl : lv_has ls 2 [(0, .ref (ad 0)), (1, .int a1)] := hl
  unfold wpX5_hasPlace at hw
  refine lv_iload_n hx hb dX5_hasPlace_0 rfl (lv_at hl 1 rfl) ?_
  refine lv_if_lt (tgt := 16) hx hb dX5_hasPlace_1 (by decide) (fun c1 => ?_) (fun c1 => ?_)
  · have hw := hw.1 c1
    refine lv_iconst (v := 0) hx hb dX5_hasPlace_16 (by decide) ?_
    exact W.zret (v := 0) hx hb hr rfl (fun t ht hW => ⟨0, rfl, hw, ht⟩) (fun _ h => by cases h) dX5_hasPlace_17
  · have hw := hw.2 c1
    refine lv_iload_n hx hb dX5_hasPlace_4 rfl (lv_at hl 1 rfl) ?_
    refine lv_aload_n hx hb dX5_hasPlace_5 rfl (lv_at hl 0 rfl) ?_
    refine va_get (D := (dC, dI)) (ci := 5) (v := .int le) (C := RX5) (T := TX5) (N := 3) hx hb hts (fun w h => List.mem_cons_of_mem _ (List.mem_append_right _ h)) hown hK hP 0 rfl rfl 2 (by decide) (hts (.fieldLink RX5 17 "BidMarket$Tape" "length" "I") (List.mem_of_getElem? (i := 1) rfl)) (fun _ h9 => h9) rfl dX5_hasPlace_6 ?_
    refine lv_icmp_ge (tgt := 16) hx hb dX5_hasPlace_9 (by decide) (fun c2 => ?_) (fun c2 => ?_)
    · have hw := hw.1 c2
      refine lv_iconst (v := 0) hx hb dX5_hasPlace_16 (by decide) ?_
      exact W.zret (v := 0) hx hb hr rfl (fun t ht hW => ⟨0, rfl, hw, ht⟩) (fun _ h => by cases h) dX5_hasPlace_17
    · have hw := hw.2 c2
      refine lv_iconst (v := 1) hx hb dX5_hasPlace_12 (by decide) ?_
      refine lv_goto (tgt := 17) hx hb dX5_hasPlace_13 (by decide) ?_
      exact W.zret (v := 1) hx hb hr rfl (fun t ht hW => ⟨1, rfl, hw, ht⟩) (fun _ h => by cases h) dX5_hasPlace_17
set_option maxHeartbeats 4000000 in
set_option maxRecDepth 100000 in
theorem mX5_hasRun (l : Launch) (dC : Nat → ClassId) (dI : Nat → Nat → Nat) (cI cJ cT cII cJJ : ClassId) (ad : Nat → Nat) (so : Int32) (le : Int32) (a1 : Int32) (a2 : Int32) (Post : Int32 → Prop) (hw : wpX5_hasRun le a1 a2 Post) : Met l yX5_hasRun wsX5_hasRun ({ frames := 0, cells := 0, slots := 0, locals := 0 } : Room) (va_Pc [.ref (ad 0), .int a1, .int a2] (fun U => va_P (dC, dI) vwCl (wdX5_hasRun cI cJ cT cII cJJ ad so le) U.heap ∧ va_K (dC, dI) vwCl (bw_tys cI cJ cT cII cJJ) U)) (vp_Si Post) 0 0 (fun _ => False) := by
  refine Met.ofW (cc := cX5_hasRun) (maxL := 3) (ret := (some .boolean)) (by decide) rfl ?_
  intro p e s m args below meth c s₁ B hml hv
  obtain ⟨rfl, hP, hK⟩ := hv
  have hx := B.exec
  have hb := B.bytes
  have hr := B.returns
  have hts := atoms_spec (ws := wsX5_hasRun) B.pre
  have hown : s.vm.findClass RX5 = some m.cls := findClass_of_methodNamed B.named
  have hlocks := B.notSynchronized
  have hl := lv_entry ([.ref (ad 0), .int a1, .int a2]) (n := 3) (Nat.le_of_ble_eq_true rfl)
  rw [lg_entry_eq]
  generalize (lg_sl ([.ref (ad 0), .int a1, .int a2]) ++ List.replicate (3 - (lg_sl ([.ref (ad 0), .int a1, .int a2])).length) Slot.unset).toArray = ls at hl ⊢
  have hl : lv_has ls 3 [(0, .ref (ad 0)), (1, .int a1), (2, .int a2)] := hl
  unfold wpX5_hasRun at hw
  refine lv_iload_n hx hb dX5_hasRun_0 rfl (lv_at hl 2 rfl) ?_
  refine lv_if_lt (tgt := 30) hx hb dX5_hasRun_1 (by decide) (fun c1 => ?_) (fun c1 => ?_)
  · have hw := hw.1 c1
    refine lv_iconst (v := 0) hx hb dX5_hasRun_30 (by decide) ?_
    exact W.zret (v := 0) hx hb hr rfl (fun t ht hW => ⟨0, rfl, hw, ht⟩) (fun _ h => by cases h) dX5_hasRun_31
  · have hw := hw.2 c1
    refine lv_iload_n hx hb dX5_hasRun_4 rfl (lv_at hl 1 rfl) ?_
    refine lv_if_lt (tgt := 30) hx hb dX5_hasRun_5 (by decide) (fun c2 => ?_) (fun c2 => ?_)
    · have hw := hw.1 c2
      refine lv_iconst (v := 0) hx hb dX5_hasRun_30 (by decide) ?_
      exact W.zret (v := 0) hx hb hr rfl (fun t ht hW => ⟨0, rfl, hw, ht⟩) (fun _ h => by cases h) dX5_hasRun_31
    · have hw := hw.2 c2
      refine lv_iload_n hx hb dX5_hasRun_8 rfl (lv_at hl 2 rfl) ?_
      refine lv_aload_n hx hb dX5_hasRun_9 rfl (lv_at hl 0 rfl) ?_
      refine va_get (D := (dC, dI)) (ci := 5) (v := .int le) (C := RX5) (T := TX5) (N := 3) hx hb hts (fun w h => List.mem_cons_of_mem _ (List.mem_append_right _ h)) hown hK hP 0 rfl rfl 2 (by decide) (hts (.fieldLink RX5 17 "BidMarket$Tape" "length" "I") (List.mem_of_getElem? (i := 1) rfl)) (fun _ h9 => h9) rfl dX5_hasRun_10 ?_
      refine lv_icmp_gt (tgt := 30) hx hb dX5_hasRun_13 (by decide) (fun c3 => ?_) (fun c3 => ?_)
      · have hw := hw.1 c3
        refine lv_iconst (v := 0) hx hb dX5_hasRun_30 (by decide) ?_
        exact W.zret (v := 0) hx hb hr rfl (fun t ht hW => ⟨0, rfl, hw, ht⟩) (fun _ h => by cases h) dX5_hasRun_31
      · have hw := hw.2 c3
        refine lv_iload_n hx hb dX5_hasRun_16 rfl (lv_at hl 1 rfl) ?_
        refine lv_aload_n hx hb dX5_hasRun_17 rfl (lv_at hl 0 rfl) ?_
        refine va_get (D := (dC, dI)) (ci := 5) (v := .int le) (C := RX5) (T := TX5) (N := 3) hx hb hts (fun w h => List.mem_cons_of_mem _ (List.mem_append_right _ h)) hown hK hP 0 rfl rfl 2 (by decide) (hts (.fieldLink RX5 17 "BidMarket$Tape" "length" "I") (List.mem_of_getElem? (i := 1) rfl)) (fun _ h9 => h9) rfl dX5_hasRun_18 ?_
        refine lv_iload_n hx hb dX5_hasRun_21 rfl (lv_at hl 2 rfl) ?_
        refine lv_isub hx hb dX5_hasRun_22 ?_
        refine lv_icmp_gt (tgt := 30) hx hb dX5_hasRun_23 (by decide) (fun c4 => ?_) (fun c4 => ?_)
        · have hw := hw.1 c4
          refine lv_iconst (v := 0) hx hb dX5_hasRun_30 (by decide) ?_
          exact W.zret (v := 0) hx hb hr rfl (fun t ht hW => ⟨0, rfl, hw, ht⟩) (fun _ h => by cases h) dX5_hasRun_31
        · have hw := hw.2 c4
          refine lv_iconst (v := 1) hx hb dX5_hasRun_26 (by decide) ?_
          refine lv_goto (tgt := 31) hx hb dX5_hasRun_27 (by decide) ?_
          exact W.zret (v := 1) hx hb hr rfl (fun t ht hW => ⟨1, rfl, hw, ht⟩) (fun _ h => by cases h) dX5_hasRun_31
set_option maxHeartbeats 4000000 in
set_option maxRecDepth 100000 in
theorem mX5_asItem (l : Launch) (dC : Nat → ClassId) (dI : Nat → Nat → Nat) (cI cJ cT cII cJJ : ClassId) (ad : Nat → Nat) (so : Int32) (le : Int32) (a1 : Int64) (Post : Int64 → Prop) (hw : wpX5_asItem so a1 Post) : Met l yX5_asItem wsX5_asItem ({ frames := 0, cells := 0, slots := 0, locals := 0 } : Room) (va_Pc [.ref (ad 0), .long a1] (fun U => va_P (dC, dI) vwCl (wdX5_asItem cI cJ cT cII cJJ ad so le) U.heap ∧ va_K (dC, dI) vwCl (bw_tys cI cJ cT cII cJJ) U)) (vp_Sl Post) 0 0 (fun _ => False) := by
  refine Met.ofW (cc := cX5_asItem) (maxL := 3) (ret := (some .long)) (by decide) rfl ?_
  intro p e s m args below meth c s₁ B hml hv
  obtain ⟨rfl, hP, hK⟩ := hv
  have hx := B.exec
  have hb := B.bytes
  have hr := B.returns
  have hts := atoms_spec (ws := wsX5_asItem) B.pre
  have hown : s.vm.findClass RX5 = some m.cls := findClass_of_methodNamed B.named
  have hlocks := B.notSynchronized
  have hl := lv_entry ([.ref (ad 0), .long a1]) (n := 3) (Nat.le_of_ble_eq_true rfl)
  rw [lg_entry_eq]
  generalize (lg_sl ([.ref (ad 0), .long a1]) ++ List.replicate (3 - (lg_sl ([.ref (ad 0), .long a1])).length) Slot.unset).toArray = ls at hl ⊢
  have hl : lv_has ls 3 [(0, .ref (ad 0)), (1, .long a1)] := hl
  unfold wpX5_asItem at hw
  refine lv_aload_n hx hb dX5_asItem_0 rfl (lv_at hl 0 rfl) ?_
  refine va_get (D := (dC, dI)) (ci := 5) (v := .int so) (C := RX5) (T := TX5) (N := 3) hx hb hts (fun w h => List.mem_cons_of_mem _ (List.mem_append_right _ h)) hown hK hP 0 rfl rfl 1 (by decide) (hts (.fieldLink RX5 13 "BidMarket$Tape" "sort" "I") (List.mem_of_getElem? (i := 1) rfl)) (fun _ h9 => h9) rfl dX5_asItem_1 ?_
  by_cases c1 : so.toInt < 0 ∨ 4 < so.toInt
  · have hw := hw.1 c1
    refine lv_tableOut (tgt := 66) hx hb dX5_asItem_4 c1 (by decide) ?_
    refine lv_lload_n hx hb dX5_asItem_66 rfl (lv_at hl 1 rfl) ?_
    exact W.lret (v := a1) hx hb hr (fun t ht hW => ⟨a1, rfl, hw, ht⟩) (fun _ h => by cases h) dX5_asItem_67
  have hw := hw.2
  by_cases c2 : so = 0
  · have hw := hw.1 c2
    refine lv_tableIn (tgt := 40) (off := 36) hx hb dX5_asItem_4 (fun h => c1 (Or.inl h)) (fun h => c1 (Or.inr h)) (by rw [c2]; rfl) (by decide) ?_
    refine lv_lload_n hx hb dX5_asItem_40 rfl (lv_at hl 1 rfl) ?_
    refine lv_l2i hx hb dX5_asItem_41 rfl ?_
    refine lv_i2b hx hb dX5_asItem_42 rfl ?_
    refine lv_i2l hx hb dX5_asItem_43 rfl ?_
    exact W.lret (v := a1.toInt32.toInt8.toInt32.toInt64) hx hb hr (fun t ht hW => ⟨a1.toInt32.toInt8.toInt32.toInt64, rfl, hw, ht⟩) (fun _ h => by cases h) dX5_asItem_44
  have hw := hw.2
  by_cases c3 : so = 1
  · have hw := hw.1 c3
    refine lv_tableIn (tgt := 45) (off := 41) hx hb dX5_asItem_4 (fun h => c1 (Or.inl h)) (fun h => c1 (Or.inr h)) (by rw [c3]; rfl) (by decide) ?_
    refine lv_lload_n hx hb dX5_asItem_45 rfl (lv_at hl 1 rfl) ?_
    refine lv_l2i hx hb dX5_asItem_46 rfl ?_
    refine lv_i2s hx hb dX5_asItem_47 rfl ?_
    refine lv_i2l hx hb dX5_asItem_48 rfl ?_
    exact W.lret (v := a1.toInt32.toInt16.toInt32.toInt64) hx hb hr (fun t ht hW => ⟨a1.toInt32.toInt16.toInt32.toInt64, rfl, hw, ht⟩) (fun _ h => by cases h) dX5_asItem_49
  have hw := hw.2
  by_cases c4 : so = 2
  · have hw := hw.1 c4
    refine lv_tableIn (tgt := 50) (off := 46) hx hb dX5_asItem_4 (fun h => c1 (Or.inl h)) (fun h => c1 (Or.inr h)) (by rw [c4]; rfl) (by decide) ?_
    refine lv_lload_n hx hb dX5_asItem_50 rfl (lv_at hl 1 rfl) ?_
    refine lv_l2i hx hb dX5_asItem_51 rfl ?_
    refine lv_i2l hx hb dX5_asItem_52 rfl ?_
    exact W.lret (v := a1.toInt32.toInt64) hx hb hr (fun t ht hW => ⟨a1.toInt32.toInt64, rfl, hw, ht⟩) (fun _ h => by cases h) dX5_asItem_53
  have hw := hw.2
  by_cases c5 : so = 3
  · have hw := hw.1 c5
    refine lv_tableIn (tgt := 66) (off := 62) hx hb dX5_asItem_4 (fun h => c1 (Or.inl h)) (fun h => c1 (Or.inr h)) (by rw [c5]; rfl) (by decide) ?_
    refine lv_lload_n hx hb dX5_asItem_66 rfl (lv_at hl 1 rfl) ?_
    exact W.lret (v := a1) hx hb hr (fun t ht hW => ⟨a1, rfl, hw, ht⟩) (fun _ h => by cases h) dX5_asItem_67
  have hw := hw.2
  by_cases c6 : so = 4
  · have hw := hw c6
    refine lv_tableIn (tgt := 54) (off := 50) hx hb dX5_asItem_4 (fun h => c1 (Or.inl h)) (fun h => c1 (Or.inr h)) (by rw [c6]; rfl) (by decide) ?_
    refine lv_lload_n hx hb dX5_asItem_54 rfl (lv_at hl 1 rfl) ?_
    refine lv_lconst (v := 0) hx hb dX5_asItem_55 (by decide) ?_
    refine W.lcmp hx hb dX5_asItem_56 ?_
    refine lv_if_eq (tgt := 64) hx hb dX5_asItem_57 (by decide) (fun c7 => ?_) (fun c7 => ?_)
    · have hw := hw.1 c7
      refine lv_lconst (v := 0) hx hb dX5_asItem_64 (by decide) ?_
      exact W.lret (v := 0) hx hb hr (fun t ht hW => ⟨0, rfl, hw, ht⟩) (fun _ h => by cases h) dX5_asItem_65
    · have hw := hw.2 c7
      refine lv_lconst (v := 1) hx hb dX5_asItem_60 (by decide) ?_
      refine lv_goto (tgt := 65) hx hb dX5_asItem_61 (by decide) ?_
      exact W.lret (v := 1) hx hb hr (fun t ht hW => ⟨1, rfl, hw, ht⟩) (fun _ h => by cases h) dX5_asItem_65
  exact (bw_sw 4 c1 (fun k hk => match k, hk with | 0, _ => c2 | 1, _ => c3 | 2, _ => c4 | 3, _ => c5 | 4, _ => c6 | k + 5, h => absurd h (by omega))).elim
set_option maxHeartbeats 4000000 in
set_option maxRecDepth 100000 in
theorem mX6_empty (l : Launch) (dC : Nat → ClassId) (dI : Nat → Nat → Nat) (cI cJ cT cII cJJ : ClassId) (ad : Nat → Nat) (sz : Nat) (tl : Int32) (tc : Int32) (ta : Int32) (tk : Int32) (Post : Int32 → Prop) (hw : wpX6_empty tl Post) : Met l yX6_empty wsX6_empty ({ frames := 0, cells := 0, slots := 0, locals := 0 } : Room) (va_Pc [.ref (ad 0)] (fun U => U.heap.size = sz ∧ va_P (dC, dI) vwCl (wdX6_empty cI cJ cT cII cJJ ad tl tc ta tk) U.heap ∧ va_K (dC, dI) vwCl (bw_tys cI cJ cT cII cJJ) U ∧ va_D (fun _ => True) (wdX6_empty cI cJ cT cII cJJ ad tl tc ta tk))) (va_Qv (fun (u : Int32) => Post u) (fun (u : Int32) t => va_P (dC, dI) vwCl (wdX6_empty cI cJ cT cII cJJ ad u tc ta tk) t.heap) (va_A (wdX6_empty cI cJ cT cII cJJ ad tl tc ta tk) sz)) 0 0 (va_A (wdX6_empty cI cJ cT cII cJJ ad tl tc ta tk) sz) := by
  refine Met.ofW (cc := cX6_empty) (maxL := 1) (ret := none) (by decide) rfl ?_
  intro p e s m args below meth c s₁ B hml hv
  obtain ⟨rfl, hsz, hP, hK, hD0⟩ := hv
  have hx := B.exec
  have hb := B.bytes
  have hr := B.returns
  have hts := atoms_spec (ws := wsX6_empty) B.pre
  have hown : s.vm.findClass RX6 = some m.cls := findClass_of_methodNamed B.named
  have hlocks := B.notSynchronized
  subst hsz
  have hD := hD0.self (sz := s.heap.size)
  generalize hAe : va_A (wdX6_empty cI cJ cT cII cJJ ad tl tc ta tk) s.heap.size = A at hD ⊢
  have hA : ∀ q : Nat, s.heap.size ≤ q → A q := fun q h => by rw [← hAe]; exact Or.inr h
  have hS : va_S A s.heap s.heap [] := va_S.rf
  have hl := lv_entry ([.ref (ad 0)]) (n := 1) (Nat.le_of_ble_eq_true rfl)
  rw [lg_entry_eq]
  generalize (lg_sl ([.ref (ad 0)]) ++ List.replicate (1 - (lg_sl ([.ref (ad 0)])).length) Slot.unset).toArray = ls at hl ⊢
  have hl : lv_has ls 1 [(0, .ref (ad 0))] := hl
  unfold wpX6_empty at hw
  refine lv_aload_n hx hb dX6_empty_0 rfl (lv_at hl 0 rfl) ?_
  refine lv_iconst (v := 0) hx hb dX6_empty_1 (by decide) ?_
  refine va_put (D := (dC, dI)) (ci := 6) (v := .int 0) (ty := .int) (C := RX6) (T := TX6) (N := 8) hx hb hts (fun w h => List.mem_cons_of_mem _ (List.mem_append_right _ h)) tyX6 tyX6_ok nmX6 hown hK hP hD hS 0 rfl rfl 1 (by decide) (hts (.fieldLink RX6 15 "BidMarket$Text" "length" "I") (List.mem_of_getElem? (i := 1) rfl)) (fun _ h9 => h9) rfl (by decide +kernel) rfl rfl (Nat.le_of_ble_eq_true rfl) dX6_empty_2 (fun H locs hP hD hS => ?_)
  have hP : va_P (dC, dI) vwCl (wdX6_empty cI cJ cT cII cJJ ad 0 tc ta tk) H := hP
  have hD : va_D A (wdX6_empty cI cJ cT cII cJJ ad 0 tc ta tk) := hD
  exact W.vret hx hb hr (fun t ht hW => ⟨⟨0, rfl, hw, by show va_P _ _ _ t.heap; rw [ht]; exact hP⟩, hS.F ht⟩) hS.2.2 dX6_empty_5
set_option maxHeartbeats 4000000 in
set_option maxRecDepth 100000 in
theorem mX6_append (l : Launch) (dC : Nat → ClassId) (dI : Nat → Nat → Nat) (cI cJ cT cII cJJ : ClassId) (ad : Nat → Nat) (sz : Nat) (tl : Int32) (tc : Int32) (ta : Int32) (tk : Int32) (tb : Nat → Int32) (a1 : Int32) (Post : Int32 → Int32 → (Nat → Int32) → Prop) (hw : wpX6_append tl tb a1 Post) : Met l yX6_append wsX6_append ({ frames := 0, cells := 0, slots := 0, locals := 0 } : Room) (va_Pc [.ref (ad 0), .int a1] (fun U => U.heap.size = sz ∧ va_P (dC, dI) vwCl (wdX6_append cI cJ cT cII cJJ ad tl tc ta tk tb) U.heap ∧ va_K (dC, dI) vwCl (bw_tys cI cJ cT cII cJJ) U ∧ va_D (fun _ => True) (wdX6_append cI cJ cT cII cJJ ad tl tc ta tk tb))) (va_Qi (fun (r : Int32) (u : Int32 × (Nat → Int32)) => Post r u.1 u.2) (fun (u : Int32 × (Nat → Int32)) t => va_P (dC, dI) vwCl (wdX6_append cI cJ cT cII cJJ ad u.1 tc ta tk u.2) t.heap) (va_A (wdX6_append cI cJ cT cII cJJ ad tl tc ta tk tb) sz)) 0 0 (va_A (wdX6_append cI cJ cT cII cJJ ad tl tc ta tk tb) sz) := by
  refine Met.ofW (cc := cX6_append) (maxL := 2) (ret := (some .int)) (by decide) rfl ?_
  intro p e s m args below meth c s₁ B hml hv
  obtain ⟨rfl, hsz, hP, hK, hD0⟩ := hv
  have hx := B.exec
  have hb := B.bytes
  have hr := B.returns
  have hts := atoms_spec (ws := wsX6_append) B.pre
  have hown : s.vm.findClass RX6 = some m.cls := findClass_of_methodNamed B.named
  have hlocks := B.notSynchronized
  subst hsz
  have hD := hD0.self (sz := s.heap.size)
  generalize hAe : va_A (wdX6_append cI cJ cT cII cJJ ad tl tc ta tk tb) s.heap.size = A at hD ⊢
  have hA : ∀ q : Nat, s.heap.size ≤ q → A q := fun q h => by rw [← hAe]; exact Or.inr h
  have hS : va_S A s.heap s.heap [] := va_S.rf
  have hl := lv_entry ([.ref (ad 0), .int a1]) (n := 2) (Nat.le_of_ble_eq_true rfl)
  rw [lg_entry_eq]
  generalize (lg_sl ([.ref (ad 0), .int a1]) ++ List.replicate (2 - (lg_sl ([.ref (ad 0), .int a1])).length) Slot.unset).toArray = ls at hl ⊢
  have hl : lv_has ls 2 [(0, .ref (ad 0)), (1, .int a1)] := hl
  unfold wpX6_append at hw
  refine lv_aload_n hx hb dX6_append_0 rfl (lv_at hl 0 rfl) ?_
  refine va_get (D := (dC, dI)) (ci := 6) (v := .int tl) (C := RX6) (T := TX6) (N := 8) hx hb hts (fun w h => List.mem_cons_of_mem _ (List.mem_append_right _ h)) hown hK hP 0 rfl rfl 1 (by decide) (hts (.fieldLink RX6 15 "BidMarket$Text" "length" "I") (List.mem_of_getElem? (i := 1) rfl)) (fun _ h9 => h9) rfl dX6_append_1 ?_
  refine lv_bipush (v := 100) hx hb dX6_append_4 (by decide) ?_
  refine lv_icmp_lt (tgt := 12) hx hb dX6_append_6 (by decide) (fun c1 => ?_) (fun c1 => ?_)
  · have hw := hw.1 c1
    refine lv_aload_n hx hb dX6_append_12 rfl (lv_at hl 0 rfl) ?_
    refine va_get (D := (dC, dI)) (ci := 6) (v := .ref (ad 1)) (C := RX6) (T := TX6) (N := 8) hx hb hts (fun w h => List.mem_cons_of_mem _ (List.mem_append_right _ h)) hown hK hP 0 rfl rfl 0 (by decide) (hts (.fieldLink RX6 11 "BidMarket$Text" "bytes" "[I") (List.mem_of_getElem? (i := 2) rfl)) (fun _ h9 => h9) rfl dX6_append_13 ?_
    refine lv_aload_n hx hb dX6_append_16 rfl (lv_at hl 0 rfl) ?_
    refine va_get (D := (dC, dI)) (ci := 6) (v := .int tl) (C := RX6) (T := TX6) (N := 8) hx hb hts (fun w h => List.mem_cons_of_mem _ (List.mem_append_right _ h)) hown hK hP 0 rfl rfl 1 (by decide) (hts (.fieldLink RX6 15 "BidMarket$Text" "length" "I") (List.mem_of_getElem? (i := 1) rfl)) (fun _ h9 => h9) rfl dX6_append_17 ?_
    refine lv_iload_n hx hb dX6_append_20 rfl (lv_at hl 1 rfl) ?_
    have h2 := hw.1
    have hw := hw.2
    refine va_iast hx hb hK hP hD hS 1 0 rfl rfl h2 dX6_append_21 (fun H locs hP hD hS => ?_)
    have hP : va_P (dC, dI) vwCl (wdX6_append cI cJ cT cII cJJ ad tl tc ta tk (upd tb tl.toNatClampNeg a1)) H := hP
    have hD : va_D A (wdX6_append cI cJ cT cII cJJ ad tl tc ta tk (upd tb tl.toNatClampNeg a1)) := hD
    refine lv_aload_n hx hb dX6_append_22 rfl (lv_at hl 0 rfl) ?_
    refine lv_dup hx hb dX6_append_23 rfl ?_
    refine va_get (D := (dC, dI)) (ci := 6) (v := .int tl) (C := RX6) (T := TX6) (N := 8) hx hb hts (fun w h => List.mem_cons_of_mem _ (List.mem_append_right _ h)) hown hK hP 0 rfl rfl 1 (by decide) (hts (.fieldLink RX6 15 "BidMarket$Text" "length" "I") (List.mem_of_getElem? (i := 1) rfl)) (fun _ h9 => h9) rfl dX6_append_24 ?_
    refine lv_iconst (v := 1) hx hb dX6_append_27 (by decide) ?_
    refine lv_iadd hx hb dX6_append_28 ?_
    refine va_put (D := (dC, dI)) (ci := 6) (v := .int (tl + 1)) (ty := .int) (C := RX6) (T := TX6) (N := 8) hx hb hts (fun w h => List.mem_cons_of_mem _ (List.mem_append_right _ h)) tyX6 tyX6_ok nmX6 hown hK hP hD hS 0 rfl rfl 1 (by decide) (hts (.fieldLink RX6 15 "BidMarket$Text" "length" "I") (List.mem_of_getElem? (i := 1) rfl)) (fun _ h9 => h9) rfl (by decide +kernel) rfl rfl (Nat.le_of_ble_eq_true rfl) dX6_append_29 (fun H locs hP hD hS => ?_)
    have hP : va_P (dC, dI) vwCl (wdX6_append cI cJ cT cII cJJ ad (tl + 1) tc ta tk (upd tb tl.toNatClampNeg a1)) H := hP
    have hD : va_D A (wdX6_append cI cJ cT cII cJJ ad (tl + 1) tc ta tk (upd tb tl.toNatClampNeg a1)) := hD
    refine lv_aload_n hx hb dX6_append_32 rfl (lv_at hl 0 rfl) ?_
    refine va_get (D := (dC, dI)) (ci := 6) (v := .int (tl + 1)) (C := RX6) (T := TX6) (N := 8) hx hb hts (fun w h => List.mem_cons_of_mem _ (List.mem_append_right _ h)) hown hK hP 0 rfl rfl 1 (by decide) (hts (.fieldLink RX6 15 "BidMarket$Text" "length" "I") (List.mem_of_getElem? (i := 1) rfl)) (fun _ h9 => h9) rfl dX6_append_33 ?_
    exact W.iret (v := tl + 1) hx hb hr (fun t ht hW => ⟨⟨tl + 1, (tl + 1, upd tb tl.toNatClampNeg a1), rfl, hw, by show va_P _ _ _ t.heap; rw [ht]; exact hP⟩, hS.F ht⟩) hS.2.2 dX6_append_36
  · have hw := hw.2 c1
    refine lv_bipush (v := (-4)) hx hb dX6_append_9 (by decide) ?_
    exact W.iret (v := (-4)) hx hb hr (fun t ht hW => ⟨⟨(-4), (tl, tb), rfl, hw, by show va_P _ _ _ t.heap; rw [ht]; exact hP⟩, hS.F ht⟩) hS.2.2 dX6_append_11
set_option maxHeartbeats 4000000 in
set_option maxRecDepth 100000 in
theorem mX6_sign (l : Launch) (dC : Nat → ClassId) (dI : Nat → Nat → Nat) (cI cJ cT cII cJJ : ClassId) (ad : Nat → Nat) (tl : Int32) (tc : Int32) (ta : Int32) (tk : Int32) (tb : Nat → Int32) (Post : Int32 → Prop) (hw : wpX6_sign tl ta tb Post) : Met l yX6_sign wsX6_sign ({ frames := 0, cells := 0, slots := 0, locals := 0 } : Room) (va_Pc [.ref (ad 0)] (fun U => va_P (dC, dI) vwCl (wdX6_sign cI cJ cT cII cJJ ad tl tc ta tk tb) U.heap ∧ va_K (dC, dI) vwCl (bw_tys cI cJ cT cII cJJ) U)) (vp_Si Post) 0 0 (fun _ => False) := by
  refine Met.ofW (cc := cX6_sign) (maxL := 1) (ret := (some .int)) (by decide) rfl ?_
  intro p e s m args below meth c s₁ B hml hv
  obtain ⟨rfl, hP, hK⟩ := hv
  have hx := B.exec
  have hb := B.bytes
  have hr := B.returns
  have hts := atoms_spec (ws := wsX6_sign) B.pre
  have hown : s.vm.findClass RX6 = some m.cls := findClass_of_methodNamed B.named
  have hlocks := B.notSynchronized
  have hl := lv_entry ([.ref (ad 0)]) (n := 1) (Nat.le_of_ble_eq_true rfl)
  rw [lg_entry_eq]
  generalize (lg_sl ([.ref (ad 0)]) ++ List.replicate (1 - (lg_sl ([.ref (ad 0)])).length) Slot.unset).toArray = ls at hl ⊢
  have hl : lv_has ls 1 [(0, .ref (ad 0))] := hl
  unfold wpX6_sign at hw
  refine lv_aload_n hx hb dX6_sign_0 rfl (lv_at hl 0 rfl) ?_
  refine va_get (D := (dC, dI)) (ci := 6) (v := .int ta) (C := RX6) (T := TX6) (N := 8) hx hb hts (fun w h => List.mem_cons_of_mem _ (List.mem_append_right _ h)) hown hK hP 0 rfl rfl 6 (by decide) (hts (.fieldLink RX6 31 "BidMarket$Text" "at" "I") (List.mem_of_getElem? (i := 1) rfl)) (fun _ h9 => h9) rfl dX6_sign_1 ?_
  refine lv_if_lt (tgt := 30) hx hb dX6_sign_4 (by decide) (fun c1 => ?_) (fun c1 => ?_)
  · have hw := hw.1 c1
    refine lv_iconst (v := (-1)) hx hb dX6_sign_30 (by decide) ?_
    exact W.iret (v := (-1)) hx hb hr (fun t ht hW => ⟨(-1), rfl, hw, ht⟩) (fun _ h => by cases h) dX6_sign_31
  · have hw := hw.2 c1
    refine lv_aload_n hx hb dX6_sign_7 rfl (lv_at hl 0 rfl) ?_
    refine va_get (D := (dC, dI)) (ci := 6) (v := .int ta) (C := RX6) (T := TX6) (N := 8) hx hb hts (fun w h => List.mem_cons_of_mem _ (List.mem_append_right _ h)) hown hK hP 0 rfl rfl 6 (by decide) (hts (.fieldLink RX6 31 "BidMarket$Text" "at" "I") (List.mem_of_getElem? (i := 1) rfl)) (fun _ h9 => h9) rfl dX6_sign_8 ?_
    refine lv_aload_n hx hb dX6_sign_11 rfl (lv_at hl 0 rfl) ?_
    refine va_get (D := (dC, dI)) (ci := 6) (v := .int tl) (C := RX6) (T := TX6) (N := 8) hx hb hts (fun w h => List.mem_cons_of_mem _ (List.mem_append_right _ h)) hown hK hP 0 rfl rfl 1 (by decide) (hts (.fieldLink RX6 15 "BidMarket$Text" "length" "I") (List.mem_of_getElem? (i := 2) rfl)) (fun _ h9 => h9) rfl dX6_sign_12 ?_
    refine lv_icmp_ge (tgt := 30) hx hb dX6_sign_15 (by decide) (fun c2 => ?_) (fun c2 => ?_)
    · have hw := hw.1 c2
      refine lv_iconst (v := (-1)) hx hb dX6_sign_30 (by decide) ?_
      exact W.iret (v := (-1)) hx hb hr (fun t ht hW => ⟨(-1), rfl, hw, ht⟩) (fun _ h => by cases h) dX6_sign_31
    · have hw := hw.2 c2
      refine lv_aload_n hx hb dX6_sign_18 rfl (lv_at hl 0 rfl) ?_
      refine va_get (D := (dC, dI)) (ci := 6) (v := .ref (ad 1)) (C := RX6) (T := TX6) (N := 8) hx hb hts (fun w h => List.mem_cons_of_mem _ (List.mem_append_right _ h)) hown hK hP 0 rfl rfl 0 (by decide) (hts (.fieldLink RX6 11 "BidMarket$Text" "bytes" "[I") (List.mem_of_getElem? (i := 3) rfl)) (fun _ h9 => h9) rfl dX6_sign_19 ?_
      refine lv_aload_n hx hb dX6_sign_22 rfl (lv_at hl 0 rfl) ?_
      refine va_get (D := (dC, dI)) (ci := 6) (v := .int ta) (C := RX6) (T := TX6) (N := 8) hx hb hts (fun w h => List.mem_cons_of_mem _ (List.mem_append_right _ h)) hown hK hP 0 rfl rfl 6 (by decide) (hts (.fieldLink RX6 31 "BidMarket$Text" "at" "I") (List.mem_of_getElem? (i := 1) rfl)) (fun _ h9 => h9) rfl dX6_sign_23 ?_
      have h3 := hw.1
      have hw := hw.2
      refine va_iald hx hb hK hP 1 0 rfl rfl h3 dX6_sign_26 ?_
      refine lv_goto (tgt := 31) hx hb dX6_sign_27 (by decide) ?_
      exact W.iret (v := tb ta.toNatClampNeg) hx hb hr (fun t ht hW => ⟨tb ta.toNatClampNeg, rfl, hw, ht⟩) (fun _ h => by cases h) dX6_sign_31
set_option maxHeartbeats 4000000 in
set_option maxRecDepth 100000 in
theorem mX6_findNumber (l : Launch) (dC : Nat → ClassId) (dI : Nat → Nat → Nat) (cI cJ cT cII cJJ : ClassId) (ad : Nat → Nat) (sz : Nat) (tl : Int32) (tc : Int32) (ta : Int32) (tk : Int32) (tb : Nat → Int32) (a1 : Int32) (a2 : Int32) (a3 : Int32) (Post : Int32 → Int32 → Int32 → Prop) (hw : wpX6_findNumber tl ta tk tb a1 a2 a3 Post) : Met l yX6_findNumber wsX6_findNumber ({ frames := 1, cells := 0, slots := 0, locals := 20 } : Room) (va_Pc [.ref (ad 0), .int a1, .int a2, .int a3] (fun U => U.heap.size = sz ∧ va_P (dC, dI) vwCl (wdX6_findNumber cI cJ cT cII cJJ ad tl tc ta tk tb) U.heap ∧ va_K (dC, dI) vwCl (bw_tys cI cJ cT cII cJJ) U ∧ va_D (fun _ => True) (wdX6_findNumber cI cJ cT cII cJJ ad tl tc ta tk tb))) (va_Qi (fun (r : Int32) (u : Int32 × Int32) => Post r u.1 u.2) (fun (u : Int32 × Int32) t => va_P (dC, dI) vwCl (wdX6_findNumber cI cJ cT cII cJJ ad tl tc u.1 u.2 tb) t.heap) (va_A (wdX6_findNumber cI cJ cT cII cJJ ad tl tc ta tk tb) sz)) 0 0 (va_A (wdX6_findNumber cI cJ cT cII cJJ ad tl tc ta tk tb) sz) := by
  refine Met.ofW (cc := cX6_findNumber) (maxL := 5) (ret := (some .int)) (by decide) rfl ?_
  intro p e s m args below meth c s₁ B hml hv
  obtain ⟨rfl, hsz, hP, hK, hD0⟩ := hv
  have hx := B.exec
  have hb := B.bytes
  have hr := B.returns
  have hts := atoms_spec (ws := wsX6_findNumber) B.pre
  have hown : s.vm.findClass RX6 = some m.cls := findClass_of_methodNamed B.named
  have hlocks := B.notSynchronized
  subst hsz
  have hD := hD0.self (sz := s.heap.size)
  generalize hAe : va_A (wdX6_findNumber cI cJ cT cII cJJ ad tl tc ta tk tb) s.heap.size = A at hD ⊢
  have hA : ∀ q : Nat, s.heap.size ≤ q → A q := fun q h => by rw [← hAe]; exact Or.inr h
  have hS : va_S A s.heap s.heap [] := va_S.rf
  have hl := lv_entry ([.ref (ad 0), .int a1, .int a2, .int a3]) (n := 5) (Nat.le_of_ble_eq_true rfl)
  rw [lg_entry_eq]
  generalize (lg_sl ([.ref (ad 0), .int a1, .int a2, .int a3]) ++ List.replicate (5 - (lg_sl ([.ref (ad 0), .int a1, .int a2, .int a3])).length) Slot.unset).toArray = ls at hl ⊢
  have hl : lv_has ls 5 [(0, .ref (ad 0)), (1, .int a1), (2, .int a2), (3, .int a3)] := hl
  have kB20 : ∀ (v4 : Int32) (ta : Int32) (tk : Int32), ∀ (H : Heap) (locs : List Loc), va_P (dC, dI) vwCl (wdX6_findNumber cI cJ cT cII cJJ ad tl tc ta tk tb) H → va_D A (wdX6_findNumber cI cJ cT cII cJJ ad tl tc ta tk tb) → va_S A s.heap H locs → ∀ ls : Array Slot, lv_has ls 5 [(0, .ref (ad 0)), (4, .int v4)] → wpX6_findNumber_B20 tl tb a1 a2 a3 Post v4 ta tk → W p l e (headSpec wsX6_findNumber ({ frames := 1, cells := 0, slots := 0, locals := 20 } : Room)).room s m ([.ref (ad 0), .int a1, .int a2, .int a3] : List Value).toArray below meth c H locs 0 0 (MQ below (va_Qi (fun (r : Int32) (u : Int32 × Int32) => Post r u.1 u.2) (fun (u : Int32 × Int32) t => va_P (dC, dI) vwCl (wdX6_findNumber cI cJ cT cII cJJ ad tl tc u.1 u.2 tb) t.heap) A) ([.ref (ad 0), .int a1, .int a2, .int a3] : List Value).toArray s 0 0 A) (F0 m 20 ls []) := by
    intro v4 ta tk H locs hP hD hS ls hl hw
    unfold wpX6_findNumber_B20 at hw
    refine lv_aload_n hx hb dX6_findNumber_20 rfl (lv_at hl 0 rfl) ?_
    refine lv_iconst (v := 1) hx hb dX6_findNumber_21 (by decide) ?_
    refine va_put (D := (dC, dI)) (ci := 6) (v := .int 1) (ty := .int) (C := RX6) (T := TX6) (N := 8) hx hb hts (fun w h => List.mem_cons_of_mem _ (List.mem_append_right _ h)) tyX6 tyX6_ok nmX6 hown hK hP hD hS 0 rfl rfl 7 (by decide) (hts (.fieldLink RX6 34 "BidMarket$Text" "kind" "I") (List.mem_of_getElem? (i := 1) rfl)) (fun _ h9 => h9) rfl (by decide +kernel) rfl rfl (Nat.le_of_ble_eq_true rfl) dX6_findNumber_22 (fun H locs hP hD hS => ?_)
    have hP : va_P (dC, dI) vwCl (wdX6_findNumber cI cJ cT cII cJJ ad tl tc ta 1 tb) H := hP
    have hD : va_D A (wdX6_findNumber cI cJ cT cII cJJ ad tl tc ta 1 tb) := hD
    refine lv_goto (tgt := 52) hx hb dX6_findNumber_25 (by decide) ?_
    refine lv_iload hx hb dX6_findNumber_52 (lv_at hl 1 rfl) ?_
    exact W.iret (v := v4) hx hb hr (fun t ht hW => ⟨⟨v4, (ta, 1), rfl, hw, by show va_P _ _ _ t.heap; rw [ht]; exact hP⟩, hS.F ht⟩) hS.2.2 dX6_findNumber_54
  unfold wpX6_findNumber at hw
  refine lv_aload_n hx hb dX6_findNumber_0 rfl (lv_at hl 0 rfl) ?_
  refine bw_pvi (wc := (wdX6_sign cI cJ cT cII cJJ ad tl tc ta tk tb)) (As := []) (rest := []) ⟨hx, hb, hml, hown, hts⟩ (mX6_sign l dC dI cI cJ cT cII cJJ ad tl tc ta tk tb _ hw) (cwV 0 hts gX6_findNumber_X6_sign rfl rfl rfl hdX6_sign ⟨Nat.le_of_ble_eq_true rfl, Nat.le_of_ble_eq_true rfl⟩) hK hP [0, 1] rfl rfl rfl rfl rfl hl.1 rfl (Nat.le_of_ble_eq_true rfl) ⟨Nat.le_of_ble_eq_true rfl, Nat.le_of_ble_eq_true rfl⟩ dX6_findNumber_1 (fun r1 hw => ?_)
  refine lv_iload_n hx hb dX6_findNumber_4 rfl (lv_at hl 1 rfl) ?_
  refine lv_isub hx hb dX6_findNumber_5 ?_
  refine lv_topi (fun x2 ex2 => ?_)
  have hw := hw x2 ex2
  refine lv_istore (lv' := [(4, .int x2), (0, .ref (ad 0)), (1, .int a1), (2, .int a2), (3, .int a3)]) hx hb dX6_findNumber_6 hl (by decide) rfl (fun ls hl => ?_)
  refine lv_iload hx hb dX6_findNumber_8 (lv_at hl 0 rfl) ?_
  refine lv_if_lt (tgt := 20) hx hb dX6_findNumber_10 (by decide) (fun c3 => ?_) (fun c3 => ?_)
  · have hw := hw.1 c3
    exact kB20 x2 ta tk _ _ hP hD hS ls (lv_sub hl [1, 0] rfl) hw
  · have hw := hw.2 c3
    refine lv_iload hx hb dX6_findNumber_13 (lv_at hl 0 rfl) ?_
    refine lv_bipush (v := 8) hx hb dX6_findNumber_15 (by decide) ?_
    refine lv_icmp_lt (tgt := 28) hx hb dX6_findNumber_17 (by decide) (fun c4 => ?_) (fun c4 => ?_)
    · have hw := hw.1 c4
      refine lv_iload hx hb dX6_findNumber_28 (lv_at hl 0 rfl) ?_
      refine lv_iload_n hx hb dX6_findNumber_30 rfl (lv_at hl 3 rfl) ?_
      refine lv_icmp_lt (tgt := 42) hx hb dX6_findNumber_31 (by decide) (fun c5 => ?_) (fun c5 => ?_)
      · have hw := hw.1 c5
        refine lv_aload_n hx hb dX6_findNumber_42 rfl (lv_at hl 1 rfl) ?_
        refine lv_dup hx hb dX6_findNumber_43 rfl ?_
        refine va_get (D := (dC, dI)) (ci := 6) (v := .int ta) (C := RX6) (T := TX6) (N := 8) hx hb hts (fun w h => List.mem_cons_of_mem _ (List.mem_append_right _ h)) hown hK hP 0 rfl rfl 6 (by decide) (hts (.fieldLink RX6 31 "BidMarket$Text" "at" "I") (List.mem_of_getElem? (i := 2) rfl)) (fun _ h9 => h9) rfl dX6_findNumber_44 ?_
        refine lv_iconst (v := 1) hx hb dX6_findNumber_47 (by decide) ?_
        refine lv_iadd hx hb dX6_findNumber_48 ?_
        refine va_put (D := (dC, dI)) (ci := 6) (v := .int (ta + 1)) (ty := .int) (C := RX6) (T := TX6) (N := 8) hx hb hts (fun w h => List.mem_cons_of_mem _ (List.mem_append_right _ h)) tyX6 tyX6_ok nmX6 hown hK hP hD hS 0 rfl rfl 6 (by decide) (hts (.fieldLink RX6 31 "BidMarket$Text" "at" "I") (List.mem_of_getElem? (i := 2) rfl)) (fun _ h9 => h9) rfl (by decide +kernel) rfl rfl (Nat.le_of_ble_eq_true rfl) dX6_findNumber_49 (fun H locs hP hD hS => ?_)
        have hP : va_P (dC, dI) vwCl (wdX6_findNumber cI cJ cT cII cJJ ad tl tc (ta + 1) tk tb) H := hP
        have hD : va_D A (wdX6_findNumber cI cJ cT cII cJJ ad tl tc (ta + 1) tk tb) := hD
        refine lv_iload hx hb dX6_findNumber_52 (lv_at hl 0 rfl) ?_
        exact W.iret (v := x2) hx hb hr (fun t ht hW => ⟨⟨x2, (ta + 1, tk), rfl, hw, by show va_P _ _ _ t.heap; rw [ht]; exact hP⟩, hS.F ht⟩) hS.2.2 dX6_findNumber_54
      · have hw := hw.2 c5
        refine lv_aload_n hx hb dX6_findNumber_34 rfl (lv_at hl 1 rfl) ?_
        refine lv_iload_n hx hb dX6_findNumber_35 rfl (lv_at hl 4 rfl) ?_
        refine va_put (D := (dC, dI)) (ci := 6) (v := .int a3) (ty := .int) (C := RX6) (T := TX6) (N := 8) hx hb hts (fun w h => List.mem_cons_of_mem _ (List.mem_append_right _ h)) tyX6 tyX6_ok nmX6 hown hK hP hD hS 0 rfl rfl 7 (by decide) (hts (.fieldLink RX6 34 "BidMarket$Text" "kind" "I") (List.mem_of_getElem? (i := 1) rfl)) (fun _ h9 => h9) rfl (by decide +kernel) rfl rfl (Nat.le_of_ble_eq_true rfl) dX6_findNumber_36 (fun H locs hP hD hS => ?_)
        have hP : va_P (dC, dI) vwCl (wdX6_findNumber cI cJ cT cII cJJ ad tl tc ta a3 tb) H := hP
        have hD : va_D A (wdX6_findNumber cI cJ cT cII cJJ ad tl tc ta a3 tb) := hD
        refine lv_goto (tgt := 52) hx hb dX6_findNumber_39 (by decide) ?_
        refine lv_iload hx hb dX6_findNumber_52 (lv_at hl 0 rfl) ?_
        exact W.iret (v := x2) hx hb hr (fun t ht hW => ⟨⟨x2, (ta, a3), rfl, hw, by show va_P _ _ _ t.heap; rw [ht]; exact hP⟩, hS.F ht⟩) hS.2.2 dX6_findNumber_54
    · have hw := hw.2 c4
      exact kB20 x2 ta tk _ _ hP hD hS ls (lv_sub hl [1, 0] rfl) hw
set_option maxHeartbeats 4000000 in
set_option maxRecDepth 100000 in
theorem mX6_isDigit (l : Launch) (dC : Nat → ClassId) (dI : Nat → Nat → Nat) (cI cJ cT cII cJJ : ClassId) (a0 : Int32) (Post : Int32 → Prop) (hw : wpX6_isDigit a0 Post) : Met l yX6_isDigit wsX6_isDigit ({ frames := 0, cells := 0, slots := 0, locals := 0 } : Room) (va_Pc [.int a0] (fun U => va_P (dC, dI) vwCl [] U.heap ∧ va_K (dC, dI) vwCl (bw_tys cI cJ cT cII cJJ) U)) (vp_Si Post) 0 0 (fun _ => False) := by
  refine Met.ofW (cc := cX6_isDigit) (maxL := 1) (ret := (some .boolean)) (by decide) rfl ?_
  intro p e s m args below meth c s₁ B hml hv
  obtain ⟨rfl, hP, hK⟩ := hv
  have hx := B.exec
  have hb := B.bytes
  have hr := B.returns
  have hts := atoms_spec (ws := wsX6_isDigit) B.pre
  have hown : s.vm.findClass RX6 = some m.cls := findClass_of_methodNamed B.named
  have hlocks := B.notSynchronized
  have hl := lv_entry ([.int a0]) (n := 1) (Nat.le_of_ble_eq_true rfl)
  rw [lg_entry_eq]
  generalize (lg_sl ([.int a0]) ++ List.replicate (1 - (lg_sl ([.int a0])).length) Slot.unset).toArray = ls at hl ⊢
  have hl : lv_has ls 1 [(0, .int a0)] := hl
  unfold wpX6_isDigit at hw
  refine lv_iload_n hx hb dX6_isDigit_0 rfl (lv_at hl 0 rfl) ?_
  refine lv_bipush (v := 48) hx hb dX6_isDigit_1 (by decide) ?_
  refine lv_icmp_lt (tgt := 16) hx hb dX6_isDigit_3 (by decide) (fun c1 => ?_) (fun c1 => ?_)
  · have hw := hw.1 c1
    refine lv_iconst (v := 0) hx hb dX6_isDigit_16 (by decide) ?_
    exact W.zret (v := 0) hx hb hr rfl (fun t ht hW => ⟨0, rfl, hw, ht⟩) (fun _ h => by cases h) dX6_isDigit_17
  · have hw := hw.2 c1
    refine lv_iload_n hx hb dX6_isDigit_6 rfl (lv_at hl 0 rfl) ?_
    refine lv_bipush (v := 57) hx hb dX6_isDigit_7 (by decide) ?_
    refine lv_icmp_gt (tgt := 16) hx hb dX6_isDigit_9 (by decide) (fun c2 => ?_) (fun c2 => ?_)
    · have hw := hw.1 c2
      refine lv_iconst (v := 0) hx hb dX6_isDigit_16 (by decide) ?_
      exact W.zret (v := 0) hx hb hr rfl (fun t ht hW => ⟨0, rfl, hw, ht⟩) (fun _ h => by cases h) dX6_isDigit_17
    · have hw := hw.2 c2
      refine lv_iconst (v := 1) hx hb dX6_isDigit_12 (by decide) ?_
      refine lv_goto (tgt := 17) hx hb dX6_isDigit_13 (by decide) ?_
      exact W.zret (v := 1) hx hb hr rfl (fun t ht hW => ⟨1, rfl, hw, ht⟩) (fun _ h => by cases h) dX6_isDigit_17
set_option maxHeartbeats 4000000 in
set_option maxRecDepth 100000 in
theorem mX6_findDigits (l : Launch) (dC : Nat → ClassId) (dI : Nat → Nat → Nat) (cI cJ cT cII cJJ : ClassId) (ad : Nat → Nat) (sz : Nat) (tl : Int32) (tc : Int32) (ta : Int32) (tk : Int32) (tb : Nat → Int32) (Post : Int32 → Int32 → Prop) (hw : wpX6_findDigits tl ta tb Post) : Met l yX6_findDigits wsX6_findDigits ({ frames := 1, cells := 0, slots := 0, locals := 20 } : Room) (va_Pc [.ref (ad 0)] (fun U => U.heap.size = sz ∧ va_P (dC, dI) vwCl (wdX6_findDigits cI cJ cT cII cJJ ad tl tc ta tk tb) U.heap ∧ va_K (dC, dI) vwCl (bw_tys cI cJ cT cII cJJ) U ∧ va_D (fun _ => True) (wdX6_findDigits cI cJ cT cII cJJ ad tl tc ta tk tb))) (va_Qi (fun (r : Int32) (u : Int32) => Post r u) (fun (u : Int32) t => va_P (dC, dI) vwCl (wdX6_findDigits cI cJ cT cII cJJ ad tl tc u tk tb) t.heap) (va_A (wdX6_findDigits cI cJ cT cII cJJ ad tl tc ta tk tb) sz)) 0 0 (va_A (wdX6_findDigits cI cJ cT cII cJJ ad tl tc ta tk tb) sz) := by
  refine Met.ofW (cc := cX6_findDigits) (maxL := 2) (ret := (some .int)) (by decide) rfl ?_
  intro p e s m args below meth c s₁ B hml hv
  obtain ⟨rfl, hsz, hP, hK, hD0⟩ := hv
  have hx := B.exec
  have hb := B.bytes
  have hr := B.returns
  have hts := atoms_spec (ws := wsX6_findDigits) B.pre
  have hown : s.vm.findClass RX6 = some m.cls := findClass_of_methodNamed B.named
  have hlocks := B.notSynchronized
  subst hsz
  have hD := hD0.self (sz := s.heap.size)
  generalize hAe : va_A (wdX6_findDigits cI cJ cT cII cJJ ad tl tc ta tk tb) s.heap.size = A at hD ⊢
  have hA : ∀ q : Nat, s.heap.size ≤ q → A q := fun q h => by rw [← hAe]; exact Or.inr h
  have hS : va_S A s.heap s.heap [] := va_S.rf
  have hl := lv_entry ([.ref (ad 0)]) (n := 2) (Nat.le_of_ble_eq_true rfl)
  rw [lg_entry_eq]
  generalize (lg_sl ([.ref (ad 0)]) ++ List.replicate (2 - (lg_sl ([.ref (ad 0)])).length) Slot.unset).toArray = ls at hl ⊢
  have hl : lv_has ls 2 [(0, .ref (ad 0))] := hl
  unfold wpX6_findDigits at hw
  refine lv_aload_n hx hb dX6_findDigits_0 rfl (lv_at hl 0 rfl) ?_
  refine bw_pvi (wc := (wdX6_sign cI cJ cT cII cJJ ad tl tc ta tk tb)) (As := []) (rest := []) ⟨hx, hb, hml, hown, hts⟩ (mX6_sign l dC dI cI cJ cT cII cJJ ad tl tc ta tk tb _ hw) (cwV 0 hts gX6_findDigits_X6_sign rfl rfl rfl hdX6_sign ⟨Nat.le_of_ble_eq_true rfl, Nat.le_of_ble_eq_true rfl⟩) hK hP [0, 1] rfl rfl rfl rfl rfl hl.1 rfl (Nat.le_of_ble_eq_true rfl) ⟨Nat.le_of_ble_eq_true rfl, Nat.le_of_ble_eq_true rfl⟩ dX6_findDigits_1 (fun r1 hw => ?_)
  refine lv_bipush (v := 48) hx hb dX6_findDigits_4 (by decide) ?_
  refine lv_isub hx hb dX6_findDigits_6 ?_
  refine lv_topi (fun x2 ex2 => ?_)
  have hw := hw x2 ex2
  refine lv_istore_n (lv' := [(1, .int x2), (0, .ref (ad 0))]) hx hb dX6_findDigits_7 rfl hl (by decide) rfl (fun ls hl => ?_)
  refine lv_aload_n hx hb dX6_findDigits_8 rfl (lv_at hl 1 rfl) ?_
  refine lv_dup hx hb dX6_findDigits_9 rfl ?_
  refine va_get (D := (dC, dI)) (ci := 6) (v := .int ta) (C := RX6) (T := TX6) (N := 8) hx hb hts (fun w h => List.mem_cons_of_mem _ (List.mem_append_right _ h)) hown hK hP 0 rfl rfl 6 (by decide) (hts (.fieldLink RX6 31 "BidMarket$Text" "at" "I") (List.mem_of_getElem? (i := 1) rfl)) (fun _ h9 => h9) rfl dX6_findDigits_10 ?_
  refine lv_iconst (v := 1) hx hb dX6_findDigits_13 (by decide) ?_
  refine lv_iadd hx hb dX6_findDigits_14 ?_
  refine va_put (D := (dC, dI)) (ci := 6) (v := .int (ta + 1)) (ty := .int) (C := RX6) (T := TX6) (N := 8) hx hb hts (fun w h => List.mem_cons_of_mem _ (List.mem_append_right _ h)) tyX6 tyX6_ok nmX6 hown hK hP hD hS 0 rfl rfl 6 (by decide) (hts (.fieldLink RX6 31 "BidMarket$Text" "at" "I") (List.mem_of_getElem? (i := 1) rfl)) (fun _ h9 => h9) rfl (by decide +kernel) rfl rfl (Nat.le_of_ble_eq_true rfl) dX6_findDigits_15 (fun H locs hP hD hS => ?_)
  have hP : va_P (dC, dI) vwCl (wdX6_findDigits cI cJ cT cII cJJ ad tl tc (ta + 1) tk tb) H := hP
  have hD : va_D A (wdX6_findDigits cI cJ cT cII cJJ ad tl tc (ta + 1) tk tb) := hD
  refine lv_aload_n hx hb dX6_findDigits_18 rfl (lv_at hl 1 rfl) ?_
  refine bw_pvi (wc := (wdX6_sign cI cJ cT cII cJJ ad tl tc (ta + 1) tk tb)) (As := []) (rest := []) ⟨hx, hb, hml, hown, hts⟩ (mX6_sign l dC dI cI cJ cT cII cJJ ad tl tc (ta + 1) tk tb _ hw) (cwV 0 hts gX6_findDigits_X6_sign rfl rfl rfl hdX6_sign ⟨Nat.le_of_ble_eq_true rfl, Nat.le_of_ble_eq_true rfl⟩) hK hP [0, 1] rfl rfl rfl rfl rfl hl.1 rfl (Nat.le_of_ble_eq_true rfl) ⟨Nat.le_of_ble_eq_true rfl, Nat.le_of_ble_eq_true rfl⟩ dX6_findDigits_19 (fun r3 hw => ?_)
  refine bw_psi (wc := []) (As := [.int r3]) (rest := []) ⟨hx, hb, hml, hown, hts⟩ (mX6_isDigit l dC dI cI cJ cT cII cJJ r3 _ hw) (va_cwS 1 hts gX6_findDigits_X6_isDigit rfl rfl rfl hdX6_isDigit ⟨Nat.le_of_ble_eq_true rfl, Nat.le_of_ble_eq_true rfl⟩) hK hP [] rfl rfl hl.1 rfl (Nat.le_of_ble_eq_true rfl) ⟨Nat.le_of_ble_eq_true rfl, Nat.le_of_ble_eq_true rfl⟩ dX6_findDigits_22 (fun r4 hw => ?_)
  refine lv_if_eq (tgt := 51) hx hb dX6_findDigits_25 (by decide) (fun c5 => ?_) (fun c5 => ?_)
  · have hw := hw.1 c5
    refine lv_iload_n hx hb dX6_findDigits_51 rfl (lv_at hl 0 rfl) ?_
    exact W.iret (v := x2) hx hb hr (fun t ht hW => ⟨⟨x2, ta + 1, rfl, hw, by show va_P _ _ _ t.heap; rw [ht]; exact hP⟩, hS.F ht⟩) hS.2.2 dX6_findDigits_52
  · have hw := hw.2 c5
    refine lv_iload_n hx hb dX6_findDigits_28 rfl (lv_at hl 0 rfl) ?_
    refine lv_bipush (v := 10) hx hb dX6_findDigits_29 (by decide) ?_
    refine lv_imul hx hb dX6_findDigits_31 ?_
    refine lv_aload_n hx hb dX6_findDigits_32 rfl (lv_at hl 1 rfl) ?_
    refine bw_pvi (wc := (wdX6_sign cI cJ cT cII cJJ ad tl tc (ta + 1) tk tb)) (As := []) (rest := [.int (x2 * 10)]) ⟨hx, hb, hml, hown, hts⟩ (mX6_sign l dC dI cI cJ cT cII cJJ ad tl tc (ta + 1) tk tb _ hw) (cwV 0 hts gX6_findDigits_X6_sign rfl rfl rfl hdX6_sign ⟨Nat.le_of_ble_eq_true rfl, Nat.le_of_ble_eq_true rfl⟩) hK hP [0, 1] rfl rfl rfl rfl rfl hl.1 rfl (Nat.le_of_ble_eq_true rfl) ⟨Nat.le_of_ble_eq_true rfl, Nat.le_of_ble_eq_true rfl⟩ dX6_findDigits_33 (fun r6 hw => ?_)
    refine lv_iadd hx hb dX6_findDigits_36 ?_
    refine lv_bipush (v := 48) hx hb dX6_findDigits_37 (by decide) ?_
    refine lv_isub hx hb dX6_findDigits_39 ?_
    refine lv_topi (fun x7 ex7 => ?_)
    have hw := hw x7 ex7
    refine lv_istore_n (lv' := [(1, .int x7), (0, .ref (ad 0))]) hx hb dX6_findDigits_40 rfl hl (by decide) rfl (fun ls hl => ?_)
    refine lv_aload_n hx hb dX6_findDigits_41 rfl (lv_at hl 1 rfl) ?_
    refine lv_dup hx hb dX6_findDigits_42 rfl ?_
    refine va_get (D := (dC, dI)) (ci := 6) (v := .int (ta + 1)) (C := RX6) (T := TX6) (N := 8) hx hb hts (fun w h => List.mem_cons_of_mem _ (List.mem_append_right _ h)) hown hK hP 0 rfl rfl 6 (by decide) (hts (.fieldLink RX6 31 "BidMarket$Text" "at" "I") (List.mem_of_getElem? (i := 1) rfl)) (fun _ h9 => h9) rfl dX6_findDigits_43 ?_
    refine lv_iconst (v := 1) hx hb dX6_findDigits_46 (by decide) ?_
    refine lv_iadd hx hb dX6_findDigits_47 ?_
    refine va_put (D := (dC, dI)) (ci := 6) (v := .int ((ta + 1) + 1)) (ty := .int) (C := RX6) (T := TX6) (N := 8) hx hb hts (fun w h => List.mem_cons_of_mem _ (List.mem_append_right _ h)) tyX6 tyX6_ok nmX6 hown hK hP hD hS 0 rfl rfl 6 (by decide) (hts (.fieldLink RX6 31 "BidMarket$Text" "at" "I") (List.mem_of_getElem? (i := 1) rfl)) (fun _ h9 => h9) rfl (by decide +kernel) rfl rfl (Nat.le_of_ble_eq_true rfl) dX6_findDigits_48 (fun H locs hP hD hS => ?_)
    have hP : va_P (dC, dI) vwCl (wdX6_findDigits cI cJ cT cII cJJ ad tl tc ((ta + 1) + 1) tk tb) H := hP
    have hD : va_D A (wdX6_findDigits cI cJ cT cII cJJ ad tl tc ((ta + 1) + 1) tk tb) := hD
    refine lv_iload_n hx hb dX6_findDigits_51 rfl (lv_at hl 0 rfl) ?_
    exact W.iret (v := x7) hx hb hr (fun t ht hW => ⟨⟨x7, (ta + 1) + 1, rfl, hw, by show va_P _ _ _ t.heap; rw [ht]; exact hP⟩, hS.F ht⟩) hS.2.2 dX6_findDigits_52
set_option maxHeartbeats 4000000 in
set_option maxRecDepth 100000 in
theorem mX6_findWorth (l : Launch) (dC : Nat → ClassId) (dI : Nat → Nat → Nat) (cI cJ cT cII cJJ : ClassId) (ad : Nat → Nat) (sz : Nat) (tl : Int32) (tc : Int32) (ta : Int32) (tk : Int32) (tb : Nat → Int32) (Post : Int32 → Int32 → Int32 → Prop) (hw : wpX6_findWorth tl ta tk tb Post) : Met l yX6_findWorth wsX6_findWorth ({ frames := 2, cells := 0, slots := 0, locals := 41 } : Room) (va_Pc [.ref (ad 0)] (fun U => U.heap.size = sz ∧ va_P (dC, dI) vwCl (wdX6_findWorth cI cJ cT cII cJJ ad tl tc ta tk tb) U.heap ∧ va_K (dC, dI) vwCl (bw_tys cI cJ cT cII cJJ) U ∧ va_D (fun _ => True) (wdX6_findWorth cI cJ cT cII cJJ ad tl tc ta tk tb))) (va_Qi (fun (r : Int32) (u : Int32 × Int32) => Post r u.1 u.2) (fun (u : Int32 × Int32) t => va_P (dC, dI) vwCl (wdX6_findWorth cI cJ cT cII cJJ ad tl tc u.1 u.2 tb) t.heap) (va_A (wdX6_findWorth cI cJ cT cII cJJ ad tl tc ta tk tb) sz)) 0 0 (va_A (wdX6_findWorth cI cJ cT cII cJJ ad tl tc ta tk tb) sz) := by
  refine Met.ofW (cc := cX6_findWorth) (maxL := 1) (ret := (some .int)) (by decide) rfl ?_
  intro p e s m args below meth c s₁ B hml hv
  obtain ⟨rfl, hsz, hP, hK, hD0⟩ := hv
  have hx := B.exec
  have hb := B.bytes
  have hr := B.returns
  have hts := atoms_spec (ws := wsX6_findWorth) B.pre
  have hown : s.vm.findClass RX6 = some m.cls := findClass_of_methodNamed B.named
  have hlocks := B.notSynchronized
  subst hsz
  have hD := hD0.self (sz := s.heap.size)
  generalize hAe : va_A (wdX6_findWorth cI cJ cT cII cJJ ad tl tc ta tk tb) s.heap.size = A at hD ⊢
  have hA : ∀ q : Nat, s.heap.size ≤ q → A q := fun q h => by rw [← hAe]; exact Or.inr h
  have hS : va_S A s.heap s.heap [] := va_S.rf
  have hl := lv_entry ([.ref (ad 0)]) (n := 1) (Nat.le_of_ble_eq_true rfl)
  rw [lg_entry_eq]
  generalize (lg_sl ([.ref (ad 0)]) ++ List.replicate (1 - (lg_sl ([.ref (ad 0)])).length) Slot.unset).toArray = ls at hl ⊢
  have hl : lv_has ls 1 [(0, .ref (ad 0))] := hl
  have kB55 : ∀ (ta : Int32) (tk : Int32), ∀ (H : Heap) (locs : List Loc), va_P (dC, dI) vwCl (wdX6_findWorth cI cJ cT cII cJJ ad tl tc ta tk tb) H → va_D A (wdX6_findWorth cI cJ cT cII cJJ ad tl tc ta tk tb) → va_S A s.heap H locs → ∀ ls : Array Slot, lv_has ls 1 [(0, .ref (ad 0))] → wpX6_findWorth_B55 tl tb Post ta tk → W p l e (headSpec wsX6_findWorth ({ frames := 2, cells := 0, slots := 0, locals := 41 } : Room)).room s m ([.ref (ad 0)] : List Value).toArray below meth c H locs 0 0 (MQ below (va_Qi (fun (r : Int32) (u : Int32 × Int32) => Post r u.1 u.2) (fun (u : Int32 × Int32) t => va_P (dC, dI) vwCl (wdX6_findWorth cI cJ cT cII cJJ ad tl tc u.1 u.2 tb) t.heap) A) ([.ref (ad 0)] : List Value).toArray s 0 0 A) (F0 m 55 ls []) := by
    intro ta tk H locs hP hD hS ls hl hw
    unfold wpX6_findWorth_B55 at hw
    refine lv_aload_n hx hb dX6_findWorth_55 rfl (lv_at hl 0 rfl) ?_
    refine lv_iconst (v := 1) hx hb dX6_findWorth_56 (by decide) ?_
    refine va_put (D := (dC, dI)) (ci := 6) (v := .int 1) (ty := .int) (C := RX6) (T := TX6) (N := 8) hx hb hts (fun w h => List.mem_cons_of_mem _ (List.mem_append_right _ h)) tyX6 tyX6_ok nmX6 hown hK hP hD hS 0 rfl rfl 7 (by decide) (hts (.fieldLink RX6 34 "BidMarket$Text" "kind" "I") (List.mem_of_getElem? (i := 2) rfl)) (fun _ h9 => h9) rfl (by decide +kernel) rfl rfl (Nat.le_of_ble_eq_true rfl) dX6_findWorth_57 (fun H locs hP hD hS => ?_)
    have hP : va_P (dC, dI) vwCl (wdX6_findWorth cI cJ cT cII cJJ ad tl tc ta 1 tb) H := hP
    have hD : va_D A (wdX6_findWorth cI cJ cT cII cJJ ad tl tc ta 1 tb) := hD
    refine lv_iconst (v := (-1)) hx hb dX6_findWorth_60 (by decide) ?_
    exact W.iret (v := (-1)) hx hb hr (fun t ht hW => ⟨⟨(-1), (ta, 1), rfl, hw, by show va_P _ _ _ t.heap; rw [ht]; exact hP⟩, hS.F ht⟩) hS.2.2 dX6_findWorth_61
  unfold wpX6_findWorth at hw
  refine lv_aload_n hx hb dX6_findWorth_0 rfl (lv_at hl 0 rfl) ?_
  refine bw_pvi (wc := (wdX6_sign cI cJ cT cII cJJ ad tl tc ta tk tb)) (As := []) (rest := []) ⟨hx, hb, hml, hown, hts⟩ (mX6_sign l dC dI cI cJ cT cII cJJ ad tl tc ta tk tb _ hw) (cwV 0 hts gX6_findWorth_X6_sign rfl rfl rfl hdX6_sign ⟨Nat.le_of_ble_eq_true rfl, Nat.le_of_ble_eq_true rfl⟩) hK hP [0, 1] rfl rfl rfl rfl rfl hl.1 rfl (Nat.le_of_ble_eq_true rfl) ⟨Nat.le_of_ble_eq_true rfl, Nat.le_of_ble_eq_true rfl⟩ dX6_findWorth_1 (fun r1 hw => ?_)
  refine lv_bipush (v := 33) hx hb dX6_findWorth_4 (by decide) ?_
  refine lv_icmp_ne (tgt := 21) hx hb dX6_findWorth_6 (by decide) (fun c2 => ?_) (fun c2 => ?_)
  · have hw := hw.1 c2
    refine lv_aload_n hx hb dX6_findWorth_21 rfl (lv_at hl 0 rfl) ?_
    refine bw_pvi (wc := (wdX6_sign cI cJ cT cII cJJ ad tl tc ta tk tb)) (As := []) (rest := []) ⟨hx, hb, hml, hown, hts⟩ (mX6_sign l dC dI cI cJ cT cII cJJ ad tl tc ta tk tb _ hw) (cwV 0 hts gX6_findWorth_X6_sign rfl rfl rfl hdX6_sign ⟨Nat.le_of_ble_eq_true rfl, Nat.le_of_ble_eq_true rfl⟩) hK hP [0, 1] rfl rfl rfl rfl rfl hl.1 rfl (Nat.le_of_ble_eq_true rfl) ⟨Nat.le_of_ble_eq_true rfl, Nat.le_of_ble_eq_true rfl⟩ dX6_findWorth_22 (fun r3 hw => ?_)
    refine lv_bipush (v := 61) hx hb dX6_findWorth_25 (by decide) ?_
    refine lv_icmp_ne (tgt := 55) hx hb dX6_findWorth_27 (by decide) (fun c4 => ?_) (fun c4 => ?_)
    · have hw := hw.1 c4
      exact kB55 ta tk _ _ hP hD hS ls hl hw
    · have hw := hw.2 c4
      refine lv_aload_n hx hb dX6_findWorth_30 rfl (lv_at hl 0 rfl) ?_
      refine lv_dup hx hb dX6_findWorth_31 rfl ?_
      refine va_get (D := (dC, dI)) (ci := 6) (v := .int ta) (C := RX6) (T := TX6) (N := 8) hx hb hts (fun w h => List.mem_cons_of_mem _ (List.mem_append_right _ h)) hown hK hP 0 rfl rfl 6 (by decide) (hts (.fieldLink RX6 31 "BidMarket$Text" "at" "I") (List.mem_of_getElem? (i := 1) rfl)) (fun _ h9 => h9) rfl dX6_findWorth_32 ?_
      refine lv_iconst (v := 1) hx hb dX6_findWorth_35 (by decide) ?_
      refine lv_iadd hx hb dX6_findWorth_36 ?_
      refine va_put (D := (dC, dI)) (ci := 6) (v := .int (ta + 1)) (ty := .int) (C := RX6) (T := TX6) (N := 8) hx hb hts (fun w h => List.mem_cons_of_mem _ (List.mem_append_right _ h)) tyX6 tyX6_ok nmX6 hown hK hP hD hS 0 rfl rfl 6 (by decide) (hts (.fieldLink RX6 31 "BidMarket$Text" "at" "I") (List.mem_of_getElem? (i := 1) rfl)) (fun _ h9 => h9) rfl (by decide +kernel) rfl rfl (Nat.le_of_ble_eq_true rfl) dX6_findWorth_37 (fun H locs hP hD hS => ?_)
      have hP : va_P (dC, dI) vwCl (wdX6_findWorth cI cJ cT cII cJJ ad tl tc (ta + 1) tk tb) H := hP
      have hD : va_D A (wdX6_findWorth cI cJ cT cII cJJ ad tl tc (ta + 1) tk tb) := hD
      refine lv_aload_n hx hb dX6_findWorth_40 rfl (lv_at hl 0 rfl) ?_
      refine bw_pvi (wc := (wdX6_sign cI cJ cT cII cJJ ad tl tc (ta + 1) tk tb)) (As := []) (rest := []) ⟨hx, hb, hml, hown, hts⟩ (mX6_sign l dC dI cI cJ cT cII cJJ ad tl tc (ta + 1) tk tb _ hw) (cwV 0 hts gX6_findWorth_X6_sign rfl rfl rfl hdX6_sign ⟨Nat.le_of_ble_eq_true rfl, Nat.le_of_ble_eq_true rfl⟩) hK hP [0, 1] rfl rfl rfl rfl rfl hl.1 rfl (Nat.le_of_ble_eq_true rfl) ⟨Nat.le_of_ble_eq_true rfl, Nat.le_of_ble_eq_true rfl⟩ dX6_findWorth_41 (fun r5 hw => ?_)
      refine bw_psi (wc := []) (As := [.int r5]) (rest := []) ⟨hx, hb, hml, hown, hts⟩ (mX6_isDigit l dC dI cI cJ cT cII cJJ r5 _ hw) (va_cwS 1 hts gX6_findWorth_X6_isDigit rfl rfl rfl hdX6_isDigit ⟨Nat.le_of_ble_eq_true rfl, Nat.le_of_ble_eq_true rfl⟩) hK hP [] rfl rfl hl.1 rfl (Nat.le_of_ble_eq_true rfl) ⟨Nat.le_of_ble_eq_true rfl, Nat.le_of_ble_eq_true rfl⟩ dX6_findWorth_44 (fun r6 hw => ?_)
      refine lv_if_eq (tgt := 55) hx hb dX6_findWorth_47 (by decide) (fun c7 => ?_) (fun c7 => ?_)
      · have hw := hw.1 c7
        exact kB55 (ta + 1) tk _ _ hP hD hS ls hl hw
      · have hw := hw.2 c7
        refine lv_aload_n hx hb dX6_findWorth_50 rfl (lv_at hl 0 rfl) ?_
        refine bw_wvi (wc := (wdX6_findDigits cI cJ cT cII cJJ ad tl tc (ta + 1) tk tb)) (w1 := (fun (u : Int32) => wdX6_findDigits cI cJ cT cII cJJ ad tl tc u tk tb)) (As := []) (rest := []) ⟨hx, hb, hml, hown, hts⟩ (mX6_findDigits l dC dI cI cJ cT cII cJJ ad _ tl tc (ta + 1) tk tb _ hw) (cwV 0 hts gX6_findWorth_X6_findDigits rfl rfl rfl hdX6_findDigits ⟨Nat.le_of_ble_eq_true rfl, Nat.le_of_ble_eq_true rfl⟩) hK hP hD hS hA [0, 1] rfl (by decide) (fun _ => rfl) rfl rfl rfl rfl hl.1 rfl (Nat.le_of_ble_eq_true rfl) ⟨Nat.le_of_ble_eq_true rfl, Nat.le_of_ble_eq_true rfl⟩ dX6_findWorth_51 (fun r8 u H locs hw hP hD hS => ?_)
        obtain ⟨y9, rfl⟩ : ∃ z, z = u := ⟨_, rfl⟩
        try dsimp only at hw
        have hP : va_P (dC, dI) vwCl (wdX6_findWorth cI cJ cT cII cJJ ad tl tc y9 tk tb) H := hP
        have hD : va_D A (wdX6_findWorth cI cJ cT cII cJJ ad tl tc y9 tk tb) := hD
        exact W.iret (v := r8) hx hb hr (fun t ht hW => ⟨⟨r8, (y9, tk), rfl, hw, by show va_P _ _ _ t.heap; rw [ht]; exact hP⟩, hS.F ht⟩) hS.2.2 dX6_findWorth_54
  · have hw := hw.2 c2
    refine lv_aload_n hx hb dX6_findWorth_9 rfl (lv_at hl 0 rfl) ?_
    refine lv_dup hx hb dX6_findWorth_10 rfl ?_
    refine va_get (D := (dC, dI)) (ci := 6) (v := .int ta) (C := RX6) (T := TX6) (N := 8) hx hb hts (fun w h => List.mem_cons_of_mem _ (List.mem_append_right _ h)) hown hK hP 0 rfl rfl 6 (by decide) (hts (.fieldLink RX6 31 "BidMarket$Text" "at" "I") (List.mem_of_getElem? (i := 1) rfl)) (fun _ h9 => h9) rfl dX6_findWorth_11 ?_
    refine lv_iconst (v := 1) hx hb dX6_findWorth_14 (by decide) ?_
    refine lv_iadd hx hb dX6_findWorth_15 ?_
    refine va_put (D := (dC, dI)) (ci := 6) (v := .int (ta + 1)) (ty := .int) (C := RX6) (T := TX6) (N := 8) hx hb hts (fun w h => List.mem_cons_of_mem _ (List.mem_append_right _ h)) tyX6 tyX6_ok nmX6 hown hK hP hD hS 0 rfl rfl 6 (by decide) (hts (.fieldLink RX6 31 "BidMarket$Text" "at" "I") (List.mem_of_getElem? (i := 1) rfl)) (fun _ h9 => h9) rfl (by decide +kernel) rfl rfl (Nat.le_of_ble_eq_true rfl) dX6_findWorth_16 (fun H locs hP hD hS => ?_)
    have hP : va_P (dC, dI) vwCl (wdX6_findWorth cI cJ cT cII cJJ ad tl tc (ta + 1) tk tb) H := hP
    have hD : va_D A (wdX6_findWorth cI cJ cT cII cJJ ad tl tc (ta + 1) tk tb) := hD
    refine lv_iconst (v := (-1)) hx hb dX6_findWorth_19 (by decide) ?_
    exact W.iret (v := (-1)) hx hb hr (fun t ht hW => ⟨⟨(-1), (ta + 1, tk), rfl, hw, by show va_P _ _ _ t.heap; rw [ht]; exact hP⟩, hS.F ht⟩) hS.2.2 dX6_findWorth_20
set_option maxHeartbeats 4000000 in
set_option maxRecDepth 100000 in
theorem mX6_findClause (l : Launch) (dC : Nat → ClassId) (dI : Nat → Nat → Nat) (cI cJ cT cII cJJ : ClassId) (ad : Nat → Nat) (sz : Nat) (tl : Int32) (tc : Int32) (ta : Int32) (tk : Int32) (tb : Nat → Int32) (tp : Nat → Int32) (tt : Nat → Int32) (tw : Nat → Int32) (a1 : Int32) (Post : Int32 → Int32 → Int32 → (Nat → Int32) → (Nat → Int32) → (Nat → Int32) → Prop) (hw : wpX6_findClause tl tc ta tk tb tp tt tw a1 Post) : Met l yX6_findClause wsX6_findClause ({ frames := 3, cells := 0, slots := 0, locals := 61 } : Room) (va_Pc [.ref (ad 0), .int a1] (fun U => U.heap.size = sz ∧ va_P (dC, dI) vwCl (wdX6_findClause cI cJ cT cII cJJ ad tl tc ta tk tb tp tt tw) U.heap ∧ va_K (dC, dI) vwCl (bw_tys cI cJ cT cII cJJ) U ∧ va_D (fun _ => True) (wdX6_findClause cI cJ cT cII cJJ ad tl tc ta tk tb tp tt tw))) (va_Qv (fun (u : Int32 × Int32 × Int32 × (Nat → Int32) × (Nat → Int32) × (Nat → Int32)) => Post u.1 u.2.1 u.2.2.1 u.2.2.2.1 u.2.2.2.2.1 u.2.2.2.2.2) (fun (u : Int32 × Int32 × Int32 × (Nat → Int32) × (Nat → Int32) × (Nat → Int32)) t => va_P (dC, dI) vwCl (wdX6_findClause cI cJ cT cII cJJ ad tl u.1 u.2.1 u.2.2.1 tb u.2.2.2.1 u.2.2.2.2.1 u.2.2.2.2.2) t.heap) (va_A (wdX6_findClause cI cJ cT cII cJJ ad tl tc ta tk tb tp tt tw) sz)) 0 0 (va_A (wdX6_findClause cI cJ cT cII cJJ ad tl tc ta tk tb tp tt tw) sz) := by
  refine Met.ofW (cc := cX6_findClause) (maxL := 5) (ret := none) (by decide) rfl ?_
  intro p e s m args below meth c s₁ B hml hv
  obtain ⟨rfl, hsz, hP, hK, hD0⟩ := hv
  have hx := B.exec
  have hb := B.bytes
  have hr := B.returns
  have hts := atoms_spec (ws := wsX6_findClause) B.pre
  have hown : s.vm.findClass RX6 = some m.cls := findClass_of_methodNamed B.named
  have hlocks := B.notSynchronized
  subst hsz
  have hD := hD0.self (sz := s.heap.size)
  generalize hAe : va_A (wdX6_findClause cI cJ cT cII cJJ ad tl tc ta tk tb tp tt tw) s.heap.size = A at hD ⊢
  have hA : ∀ q : Nat, s.heap.size ≤ q → A q := fun q h => by rw [← hAe]; exact Or.inr h
  have hS : va_S A s.heap s.heap [] := va_S.rf
  have hl := lv_entry ([.ref (ad 0), .int a1]) (n := 5) (Nat.le_of_ble_eq_true rfl)
  rw [lg_entry_eq]
  generalize (lg_sl ([.ref (ad 0), .int a1]) ++ List.replicate (5 - (lg_sl ([.ref (ad 0), .int a1])).length) Slot.unset).toArray = ls at hl ⊢
  have hl : lv_has ls 5 [(0, .ref (ad 0)), (1, .int a1)] := hl
  have kB44 : ∀ (v2 : Int32) (v3 : Int32) (s0 : Int32) (tc : Int32) (ta : Int32) (tk : Int32) (tp : Nat → Int32) (tt : Nat → Int32) (tw : Nat → Int32), ∀ (H : Heap) (locs : List Loc), va_P (dC, dI) vwCl (wdX6_findClause cI cJ cT cII cJJ ad tl tc ta tk tb tp tt tw) H → va_D A (wdX6_findClause cI cJ cT cII cJJ ad tl tc ta tk tb tp tt tw) → va_S A s.heap H locs → ∀ ls : Array Slot, lv_has ls 5 [(0, .ref (ad 0)), (2, .int v2), (3, .int v3)] → wpX6_findClause_B44 tl tb a1 Post v2 v3 s0 tc ta tk tp tt tw → W p l e (headSpec wsX6_findClause ({ frames := 3, cells := 0, slots := 0, locals := 61 } : Room)).room s m ([.ref (ad 0), .int a1] : List Value).toArray below meth c H locs 0 0 (MQ below (va_Qv (fun (u : Int32 × Int32 × Int32 × (Nat → Int32) × (Nat → Int32) × (Nat → Int32)) => Post u.1 u.2.1 u.2.2.1 u.2.2.2.1 u.2.2.2.2.1 u.2.2.2.2.2) (fun (u : Int32 × Int32 × Int32 × (Nat → Int32) × (Nat → Int32) × (Nat → Int32)) t => va_P (dC, dI) vwCl (wdX6_findClause cI cJ cT cII cJJ ad tl u.1 u.2.1 u.2.2.1 tb u.2.2.2.1 u.2.2.2.2.1 u.2.2.2.2.2) t.heap) A) ([.ref (ad 0), .int a1] : List Value).toArray s 0 0 A) (F0 m 44 ls [.int s0]) := by
    intro v2 v3 s0 tc ta tk tp tt tw H locs hP hD hS ls hl hw
    unfold wpX6_findClause_B44 at hw
    refine lv_istore (lv' := [(4, .int s0), (0, .ref (ad 0)), (2, .int v2), (3, .int v3)]) hx hb dX6_findClause_44 hl (by decide) rfl (fun ls hl => ?_)
    refine lv_aload_n hx hb dX6_findClause_46 rfl (lv_at hl 1 rfl) ?_
    refine va_get (D := (dC, dI)) (ci := 6) (v := .int tk) (C := RX6) (T := TX6) (N := 8) hx hb hts (fun w h => List.mem_cons_of_mem _ (List.mem_append_right _ h)) hown hK hP 0 rfl rfl 7 (by decide) (hts (.fieldLink RX6 34 "BidMarket$Text" "kind" "I") (List.mem_of_getElem? (i := 1) rfl)) (fun _ h9 => h9) rfl dX6_findClause_47 ?_
    refine lv_if_ne (tgt := 103) hx hb dX6_findClause_50 (by decide) (fun c6 => ?_) (fun c6 => ?_)
    · have hw := hw.1 c6
      exact W.vret hx hb hr (fun t ht hW => ⟨⟨(tc, ta, tk, tp, tt, tw), rfl, hw, by show va_P _ _ _ t.heap; rw [ht]; exact hP⟩, hS.F ht⟩) hS.2.2 dX6_findClause_103
    · have hw := hw.2 c6
      refine lv_aload_n hx hb dX6_findClause_53 rfl (lv_at hl 1 rfl) ?_
      refine va_get (D := (dC, dI)) (ci := 6) (v := .int tc) (C := RX6) (T := TX6) (N := 8) hx hb hts (fun w h => List.mem_cons_of_mem _ (List.mem_append_right _ h)) hown hK hP 0 rfl rfl 5 (by decide) (hts (.fieldLink RX6 28 "BidMarket$Text" "clauses" "I") (List.mem_of_getElem? (i := 2) rfl)) (fun _ h9 => h9) rfl dX6_findClause_54 ?_
      refine lv_bipush (v := 16) hx hb dX6_findClause_57 (by decide) ?_
      refine lv_icmp_ge (tgt := 103) hx hb dX6_findClause_59 (by decide) (fun c7 => ?_) (fun c7 => ?_)
      · have hw := hw.1 c7
        exact W.vret hx hb hr (fun t ht hW => ⟨⟨(tc, ta, tk, tp, tt, tw), rfl, hw, by show va_P _ _ _ t.heap; rw [ht]; exact hP⟩, hS.F ht⟩) hS.2.2 dX6_findClause_103
      · have hw := hw.2 c7
        refine lv_aload_n hx hb dX6_findClause_62 rfl (lv_at hl 1 rfl) ?_
        refine va_get (D := (dC, dI)) (ci := 6) (v := .ref (ad 2)) (C := RX6) (T := TX6) (N := 8) hx hb hts (fun w h => List.mem_cons_of_mem _ (List.mem_append_right _ h)) hown hK hP 0 rfl rfl 2 (by decide) (hts (.fieldLink RX6 19 "BidMarket$Text" "persons" "[I") (List.mem_of_getElem? (i := 3) rfl)) (fun _ h9 => h9) rfl dX6_findClause_63 ?_
        refine lv_aload_n hx hb dX6_findClause_66 rfl (lv_at hl 1 rfl) ?_
        refine va_get (D := (dC, dI)) (ci := 6) (v := .int tc) (C := RX6) (T := TX6) (N := 8) hx hb hts (fun w h => List.mem_cons_of_mem _ (List.mem_append_right _ h)) hown hK hP 0 rfl rfl 5 (by decide) (hts (.fieldLink RX6 28 "BidMarket$Text" "clauses" "I") (List.mem_of_getElem? (i := 2) rfl)) (fun _ h9 => h9) rfl dX6_findClause_67 ?_
        refine lv_iload_n hx hb dX6_findClause_70 rfl (lv_at hl 2 rfl) ?_
        have h8 := hw.1
        have hw := hw.2
        refine va_iast hx hb hK hP hD hS 2 0 rfl rfl h8 dX6_findClause_71 (fun H locs hP hD hS => ?_)
        have hP : va_P (dC, dI) vwCl (wdX6_findClause cI cJ cT cII cJJ ad tl tc ta tk tb (upd tp tc.toNatClampNeg v2) tt tw) H := hP
        have hD : va_D A (wdX6_findClause cI cJ cT cII cJJ ad tl tc ta tk tb (upd tp tc.toNatClampNeg v2) tt tw) := hD
        refine lv_aload_n hx hb dX6_findClause_72 rfl (lv_at hl 1 rfl) ?_
        refine va_get (D := (dC, dI)) (ci := 6) (v := .ref (ad 3)) (C := RX6) (T := TX6) (N := 8) hx hb hts (fun w h => List.mem_cons_of_mem _ (List.mem_append_right _ h)) hown hK hP 0 rfl rfl 3 (by decide) (hts (.fieldLink RX6 22 "BidMarket$Text" "things" "[I") (List.mem_of_getElem? (i := 4) rfl)) (fun _ h9 => h9) rfl dX6_findClause_73 ?_
        refine lv_aload_n hx hb dX6_findClause_76 rfl (lv_at hl 1 rfl) ?_
        refine va_get (D := (dC, dI)) (ci := 6) (v := .int tc) (C := RX6) (T := TX6) (N := 8) hx hb hts (fun w h => List.mem_cons_of_mem _ (List.mem_append_right _ h)) hown hK hP 0 rfl rfl 5 (by decide) (hts (.fieldLink RX6 28 "BidMarket$Text" "clauses" "I") (List.mem_of_getElem? (i := 2) rfl)) (fun _ h9 => h9) rfl dX6_findClause_77 ?_
        refine lv_iload_n hx hb dX6_findClause_80 rfl (lv_at hl 3 rfl) ?_
        have h9 := hw.1
        have hw := hw.2
        refine va_iast hx hb hK hP hD hS 3 0 rfl rfl h9 dX6_findClause_81 (fun H locs hP hD hS => ?_)
        have hP : va_P (dC, dI) vwCl (wdX6_findClause cI cJ cT cII cJJ ad tl tc ta tk tb (upd tp tc.toNatClampNeg v2) (upd tt tc.toNatClampNeg v3) tw) H := hP
        have hD : va_D A (wdX6_findClause cI cJ cT cII cJJ ad tl tc ta tk tb (upd tp tc.toNatClampNeg v2) (upd tt tc.toNatClampNeg v3) tw) := hD
        refine lv_aload_n hx hb dX6_findClause_82 rfl (lv_at hl 1 rfl) ?_
        refine va_get (D := (dC, dI)) (ci := 6) (v := .ref (ad 4)) (C := RX6) (T := TX6) (N := 8) hx hb hts (fun w h => List.mem_cons_of_mem _ (List.mem_append_right _ h)) hown hK hP 0 rfl rfl 4 (by decide) (hts (.fieldLink RX6 25 "BidMarket$Text" "worths" "[I") (List.mem_of_getElem? (i := 5) rfl)) (fun _ h9 => h9) rfl dX6_findClause_83 ?_
        refine lv_aload_n hx hb dX6_findClause_86 rfl (lv_at hl 1 rfl) ?_
        refine va_get (D := (dC, dI)) (ci := 6) (v := .int tc) (C := RX6) (T := TX6) (N := 8) hx hb hts (fun w h => List.mem_cons_of_mem _ (List.mem_append_right _ h)) hown hK hP 0 rfl rfl 5 (by decide) (hts (.fieldLink RX6 28 "BidMarket$Text" "clauses" "I") (List.mem_of_getElem? (i := 2) rfl)) (fun _ h9 => h9) rfl dX6_findClause_87 ?_
        refine lv_iload hx hb dX6_findClause_90 (lv_at hl 0 rfl) ?_
        have h10 := hw.1
        have hw := hw.2
        refine va_iast hx hb hK hP hD hS 4 0 rfl rfl h10 dX6_findClause_92 (fun H locs hP hD hS => ?_)
        have hP : va_P (dC, dI) vwCl (wdX6_findClause cI cJ cT cII cJJ ad tl tc ta tk tb (upd tp tc.toNatClampNeg v2) (upd tt tc.toNatClampNeg v3) (upd tw tc.toNatClampNeg s0)) H := hP
        have hD : va_D A (wdX6_findClause cI cJ cT cII cJJ ad tl tc ta tk tb (upd tp tc.toNatClampNeg v2) (upd tt tc.toNatClampNeg v3) (upd tw tc.toNatClampNeg s0)) := hD
        refine lv_aload_n hx hb dX6_findClause_93 rfl (lv_at hl 1 rfl) ?_
        refine lv_dup hx hb dX6_findClause_94 rfl ?_
        refine va_get (D := (dC, dI)) (ci := 6) (v := .int tc) (C := RX6) (T := TX6) (N := 8) hx hb hts (fun w h => List.mem_cons_of_mem _ (List.mem_append_right _ h)) hown hK hP 0 rfl rfl 5 (by decide) (hts (.fieldLink RX6 28 "BidMarket$Text" "clauses" "I") (List.mem_of_getElem? (i := 2) rfl)) (fun _ h9 => h9) rfl dX6_findClause_95 ?_
        refine lv_iconst (v := 1) hx hb dX6_findClause_98 (by decide) ?_
        refine lv_iadd hx hb dX6_findClause_99 ?_
        refine va_put (D := (dC, dI)) (ci := 6) (v := .int (tc + 1)) (ty := .int) (C := RX6) (T := TX6) (N := 8) hx hb hts (fun w h => List.mem_cons_of_mem _ (List.mem_append_right _ h)) tyX6 tyX6_ok nmX6 hown hK hP hD hS 0 rfl rfl 5 (by decide) (hts (.fieldLink RX6 28 "BidMarket$Text" "clauses" "I") (List.mem_of_getElem? (i := 2) rfl)) (fun _ h9 => h9) rfl (by decide +kernel) rfl rfl (Nat.le_of_ble_eq_true rfl) dX6_findClause_100 (fun H locs hP hD hS => ?_)
        have hP : va_P (dC, dI) vwCl (wdX6_findClause cI cJ cT cII cJJ ad tl (tc + 1) ta tk tb (upd tp tc.toNatClampNeg v2) (upd tt tc.toNatClampNeg v3) (upd tw tc.toNatClampNeg s0)) H := hP
        have hD : va_D A (wdX6_findClause cI cJ cT cII cJJ ad tl (tc + 1) ta tk tb (upd tp tc.toNatClampNeg v2) (upd tt tc.toNatClampNeg v3) (upd tw tc.toNatClampNeg s0)) := hD
        exact W.vret hx hb hr (fun t ht hW => ⟨⟨(tc + 1, ta, tk, upd tp tc.toNatClampNeg v2, upd tt tc.toNatClampNeg v3, upd tw tc.toNatClampNeg s0), rfl, hw, by show va_P _ _ _ t.heap; rw [ht]; exact hP⟩, hS.F ht⟩) hS.2.2 dX6_findClause_103
  have kB28 : ∀ (v2 : Int32) (s0 : Int32) (tc : Int32) (ta : Int32) (tk : Int32) (tp : Nat → Int32) (tt : Nat → Int32) (tw : Nat → Int32), ∀ (H : Heap) (locs : List Loc), va_P (dC, dI) vwCl (wdX6_findClause cI cJ cT cII cJJ ad tl tc ta tk tb tp tt tw) H → va_D A (wdX6_findClause cI cJ cT cII cJJ ad tl tc ta tk tb tp tt tw) → va_S A s.heap H locs → ∀ ls : Array Slot, lv_has ls 5 [(0, .ref (ad 0)), (2, .int v2)] → wpX6_findClause_B28 tl tb a1 Post v2 s0 tc ta tk tp tt tw → W p l e (headSpec wsX6_findClause ({ frames := 3, cells := 0, slots := 0, locals := 61 } : Room)).room s m ([.ref (ad 0), .int a1] : List Value).toArray below meth c H locs 0 0 (MQ below (va_Qv (fun (u : Int32 × Int32 × Int32 × (Nat → Int32) × (Nat → Int32) × (Nat → Int32)) => Post u.1 u.2.1 u.2.2.1 u.2.2.2.1 u.2.2.2.2.1 u.2.2.2.2.2) (fun (u : Int32 × Int32 × Int32 × (Nat → Int32) × (Nat → Int32) × (Nat → Int32)) t => va_P (dC, dI) vwCl (wdX6_findClause cI cJ cT cII cJJ ad tl u.1 u.2.1 u.2.2.1 tb u.2.2.2.1 u.2.2.2.2.1 u.2.2.2.2.2) t.heap) A) ([.ref (ad 0), .int a1] : List Value).toArray s 0 0 A) (F0 m 28 ls [.int s0]) := by
    intro v2 s0 tc ta tk tp tt tw H locs hP hD hS ls hl hw
    unfold wpX6_findClause_B28 at hw
    refine lv_istore_n (lv' := [(3, .int s0), (0, .ref (ad 0)), (2, .int v2)]) hx hb dX6_findClause_28 rfl hl (by decide) rfl (fun ls hl => ?_)
    refine lv_aload_n hx hb dX6_findClause_29 rfl (lv_at hl 1 rfl) ?_
    refine va_get (D := (dC, dI)) (ci := 6) (v := .int tk) (C := RX6) (T := TX6) (N := 8) hx hb hts (fun w h => List.mem_cons_of_mem _ (List.mem_append_right _ h)) hown hK hP 0 rfl rfl 7 (by decide) (hts (.fieldLink RX6 34 "BidMarket$Text" "kind" "I") (List.mem_of_getElem? (i := 1) rfl)) (fun _ h9 => h9) rfl dX6_findClause_30 ?_
    refine lv_if_ne (tgt := 43) hx hb dX6_findClause_33 (by decide) (fun c5 => ?_) (fun c5 => ?_)
    · have hw := hw.1 c5
      refine lv_iconst (v := 0) hx hb dX6_findClause_43 (by decide) ?_
      exact kB44 v2 s0 0 tc ta tk tp tt tw _ _ hP hD hS ls (lv_sub hl [1, 2, 0] rfl) hw
    · have hw := hw.2 c5
      refine lv_aload_n hx hb dX6_findClause_36 rfl (lv_at hl 1 rfl) ?_
      refine bw_wvi (wc := (wdX6_findWorth cI cJ cT cII cJJ ad tl tc ta tk tb)) (w1 := (fun (u : Int32 × Int32) => wdX6_findWorth cI cJ cT cII cJJ ad tl tc u.1 u.2 tb)) (As := []) (rest := []) ⟨hx, hb, hml, hown, hts⟩ (mX6_findWorth l dC dI cI cJ cT cII cJJ ad _ tl tc ta tk tb _ hw) (cwV 0 hts gX6_findClause_X6_findWorth rfl rfl rfl hdX6_findWorth ⟨Nat.le_of_ble_eq_true rfl, Nat.le_of_ble_eq_true rfl⟩) hK hP hD hS hA [0, 1] rfl (by decide) (fun _ => rfl) rfl rfl rfl rfl hl.1 rfl (Nat.le_of_ble_eq_true rfl) ⟨Nat.le_of_ble_eq_true rfl, Nat.le_of_ble_eq_true rfl⟩ dX6_findClause_37 (fun r11 u H locs hw hP hD hS => ?_)
      obtain ⟨y12, y13⟩ := u
      try dsimp only at hw
      have hP : va_P (dC, dI) vwCl (wdX6_findClause cI cJ cT cII cJJ ad tl tc y12 y13 tb tp tt tw) H := hP
      have hD : va_D A (wdX6_findClause cI cJ cT cII cJJ ad tl tc y12 y13 tb tp tt tw) := hD
      refine lv_goto (tgt := 44) hx hb dX6_findClause_40 (by decide) ?_
      exact kB44 v2 s0 r11 tc y12 y13 tp tt tw _ _ hP hD hS ls (lv_sub hl [1, 2, 0] rfl) hw
  unfold wpX6_findClause at hw
  refine lv_aload_n hx hb dX6_findClause_0 rfl (lv_at hl 0 rfl) ?_
  refine lv_bipush (v := 97) hx hb dX6_findClause_1 (by decide) ?_
  refine lv_iload_n hx hb dX6_findClause_3 rfl (lv_at hl 1 rfl) ?_
  refine lv_iconst (v := 2) hx hb dX6_findClause_4 (by decide) ?_
  refine bw_wvi (wc := (wdX6_findNumber cI cJ cT cII cJJ ad tl tc ta tk tb)) (w1 := (fun (u : Int32 × Int32) => wdX6_findNumber cI cJ cT cII cJJ ad tl tc u.1 u.2 tb)) (As := [.int 97, .int a1, .int 2]) (rest := []) ⟨hx, hb, hml, hown, hts⟩ (mX6_findNumber l dC dI cI cJ cT cII cJJ ad _ tl tc ta tk tb 97 a1 2 _ hw) (cwV 3 hts gX6_findClause_X6_findNumber rfl rfl rfl hdX6_findNumber ⟨Nat.le_of_ble_eq_true rfl, Nat.le_of_ble_eq_true rfl⟩) hK hP hD hS hA [0, 1] rfl (by decide) (fun _ => rfl) rfl rfl rfl rfl hl.1 rfl (Nat.le_of_ble_eq_true rfl) ⟨Nat.le_of_ble_eq_true rfl, Nat.le_of_ble_eq_true rfl⟩ dX6_findClause_5 (fun r1 u H locs hw hP hD hS => ?_)
  obtain ⟨y2, y3⟩ := u
  try dsimp only at hw
  have hP : va_P (dC, dI) vwCl (wdX6_findClause cI cJ cT cII cJJ ad tl tc y2 y3 tb tp tt tw) H := hP
  have hD : va_D A (wdX6_findClause cI cJ cT cII cJJ ad tl tc y2 y3 tb tp tt tw) := hD
  refine lv_istore_n (lv' := [(2, .int r1), (0, .ref (ad 0)), (1, .int a1)]) hx hb dX6_findClause_8 rfl hl (by decide) rfl (fun ls hl => ?_)
  refine lv_aload_n hx hb dX6_findClause_9 rfl (lv_at hl 1 rfl) ?_
  refine va_get (D := (dC, dI)) (ci := 6) (v := .int y3) (C := RX6) (T := TX6) (N := 8) hx hb hts (fun w h => List.mem_cons_of_mem _ (List.mem_append_right _ h)) hown hK hP 0 rfl rfl 7 (by decide) (hts (.fieldLink RX6 34 "BidMarket$Text" "kind" "I") (List.mem_of_getElem? (i := 1) rfl)) (fun _ h9 => h9) rfl dX6_findClause_10 ?_
  refine lv_if_ne (tgt := 27) hx hb dX6_findClause_13 (by decide) (fun c4 => ?_) (fun c4 => ?_)
  · have hw := hw.1 c4
    refine lv_iconst (v := 0) hx hb dX6_findClause_27 (by decide) ?_
    exact kB28 r1 0 tc y2 y3 tp tt tw _ _ hP hD hS ls (lv_sub hl [1, 0] rfl) hw
  · have hw := hw.2 c4
    refine lv_aload_n hx hb dX6_findClause_16 rfl (lv_at hl 1 rfl) ?_
    refine lv_bipush (v := 48) hx hb dX6_findClause_17 (by decide) ?_
    refine lv_iload_n hx hb dX6_findClause_19 rfl (lv_at hl 2 rfl) ?_
    refine lv_iconst (v := 3) hx hb dX6_findClause_20 (by decide) ?_
    refine bw_wvi (wc := (wdX6_findNumber cI cJ cT cII cJJ ad tl tc y2 y3 tb)) (w1 := (fun (u : Int32 × Int32) => wdX6_findNumber cI cJ cT cII cJJ ad tl tc u.1 u.2 tb)) (As := [.int 48, .int a1, .int 3]) (rest := []) ⟨hx, hb, hml, hown, hts⟩ (mX6_findNumber l dC dI cI cJ cT cII cJJ ad _ tl tc y2 y3 tb 48 a1 3 _ hw) (cwV 3 hts gX6_findClause_X6_findNumber rfl rfl rfl hdX6_findNumber ⟨Nat.le_of_ble_eq_true rfl, Nat.le_of_ble_eq_true rfl⟩) hK hP hD hS hA [0, 1] rfl (by decide) (fun _ => rfl) rfl rfl rfl rfl hl.1 rfl (Nat.le_of_ble_eq_true rfl) ⟨Nat.le_of_ble_eq_true rfl, Nat.le_of_ble_eq_true rfl⟩ dX6_findClause_21 (fun r14 u H locs hw hP hD hS => ?_)
    obtain ⟨y15, y16⟩ := u
    try dsimp only at hw
    have hP : va_P (dC, dI) vwCl (wdX6_findClause cI cJ cT cII cJJ ad tl tc y15 y16 tb tp tt tw) H := hP
    have hD : va_D A (wdX6_findClause cI cJ cT cII cJJ ad tl tc y15 y16 tb tp tt tw) := hD
    refine lv_goto (tgt := 28) hx hb dX6_findClause_24 (by decide) ?_
    exact kB28 r1 r14 tc y15 y16 tp tt tw _ _ hP hD hS ls (lv_sub hl [1, 0] rfl) hw
set_option maxHeartbeats 4000000 in
set_option maxRecDepth 100000 in
theorem mX6_passBetween (l : Launch) (dC : Nat → ClassId) (dI : Nat → Nat → Nat) (cI cJ cT cII cJJ : ClassId) (ad : Nat → Nat) (sz : Nat) (tl : Int32) (tc : Int32) (ta : Int32) (tk : Int32) (tb : Nat → Int32) (Post : Int32 → Int32 → Prop) (hw : wpX6_passBetween tl tc ta tk tb Post) : Met l yX6_passBetween wsX6_passBetween ({ frames := 1, cells := 0, slots := 0, locals := 20 } : Room) (va_Pc [.ref (ad 0)] (fun U => U.heap.size = sz ∧ va_P (dC, dI) vwCl (wdX6_passBetween cI cJ cT cII cJJ ad tl tc ta tk tb) U.heap ∧ va_K (dC, dI) vwCl (bw_tys cI cJ cT cII cJJ) U ∧ va_D (fun _ => True) (wdX6_passBetween cI cJ cT cII cJJ ad tl tc ta tk tb))) (va_Qv (fun (u : Int32 × Int32) => Post u.1 u.2) (fun (u : Int32 × Int32) t => va_P (dC, dI) vwCl (wdX6_passBetween cI cJ cT cII cJJ ad tl tc u.1 u.2 tb) t.heap) (va_A (wdX6_passBetween cI cJ cT cII cJJ ad tl tc ta tk tb) sz)) 0 0 (va_A (wdX6_passBetween cI cJ cT cII cJJ ad tl tc ta tk tb) sz) := by
  refine Met.ofW (cc := cX6_passBetween) (maxL := 1) (ret := none) (by decide) rfl ?_
  intro p e s m args below meth c s₁ B hml hv
  obtain ⟨rfl, hsz, hP, hK, hD0⟩ := hv
  have hx := B.exec
  have hb := B.bytes
  have hr := B.returns
  have hts := atoms_spec (ws := wsX6_passBetween) B.pre
  have hown : s.vm.findClass RX6 = some m.cls := findClass_of_methodNamed B.named
  have hlocks := B.notSynchronized
  subst hsz
  have hD := hD0.self (sz := s.heap.size)
  generalize hAe : va_A (wdX6_passBetween cI cJ cT cII cJJ ad tl tc ta tk tb) s.heap.size = A at hD ⊢
  have hA : ∀ q : Nat, s.heap.size ≤ q → A q := fun q h => by rw [← hAe]; exact Or.inr h
  have hS : va_S A s.heap s.heap [] := va_S.rf
  have hl := lv_entry ([.ref (ad 0)]) (n := 1) (Nat.le_of_ble_eq_true rfl)
  rw [lg_entry_eq]
  generalize (lg_sl ([.ref (ad 0)]) ++ List.replicate (1 - (lg_sl ([.ref (ad 0)])).length) Slot.unset).toArray = ls at hl ⊢
  have hl : lv_has ls 1 [(0, .ref (ad 0))] := hl
  have kB31 : ∀ (ta : Int32) (tk : Int32), ∀ (H : Heap) (locs : List Loc), va_P (dC, dI) vwCl (wdX6_passBetween cI cJ cT cII cJJ ad tl tc ta tk tb) H → va_D A (wdX6_passBetween cI cJ cT cII cJJ ad tl tc ta tk tb) → va_S A s.heap H locs → ∀ ls : Array Slot, lv_has ls 1 [(0, .ref (ad 0))] → wpX6_passBetween_B31 tl tc tb Post ta tk → W p l e (headSpec wsX6_passBetween ({ frames := 1, cells := 0, slots := 0, locals := 20 } : Room)).room s m ([.ref (ad 0)] : List Value).toArray below meth c H locs 0 0 (MQ below (va_Qv (fun (u : Int32 × Int32) => Post u.1 u.2) (fun (u : Int32 × Int32) t => va_P (dC, dI) vwCl (wdX6_passBetween cI cJ cT cII cJJ ad tl tc u.1 u.2 tb) t.heap) A) ([.ref (ad 0)] : List Value).toArray s 0 0 A) (F0 m 31 ls []) := by
    intro ta tk H locs hP hD hS ls hl hw
    unfold wpX6_passBetween_B31 at hw
    refine lv_aload_n hx hb dX6_passBetween_31 rfl (lv_at hl 0 rfl) ?_
    refine lv_iconst (v := 1) hx hb dX6_passBetween_32 (by decide) ?_
    refine va_put (D := (dC, dI)) (ci := 6) (v := .int 1) (ty := .int) (C := RX6) (T := TX6) (N := 8) hx hb hts (fun w h => List.mem_cons_of_mem _ (List.mem_append_right _ h)) tyX6 tyX6_ok nmX6 hown hK hP hD hS 0 rfl rfl 7 (by decide) (hts (.fieldLink RX6 34 "BidMarket$Text" "kind" "I") (List.mem_of_getElem? (i := 3) rfl)) (fun _ h9 => h9) rfl (by decide +kernel) rfl rfl (Nat.le_of_ble_eq_true rfl) dX6_passBetween_33 (fun H locs hP hD hS => ?_)
    have hP : va_P (dC, dI) vwCl (wdX6_passBetween cI cJ cT cII cJJ ad tl tc ta 1 tb) H := hP
    have hD : va_D A (wdX6_passBetween cI cJ cT cII cJJ ad tl tc ta 1 tb) := hD
    exact W.vret hx hb hr (fun t ht hW => ⟨⟨(ta, 1), rfl, hw, by show va_P _ _ _ t.heap; rw [ht]; exact hP⟩, hS.F ht⟩) hS.2.2 dX6_passBetween_36
  unfold wpX6_passBetween at hw
  refine lv_aload_n hx hb dX6_passBetween_0 rfl (lv_at hl 0 rfl) ?_
  refine bw_pvi (wc := (wdX6_sign cI cJ cT cII cJJ ad tl tc ta tk tb)) (As := []) (rest := []) ⟨hx, hb, hml, hown, hts⟩ (mX6_sign l dC dI cI cJ cT cII cJJ ad tl tc ta tk tb _ hw) (cwV 0 hts gX6_passBetween_X6_sign rfl rfl rfl hdX6_sign ⟨Nat.le_of_ble_eq_true rfl, Nat.le_of_ble_eq_true rfl⟩) hK hP [0, 1] rfl rfl rfl rfl rfl hl.1 rfl (Nat.le_of_ble_eq_true rfl) ⟨Nat.le_of_ble_eq_true rfl, Nat.le_of_ble_eq_true rfl⟩ dX6_passBetween_1 (fun r1 hw => ?_)
  refine lv_bipush (v := 59) hx hb dX6_passBetween_4 (by decide) ?_
  refine lv_icmp_ne (tgt := 31) hx hb dX6_passBetween_6 (by decide) (fun c2 => ?_) (fun c2 => ?_)
  · have hw := hw.1 c2
    exact kB31 ta tk _ _ hP hD hS ls hl hw
  · have hw := hw.2 c2
    refine lv_aload_n hx hb dX6_passBetween_9 rfl (lv_at hl 0 rfl) ?_
    refine va_get (D := (dC, dI)) (ci := 6) (v := .int tc) (C := RX6) (T := TX6) (N := 8) hx hb hts (fun w h => List.mem_cons_of_mem _ (List.mem_append_right _ h)) hown hK hP 0 rfl rfl 5 (by decide) (hts (.fieldLink RX6 28 "BidMarket$Text" "clauses" "I") (List.mem_of_getElem? (i := 1) rfl)) (fun _ h9 => h9) rfl dX6_passBetween_10 ?_
    refine lv_bipush (v := 16) hx hb dX6_passBetween_13 (by decide) ?_
    refine lv_icmp_ge (tgt := 31) hx hb dX6_passBetween_15 (by decide) (fun c3 => ?_) (fun c3 => ?_)
    · have hw := hw.1 c3
      exact kB31 ta tk _ _ hP hD hS ls hl hw
    · have hw := hw.2 c3
      refine lv_aload_n hx hb dX6_passBetween_18 rfl (lv_at hl 0 rfl) ?_
      refine lv_dup hx hb dX6_passBetween_19 rfl ?_
      refine va_get (D := (dC, dI)) (ci := 6) (v := .int ta) (C := RX6) (T := TX6) (N := 8) hx hb hts (fun w h => List.mem_cons_of_mem _ (List.mem_append_right _ h)) hown hK hP 0 rfl rfl 6 (by decide) (hts (.fieldLink RX6 31 "BidMarket$Text" "at" "I") (List.mem_of_getElem? (i := 2) rfl)) (fun _ h9 => h9) rfl dX6_passBetween_20 ?_
      refine lv_iconst (v := 1) hx hb dX6_passBetween_23 (by decide) ?_
      refine lv_iadd hx hb dX6_passBetween_24 ?_
      refine va_put (D := (dC, dI)) (ci := 6) (v := .int (ta + 1)) (ty := .int) (C := RX6) (T := TX6) (N := 8) hx hb hts (fun w h => List.mem_cons_of_mem _ (List.mem_append_right _ h)) tyX6 tyX6_ok nmX6 hown hK hP hD hS 0 rfl rfl 6 (by decide) (hts (.fieldLink RX6 31 "BidMarket$Text" "at" "I") (List.mem_of_getElem? (i := 2) rfl)) (fun _ h9 => h9) rfl (by decide +kernel) rfl rfl (Nat.le_of_ble_eq_true rfl) dX6_passBetween_25 (fun H locs hP hD hS => ?_)
      have hP : va_P (dC, dI) vwCl (wdX6_passBetween cI cJ cT cII cJJ ad tl tc (ta + 1) tk tb) H := hP
      have hD : va_D A (wdX6_passBetween cI cJ cT cII cJJ ad tl tc (ta + 1) tk tb) := hD
      refine lv_goto (tgt := 36) hx hb dX6_passBetween_28 (by decide) ?_
      exact W.vret hx hb hr (fun t ht hW => ⟨⟨(ta + 1, tk), rfl, hw, by show va_P _ _ _ t.heap; rw [ht]; exact hP⟩, hS.F ht⟩) hS.2.2 dX6_passBetween_36
set_option maxHeartbeats 4000000 in
set_option maxRecDepth 100000 in
theorem mX6_findClauses (l : Launch) (dC : Nat → ClassId) (dI : Nat → Nat → Nat) (cI cJ cT cII cJJ : ClassId) (ad : Nat → Nat) (sz : Nat) (tl : Int32) (tc : Int32) (ta : Int32) (tk : Int32) (tb : Nat → Int32) (tp : Nat → Int32) (tt : Nat → Int32) (tw : Nat → Int32) (a1 : Int32) (Post : Int32 → Int32 → Int32 → (Nat → Int32) → (Nat → Int32) → (Nat → Int32) → Prop) (hw : wpX6_findClauses tl tc ta tk tb tp tt tw a1 Post) : Met l yX6_findClauses wsX6_findClauses ({ frames := 4, cells := 0, slots := 0, locals := 85 } : Room) (va_Pc [.ref (ad 0), .int a1] (fun U => U.heap.size = sz ∧ va_P (dC, dI) vwCl (wdX6_findClauses cI cJ cT cII cJJ ad tl tc ta tk tb tp tt tw) U.heap ∧ va_K (dC, dI) vwCl (bw_tys cI cJ cT cII cJJ) U ∧ va_D (fun _ => True) (wdX6_findClauses cI cJ cT cII cJJ ad tl tc ta tk tb tp tt tw))) (va_Qv (fun (u : Int32 × Int32 × Int32 × (Nat → Int32) × (Nat → Int32) × (Nat → Int32)) => Post u.1 u.2.1 u.2.2.1 u.2.2.2.1 u.2.2.2.2.1 u.2.2.2.2.2) (fun (u : Int32 × Int32 × Int32 × (Nat → Int32) × (Nat → Int32) × (Nat → Int32)) t => va_P (dC, dI) vwCl (wdX6_findClauses cI cJ cT cII cJJ ad tl u.1 u.2.1 u.2.2.1 tb u.2.2.2.1 u.2.2.2.2.1 u.2.2.2.2.2) t.heap) (va_A (wdX6_findClauses cI cJ cT cII cJJ ad tl tc ta tk tb tp tt tw) sz)) 0 0 (va_A (wdX6_findClauses cI cJ cT cII cJJ ad tl tc ta tk tb tp tt tw) sz) := by
  refine Met.ofW (cc := cX6_findClauses) (maxL := 3) (ret := none) (by decide) rfl ?_
  intro p e s m args below meth c s₁ B hml hv
  obtain ⟨rfl, hsz, hP, hK, hD0⟩ := hv
  have hx := B.exec
  have hb := B.bytes
  have hr := B.returns
  have hts := atoms_spec (ws := wsX6_findClauses) B.pre
  have hown : s.vm.findClass RX6 = some m.cls := findClass_of_methodNamed B.named
  have hlocks := B.notSynchronized
  subst hsz
  have hD := hD0.self (sz := s.heap.size)
  generalize hAe : va_A (wdX6_findClauses cI cJ cT cII cJJ ad tl tc ta tk tb tp tt tw) s.heap.size = A at hD ⊢
  have hA : ∀ q : Nat, s.heap.size ≤ q → A q := fun q h => by rw [← hAe]; exact Or.inr h
  have hS : va_S A s.heap s.heap [] := va_S.rf
  have hl := lv_entry ([.ref (ad 0), .int a1]) (n := 3) (Nat.le_of_ble_eq_true rfl)
  rw [lg_entry_eq]
  generalize (lg_sl ([.ref (ad 0), .int a1]) ++ List.replicate (3 - (lg_sl ([.ref (ad 0), .int a1])).length) Slot.unset).toArray = ls at hl ⊢
  have hl : lv_has ls 3 [(0, .ref (ad 0)), (1, .int a1)] := hl
  have kB17 : ∀ f : Nat, ∀ (v2 : Int32) (tc : Int32) (ta : Int32) (tk : Int32) (tp : Nat → Int32) (tt : Nat → Int32) (tw : Nat → Int32), ∀ (H : Heap) (locs : List Loc), va_P (dC, dI) vwCl (wdX6_findClauses cI cJ cT cII cJJ ad tl tc ta tk tb tp tt tw) H → va_D A (wdX6_findClauses cI cJ cT cII cJJ ad tl tc ta tk tb tp tt tw) → va_S A s.heap H locs → ∀ ls : Array Slot, lv_has ls 3 [(0, .ref (ad 0)), (1, .int a1), (2, .int v2)] → wpX6_findClauses_B17 tl tb a1 Post f v2 tc ta tk tp tt tw → W p l e (headSpec wsX6_findClauses ({ frames := 4, cells := 0, slots := 0, locals := 85 } : Room)).room s m ([.ref (ad 0), .int a1] : List Value).toArray below meth c H locs 0 0 (MQ below (va_Qv (fun (u : Int32 × Int32 × Int32 × (Nat → Int32) × (Nat → Int32) × (Nat → Int32)) => Post u.1 u.2.1 u.2.2.1 u.2.2.2.1 u.2.2.2.2.1 u.2.2.2.2.2) (fun (u : Int32 × Int32 × Int32 × (Nat → Int32) × (Nat → Int32) × (Nat → Int32)) t => va_P (dC, dI) vwCl (wdX6_findClauses cI cJ cT cII cJJ ad tl u.1 u.2.1 u.2.2.1 tb u.2.2.2.1 u.2.2.2.2.1 u.2.2.2.2.2) t.heap) A) ([.ref (ad 0), .int a1] : List Value).toArray s 0 0 A) (F0 m 17 ls []) := by
    intro  f
    induction f with
    | zero => intro v2 tc ta tk tp tt tw H locs hP hD hS ls hl hw; exact (show False from hw).elim
    | succ f ih =>
      intro v2 tc ta tk tp tt tw H locs hP hD hS ls hl hw
      rw [wpX6_findClauses_B17] at hw
      refine lv_iload_n hx hb dX6_findClauses_17 rfl (lv_at hl 2 rfl) ?_
      refine lv_bipush (v := 16) hx hb dX6_findClauses_18 (by decide) ?_
      refine lv_icmp_ge (tgt := 65) hx hb dX6_findClauses_20 (by decide) (fun c1 => ?_) (fun c1 => ?_)
      · have hw := hw.1 c1
        exact W.vret hx hb hr (fun t ht hW => ⟨⟨(tc, ta, tk, tp, tt, tw), rfl, hw, by show va_P _ _ _ t.heap; rw [ht]; exact hP⟩, hS.F ht⟩) hS.2.2 dX6_findClauses_65
      · have hw := hw.2 c1
        refine lv_aload_n hx hb dX6_findClauses_23 rfl (lv_at hl 0 rfl) ?_
        refine lv_iload_n hx hb dX6_findClauses_24 rfl (lv_at hl 1 rfl) ?_
        refine bw_wvv (wc := (wdX6_findClause cI cJ cT cII cJJ ad tl tc ta tk tb tp tt tw)) (w1 := (fun (u : Int32 × Int32 × Int32 × (Nat → Int32) × (Nat → Int32) × (Nat → Int32)) => wdX6_findClause cI cJ cT cII cJJ ad tl u.1 u.2.1 u.2.2.1 tb u.2.2.2.1 u.2.2.2.2.1 u.2.2.2.2.2)) (As := [.int a1]) (rest := []) ⟨hx, hb, hml, hown, hts⟩ (mX6_findClause l dC dI cI cJ cT cII cJJ ad _ tl tc ta tk tb tp tt tw a1 _ hw) (cwV 1 hts gX6_findClauses_X6_findClause rfl rfl rfl hdX6_findClause ⟨Nat.le_of_ble_eq_true rfl, Nat.le_of_ble_eq_true rfl⟩) hK hP hD hS hA [0, 1, 2, 3, 4] rfl (by decide) (fun _ => rfl) rfl rfl rfl rfl hl.1 rfl (Nat.le_of_ble_eq_true rfl) ⟨Nat.le_of_ble_eq_true rfl, Nat.le_of_ble_eq_true rfl⟩ dX6_findClauses_25 (fun u H locs hw hP hD hS => ?_)
        obtain ⟨y2, y3, y4, y5, y6, y7⟩ := u
        try dsimp only at hw
        have hP : va_P (dC, dI) vwCl (wdX6_findClauses cI cJ cT cII cJJ ad tl y2 y3 y4 tb y5 y6 y7) H := hP
        have hD : va_D A (wdX6_findClauses cI cJ cT cII cJJ ad tl y2 y3 y4 tb y5 y6 y7) := hD
        refine lv_aload_n hx hb dX6_findClauses_28 rfl (lv_at hl 0 rfl) ?_
        refine va_get (D := (dC, dI)) (ci := 6) (v := .int y4) (C := RX6) (T := TX6) (N := 8) hx hb hts (fun w h => List.mem_cons_of_mem _ (List.mem_append_right _ h)) hown hK hP 0 rfl rfl 7 (by decide) (hts (.fieldLink RX6 34 "BidMarket$Text" "kind" "I") (List.mem_of_getElem? (i := 2) rfl)) (fun _ h9 => h9) rfl dX6_findClauses_29 ?_
        refine lv_if_ne (tgt := 46) hx hb dX6_findClauses_32 (by decide) (fun c8 => ?_) (fun c8 => ?_)
        · have hw := hw.1 c8
          exact W.vret hx hb hr (fun t ht hW => ⟨⟨(y2, y3, y4, y5, y6, y7), rfl, hw, by show va_P _ _ _ t.heap; rw [ht]; exact hP⟩, hS.F ht⟩) hS.2.2 dX6_findClauses_46
        · have hw := hw.2 c8
          refine lv_aload_n hx hb dX6_findClauses_35 rfl (lv_at hl 0 rfl) ?_
          refine va_get (D := (dC, dI)) (ci := 6) (v := .int y3) (C := RX6) (T := TX6) (N := 8) hx hb hts (fun w h => List.mem_cons_of_mem _ (List.mem_append_right _ h)) hown hK hP 0 rfl rfl 6 (by decide) (hts (.fieldLink RX6 31 "BidMarket$Text" "at" "I") (List.mem_of_getElem? (i := 1) rfl)) (fun _ h9 => h9) rfl dX6_findClauses_36 ?_
          refine lv_aload_n hx hb dX6_findClauses_39 rfl (lv_at hl 0 rfl) ?_
          refine va_get (D := (dC, dI)) (ci := 6) (v := .int tl) (C := RX6) (T := TX6) (N := 8) hx hb hts (fun w h => List.mem_cons_of_mem _ (List.mem_append_right _ h)) hown hK hP 0 rfl rfl 1 (by decide) (hts (.fieldLink RX6 15 "BidMarket$Text" "length" "I") (List.mem_of_getElem? (i := 4) rfl)) (fun _ h9 => h9) rfl dX6_findClauses_40 ?_
          refine lv_icmp_lt (tgt := 47) hx hb dX6_findClauses_43 (by decide) (fun c9 => ?_) (fun c9 => ?_)
          · have hw := hw.1 c9
            refine lv_aload_n hx hb dX6_findClauses_47 rfl (lv_at hl 0 rfl) ?_
            refine bw_wvv (wc := (wdX6_passBetween cI cJ cT cII cJJ ad tl y2 y3 y4 tb)) (w1 := (fun (u : Int32 × Int32) => wdX6_passBetween cI cJ cT cII cJJ ad tl y2 u.1 u.2 tb)) (As := []) (rest := []) ⟨hx, hb, hml, hown, hts⟩ (mX6_passBetween l dC dI cI cJ cT cII cJJ ad _ tl y2 y3 y4 tb _ hw) (cwV 0 hts gX6_findClauses_X6_passBetween rfl rfl rfl hdX6_passBetween ⟨Nat.le_of_ble_eq_true rfl, Nat.le_of_ble_eq_true rfl⟩) hK hP hD hS hA [0, 1] rfl (by decide) (fun _ => rfl) rfl rfl rfl rfl hl.1 rfl (Nat.le_of_ble_eq_true rfl) ⟨Nat.le_of_ble_eq_true rfl, Nat.le_of_ble_eq_true rfl⟩ dX6_findClauses_48 (fun u H locs hw hP hD hS => ?_)
            obtain ⟨y10, y11⟩ := u
            try dsimp only at hw
            have hP : va_P (dC, dI) vwCl (wdX6_findClauses cI cJ cT cII cJJ ad tl y2 y10 y11 tb y5 y6 y7) H := hP
            have hD : va_D A (wdX6_findClauses cI cJ cT cII cJJ ad tl y2 y10 y11 tb y5 y6 y7) := hD
            refine lv_aload_n hx hb dX6_findClauses_51 rfl (lv_at hl 0 rfl) ?_
            refine va_get (D := (dC, dI)) (ci := 6) (v := .int y11) (C := RX6) (T := TX6) (N := 8) hx hb hts (fun w h => List.mem_cons_of_mem _ (List.mem_append_right _ h)) hown hK hP 0 rfl rfl 7 (by decide) (hts (.fieldLink RX6 34 "BidMarket$Text" "kind" "I") (List.mem_of_getElem? (i := 2) rfl)) (fun _ h9 => h9) rfl dX6_findClauses_52 ?_
            refine lv_if_eq (tgt := 59) hx hb dX6_findClauses_55 (by decide) (fun c12 => ?_) (fun c12 => ?_)
            · have hw := hw.1 c12
              obtain ⟨x13, ex13⟩ : ∃ y : Int32, y = v2 + 1 := ⟨_, rfl⟩
              have hw := hw x13 ex13
              refine lv_iinc (v := x13) (lv' := [(2, .int x13), (0, .ref (ad 0)), (1, .int a1)]) hx hb dX6_findClauses_59 hl (k := 2) rfl (by rw [ex13]; rfl) (by decide) rfl (fun ls hl => ?_)
              refine lv_goto (tgt := 17) hx hb dX6_findClauses_62 (by decide) ?_
              exact ih x13 y2 y10 y11 y5 y6 y7 _ _ hP hD hS ls (lv_sub hl [1, 2, 0] rfl) hw
            · have hw := hw.2 c12
              exact W.vret hx hb hr (fun t ht hW => ⟨⟨(y2, y10, y11, y5, y6, y7), rfl, hw, by show va_P _ _ _ t.heap; rw [ht]; exact hP⟩, hS.F ht⟩) hS.2.2 dX6_findClauses_58
          · have hw := hw.2 c9
            exact W.vret hx hb hr (fun t ht hW => ⟨⟨(y2, y3, y4, y5, y6, y7), rfl, hw, by show va_P _ _ _ t.heap; rw [ht]; exact hP⟩, hS.F ht⟩) hS.2.2 dX6_findClauses_46
  unfold wpX6_findClauses at hw
  refine lv_aload_n hx hb dX6_findClauses_0 rfl (lv_at hl 0 rfl) ?_
  refine lv_iconst (v := 0) hx hb dX6_findClauses_1 (by decide) ?_
  refine va_put (D := (dC, dI)) (ci := 6) (v := .int 0) (ty := .int) (C := RX6) (T := TX6) (N := 8) hx hb hts (fun w h => List.mem_cons_of_mem _ (List.mem_append_right _ h)) tyX6 tyX6_ok nmX6 hown hK hP hD hS 0 rfl rfl 6 (by decide) (hts (.fieldLink RX6 31 "BidMarket$Text" "at" "I") (List.mem_of_getElem? (i := 1) rfl)) (fun _ h9 => h9) rfl (by decide +kernel) rfl rfl (Nat.le_of_ble_eq_true rfl) dX6_findClauses_2 (fun H locs hP hD hS => ?_)
  have hP : va_P (dC, dI) vwCl (wdX6_findClauses cI cJ cT cII cJJ ad tl tc 0 tk tb tp tt tw) H := hP
  have hD : va_D A (wdX6_findClauses cI cJ cT cII cJJ ad tl tc 0 tk tb tp tt tw) := hD
  refine lv_aload_n hx hb dX6_findClauses_5 rfl (lv_at hl 0 rfl) ?_
  refine lv_iconst (v := 0) hx hb dX6_findClauses_6 (by decide) ?_
  refine va_put (D := (dC, dI)) (ci := 6) (v := .int 0) (ty := .int) (C := RX6) (T := TX6) (N := 8) hx hb hts (fun w h => List.mem_cons_of_mem _ (List.mem_append_right _ h)) tyX6 tyX6_ok nmX6 hown hK hP hD hS 0 rfl rfl 7 (by decide) (hts (.fieldLink RX6 34 "BidMarket$Text" "kind" "I") (List.mem_of_getElem? (i := 2) rfl)) (fun _ h9 => h9) rfl (by decide +kernel) rfl rfl (Nat.le_of_ble_eq_true rfl) dX6_findClauses_7 (fun H locs hP hD hS => ?_)
  have hP : va_P (dC, dI) vwCl (wdX6_findClauses cI cJ cT cII cJJ ad tl tc 0 0 tb tp tt tw) H := hP
  have hD : va_D A (wdX6_findClauses cI cJ cT cII cJJ ad tl tc 0 0 tb tp tt tw) := hD
  refine lv_aload_n hx hb dX6_findClauses_10 rfl (lv_at hl 0 rfl) ?_
  refine lv_iconst (v := 0) hx hb dX6_findClauses_11 (by decide) ?_
  refine va_put (D := (dC, dI)) (ci := 6) (v := .int 0) (ty := .int) (C := RX6) (T := TX6) (N := 8) hx hb hts (fun w h => List.mem_cons_of_mem _ (List.mem_append_right _ h)) tyX6 tyX6_ok nmX6 hown hK hP hD hS 0 rfl rfl 5 (by decide) (hts (.fieldLink RX6 28 "BidMarket$Text" "clauses" "I") (List.mem_of_getElem? (i := 3) rfl)) (fun _ h9 => h9) rfl (by decide +kernel) rfl rfl (Nat.le_of_ble_eq_true rfl) dX6_findClauses_12 (fun H locs hP hD hS => ?_)
  have hP : va_P (dC, dI) vwCl (wdX6_findClauses cI cJ cT cII cJJ ad tl 0 0 0 tb tp tt tw) H := hP
  have hD : va_D A (wdX6_findClauses cI cJ cT cII cJJ ad tl 0 0 0 tb tp tt tw) := hD
  refine lv_iconst (v := 0) hx hb dX6_findClauses_15 (by decide) ?_
  refine lv_istore_n (lv' := [(2, .int 0), (0, .ref (ad 0)), (1, .int a1)]) hx hb dX6_findClauses_16 rfl hl (by decide) rfl (fun ls hl => ?_)
  obtain ⟨f1, hw⟩ := hw
  exact kB17 f1 0 0 0 0 tp tt tw _ _ hP hD hS ls (lv_sub hl [1, 2, 0] rfl) hw
