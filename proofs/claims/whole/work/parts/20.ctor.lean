set_option maxHeartbeats 8000000 in
set_option maxRecDepth 100000 in
theorem mX0_init (l : Launch) (dC : Nat → ClassId) (dI : Nat → Nat → Nat) (cI cJ cT cII cJJ : ClassId) (h : Nat) (sz : Nat) (Post : Int32 → Int32 → Int32 → Prop) (hw : wpX0_init Post) : Met l yX0_init wsX0_init ({ frames := 1, cells := 0, slots := 0, locals := 12 } : Room) (va_Pc [.ref h] (fun U => U.heap.size = sz ∧ va_P (dC, dI) vwCl [(h, .inr (0, [.int 0, .int 0, .int 0]))] U.heap ∧ va_K (dC, dI) vwCl (bw_tys cI cJ cT cII cJJ) U ∧ va_D (fun _ => True) [(h, .inr (0, [.int 0, .int 0, .int 0]))] ∧ bw_X U)) (va_Qv (fun (u : (Nat → Nat) × Int32 × Int32 × Int32) => u.1 0 = h ∧ Post u.2.1 u.2.2.1 u.2.2.2) (fun (u : (Nat → Nat) × Int32 × Int32 × Int32) t => va_P (dC, dI) vwCl (wdF0 cI cJ cT cII cJJ u.1 u.2.1 u.2.2.1 u.2.2.2) t.heap ∧ va_D (va_A [(h, .inr (0, [.int 0, .int 0, .int 0]))] sz) (wdF0 cI cJ cT cII cJJ u.1 u.2.1 u.2.2.1 u.2.2.2)) (va_A [(h, .inr (0, [.int 0, .int 0, .int 0]))] sz)) 0 0 (va_A [(h, .inr (0, [.int 0, .int 0, .int 0]))] sz) := by
  refine Met.ofW (cc := cX0_init) (maxL := 1) (ret := none) (by decide) rfl ?_
  intro p e s m args below meth c s₁ B hml hv
  obtain ⟨rfl, hsz, hP, hK, hD0, hX⟩ := hv
  have hx := B.exec
  have hb := B.bytes
  have hr := B.returns
  have hts := atoms_spec (ws := wsX0_init) B.pre
  have hown : s.vm.findClass RX0 = some m.cls := findClass_of_methodNamed B.named
  have hlocks := B.notSynchronized
  have hin : meth.name = "<init>" := (name_of_methodNamed B.named B.method).1
  subst hsz
  have hD := hD0.self (sz := s.heap.size)
  generalize hAe : va_A [(h, .inr (0, [.int 0, .int 0, .int 0]))] s.heap.size = A at hD ⊢
  have hA : ∀ q : Nat, s.heap.size ≤ q → A q := fun q h => by rw [← hAe]; exact Or.inr h
  have hS : va_S A s.heap s.heap [] := va_S.rf
  have hl := lv_entry ([.ref h]) (n := 1) (Nat.le_of_ble_eq_true rfl)
  rw [lg_entry_eq]
  generalize (lg_sl ([.ref h]) ++ List.replicate (1 - (lg_sl ([.ref h])).length) Slot.unset).toArray = ls at hl ⊢
  have hl : lv_has ls 1 [(0, .ref h)] := hl
  unfold wpX0_init at hw
  refine lv_aload_n hx hb dX0_init_0 rfl (lv_at hl 0 rfl) ?_
  refine W.objInit hx hb hown (hts (.methodLink RX0 3 objectInit) (List.mem_of_getElem? (i := 1) rfl)) (hts (.instanceMethod objectInit) (List.mem_of_getElem? (i := 2) rfl)) (hts (.code objectInit ⟨#[0xb1]⟩ 1 none) (List.mem_of_getElem? (i := 3) rfl)) rfl (by rw [hml]; exact hl.1) rfl dX0_init_1 (Nat.le_of_ble_eq_true rfl) (Nat.le_of_ble_eq_true rfl) ?_
  refine W.eq (g2 := F0 m 4 ls []) rfl ?_
  refine lv_aload_n hx hb dX0_init_4 rfl (lv_at hl 0 rfl) ?_
  refine lv_bipush (v := (-5)) hx hb dX0_init_5 (by decide) ?_
  refine va_put (D := (dC, dI)) (ci := 0) (v := .int ((-5))) (ty := .int) (C := RX0) (T := TX0) (N := 3) hx hb hts (fun w h => List.mem_cons_of_mem _ (List.mem_append_right _ h)) tyX0 tyX0_ok nmX0 hown hK hP hD hS 0 rfl rfl 0 (by decide) (hts (.fieldLink RX0 9 "BidMarket$Complaint" "kind" "I") (List.mem_of_getElem? (i := 4) rfl)) (fun _ h9 => h9) rfl (by decide +kernel) rfl rfl (Nat.le_of_ble_eq_true rfl) dX0_init_7 (fun H locs hP hD hS => ?_)
  have hP : va_P (dC, dI) vwCl [(h, .inr (0, [.int ((-5)), .int 0, .int 0]))] H := hP
  have hD : va_D A [(h, .inr (0, [.int ((-5)), .int 0, .int 0]))] := hD
  refine lv_aload_n hx hb dX0_init_10 rfl (lv_at hl 0 rfl) ?_
  refine lv_bipush (v := (-5)) hx hb dX0_init_11 (by decide) ?_
  refine va_put (D := (dC, dI)) (ci := 0) (v := .int ((-5))) (ty := .int) (C := RX0) (T := TX0) (N := 3) hx hb hts (fun w h => List.mem_cons_of_mem _ (List.mem_append_right _ h)) tyX0 tyX0_ok nmX0 hown hK hP hD hS 0 rfl rfl 1 (by decide) (hts (.fieldLink RX0 15 "BidMarket$Complaint" "cause" "I") (List.mem_of_getElem? (i := 5) rfl)) (fun _ h9 => h9) rfl (by decide +kernel) rfl rfl (Nat.le_of_ble_eq_true rfl) dX0_init_13 (fun H locs hP hD hS => ?_)
  have hP : va_P (dC, dI) vwCl [(h, .inr (0, [.int ((-5)), .int ((-5)), .int 0]))] H := hP
  have hD : va_D A [(h, .inr (0, [.int ((-5)), .int ((-5)), .int 0]))] := hD
  refine lv_aload_n hx hb dX0_init_16 rfl (lv_at hl 0 rfl) ?_
  refine lv_bipush (v := (-5)) hx hb dX0_init_17 (by decide) ?_
  refine va_put (D := (dC, dI)) (ci := 0) (v := .int ((-5))) (ty := .int) (C := RX0) (T := TX0) (N := 3) hx hb hts (fun w h => List.mem_cons_of_mem _ (List.mem_append_right _ h)) tyX0 tyX0_ok nmX0 hown hK hP hD hS 0 rfl rfl 2 (by decide) (hts (.fieldLink RX0 18 "BidMarket$Complaint" "causeOfCause" "I") (List.mem_of_getElem? (i := 6) rfl)) (fun _ h9 => h9) rfl (by decide +kernel) rfl rfl (Nat.le_of_ble_eq_true rfl) dX0_init_19 (fun H locs hP hD hS => ?_)
  have hP : va_P (dC, dI) vwCl [(h, .inr (0, [.int ((-5)), .int ((-5)), .int ((-5))]))] H := hP
  have hD : va_D A [(h, .inr (0, [.int ((-5)), .int ((-5)), .int ((-5))]))] := hD
  obtain ⟨AD, e_h⟩ : ∃ AD : Nat → Nat, AD 0 = h := ⟨fun k => cond (Nat.blt k 1) h (0), rfl⟩
  subst e_h
  have hPf : va_P (dC, dI) vwCl (wdF0 cI cJ cT cII cJJ AD ((-5)) ((-5)) ((-5))) H := bw_subP (is := [0]) hP rfl
  have hDf : va_D A (wdF0 cI cJ cT cII cJJ AD ((-5)) ((-5)) ((-5))) := bw_subDA (is := [0]) hD rfl (by decide)
  clear hP hD
  have hP := hPf
  have hD := hDf
  exact W.vret hx hb hr (fun t ht hW => ⟨⟨(AD, (-5), (-5), (-5)), rfl, ⟨rfl, hw⟩, by show va_P _ _ _ t.heap ∧ _; rw [ht]; exact ⟨hP, hD⟩⟩, hS.F ht⟩) hS.2.2 dX0_init_22
set_option maxHeartbeats 8000000 in
set_option maxRecDepth 100000 in
theorem mX3_init (l : Launch) (dC : Nat → ClassId) (dI : Nat → Nat → Nat) (cI cJ cT cII cJJ : ClassId) (h : Nat) (sz : Nat) (Post : (Nat → Int32) → Prop) (hw : wpX3_init Post) : Met l yX3_init wsX3_init ({ frames := 1, cells := 1, slots := 256, locals := 12 } : Room) (va_Pc [.ref h] (fun U => U.heap.size = sz ∧ va_P (dC, dI) vwCl [(h, .inr (3, [.null]))] U.heap ∧ va_K (dC, dI) vwCl (bw_tys cI cJ cT cII cJJ) U ∧ va_D (fun _ => True) [(h, .inr (3, [.null]))] ∧ bw_X U)) (va_Qv (fun (u : (Nat → Nat) × (Nat → Int32)) => u.1 0 = h ∧ Post u.2) (fun (u : (Nat → Nat) × (Nat → Int32)) t => va_P (dC, dI) vwCl (wdF3 cI cJ cT cII cJJ u.1 u.2) t.heap ∧ va_D (va_A [(h, .inr (3, [.null]))] sz) (wdF3 cI cJ cT cII cJJ u.1 u.2)) (va_A [(h, .inr (3, [.null]))] sz)) 1 256 (va_A [(h, .inr (3, [.null]))] sz) := by
  refine Met.ofW (cc := cX3_init) (maxL := 1) (ret := none) (by decide) rfl ?_
  intro p e s m args below meth c s₁ B hml hv
  obtain ⟨rfl, hsz, hP, hK, hD0, hX⟩ := hv
  have hx := B.exec
  have hb := B.bytes
  have hr := B.returns
  have hts := atoms_spec (ws := wsX3_init) B.pre
  have hown : s.vm.findClass RX3 = some m.cls := findClass_of_methodNamed B.named
  have hlocks := B.notSynchronized
  have hin : meth.name = "<init>" := (name_of_methodNamed B.named B.method).1
  subst hsz
  have hD := hD0.self (sz := s.heap.size)
  generalize hAe : va_A [(h, .inr (3, [.null]))] s.heap.size = A at hD ⊢
  have hA : ∀ q : Nat, s.heap.size ≤ q → A q := fun q h => by rw [← hAe]; exact Or.inr h
  have hS : va_S A s.heap s.heap [] := va_S.rf
  have hl := lv_entry ([.ref h]) (n := 1) (Nat.le_of_ble_eq_true rfl)
  rw [lg_entry_eq]
  generalize (lg_sl ([.ref h]) ++ List.replicate (1 - (lg_sl ([.ref h])).length) Slot.unset).toArray = ls at hl ⊢
  have hl : lv_has ls 1 [(0, .ref h)] := hl
  unfold wpX3_init at hw
  refine lv_aload_n hx hb dX3_init_0 rfl (lv_at hl 0 rfl) ?_
  refine W.objInit hx hb hown (hts (.methodLink RX3 3 objectInit) (List.mem_of_getElem? (i := 1) rfl)) (hts (.instanceMethod objectInit) (List.mem_of_getElem? (i := 2) rfl)) (hts (.code objectInit ⟨#[0xb1]⟩ 1 none) (List.mem_of_getElem? (i := 3) rfl)) rfl (by rw [hml]; exact hl.1) rfl dX3_init_1 (Nat.le_of_ble_eq_true rfl) (Nat.le_of_ble_eq_true rfl) ?_
  refine W.eq (g2 := F0 m 4 ls []) rfl ?_
  refine lv_aload_n hx hb dX3_init_4 rfl (lv_at hl 0 rfl) ?_
  refine lv_sipush (v := 256) hx hb dX3_init_5 (by decide) ?_
  refine bw_newI (N' := 256) (k2 := 1) (n2 := 256) hx hb (hts (.arrayClass .int) (List.mem_of_getElem? (i := 4) rfl)) hK (t0 := 0) rfl hP hD hS hA (by decide) rfl (Nat.le_of_ble_eq_true rfl) (Nat.le_of_ble_eq_true rfl) (Nat.le_of_ble_eq_true rfl) (Nat.le_of_ble_eq_true rfl) (Nat.le_of_ble_eq_true rfl) dX3_init_8 (fun q1 H hP hD hS => ?_)
  have hP : va_P (dC, dI) vwCl [(h, .inr (3, [.null])), (q1, .inl (cI, 256, .inl (fun _ => 0)))] H := hP
  have hD : va_D A [(h, .inr (3, [.null])), (q1, .inl (cI, 256, .inl (fun _ => 0)))] := hD
  refine va_putF (D := (dC, dI)) (ci := 3) (v := .ref q1) (ty := (.array .int)) (C := RX3) (T := TX3) (N := 1) hx hb hts (fun w h => List.mem_cons_of_mem _ (List.mem_append_right _ h)) tyX3 tyX3_ok nmX3 hown hK hP hD hS 0 rfl rfl 0 (by decide) (hts (.fieldLink RX3 9 "BidMarket$Optimum" "sums" "[I") (List.mem_of_getElem? (i := 5) rfl)) (fun _ h9 => h9) rfl hin rfl (by decide +kernel) rfl rfl (Nat.le_of_ble_eq_true rfl) dX3_init_10 (fun H locs hP hD hS => ?_)
  have hP : va_P (dC, dI) vwCl [(h, .inr (3, [.ref q1])), (q1, .inl (cI, 256, .inl (fun _ => 0)))] H := hP
  have hD : va_D A [(h, .inr (3, [.ref q1])), (q1, .inl (cI, 256, .inl (fun _ => 0)))] := hD
  obtain ⟨AD, e_h, e_q1⟩ : ∃ AD : Nat → Nat, AD 0 = h ∧ AD 1 = q1 := ⟨fun k => cond (Nat.blt k 1) h (cond (Nat.blt k 2) q1 (0)), rfl, rfl⟩
  subst e_q1
  subst e_h
  have hPf : va_P (dC, dI) vwCl (wdF3 cI cJ cT cII cJJ AD (fun _ => 0)) H := bw_subP (is := [0, 1]) hP rfl
  have hDf : va_D A (wdF3 cI cJ cT cII cJJ AD (fun _ => 0)) := bw_subDA (is := [0, 1]) hD rfl (by decide)
  clear hP hD
  have hP := hPf
  have hD := hDf
  exact W.vret hx hb hr (fun t ht hW => ⟨⟨(AD, fun _ => 0), rfl, ⟨rfl, hw⟩, by show va_P _ _ _ t.heap ∧ _; rw [ht]; exact ⟨hP, hD⟩⟩, hS.F ht⟩) hS.2.2 dX3_init_13
set_option maxHeartbeats 8000000 in
set_option maxRecDepth 100000 in
theorem mX4_init (l : Launch) (dC : Nat → ClassId) (dI : Nat → Nat → Nat) (cI cJ cT cII cJJ : ClassId) (h : Nat) (sz : Nat) (N : Nat) (a1 : Int32) (hN : a1.toNatClampNeg = N) (h0 : ¬ a1 < 0) (hN2 : N ≤ 10) (Post : Int32 → (Nat → Int32) → (Nat → Int32) → Prop) (hw : wpX4_init Post) : Met l yX4_init wsX4_init ({ frames := 1, cells := 2, slots := 20, locals := 12 } : Room) (va_Pc [.ref h, .int a1] (fun U => U.heap.size = sz ∧ va_P (dC, dI) vwCl [(h, .inr (4, [.null, .null, .int 0]))] U.heap ∧ va_K (dC, dI) vwCl (bw_tys cI cJ cT cII cJJ) U ∧ va_D (fun _ => True) [(h, .inr (4, [.null, .null, .int 0]))] ∧ bw_X U)) (va_Qv (fun (u : (Nat → Nat) × Int32 × (Nat → Int32) × (Nat → Int32)) => u.1 0 = h ∧ Post u.2.1 u.2.2.1 u.2.2.2) (fun (u : (Nat → Nat) × Int32 × (Nat → Int32) × (Nat → Int32)) t => va_P (dC, dI) vwCl (wdF4 cI cJ cT cII cJJ u.1 u.2.1 N u.2.2.1 u.2.2.2) t.heap ∧ va_D (va_A [(h, .inr (4, [.null, .null, .int 0]))] sz) (wdF4 cI cJ cT cII cJJ u.1 u.2.1 N u.2.2.1 u.2.2.2)) (va_A [(h, .inr (4, [.null, .null, .int 0]))] sz)) 2 20 (va_A [(h, .inr (4, [.null, .null, .int 0]))] sz) := by
  refine Met.ofW (cc := cX4_init) (maxL := 2) (ret := none) (by decide) rfl ?_
  intro p e s m args below meth c s₁ B hml hv
  obtain ⟨rfl, hsz, hP, hK, hD0, hX⟩ := hv
  have hx := B.exec
  have hb := B.bytes
  have hr := B.returns
  have hts := atoms_spec (ws := wsX4_init) B.pre
  have hown : s.vm.findClass RX4 = some m.cls := findClass_of_methodNamed B.named
  have hlocks := B.notSynchronized
  have hin : meth.name = "<init>" := (name_of_methodNamed B.named B.method).1
  subst hsz
  have hD := hD0.self (sz := s.heap.size)
  generalize hAe : va_A [(h, .inr (4, [.null, .null, .int 0]))] s.heap.size = A at hD ⊢
  have hA : ∀ q : Nat, s.heap.size ≤ q → A q := fun q h => by rw [← hAe]; exact Or.inr h
  have hS : va_S A s.heap s.heap [] := va_S.rf
  have hl := lv_entry ([.ref h, .int a1]) (n := 2) (Nat.le_of_ble_eq_true rfl)
  rw [lg_entry_eq]
  generalize (lg_sl ([.ref h, .int a1]) ++ List.replicate (2 - (lg_sl ([.ref h, .int a1])).length) Slot.unset).toArray = ls at hl ⊢
  have hl : lv_has ls 2 [(0, .ref h), (1, .int a1)] := hl
  unfold wpX4_init at hw
  refine lv_aload_n hx hb dX4_init_0 rfl (lv_at hl 0 rfl) ?_
  refine W.objInit hx hb hown (hts (.methodLink RX4 3 objectInit) (List.mem_of_getElem? (i := 1) rfl)) (hts (.instanceMethod objectInit) (List.mem_of_getElem? (i := 2) rfl)) (hts (.code objectInit ⟨#[0xb1]⟩ 1 none) (List.mem_of_getElem? (i := 3) rfl)) rfl (by rw [hml]; exact hl.1) rfl dX4_init_1 (Nat.le_of_ble_eq_true rfl) (Nat.le_of_ble_eq_true rfl) ?_
  refine W.eq (g2 := F0 m 4 ls []) rfl ?_
  refine lv_aload_n hx hb dX4_init_4 rfl (lv_at hl 0 rfl) ?_
  refine lv_iconst (v := 0) hx hb dX4_init_5 (by decide) ?_
  refine va_put (D := (dC, dI)) (ci := 4) (v := .int 0) (ty := .int) (C := RX4) (T := TX4) (N := 3) hx hb hts (fun w h => List.mem_cons_of_mem _ (List.mem_append_right _ h)) tyX4 tyX4_ok nmX4 hown hK hP hD hS 0 rfl rfl 2 (by decide) (hts (.fieldLink RX4 9 "BidMarket$Rows" "used" "I") (List.mem_of_getElem? (i := 4) rfl)) (fun _ h9 => h9) rfl (by decide +kernel) rfl rfl (Nat.le_of_ble_eq_true rfl) dX4_init_6 (fun H locs hP hD hS => ?_)
  have hP : va_P (dC, dI) vwCl [(h, .inr (4, [.null, .null, .int 0]))] H := hP
  have hD : va_D A [(h, .inr (4, [.null, .null, .int 0]))] := hD
  refine lv_aload_n hx hb dX4_init_9 rfl (lv_at hl 0 rfl) ?_
  refine lv_iload_n hx hb dX4_init_10 rfl (lv_at hl 1 rfl) ?_
  refine bw_newI (N' := N) (k2 := 1) (n2 := 10) hx hb (hts (.arrayClass .int) (List.mem_of_getElem? (i := 5) rfl)) hK (t0 := 0) rfl hP hD hS hA h0 hN (by omega) (Nat.le_of_ble_eq_true rfl) (show 0 + N ≤ 20 by omega) (Nat.le_of_ble_eq_true rfl) (show 0 + N ≤ 10 by omega) dX4_init_11 (fun q1 H hP hD hS => ?_)
  have hP : va_P (dC, dI) vwCl [(h, .inr (4, [.null, .null, .int 0])), (q1, .inl (cI, N, .inl (fun _ => 0)))] H := hP
  have hD : va_D A [(h, .inr (4, [.null, .null, .int 0])), (q1, .inl (cI, N, .inl (fun _ => 0)))] := hD
  refine va_putF (D := (dC, dI)) (ci := 4) (v := .ref q1) (ty := (.array .int)) (C := RX4) (T := TX4) (N := 3) hx hb hts (fun w h => List.mem_cons_of_mem _ (List.mem_append_right _ h)) tyX4 tyX4_ok nmX4 hown hK hP hD hS 0 rfl rfl 0 (by decide) (hts (.fieldLink RX4 15 "BidMarket$Rows" "left" "[I") (List.mem_of_getElem? (i := 6) rfl)) (fun _ h9 => h9) rfl hin rfl (by decide +kernel) rfl rfl (Nat.le_of_ble_eq_true rfl) dX4_init_13 (fun H locs hP hD hS => ?_)
  have hP : va_P (dC, dI) vwCl [(h, .inr (4, [.ref q1, .null, .int 0])), (q1, .inl (cI, N, .inl (fun _ => 0)))] H := hP
  have hD : va_D A [(h, .inr (4, [.ref q1, .null, .int 0])), (q1, .inl (cI, N, .inl (fun _ => 0)))] := hD
  refine lv_aload_n hx hb dX4_init_16 rfl (lv_at hl 0 rfl) ?_
  refine lv_iload_n hx hb dX4_init_17 rfl (lv_at hl 1 rfl) ?_
  refine bw_newI (N' := N) (k2 := 2) (n2 := 20) hx hb (hts (.arrayClass .int) (List.mem_of_getElem? (i := 5) rfl)) hK (t0 := 0) rfl hP hD hS hA h0 hN (by omega) (Nat.le_of_ble_eq_true rfl) (show 10 + N ≤ 20 by omega) (Nat.le_of_ble_eq_true rfl) (show 10 + N ≤ 20 by omega) dX4_init_18 (fun q2 H hP hD hS => ?_)
  have hP : va_P (dC, dI) vwCl [(h, .inr (4, [.ref q1, .null, .int 0])), (q1, .inl (cI, N, .inl (fun _ => 0))), (q2, .inl (cI, N, .inl (fun _ => 0)))] H := hP
  have hD : va_D A [(h, .inr (4, [.ref q1, .null, .int 0])), (q1, .inl (cI, N, .inl (fun _ => 0))), (q2, .inl (cI, N, .inl (fun _ => 0)))] := hD
  refine va_putF (D := (dC, dI)) (ci := 4) (v := .ref q2) (ty := (.array .int)) (C := RX4) (T := TX4) (N := 3) hx hb hts (fun w h => List.mem_cons_of_mem _ (List.mem_append_right _ h)) tyX4 tyX4_ok nmX4 hown hK hP hD hS 0 rfl rfl 1 (by decide) (hts (.fieldLink RX4 19 "BidMarket$Rows" "right" "[I") (List.mem_of_getElem? (i := 7) rfl)) (fun _ h9 => h9) rfl hin rfl (by decide +kernel) rfl rfl (Nat.le_of_ble_eq_true rfl) dX4_init_20 (fun H locs hP hD hS => ?_)
  have hP : va_P (dC, dI) vwCl [(h, .inr (4, [.ref q1, .ref q2, .int 0])), (q1, .inl (cI, N, .inl (fun _ => 0))), (q2, .inl (cI, N, .inl (fun _ => 0)))] H := hP
  have hD : va_D A [(h, .inr (4, [.ref q1, .ref q2, .int 0])), (q1, .inl (cI, N, .inl (fun _ => 0))), (q2, .inl (cI, N, .inl (fun _ => 0)))] := hD
  obtain ⟨AD, e_h, e_q1, e_q2⟩ : ∃ AD : Nat → Nat, AD 0 = h ∧ AD 1 = q1 ∧ AD 2 = q2 := ⟨fun k => cond (Nat.blt k 1) h (cond (Nat.blt k 2) q1 (cond (Nat.blt k 3) q2 (0))), rfl, rfl, rfl⟩
  subst e_q1
  subst e_q2
  subst e_h
  have hPf : va_P (dC, dI) vwCl (wdF4 cI cJ cT cII cJJ AD 0 N (fun _ => 0) (fun _ => 0)) H := bw_subP (is := [0, 1, 2]) hP rfl
  have hDf : va_D A (wdF4 cI cJ cT cII cJJ AD 0 N (fun _ => 0) (fun _ => 0)) := bw_subDA (is := [0, 1, 2]) hD rfl (by decide)
  clear hP hD
  have hP := hPf
  have hD := hDf
  exact W.vret hx hb hr (fun t ht hW => ⟨⟨(AD, 0, fun _ => 0, fun _ => 0), rfl, ⟨rfl, hw⟩, by show va_P _ _ _ t.heap ∧ _; rw [ht]; exact ⟨hP, hD⟩⟩, hS.F ht⟩) hS.2.2 dX4_init_23
set_option maxHeartbeats 8000000 in
set_option maxRecDepth 100000 in
theorem mX5_init (l : Launch) (dC : Nat → ClassId) (dI : Nat → Nat → Nat) (cI cJ cT cII cJJ : ClassId) (h : Nat) (sz : Nat) (Post : Int32 → Int32 → (Nat → Int64) → Prop) (hw : wpX5_init Post) : Met l yX5_init wsX5_init ({ frames := 1, cells := 1, slots := 60, locals := 12 } : Room) (va_Pc [.ref h] (fun U => U.heap.size = sz ∧ va_P (dC, dI) vwCl [(h, .inr (5, [.null, .int 0, .int 0]))] U.heap ∧ va_K (dC, dI) vwCl (bw_tys cI cJ cT cII cJJ) U ∧ va_D (fun _ => True) [(h, .inr (5, [.null, .int 0, .int 0]))] ∧ bw_X U)) (va_Qv (fun (u : (Nat → Nat) × Int32 × Int32 × (Nat → Int64)) => u.1 0 = h ∧ Post u.2.1 u.2.2.1 u.2.2.2) (fun (u : (Nat → Nat) × Int32 × Int32 × (Nat → Int64)) t => va_P (dC, dI) vwCl (wdF5 cI cJ cT cII cJJ u.1 u.2.1 u.2.2.1 u.2.2.2) t.heap ∧ va_D (va_A [(h, .inr (5, [.null, .int 0, .int 0]))] sz) (wdF5 cI cJ cT cII cJJ u.1 u.2.1 u.2.2.1 u.2.2.2)) (va_A [(h, .inr (5, [.null, .int 0, .int 0]))] sz)) 1 60 (va_A [(h, .inr (5, [.null, .int 0, .int 0]))] sz) := by
  refine Met.ofW (cc := cX5_init) (maxL := 1) (ret := none) (by decide) rfl ?_
  intro p e s m args below meth c s₁ B hml hv
  obtain ⟨rfl, hsz, hP, hK, hD0, hX⟩ := hv
  have hx := B.exec
  have hb := B.bytes
  have hr := B.returns
  have hts := atoms_spec (ws := wsX5_init) B.pre
  have hown : s.vm.findClass RX5 = some m.cls := findClass_of_methodNamed B.named
  have hlocks := B.notSynchronized
  have hin : meth.name = "<init>" := (name_of_methodNamed B.named B.method).1
  subst hsz
  have hD := hD0.self (sz := s.heap.size)
  generalize hAe : va_A [(h, .inr (5, [.null, .int 0, .int 0]))] s.heap.size = A at hD ⊢
  have hA : ∀ q : Nat, s.heap.size ≤ q → A q := fun q h => by rw [← hAe]; exact Or.inr h
  have hS : va_S A s.heap s.heap [] := va_S.rf
  have hl := lv_entry ([.ref h]) (n := 1) (Nat.le_of_ble_eq_true rfl)
  rw [lg_entry_eq]
  generalize (lg_sl ([.ref h]) ++ List.replicate (1 - (lg_sl ([.ref h])).length) Slot.unset).toArray = ls at hl ⊢
  have hl : lv_has ls 1 [(0, .ref h)] := hl
  unfold wpX5_init at hw
  refine lv_aload_n hx hb dX5_init_0 rfl (lv_at hl 0 rfl) ?_
  refine W.objInit hx hb hown (hts (.methodLink RX5 1 objectInit) (List.mem_of_getElem? (i := 1) rfl)) (hts (.instanceMethod objectInit) (List.mem_of_getElem? (i := 2) rfl)) (hts (.code objectInit ⟨#[0xb1]⟩ 1 none) (List.mem_of_getElem? (i := 3) rfl)) rfl (by rw [hml]; exact hl.1) rfl dX5_init_1 (Nat.le_of_ble_eq_true rfl) (Nat.le_of_ble_eq_true rfl) ?_
  refine W.eq (g2 := F0 m 4 ls []) rfl ?_
  refine lv_aload_n hx hb dX5_init_4 rfl (lv_at hl 0 rfl) ?_
  refine lv_bipush (v := 60) hx hb dX5_init_5 (by decide) ?_
  refine bw_newJ (N' := 60) (k2 := 1) (n2 := 60) hx hb (hts (.arrayClass .long) (List.mem_of_getElem? (i := 4) rfl)) hK (t0 := 1) rfl hP hD hS hA (by decide) rfl (Nat.le_of_ble_eq_true rfl) (Nat.le_of_ble_eq_true rfl) (Nat.le_of_ble_eq_true rfl) (Nat.le_of_ble_eq_true rfl) (Nat.le_of_ble_eq_true rfl) dX5_init_7 (fun q1 H hP hD hS => ?_)
  have hP : va_P (dC, dI) vwCl [(h, .inr (5, [.null, .int 0, .int 0])), (q1, .inl (cJ, 60, .inr (.inl (fun _ => 0))))] H := hP
  have hD : va_D A [(h, .inr (5, [.null, .int 0, .int 0])), (q1, .inl (cJ, 60, .inr (.inl (fun _ => 0))))] := hD
  refine va_putF (D := (dC, dI)) (ci := 5) (v := .ref q1) (ty := (.array .long)) (C := RX5) (T := TX5) (N := 3) hx hb hts (fun w h => List.mem_cons_of_mem _ (List.mem_append_right _ h)) tyX5 tyX5_ok nmX5 hown hK hP hD hS 0 rfl rfl 0 (by decide) (hts (.fieldLink RX5 9 "BidMarket$Tape" "items" "[J") (List.mem_of_getElem? (i := 5) rfl)) (fun _ h9 => h9) rfl hin rfl (by decide +kernel) rfl rfl (Nat.le_of_ble_eq_true rfl) dX5_init_9 (fun H locs hP hD hS => ?_)
  have hP : va_P (dC, dI) vwCl [(h, .inr (5, [.ref q1, .int 0, .int 0])), (q1, .inl (cJ, 60, .inr (.inl (fun _ => 0))))] H := hP
  have hD : va_D A [(h, .inr (5, [.ref q1, .int 0, .int 0])), (q1, .inl (cJ, 60, .inr (.inl (fun _ => 0))))] := hD
  refine lv_aload_n hx hb dX5_init_12 rfl (lv_at hl 0 rfl) ?_
  refine lv_iconst (v := (-1)) hx hb dX5_init_13 (by decide) ?_
  refine va_put (D := (dC, dI)) (ci := 5) (v := .int ((-1))) (ty := .int) (C := RX5) (T := TX5) (N := 3) hx hb hts (fun w h => List.mem_cons_of_mem _ (List.mem_append_right _ h)) tyX5 tyX5_ok nmX5 hown hK hP hD hS 0 rfl rfl 1 (by decide) (hts (.fieldLink RX5 13 "BidMarket$Tape" "sort" "I") (List.mem_of_getElem? (i := 6) rfl)) (fun _ h9 => h9) rfl (by decide +kernel) rfl rfl (Nat.le_of_ble_eq_true rfl) dX5_init_14 (fun H locs hP hD hS => ?_)
  have hP : va_P (dC, dI) vwCl [(h, .inr (5, [.ref q1, .int ((-1)), .int 0])), (q1, .inl (cJ, 60, .inr (.inl (fun _ => 0))))] H := hP
  have hD : va_D A [(h, .inr (5, [.ref q1, .int ((-1)), .int 0])), (q1, .inl (cJ, 60, .inr (.inl (fun _ => 0))))] := hD
  refine lv_aload_n hx hb dX5_init_17 rfl (lv_at hl 0 rfl) ?_
  refine lv_iconst (v := 0) hx hb dX5_init_18 (by decide) ?_
  refine va_put (D := (dC, dI)) (ci := 5) (v := .int 0) (ty := .int) (C := RX5) (T := TX5) (N := 3) hx hb hts (fun w h => List.mem_cons_of_mem _ (List.mem_append_right _ h)) tyX5 tyX5_ok nmX5 hown hK hP hD hS 0 rfl rfl 2 (by decide) (hts (.fieldLink RX5 17 "BidMarket$Tape" "length" "I") (List.mem_of_getElem? (i := 7) rfl)) (fun _ h9 => h9) rfl (by decide +kernel) rfl rfl (Nat.le_of_ble_eq_true rfl) dX5_init_19 (fun H locs hP hD hS => ?_)
  have hP : va_P (dC, dI) vwCl [(h, .inr (5, [.ref q1, .int ((-1)), .int 0])), (q1, .inl (cJ, 60, .inr (.inl (fun _ => 0))))] H := hP
  have hD : va_D A [(h, .inr (5, [.ref q1, .int ((-1)), .int 0])), (q1, .inl (cJ, 60, .inr (.inl (fun _ => 0))))] := hD
  obtain ⟨AD, e_h, e_q1⟩ : ∃ AD : Nat → Nat, AD 0 = h ∧ AD 1 = q1 := ⟨fun k => cond (Nat.blt k 1) h (cond (Nat.blt k 2) q1 (0)), rfl, rfl⟩
  subst e_q1
  subst e_h
  have hPf : va_P (dC, dI) vwCl (wdF5 cI cJ cT cII cJJ AD ((-1)) 0 (fun _ => 0)) H := bw_subP (is := [0, 1]) hP rfl
  have hDf : va_D A (wdF5 cI cJ cT cII cJJ AD ((-1)) 0 (fun _ => 0)) := bw_subDA (is := [0, 1]) hD rfl (by decide)
  clear hP hD
  have hP := hPf
  have hD := hDf
  exact W.vret hx hb hr (fun t ht hW => ⟨⟨(AD, (-1), 0, fun _ => 0), rfl, ⟨rfl, hw⟩, by show va_P _ _ _ t.heap ∧ _; rw [ht]; exact ⟨hP, hD⟩⟩, hS.F ht⟩) hS.2.2 dX5_init_22
set_option maxHeartbeats 8000000 in
set_option maxRecDepth 100000 in
theorem mX6_init (l : Launch) (dC : Nat → ClassId) (dI : Nat → Nat → Nat) (cI cJ cT cII cJJ : ClassId) (h : Nat) (sz : Nat) (Post : Int32 → Int32 → Int32 → Int32 → (Nat → Int32) → (Nat → Int32) → (Nat → Int32) → (Nat → Int32) → Prop) (hw : wpX6_init Post) : Met l yX6_init wsX6_init ({ frames := 1, cells := 4, slots := 148, locals := 12 } : Room) (va_Pc [.ref h] (fun U => U.heap.size = sz ∧ va_P (dC, dI) vwCl [(h, .inr (6, [.null, .int 0, .null, .null, .null, .int 0, .int 0, .int 0]))] U.heap ∧ va_K (dC, dI) vwCl (bw_tys cI cJ cT cII cJJ) U ∧ va_D (fun _ => True) [(h, .inr (6, [.null, .int 0, .null, .null, .null, .int 0, .int 0, .int 0]))] ∧ bw_X U)) (va_Qv (fun (u : (Nat → Nat) × Int32 × Int32 × Int32 × Int32 × (Nat → Int32) × (Nat → Int32) × (Nat → Int32) × (Nat → Int32)) => u.1 0 = h ∧ Post u.2.1 u.2.2.1 u.2.2.2.1 u.2.2.2.2.1 u.2.2.2.2.2.1 u.2.2.2.2.2.2.1 u.2.2.2.2.2.2.2.1 u.2.2.2.2.2.2.2.2) (fun (u : (Nat → Nat) × Int32 × Int32 × Int32 × Int32 × (Nat → Int32) × (Nat → Int32) × (Nat → Int32) × (Nat → Int32)) t => va_P (dC, dI) vwCl (wdF6 cI cJ cT cII cJJ u.1 u.2.1 u.2.2.1 u.2.2.2.1 u.2.2.2.2.1 u.2.2.2.2.2.1 u.2.2.2.2.2.2.1 u.2.2.2.2.2.2.2.1 u.2.2.2.2.2.2.2.2) t.heap ∧ va_D (va_A [(h, .inr (6, [.null, .int 0, .null, .null, .null, .int 0, .int 0, .int 0]))] sz) (wdF6 cI cJ cT cII cJJ u.1 u.2.1 u.2.2.1 u.2.2.2.1 u.2.2.2.2.1 u.2.2.2.2.2.1 u.2.2.2.2.2.2.1 u.2.2.2.2.2.2.2.1 u.2.2.2.2.2.2.2.2)) (va_A [(h, .inr (6, [.null, .int 0, .null, .null, .null, .int 0, .int 0, .int 0]))] sz)) 4 148 (va_A [(h, .inr (6, [.null, .int 0, .null, .null, .null, .int 0, .int 0, .int 0]))] sz) := by
  refine Met.ofW (cc := cX6_init) (maxL := 1) (ret := none) (by decide) rfl ?_
  intro p e s m args below meth c s₁ B hml hv
  obtain ⟨rfl, hsz, hP, hK, hD0, hX⟩ := hv
  have hx := B.exec
  have hb := B.bytes
  have hr := B.returns
  have hts := atoms_spec (ws := wsX6_init) B.pre
  have hown : s.vm.findClass RX6 = some m.cls := findClass_of_methodNamed B.named
  have hlocks := B.notSynchronized
  have hin : meth.name = "<init>" := (name_of_methodNamed B.named B.method).1
  subst hsz
  have hD := hD0.self (sz := s.heap.size)
  generalize hAe : va_A [(h, .inr (6, [.null, .int 0, .null, .null, .null, .int 0, .int 0, .int 0]))] s.heap.size = A at hD ⊢
  have hA : ∀ q : Nat, s.heap.size ≤ q → A q := fun q h => by rw [← hAe]; exact Or.inr h
  have hS : va_S A s.heap s.heap [] := va_S.rf
  have hl := lv_entry ([.ref h]) (n := 1) (Nat.le_of_ble_eq_true rfl)
  rw [lg_entry_eq]
  generalize (lg_sl ([.ref h]) ++ List.replicate (1 - (lg_sl ([.ref h])).length) Slot.unset).toArray = ls at hl ⊢
  have hl : lv_has ls 1 [(0, .ref h)] := hl
  unfold wpX6_init at hw
  refine lv_aload_n hx hb dX6_init_0 rfl (lv_at hl 0 rfl) ?_
  refine W.objInit hx hb hown (hts (.methodLink RX6 3 objectInit) (List.mem_of_getElem? (i := 1) rfl)) (hts (.instanceMethod objectInit) (List.mem_of_getElem? (i := 2) rfl)) (hts (.code objectInit ⟨#[0xb1]⟩ 1 none) (List.mem_of_getElem? (i := 3) rfl)) rfl (by rw [hml]; exact hl.1) rfl dX6_init_1 (Nat.le_of_ble_eq_true rfl) (Nat.le_of_ble_eq_true rfl) ?_
  refine W.eq (g2 := F0 m 4 ls []) rfl ?_
  refine lv_aload_n hx hb dX6_init_4 rfl (lv_at hl 0 rfl) ?_
  refine lv_bipush (v := 100) hx hb dX6_init_5 (by decide) ?_
  refine bw_newI (N' := 100) (k2 := 1) (n2 := 100) hx hb (hts (.arrayClass .int) (List.mem_of_getElem? (i := 4) rfl)) hK (t0 := 0) rfl hP hD hS hA (by decide) rfl (Nat.le_of_ble_eq_true rfl) (Nat.le_of_ble_eq_true rfl) (Nat.le_of_ble_eq_true rfl) (Nat.le_of_ble_eq_true rfl) (Nat.le_of_ble_eq_true rfl) dX6_init_7 (fun q1 H hP hD hS => ?_)
  have hP : va_P (dC, dI) vwCl [(h, .inr (6, [.null, .int 0, .null, .null, .null, .int 0, .int 0, .int 0])), (q1, .inl (cI, 100, .inl (fun _ => 0)))] H := hP
  have hD : va_D A [(h, .inr (6, [.null, .int 0, .null, .null, .null, .int 0, .int 0, .int 0])), (q1, .inl (cI, 100, .inl (fun _ => 0)))] := hD
  refine va_putF (D := (dC, dI)) (ci := 6) (v := .ref q1) (ty := (.array .int)) (C := RX6) (T := TX6) (N := 8) hx hb hts (fun w h => List.mem_cons_of_mem _ (List.mem_append_right _ h)) tyX6 tyX6_ok nmX6 hown hK hP hD hS 0 rfl rfl 0 (by decide) (hts (.fieldLink RX6 11 "BidMarket$Text" "bytes" "[I") (List.mem_of_getElem? (i := 5) rfl)) (fun _ h9 => h9) rfl hin rfl (by decide +kernel) rfl rfl (Nat.le_of_ble_eq_true rfl) dX6_init_9 (fun H locs hP hD hS => ?_)
  have hP : va_P (dC, dI) vwCl [(h, .inr (6, [.ref q1, .int 0, .null, .null, .null, .int 0, .int 0, .int 0])), (q1, .inl (cI, 100, .inl (fun _ => 0)))] H := hP
  have hD : va_D A [(h, .inr (6, [.ref q1, .int 0, .null, .null, .null, .int 0, .int 0, .int 0])), (q1, .inl (cI, 100, .inl (fun _ => 0)))] := hD
  refine lv_aload_n hx hb dX6_init_12 rfl (lv_at hl 0 rfl) ?_
  refine lv_iconst (v := 0) hx hb dX6_init_13 (by decide) ?_
  refine va_put (D := (dC, dI)) (ci := 6) (v := .int 0) (ty := .int) (C := RX6) (T := TX6) (N := 8) hx hb hts (fun w h => List.mem_cons_of_mem _ (List.mem_append_right _ h)) tyX6 tyX6_ok nmX6 hown hK hP hD hS 0 rfl rfl 1 (by decide) (hts (.fieldLink RX6 15 "BidMarket$Text" "length" "I") (List.mem_of_getElem? (i := 6) rfl)) (fun _ h9 => h9) rfl (by decide +kernel) rfl rfl (Nat.le_of_ble_eq_true rfl) dX6_init_14 (fun H locs hP hD hS => ?_)
  have hP : va_P (dC, dI) vwCl [(h, .inr (6, [.ref q1, .int 0, .null, .null, .null, .int 0, .int 0, .int 0])), (q1, .inl (cI, 100, .inl (fun _ => 0)))] H := hP
  have hD : va_D A [(h, .inr (6, [.ref q1, .int 0, .null, .null, .null, .int 0, .int 0, .int 0])), (q1, .inl (cI, 100, .inl (fun _ => 0)))] := hD
  refine lv_aload_n hx hb dX6_init_17 rfl (lv_at hl 0 rfl) ?_
  refine lv_bipush (v := 16) hx hb dX6_init_18 (by decide) ?_
  refine bw_newI (N' := 16) (k2 := 2) (n2 := 116) hx hb (hts (.arrayClass .int) (List.mem_of_getElem? (i := 4) rfl)) hK (t0 := 0) rfl hP hD hS hA (by decide) rfl (Nat.le_of_ble_eq_true rfl) (Nat.le_of_ble_eq_true rfl) (Nat.le_of_ble_eq_true rfl) (Nat.le_of_ble_eq_true rfl) (Nat.le_of_ble_eq_true rfl) dX6_init_20 (fun q2 H hP hD hS => ?_)
  have hP : va_P (dC, dI) vwCl [(h, .inr (6, [.ref q1, .int 0, .null, .null, .null, .int 0, .int 0, .int 0])), (q1, .inl (cI, 100, .inl (fun _ => 0))), (q2, .inl (cI, 16, .inl (fun _ => 0)))] H := hP
  have hD : va_D A [(h, .inr (6, [.ref q1, .int 0, .null, .null, .null, .int 0, .int 0, .int 0])), (q1, .inl (cI, 100, .inl (fun _ => 0))), (q2, .inl (cI, 16, .inl (fun _ => 0)))] := hD
  refine va_putF (D := (dC, dI)) (ci := 6) (v := .ref q2) (ty := (.array .int)) (C := RX6) (T := TX6) (N := 8) hx hb hts (fun w h => List.mem_cons_of_mem _ (List.mem_append_right _ h)) tyX6 tyX6_ok nmX6 hown hK hP hD hS 0 rfl rfl 2 (by decide) (hts (.fieldLink RX6 19 "BidMarket$Text" "persons" "[I") (List.mem_of_getElem? (i := 7) rfl)) (fun _ h9 => h9) rfl hin rfl (by decide +kernel) rfl rfl (Nat.le_of_ble_eq_true rfl) dX6_init_22 (fun H locs hP hD hS => ?_)
  have hP : va_P (dC, dI) vwCl [(h, .inr (6, [.ref q1, .int 0, .ref q2, .null, .null, .int 0, .int 0, .int 0])), (q1, .inl (cI, 100, .inl (fun _ => 0))), (q2, .inl (cI, 16, .inl (fun _ => 0)))] H := hP
  have hD : va_D A [(h, .inr (6, [.ref q1, .int 0, .ref q2, .null, .null, .int 0, .int 0, .int 0])), (q1, .inl (cI, 100, .inl (fun _ => 0))), (q2, .inl (cI, 16, .inl (fun _ => 0)))] := hD
  refine lv_aload_n hx hb dX6_init_25 rfl (lv_at hl 0 rfl) ?_
  refine lv_bipush (v := 16) hx hb dX6_init_26 (by decide) ?_
  refine bw_newI (N' := 16) (k2 := 3) (n2 := 132) hx hb (hts (.arrayClass .int) (List.mem_of_getElem? (i := 4) rfl)) hK (t0 := 0) rfl hP hD hS hA (by decide) rfl (Nat.le_of_ble_eq_true rfl) (Nat.le_of_ble_eq_true rfl) (Nat.le_of_ble_eq_true rfl) (Nat.le_of_ble_eq_true rfl) (Nat.le_of_ble_eq_true rfl) dX6_init_28 (fun q3 H hP hD hS => ?_)
  have hP : va_P (dC, dI) vwCl [(h, .inr (6, [.ref q1, .int 0, .ref q2, .null, .null, .int 0, .int 0, .int 0])), (q1, .inl (cI, 100, .inl (fun _ => 0))), (q2, .inl (cI, 16, .inl (fun _ => 0))), (q3, .inl (cI, 16, .inl (fun _ => 0)))] H := hP
  have hD : va_D A [(h, .inr (6, [.ref q1, .int 0, .ref q2, .null, .null, .int 0, .int 0, .int 0])), (q1, .inl (cI, 100, .inl (fun _ => 0))), (q2, .inl (cI, 16, .inl (fun _ => 0))), (q3, .inl (cI, 16, .inl (fun _ => 0)))] := hD
  refine va_putF (D := (dC, dI)) (ci := 6) (v := .ref q3) (ty := (.array .int)) (C := RX6) (T := TX6) (N := 8) hx hb hts (fun w h => List.mem_cons_of_mem _ (List.mem_append_right _ h)) tyX6 tyX6_ok nmX6 hown hK hP hD hS 0 rfl rfl 3 (by decide) (hts (.fieldLink RX6 22 "BidMarket$Text" "things" "[I") (List.mem_of_getElem? (i := 8) rfl)) (fun _ h9 => h9) rfl hin rfl (by decide +kernel) rfl rfl (Nat.le_of_ble_eq_true rfl) dX6_init_30 (fun H locs hP hD hS => ?_)
  have hP : va_P (dC, dI) vwCl [(h, .inr (6, [.ref q1, .int 0, .ref q2, .ref q3, .null, .int 0, .int 0, .int 0])), (q1, .inl (cI, 100, .inl (fun _ => 0))), (q2, .inl (cI, 16, .inl (fun _ => 0))), (q3, .inl (cI, 16, .inl (fun _ => 0)))] H := hP
  have hD : va_D A [(h, .inr (6, [.ref q1, .int 0, .ref q2, .ref q3, .null, .int 0, .int 0, .int 0])), (q1, .inl (cI, 100, .inl (fun _ => 0))), (q2, .inl (cI, 16, .inl (fun _ => 0))), (q3, .inl (cI, 16, .inl (fun _ => 0)))] := hD
  refine lv_aload_n hx hb dX6_init_33 rfl (lv_at hl 0 rfl) ?_
  refine lv_bipush (v := 16) hx hb dX6_init_34 (by decide) ?_
  refine bw_newI (N' := 16) (k2 := 4) (n2 := 148) hx hb (hts (.arrayClass .int) (List.mem_of_getElem? (i := 4) rfl)) hK (t0 := 0) rfl hP hD hS hA (by decide) rfl (Nat.le_of_ble_eq_true rfl) (Nat.le_of_ble_eq_true rfl) (Nat.le_of_ble_eq_true rfl) (Nat.le_of_ble_eq_true rfl) (Nat.le_of_ble_eq_true rfl) dX6_init_36 (fun q4 H hP hD hS => ?_)
  have hP : va_P (dC, dI) vwCl [(h, .inr (6, [.ref q1, .int 0, .ref q2, .ref q3, .null, .int 0, .int 0, .int 0])), (q1, .inl (cI, 100, .inl (fun _ => 0))), (q2, .inl (cI, 16, .inl (fun _ => 0))), (q3, .inl (cI, 16, .inl (fun _ => 0))), (q4, .inl (cI, 16, .inl (fun _ => 0)))] H := hP
  have hD : va_D A [(h, .inr (6, [.ref q1, .int 0, .ref q2, .ref q3, .null, .int 0, .int 0, .int 0])), (q1, .inl (cI, 100, .inl (fun _ => 0))), (q2, .inl (cI, 16, .inl (fun _ => 0))), (q3, .inl (cI, 16, .inl (fun _ => 0))), (q4, .inl (cI, 16, .inl (fun _ => 0)))] := hD
  refine va_putF (D := (dC, dI)) (ci := 6) (v := .ref q4) (ty := (.array .int)) (C := RX6) (T := TX6) (N := 8) hx hb hts (fun w h => List.mem_cons_of_mem _ (List.mem_append_right _ h)) tyX6 tyX6_ok nmX6 hown hK hP hD hS 0 rfl rfl 4 (by decide) (hts (.fieldLink RX6 25 "BidMarket$Text" "worths" "[I") (List.mem_of_getElem? (i := 9) rfl)) (fun _ h9 => h9) rfl hin rfl (by decide +kernel) rfl rfl (Nat.le_of_ble_eq_true rfl) dX6_init_38 (fun H locs hP hD hS => ?_)
  have hP : va_P (dC, dI) vwCl [(h, .inr (6, [.ref q1, .int 0, .ref q2, .ref q3, .ref q4, .int 0, .int 0, .int 0])), (q1, .inl (cI, 100, .inl (fun _ => 0))), (q2, .inl (cI, 16, .inl (fun _ => 0))), (q3, .inl (cI, 16, .inl (fun _ => 0))), (q4, .inl (cI, 16, .inl (fun _ => 0)))] H := hP
  have hD : va_D A [(h, .inr (6, [.ref q1, .int 0, .ref q2, .ref q3, .ref q4, .int 0, .int 0, .int 0])), (q1, .inl (cI, 100, .inl (fun _ => 0))), (q2, .inl (cI, 16, .inl (fun _ => 0))), (q3, .inl (cI, 16, .inl (fun _ => 0))), (q4, .inl (cI, 16, .inl (fun _ => 0)))] := hD
  refine lv_aload_n hx hb dX6_init_41 rfl (lv_at hl 0 rfl) ?_
  refine lv_iconst (v := 0) hx hb dX6_init_42 (by decide) ?_
  refine va_put (D := (dC, dI)) (ci := 6) (v := .int 0) (ty := .int) (C := RX6) (T := TX6) (N := 8) hx hb hts (fun w h => List.mem_cons_of_mem _ (List.mem_append_right _ h)) tyX6 tyX6_ok nmX6 hown hK hP hD hS 0 rfl rfl 5 (by decide) (hts (.fieldLink RX6 28 "BidMarket$Text" "clauses" "I") (List.mem_of_getElem? (i := 10) rfl)) (fun _ h9 => h9) rfl (by decide +kernel) rfl rfl (Nat.le_of_ble_eq_true rfl) dX6_init_43 (fun H locs hP hD hS => ?_)
  have hP : va_P (dC, dI) vwCl [(h, .inr (6, [.ref q1, .int 0, .ref q2, .ref q3, .ref q4, .int 0, .int 0, .int 0])), (q1, .inl (cI, 100, .inl (fun _ => 0))), (q2, .inl (cI, 16, .inl (fun _ => 0))), (q3, .inl (cI, 16, .inl (fun _ => 0))), (q4, .inl (cI, 16, .inl (fun _ => 0)))] H := hP
  have hD : va_D A [(h, .inr (6, [.ref q1, .int 0, .ref q2, .ref q3, .ref q4, .int 0, .int 0, .int 0])), (q1, .inl (cI, 100, .inl (fun _ => 0))), (q2, .inl (cI, 16, .inl (fun _ => 0))), (q3, .inl (cI, 16, .inl (fun _ => 0))), (q4, .inl (cI, 16, .inl (fun _ => 0)))] := hD
  refine lv_aload_n hx hb dX6_init_46 rfl (lv_at hl 0 rfl) ?_
  refine lv_iconst (v := 0) hx hb dX6_init_47 (by decide) ?_
  refine va_put (D := (dC, dI)) (ci := 6) (v := .int 0) (ty := .int) (C := RX6) (T := TX6) (N := 8) hx hb hts (fun w h => List.mem_cons_of_mem _ (List.mem_append_right _ h)) tyX6 tyX6_ok nmX6 hown hK hP hD hS 0 rfl rfl 6 (by decide) (hts (.fieldLink RX6 31 "BidMarket$Text" "at" "I") (List.mem_of_getElem? (i := 11) rfl)) (fun _ h9 => h9) rfl (by decide +kernel) rfl rfl (Nat.le_of_ble_eq_true rfl) dX6_init_48 (fun H locs hP hD hS => ?_)
  have hP : va_P (dC, dI) vwCl [(h, .inr (6, [.ref q1, .int 0, .ref q2, .ref q3, .ref q4, .int 0, .int 0, .int 0])), (q1, .inl (cI, 100, .inl (fun _ => 0))), (q2, .inl (cI, 16, .inl (fun _ => 0))), (q3, .inl (cI, 16, .inl (fun _ => 0))), (q4, .inl (cI, 16, .inl (fun _ => 0)))] H := hP
  have hD : va_D A [(h, .inr (6, [.ref q1, .int 0, .ref q2, .ref q3, .ref q4, .int 0, .int 0, .int 0])), (q1, .inl (cI, 100, .inl (fun _ => 0))), (q2, .inl (cI, 16, .inl (fun _ => 0))), (q3, .inl (cI, 16, .inl (fun _ => 0))), (q4, .inl (cI, 16, .inl (fun _ => 0)))] := hD
  refine lv_aload_n hx hb dX6_init_51 rfl (lv_at hl 0 rfl) ?_
  refine lv_iconst (v := 0) hx hb dX6_init_52 (by decide) ?_
  refine va_put (D := (dC, dI)) (ci := 6) (v := .int 0) (ty := .int) (C := RX6) (T := TX6) (N := 8) hx hb hts (fun w h => List.mem_cons_of_mem _ (List.mem_append_right _ h)) tyX6 tyX6_ok nmX6 hown hK hP hD hS 0 rfl rfl 7 (by decide) (hts (.fieldLink RX6 34 "BidMarket$Text" "kind" "I") (List.mem_of_getElem? (i := 12) rfl)) (fun _ h9 => h9) rfl (by decide +kernel) rfl rfl (Nat.le_of_ble_eq_true rfl) dX6_init_53 (fun H locs hP hD hS => ?_)
  have hP : va_P (dC, dI) vwCl [(h, .inr (6, [.ref q1, .int 0, .ref q2, .ref q3, .ref q4, .int 0, .int 0, .int 0])), (q1, .inl (cI, 100, .inl (fun _ => 0))), (q2, .inl (cI, 16, .inl (fun _ => 0))), (q3, .inl (cI, 16, .inl (fun _ => 0))), (q4, .inl (cI, 16, .inl (fun _ => 0)))] H := hP
  have hD : va_D A [(h, .inr (6, [.ref q1, .int 0, .ref q2, .ref q3, .ref q4, .int 0, .int 0, .int 0])), (q1, .inl (cI, 100, .inl (fun _ => 0))), (q2, .inl (cI, 16, .inl (fun _ => 0))), (q3, .inl (cI, 16, .inl (fun _ => 0))), (q4, .inl (cI, 16, .inl (fun _ => 0)))] := hD
  obtain ⟨AD, e_h, e_q1, e_q2, e_q3, e_q4⟩ : ∃ AD : Nat → Nat, AD 0 = h ∧ AD 1 = q1 ∧ AD 2 = q2 ∧ AD 3 = q3 ∧ AD 4 = q4 := ⟨fun k => cond (Nat.blt k 1) h (cond (Nat.blt k 2) q1 (cond (Nat.blt k 3) q2 (cond (Nat.blt k 4) q3 (cond (Nat.blt k 5) q4 (0))))), rfl, rfl, rfl, rfl, rfl⟩
  subst e_q1
  subst e_q2
  subst e_q3
  subst e_q4
  subst e_h
  have hPf : va_P (dC, dI) vwCl (wdF6 cI cJ cT cII cJJ AD 0 0 0 0 (fun _ => 0) (fun _ => 0) (fun _ => 0) (fun _ => 0)) H := bw_subP (is := [0, 1, 2, 3, 4]) hP rfl
  have hDf : va_D A (wdF6 cI cJ cT cII cJJ AD 0 0 0 0 (fun _ => 0) (fun _ => 0) (fun _ => 0) (fun _ => 0)) := bw_subDA (is := [0, 1, 2, 3, 4]) hD rfl (by decide)
  clear hP hD
  have hP := hPf
  have hD := hDf
  exact W.vret hx hb hr (fun t ht hW => ⟨⟨(AD, 0, 0, 0, 0, fun _ => 0, fun _ => 0, fun _ => 0, fun _ => 0), rfl, ⟨rfl, hw⟩, by show va_P _ _ _ t.heap ∧ _; rw [ht]; exact ⟨hP, hD⟩⟩, hS.F ht⟩) hS.2.2 dX6_init_56
set_option maxHeartbeats 8000000 in
set_option maxRecDepth 100000 in
theorem mX2_init (l : Launch) (dC : Nat → ClassId) (dI : Nat → Nat → Nat) (cI cJ cT cII cJJ : ClassId) (h : Nat) (sz : Nat) (Post : Int32 → Int32 → Int32 → (Nat → Int32) → (Nat → Int32) → (Nat → Int32) → (Nat → Nat → Int32) → Prop) (hw : wpX2_init Post) : Met l yX2_init wsX2_init ({ frames := 3, cells := 12, slots := 96, locals := 65 } : Room) (va_Pc [.ref h] (fun U => U.heap.size = sz ∧ va_P (dC, dI) vwCl [(h, .inr (2, [.null, .null, .null, .null, .int 0, .int 0, .int 0]))] U.heap ∧ va_K (dC, dI) vwCl (bw_tys cI cJ cT cII cJJ) U ∧ va_D (fun _ => True) [(h, .inr (2, [.null, .null, .null, .null, .int 0, .int 0, .int 0]))] ∧ bw_X U)) (va_Qv (fun (u : (Nat → Nat) × Int32 × Int32 × Int32 × (Nat → Int32) × (Nat → Int32) × (Nat → Int32) × (Nat → Nat → Int32)) => u.1 0 = h ∧ Post u.2.1 u.2.2.1 u.2.2.2.1 u.2.2.2.2.1 u.2.2.2.2.2.1 u.2.2.2.2.2.2.1 u.2.2.2.2.2.2.2) (fun (u : (Nat → Nat) × Int32 × Int32 × Int32 × (Nat → Int32) × (Nat → Int32) × (Nat → Int32) × (Nat → Nat → Int32)) t => va_P (dC, dI) vwCl (wdF2 cI cJ cT cII cJJ u.1 u.2.1 u.2.2.1 u.2.2.2.1 u.2.2.2.2.1 u.2.2.2.2.2.1 u.2.2.2.2.2.2.1 u.2.2.2.2.2.2.2) t.heap ∧ va_D (va_A [(h, .inr (2, [.null, .null, .null, .null, .int 0, .int 0, .int 0]))] sz) (wdF2 cI cJ cT cII cJJ u.1 u.2.1 u.2.2.1 u.2.2.2.1 u.2.2.2.2.1 u.2.2.2.2.2.1 u.2.2.2.2.2.2.1 u.2.2.2.2.2.2.2)) (va_A [(h, .inr (2, [.null, .null, .null, .null, .int 0, .int 0, .int 0]))] sz)) 12 96 (va_A [(h, .inr (2, [.null, .null, .null, .null, .int 0, .int 0, .int 0]))] sz) := by
  refine Met.ofW (cc := cX2_init) (maxL := 1) (ret := none) (by decide) rfl ?_
  intro p e s m args below meth c s₁ B hml hv
  obtain ⟨rfl, hsz, hP, hK, hD0, hX⟩ := hv
  have hx := B.exec
  have hb := B.bytes
  have hr := B.returns
  have hts := atoms_spec (ws := wsX2_init) B.pre
  have hown : s.vm.findClass RX2 = some m.cls := findClass_of_methodNamed B.named
  have hlocks := B.notSynchronized
  have hin : meth.name = "<init>" := (name_of_methodNamed B.named B.method).1
  subst hsz
  have hD := hD0.self (sz := s.heap.size)
  generalize hAe : va_A [(h, .inr (2, [.null, .null, .null, .null, .int 0, .int 0, .int 0]))] s.heap.size = A at hD ⊢
  have hA : ∀ q : Nat, s.heap.size ≤ q → A q := fun q h => by rw [← hAe]; exact Or.inr h
  have hS : va_S A s.heap s.heap [] := va_S.rf
  have hl := lv_entry ([.ref h]) (n := 1) (Nat.le_of_ble_eq_true rfl)
  rw [lg_entry_eq]
  generalize (lg_sl ([.ref h]) ++ List.replicate (1 - (lg_sl ([.ref h])).length) Slot.unset).toArray = ls at hl ⊢
  have hl : lv_has ls 1 [(0, .ref h)] := hl
  unfold wpX2_init at hw
  refine lv_aload_n hx hb dX2_init_0 rfl (lv_at hl 0 rfl) ?_
  refine W.objInit hx hb hown (hts (.methodLink RX2 3 objectInit) (List.mem_of_getElem? (i := 1) rfl)) (hts (.instanceMethod objectInit) (List.mem_of_getElem? (i := 2) rfl)) (hts (.code objectInit ⟨#[0xb1]⟩ 1 none) (List.mem_of_getElem? (i := 3) rfl)) rfl (by rw [hml]; exact hl.1) rfl dX2_init_1 (Nat.le_of_ble_eq_true rfl) (Nat.le_of_ble_eq_true rfl) ?_
  refine W.eq (g2 := F0 m 4 ls []) rfl ?_
  refine lv_aload_n hx hb dX2_init_4 rfl (lv_at hl 0 rfl) ?_
  refine lv_bipush (v := 8) hx hb dX2_init_5 (by decide) ?_
  refine lv_bipush (v := 8) hx hb dX2_init_7 (by decide) ?_
  refine bw_mna (ty := .int) (N' := 8) (K' := 8) (z := (8, .inl (fun _ => 0))) (k2 := 9) (n2 := 72) hx hb hown (hts (.classLink RX2 9 "[[I") (List.mem_of_getElem? (i := 4) rfl)) hX.1 (hts (.arrayClass .int) (List.mem_of_getElem? (i := 5) rfl)) (hK.2 0 _ rfl).2 (t0 := 3) (g := fun r => [(r 0, .inl (cI, 8, .inl (fun _ => 0))), (r 1, .inl (cI, 8, .inl (fun _ => 0))), (r 2, .inl (cI, 8, .inl (fun _ => 0))), (r 3, .inl (cI, 8, .inl (fun _ => 0))), (r 4, .inl (cI, 8, .inl (fun _ => 0))), (r 5, .inl (cI, 8, .inl (fun _ => 0))), (r 6, .inl (cI, 8, .inl (fun _ => 0))), (r 7, .inl (cI, 8, .inl (fun _ => 0)))]) (fun _ => rfl) hK rfl hP hD hS hA (by decide) (by decide) rfl rfl (Nat.le_of_ble_eq_true rfl) (Nat.le_of_ble_eq_true rfl) (Nat.le_of_ble_eq_true rfl) rfl rfl (Nat.le_of_ble_eq_true rfl) (Nat.le_of_ble_eq_true rfl) (Nat.le_of_ble_eq_true rfl) (Nat.le_of_ble_eq_true rfl) (fun c => arrV_new c _ _) dX2_init_9 (fun q1 r2 H hP hD hS => ?_)
  have hP : va_P (dC, dI) vwCl [(h, .inr (2, [.null, .null, .null, .null, .int 0, .int 0, .int 0])), (q1, .inl (cII, 8, .inr (.inr (.inr (.inr (fun i => if i < 8 then some (r2 i) else none)))))), (r2 0, .inl (cI, 8, .inl (fun _ => 0))), (r2 1, .inl (cI, 8, .inl (fun _ => 0))), (r2 2, .inl (cI, 8, .inl (fun _ => 0))), (r2 3, .inl (cI, 8, .inl (fun _ => 0))), (r2 4, .inl (cI, 8, .inl (fun _ => 0))), (r2 5, .inl (cI, 8, .inl (fun _ => 0))), (r2 6, .inl (cI, 8, .inl (fun _ => 0))), (r2 7, .inl (cI, 8, .inl (fun _ => 0)))] H := hP
  have hD : va_D A [(h, .inr (2, [.null, .null, .null, .null, .int 0, .int 0, .int 0])), (q1, .inl (cII, 8, .inr (.inr (.inr (.inr (fun i => if i < 8 then some (r2 i) else none)))))), (r2 0, .inl (cI, 8, .inl (fun _ => 0))), (r2 1, .inl (cI, 8, .inl (fun _ => 0))), (r2 2, .inl (cI, 8, .inl (fun _ => 0))), (r2 3, .inl (cI, 8, .inl (fun _ => 0))), (r2 4, .inl (cI, 8, .inl (fun _ => 0))), (r2 5, .inl (cI, 8, .inl (fun _ => 0))), (r2 6, .inl (cI, 8, .inl (fun _ => 0))), (r2 7, .inl (cI, 8, .inl (fun _ => 0)))] := hD
  refine va_putF (D := (dC, dI)) (ci := 2) (v := .ref q1) (ty := (.array (.array .int))) (C := RX2) (T := TX2) (N := 7) hx hb hts (fun w h => List.mem_cons_of_mem _ (List.mem_append_right _ h)) tyX2 tyX2_ok nmX2 hown hK hP hD hS 0 rfl rfl 0 (by decide) (hts (.fieldLink RX2 11 "BidMarket$Market" "worths" "[[I") (List.mem_of_getElem? (i := 6) rfl)) (fun _ h9 => h9) rfl hin rfl (by decide +kernel) rfl rfl (Nat.le_of_ble_eq_true rfl) dX2_init_13 (fun H locs hP hD hS => ?_)
  have hP : va_P (dC, dI) vwCl [(h, .inr (2, [.ref q1, .null, .null, .null, .int 0, .int 0, .int 0])), (q1, .inl (cII, 8, .inr (.inr (.inr (.inr (fun i => if i < 8 then some (r2 i) else none)))))), (r2 0, .inl (cI, 8, .inl (fun _ => 0))), (r2 1, .inl (cI, 8, .inl (fun _ => 0))), (r2 2, .inl (cI, 8, .inl (fun _ => 0))), (r2 3, .inl (cI, 8, .inl (fun _ => 0))), (r2 4, .inl (cI, 8, .inl (fun _ => 0))), (r2 5, .inl (cI, 8, .inl (fun _ => 0))), (r2 6, .inl (cI, 8, .inl (fun _ => 0))), (r2 7, .inl (cI, 8, .inl (fun _ => 0)))] H := hP
  have hD : va_D A [(h, .inr (2, [.ref q1, .null, .null, .null, .int 0, .int 0, .int 0])), (q1, .inl (cII, 8, .inr (.inr (.inr (.inr (fun i => if i < 8 then some (r2 i) else none)))))), (r2 0, .inl (cI, 8, .inl (fun _ => 0))), (r2 1, .inl (cI, 8, .inl (fun _ => 0))), (r2 2, .inl (cI, 8, .inl (fun _ => 0))), (r2 3, .inl (cI, 8, .inl (fun _ => 0))), (r2 4, .inl (cI, 8, .inl (fun _ => 0))), (r2 5, .inl (cI, 8, .inl (fun _ => 0))), (r2 6, .inl (cI, 8, .inl (fun _ => 0))), (r2 7, .inl (cI, 8, .inl (fun _ => 0)))] := hD
  refine lv_aload_n hx hb dX2_init_16 rfl (lv_at hl 0 rfl) ?_
  refine lv_bipush (v := 8) hx hb dX2_init_17 (by decide) ?_
  refine bw_newI (N' := 8) (k2 := 10) (n2 := 80) hx hb (hts (.arrayClass .int) (List.mem_of_getElem? (i := 5) rfl)) hK (t0 := 0) rfl hP hD hS hA (by decide) rfl (Nat.le_of_ble_eq_true rfl) (Nat.le_of_ble_eq_true rfl) (Nat.le_of_ble_eq_true rfl) (Nat.le_of_ble_eq_true rfl) (Nat.le_of_ble_eq_true rfl) dX2_init_19 (fun q3 H hP hD hS => ?_)
  have hP : va_P (dC, dI) vwCl [(h, .inr (2, [.ref q1, .null, .null, .null, .int 0, .int 0, .int 0])), (q1, .inl (cII, 8, .inr (.inr (.inr (.inr (fun i => if i < 8 then some (r2 i) else none)))))), (r2 0, .inl (cI, 8, .inl (fun _ => 0))), (r2 1, .inl (cI, 8, .inl (fun _ => 0))), (r2 2, .inl (cI, 8, .inl (fun _ => 0))), (r2 3, .inl (cI, 8, .inl (fun _ => 0))), (r2 4, .inl (cI, 8, .inl (fun _ => 0))), (r2 5, .inl (cI, 8, .inl (fun _ => 0))), (r2 6, .inl (cI, 8, .inl (fun _ => 0))), (r2 7, .inl (cI, 8, .inl (fun _ => 0))), (q3, .inl (cI, 8, .inl (fun _ => 0)))] H := hP
  have hD : va_D A [(h, .inr (2, [.ref q1, .null, .null, .null, .int 0, .int 0, .int 0])), (q1, .inl (cII, 8, .inr (.inr (.inr (.inr (fun i => if i < 8 then some (r2 i) else none)))))), (r2 0, .inl (cI, 8, .inl (fun _ => 0))), (r2 1, .inl (cI, 8, .inl (fun _ => 0))), (r2 2, .inl (cI, 8, .inl (fun _ => 0))), (r2 3, .inl (cI, 8, .inl (fun _ => 0))), (r2 4, .inl (cI, 8, .inl (fun _ => 0))), (r2 5, .inl (cI, 8, .inl (fun _ => 0))), (r2 6, .inl (cI, 8, .inl (fun _ => 0))), (r2 7, .inl (cI, 8, .inl (fun _ => 0))), (q3, .inl (cI, 8, .inl (fun _ => 0)))] := hD
  refine va_putF (D := (dC, dI)) (ci := 2) (v := .ref q3) (ty := (.array .int)) (C := RX2) (T := TX2) (N := 7) hx hb hts (fun w h => List.mem_cons_of_mem _ (List.mem_append_right _ h)) tyX2 tyX2_ok nmX2 hown hK hP hD hS 0 rfl rfl 1 (by decide) (hts (.fieldLink RX2 16 "BidMarket$Market" "thingOf" "[I") (List.mem_of_getElem? (i := 7) rfl)) (fun _ h9 => h9) rfl hin rfl (by decide +kernel) rfl rfl (Nat.le_of_ble_eq_true rfl) dX2_init_21 (fun H locs hP hD hS => ?_)
  have hP : va_P (dC, dI) vwCl [(h, .inr (2, [.ref q1, .ref q3, .null, .null, .int 0, .int 0, .int 0])), (q1, .inl (cII, 8, .inr (.inr (.inr (.inr (fun i => if i < 8 then some (r2 i) else none)))))), (r2 0, .inl (cI, 8, .inl (fun _ => 0))), (r2 1, .inl (cI, 8, .inl (fun _ => 0))), (r2 2, .inl (cI, 8, .inl (fun _ => 0))), (r2 3, .inl (cI, 8, .inl (fun _ => 0))), (r2 4, .inl (cI, 8, .inl (fun _ => 0))), (r2 5, .inl (cI, 8, .inl (fun _ => 0))), (r2 6, .inl (cI, 8, .inl (fun _ => 0))), (r2 7, .inl (cI, 8, .inl (fun _ => 0))), (q3, .inl (cI, 8, .inl (fun _ => 0)))] H := hP
  have hD : va_D A [(h, .inr (2, [.ref q1, .ref q3, .null, .null, .int 0, .int 0, .int 0])), (q1, .inl (cII, 8, .inr (.inr (.inr (.inr (fun i => if i < 8 then some (r2 i) else none)))))), (r2 0, .inl (cI, 8, .inl (fun _ => 0))), (r2 1, .inl (cI, 8, .inl (fun _ => 0))), (r2 2, .inl (cI, 8, .inl (fun _ => 0))), (r2 3, .inl (cI, 8, .inl (fun _ => 0))), (r2 4, .inl (cI, 8, .inl (fun _ => 0))), (r2 5, .inl (cI, 8, .inl (fun _ => 0))), (r2 6, .inl (cI, 8, .inl (fun _ => 0))), (r2 7, .inl (cI, 8, .inl (fun _ => 0))), (q3, .inl (cI, 8, .inl (fun _ => 0)))] := hD
  refine lv_aload_n hx hb dX2_init_24 rfl (lv_at hl 0 rfl) ?_
  refine lv_bipush (v := 8) hx hb dX2_init_25 (by decide) ?_
  refine bw_newI (N' := 8) (k2 := 11) (n2 := 88) hx hb (hts (.arrayClass .int) (List.mem_of_getElem? (i := 5) rfl)) hK (t0 := 0) rfl hP hD hS hA (by decide) rfl (Nat.le_of_ble_eq_true rfl) (Nat.le_of_ble_eq_true rfl) (Nat.le_of_ble_eq_true rfl) (Nat.le_of_ble_eq_true rfl) (Nat.le_of_ble_eq_true rfl) dX2_init_27 (fun q4 H hP hD hS => ?_)
  have hP : va_P (dC, dI) vwCl [(h, .inr (2, [.ref q1, .ref q3, .null, .null, .int 0, .int 0, .int 0])), (q1, .inl (cII, 8, .inr (.inr (.inr (.inr (fun i => if i < 8 then some (r2 i) else none)))))), (r2 0, .inl (cI, 8, .inl (fun _ => 0))), (r2 1, .inl (cI, 8, .inl (fun _ => 0))), (r2 2, .inl (cI, 8, .inl (fun _ => 0))), (r2 3, .inl (cI, 8, .inl (fun _ => 0))), (r2 4, .inl (cI, 8, .inl (fun _ => 0))), (r2 5, .inl (cI, 8, .inl (fun _ => 0))), (r2 6, .inl (cI, 8, .inl (fun _ => 0))), (r2 7, .inl (cI, 8, .inl (fun _ => 0))), (q3, .inl (cI, 8, .inl (fun _ => 0))), (q4, .inl (cI, 8, .inl (fun _ => 0)))] H := hP
  have hD : va_D A [(h, .inr (2, [.ref q1, .ref q3, .null, .null, .int 0, .int 0, .int 0])), (q1, .inl (cII, 8, .inr (.inr (.inr (.inr (fun i => if i < 8 then some (r2 i) else none)))))), (r2 0, .inl (cI, 8, .inl (fun _ => 0))), (r2 1, .inl (cI, 8, .inl (fun _ => 0))), (r2 2, .inl (cI, 8, .inl (fun _ => 0))), (r2 3, .inl (cI, 8, .inl (fun _ => 0))), (r2 4, .inl (cI, 8, .inl (fun _ => 0))), (r2 5, .inl (cI, 8, .inl (fun _ => 0))), (r2 6, .inl (cI, 8, .inl (fun _ => 0))), (r2 7, .inl (cI, 8, .inl (fun _ => 0))), (q3, .inl (cI, 8, .inl (fun _ => 0))), (q4, .inl (cI, 8, .inl (fun _ => 0)))] := hD
  refine va_putF (D := (dC, dI)) (ci := 2) (v := .ref q4) (ty := (.array .int)) (C := RX2) (T := TX2) (N := 7) hx hb hts (fun w h => List.mem_cons_of_mem _ (List.mem_append_right _ h)) tyX2 tyX2_ok nmX2 hown hK hP hD hS 0 rfl rfl 2 (by decide) (hts (.fieldLink RX2 20 "BidMarket$Market" "personOf" "[I") (List.mem_of_getElem? (i := 8) rfl)) (fun _ h9 => h9) rfl hin rfl (by decide +kernel) rfl rfl (Nat.le_of_ble_eq_true rfl) dX2_init_29 (fun H locs hP hD hS => ?_)
  have hP : va_P (dC, dI) vwCl [(h, .inr (2, [.ref q1, .ref q3, .ref q4, .null, .int 0, .int 0, .int 0])), (q1, .inl (cII, 8, .inr (.inr (.inr (.inr (fun i => if i < 8 then some (r2 i) else none)))))), (r2 0, .inl (cI, 8, .inl (fun _ => 0))), (r2 1, .inl (cI, 8, .inl (fun _ => 0))), (r2 2, .inl (cI, 8, .inl (fun _ => 0))), (r2 3, .inl (cI, 8, .inl (fun _ => 0))), (r2 4, .inl (cI, 8, .inl (fun _ => 0))), (r2 5, .inl (cI, 8, .inl (fun _ => 0))), (r2 6, .inl (cI, 8, .inl (fun _ => 0))), (r2 7, .inl (cI, 8, .inl (fun _ => 0))), (q3, .inl (cI, 8, .inl (fun _ => 0))), (q4, .inl (cI, 8, .inl (fun _ => 0)))] H := hP
  have hD : va_D A [(h, .inr (2, [.ref q1, .ref q3, .ref q4, .null, .int 0, .int 0, .int 0])), (q1, .inl (cII, 8, .inr (.inr (.inr (.inr (fun i => if i < 8 then some (r2 i) else none)))))), (r2 0, .inl (cI, 8, .inl (fun _ => 0))), (r2 1, .inl (cI, 8, .inl (fun _ => 0))), (r2 2, .inl (cI, 8, .inl (fun _ => 0))), (r2 3, .inl (cI, 8, .inl (fun _ => 0))), (r2 4, .inl (cI, 8, .inl (fun _ => 0))), (r2 5, .inl (cI, 8, .inl (fun _ => 0))), (r2 6, .inl (cI, 8, .inl (fun _ => 0))), (r2 7, .inl (cI, 8, .inl (fun _ => 0))), (q3, .inl (cI, 8, .inl (fun _ => 0))), (q4, .inl (cI, 8, .inl (fun _ => 0)))] := hD
  refine lv_aload_n hx hb dX2_init_32 rfl (lv_at hl 0 rfl) ?_
  refine lv_bipush (v := 8) hx hb dX2_init_33 (by decide) ?_
  refine bw_newI (N' := 8) (k2 := 12) (n2 := 96) hx hb (hts (.arrayClass .int) (List.mem_of_getElem? (i := 5) rfl)) hK (t0 := 0) rfl hP hD hS hA (by decide) rfl (Nat.le_of_ble_eq_true rfl) (Nat.le_of_ble_eq_true rfl) (Nat.le_of_ble_eq_true rfl) (Nat.le_of_ble_eq_true rfl) (Nat.le_of_ble_eq_true rfl) dX2_init_35 (fun q5 H hP hD hS => ?_)
  have hP : va_P (dC, dI) vwCl [(h, .inr (2, [.ref q1, .ref q3, .ref q4, .null, .int 0, .int 0, .int 0])), (q1, .inl (cII, 8, .inr (.inr (.inr (.inr (fun i => if i < 8 then some (r2 i) else none)))))), (r2 0, .inl (cI, 8, .inl (fun _ => 0))), (r2 1, .inl (cI, 8, .inl (fun _ => 0))), (r2 2, .inl (cI, 8, .inl (fun _ => 0))), (r2 3, .inl (cI, 8, .inl (fun _ => 0))), (r2 4, .inl (cI, 8, .inl (fun _ => 0))), (r2 5, .inl (cI, 8, .inl (fun _ => 0))), (r2 6, .inl (cI, 8, .inl (fun _ => 0))), (r2 7, .inl (cI, 8, .inl (fun _ => 0))), (q3, .inl (cI, 8, .inl (fun _ => 0))), (q4, .inl (cI, 8, .inl (fun _ => 0))), (q5, .inl (cI, 8, .inl (fun _ => 0)))] H := hP
  have hD : va_D A [(h, .inr (2, [.ref q1, .ref q3, .ref q4, .null, .int 0, .int 0, .int 0])), (q1, .inl (cII, 8, .inr (.inr (.inr (.inr (fun i => if i < 8 then some (r2 i) else none)))))), (r2 0, .inl (cI, 8, .inl (fun _ => 0))), (r2 1, .inl (cI, 8, .inl (fun _ => 0))), (r2 2, .inl (cI, 8, .inl (fun _ => 0))), (r2 3, .inl (cI, 8, .inl (fun _ => 0))), (r2 4, .inl (cI, 8, .inl (fun _ => 0))), (r2 5, .inl (cI, 8, .inl (fun _ => 0))), (r2 6, .inl (cI, 8, .inl (fun _ => 0))), (r2 7, .inl (cI, 8, .inl (fun _ => 0))), (q3, .inl (cI, 8, .inl (fun _ => 0))), (q4, .inl (cI, 8, .inl (fun _ => 0))), (q5, .inl (cI, 8, .inl (fun _ => 0)))] := hD
  refine va_putF (D := (dC, dI)) (ci := 2) (v := .ref q5) (ty := (.array .int)) (C := RX2) (T := TX2) (N := 7) hx hb hts (fun w h => List.mem_cons_of_mem _ (List.mem_append_right _ h)) tyX2 tyX2_ok nmX2 hown hK hP hD hS 0 rfl rfl 3 (by decide) (hts (.fieldLink RX2 23 "BidMarket$Market" "prices" "[I") (List.mem_of_getElem? (i := 9) rfl)) (fun _ h9 => h9) rfl hin rfl (by decide +kernel) rfl rfl (Nat.le_of_ble_eq_true rfl) dX2_init_37 (fun H locs hP hD hS => ?_)
  have hP : va_P (dC, dI) vwCl [(h, .inr (2, [.ref q1, .ref q3, .ref q4, .ref q5, .int 0, .int 0, .int 0])), (q1, .inl (cII, 8, .inr (.inr (.inr (.inr (fun i => if i < 8 then some (r2 i) else none)))))), (r2 0, .inl (cI, 8, .inl (fun _ => 0))), (r2 1, .inl (cI, 8, .inl (fun _ => 0))), (r2 2, .inl (cI, 8, .inl (fun _ => 0))), (r2 3, .inl (cI, 8, .inl (fun _ => 0))), (r2 4, .inl (cI, 8, .inl (fun _ => 0))), (r2 5, .inl (cI, 8, .inl (fun _ => 0))), (r2 6, .inl (cI, 8, .inl (fun _ => 0))), (r2 7, .inl (cI, 8, .inl (fun _ => 0))), (q3, .inl (cI, 8, .inl (fun _ => 0))), (q4, .inl (cI, 8, .inl (fun _ => 0))), (q5, .inl (cI, 8, .inl (fun _ => 0)))] H := hP
  have hD : va_D A [(h, .inr (2, [.ref q1, .ref q3, .ref q4, .ref q5, .int 0, .int 0, .int 0])), (q1, .inl (cII, 8, .inr (.inr (.inr (.inr (fun i => if i < 8 then some (r2 i) else none)))))), (r2 0, .inl (cI, 8, .inl (fun _ => 0))), (r2 1, .inl (cI, 8, .inl (fun _ => 0))), (r2 2, .inl (cI, 8, .inl (fun _ => 0))), (r2 3, .inl (cI, 8, .inl (fun _ => 0))), (r2 4, .inl (cI, 8, .inl (fun _ => 0))), (r2 5, .inl (cI, 8, .inl (fun _ => 0))), (r2 6, .inl (cI, 8, .inl (fun _ => 0))), (r2 7, .inl (cI, 8, .inl (fun _ => 0))), (q3, .inl (cI, 8, .inl (fun _ => 0))), (q4, .inl (cI, 8, .inl (fun _ => 0))), (q5, .inl (cI, 8, .inl (fun _ => 0)))] := hD
  refine lv_aload_n hx hb dX2_init_40 rfl (lv_at hl 0 rfl) ?_
  refine lv_iconst (v := 3) hx hb dX2_init_41 (by decide) ?_
  refine va_put (D := (dC, dI)) (ci := 2) (v := .int 3) (ty := .int) (C := RX2) (T := TX2) (N := 7) hx hb hts (fun w h => List.mem_cons_of_mem _ (List.mem_append_right _ h)) tyX2 tyX2_ok nmX2 hown hK hP hD hS 0 rfl rfl 4 (by decide) (hts (.fieldLink RX2 26 "BidMarket$Market" "n" "I") (List.mem_of_getElem? (i := 10) rfl)) (fun _ h9 => h9) rfl (by decide +kernel) rfl rfl (Nat.le_of_ble_eq_true rfl) dX2_init_42 (fun H locs hP hD hS => ?_)
  have hP : va_P (dC, dI) vwCl [(h, .inr (2, [.ref q1, .ref q3, .ref q4, .ref q5, .int 3, .int 0, .int 0])), (q1, .inl (cII, 8, .inr (.inr (.inr (.inr (fun i => if i < 8 then some (r2 i) else none)))))), (r2 0, .inl (cI, 8, .inl (fun _ => 0))), (r2 1, .inl (cI, 8, .inl (fun _ => 0))), (r2 2, .inl (cI, 8, .inl (fun _ => 0))), (r2 3, .inl (cI, 8, .inl (fun _ => 0))), (r2 4, .inl (cI, 8, .inl (fun _ => 0))), (r2 5, .inl (cI, 8, .inl (fun _ => 0))), (r2 6, .inl (cI, 8, .inl (fun _ => 0))), (r2 7, .inl (cI, 8, .inl (fun _ => 0))), (q3, .inl (cI, 8, .inl (fun _ => 0))), (q4, .inl (cI, 8, .inl (fun _ => 0))), (q5, .inl (cI, 8, .inl (fun _ => 0)))] H := hP
  have hD : va_D A [(h, .inr (2, [.ref q1, .ref q3, .ref q4, .ref q5, .int 3, .int 0, .int 0])), (q1, .inl (cII, 8, .inr (.inr (.inr (.inr (fun i => if i < 8 then some (r2 i) else none)))))), (r2 0, .inl (cI, 8, .inl (fun _ => 0))), (r2 1, .inl (cI, 8, .inl (fun _ => 0))), (r2 2, .inl (cI, 8, .inl (fun _ => 0))), (r2 3, .inl (cI, 8, .inl (fun _ => 0))), (r2 4, .inl (cI, 8, .inl (fun _ => 0))), (r2 5, .inl (cI, 8, .inl (fun _ => 0))), (r2 6, .inl (cI, 8, .inl (fun _ => 0))), (r2 7, .inl (cI, 8, .inl (fun _ => 0))), (q3, .inl (cI, 8, .inl (fun _ => 0))), (q4, .inl (cI, 8, .inl (fun _ => 0))), (q5, .inl (cI, 8, .inl (fun _ => 0)))] := hD
  refine lv_aload_n hx hb dX2_init_45 rfl (lv_at hl 0 rfl) ?_
  refine lv_iconst (v := 5) hx hb dX2_init_46 (by decide) ?_
  refine va_put (D := (dC, dI)) (ci := 2) (v := .int 5) (ty := .int) (C := RX2) (T := TX2) (N := 7) hx hb hts (fun w h => List.mem_cons_of_mem _ (List.mem_append_right _ h)) tyX2 tyX2_ok nmX2 hown hK hP hD hS 0 rfl rfl 5 (by decide) (hts (.fieldLink RX2 30 "BidMarket$Market" "pace" "I") (List.mem_of_getElem? (i := 11) rfl)) (fun _ h9 => h9) rfl (by decide +kernel) rfl rfl (Nat.le_of_ble_eq_true rfl) dX2_init_47 (fun H locs hP hD hS => ?_)
  have hP : va_P (dC, dI) vwCl [(h, .inr (2, [.ref q1, .ref q3, .ref q4, .ref q5, .int 3, .int 5, .int 0])), (q1, .inl (cII, 8, .inr (.inr (.inr (.inr (fun i => if i < 8 then some (r2 i) else none)))))), (r2 0, .inl (cI, 8, .inl (fun _ => 0))), (r2 1, .inl (cI, 8, .inl (fun _ => 0))), (r2 2, .inl (cI, 8, .inl (fun _ => 0))), (r2 3, .inl (cI, 8, .inl (fun _ => 0))), (r2 4, .inl (cI, 8, .inl (fun _ => 0))), (r2 5, .inl (cI, 8, .inl (fun _ => 0))), (r2 6, .inl (cI, 8, .inl (fun _ => 0))), (r2 7, .inl (cI, 8, .inl (fun _ => 0))), (q3, .inl (cI, 8, .inl (fun _ => 0))), (q4, .inl (cI, 8, .inl (fun _ => 0))), (q5, .inl (cI, 8, .inl (fun _ => 0)))] H := hP
  have hD : va_D A [(h, .inr (2, [.ref q1, .ref q3, .ref q4, .ref q5, .int 3, .int 5, .int 0])), (q1, .inl (cII, 8, .inr (.inr (.inr (.inr (fun i => if i < 8 then some (r2 i) else none)))))), (r2 0, .inl (cI, 8, .inl (fun _ => 0))), (r2 1, .inl (cI, 8, .inl (fun _ => 0))), (r2 2, .inl (cI, 8, .inl (fun _ => 0))), (r2 3, .inl (cI, 8, .inl (fun _ => 0))), (r2 4, .inl (cI, 8, .inl (fun _ => 0))), (r2 5, .inl (cI, 8, .inl (fun _ => 0))), (r2 6, .inl (cI, 8, .inl (fun _ => 0))), (r2 7, .inl (cI, 8, .inl (fun _ => 0))), (q3, .inl (cI, 8, .inl (fun _ => 0))), (q4, .inl (cI, 8, .inl (fun _ => 0))), (q5, .inl (cI, 8, .inl (fun _ => 0)))] := hD
  refine lv_aload_n hx hb dX2_init_50 rfl (lv_at hl 0 rfl) ?_
  refine lv_iconst (v := (-1)) hx hb dX2_init_51 (by decide) ?_
  refine va_put (D := (dC, dI)) (ci := 2) (v := .int ((-1))) (ty := .int) (C := RX2) (T := TX2) (N := 7) hx hb hts (fun w h => List.mem_cons_of_mem _ (List.mem_append_right _ h)) tyX2 tyX2_ok nmX2 hown hK hP hD hS 0 rfl rfl 6 (by decide) (hts (.fieldLink RX2 33 "BidMarket$Market" "breaker" "I") (List.mem_of_getElem? (i := 12) rfl)) (fun _ h9 => h9) rfl (by decide +kernel) rfl rfl (Nat.le_of_ble_eq_true rfl) dX2_init_52 (fun H locs hP hD hS => ?_)
  have hP : va_P (dC, dI) vwCl [(h, .inr (2, [.ref q1, .ref q3, .ref q4, .ref q5, .int 3, .int 5, .int ((-1))])), (q1, .inl (cII, 8, .inr (.inr (.inr (.inr (fun i => if i < 8 then some (r2 i) else none)))))), (r2 0, .inl (cI, 8, .inl (fun _ => 0))), (r2 1, .inl (cI, 8, .inl (fun _ => 0))), (r2 2, .inl (cI, 8, .inl (fun _ => 0))), (r2 3, .inl (cI, 8, .inl (fun _ => 0))), (r2 4, .inl (cI, 8, .inl (fun _ => 0))), (r2 5, .inl (cI, 8, .inl (fun _ => 0))), (r2 6, .inl (cI, 8, .inl (fun _ => 0))), (r2 7, .inl (cI, 8, .inl (fun _ => 0))), (q3, .inl (cI, 8, .inl (fun _ => 0))), (q4, .inl (cI, 8, .inl (fun _ => 0))), (q5, .inl (cI, 8, .inl (fun _ => 0)))] H := hP
  have hD : va_D A [(h, .inr (2, [.ref q1, .ref q3, .ref q4, .ref q5, .int 3, .int 5, .int ((-1))])), (q1, .inl (cII, 8, .inr (.inr (.inr (.inr (fun i => if i < 8 then some (r2 i) else none)))))), (r2 0, .inl (cI, 8, .inl (fun _ => 0))), (r2 1, .inl (cI, 8, .inl (fun _ => 0))), (r2 2, .inl (cI, 8, .inl (fun _ => 0))), (r2 3, .inl (cI, 8, .inl (fun _ => 0))), (r2 4, .inl (cI, 8, .inl (fun _ => 0))), (r2 5, .inl (cI, 8, .inl (fun _ => 0))), (r2 6, .inl (cI, 8, .inl (fun _ => 0))), (r2 7, .inl (cI, 8, .inl (fun _ => 0))), (q3, .inl (cI, 8, .inl (fun _ => 0))), (q4, .inl (cI, 8, .inl (fun _ => 0))), (q5, .inl (cI, 8, .inl (fun _ => 0)))] := hD
  refine lv_aload_n hx hb dX2_init_55 rfl (lv_at hl 0 rfl) ?_
  refine lv_aload_n hx hb dX2_init_56 rfl (lv_at hl 0 rfl) ?_
  refine va_get (D := (dC, dI)) (ci := 2) (v := .int 3) (C := RX2) (T := TX2) (N := 7) hx hb hts (fun w h => List.mem_cons_of_mem _ (List.mem_append_right _ h)) hown hK hP 0 rfl rfl 4 (by decide) (hts (.fieldLink RX2 26 "BidMarket$Market" "n" "I") (List.mem_of_getElem? (i := 10) rfl)) (fun _ h9 => h9) rfl dX2_init_57 ?_
  obtain ⟨AD, e_h, e_q3, e_q4, e_q5, e_q1, e_r2⟩ : ∃ AD : Nat → Nat, AD 0 = h ∧ AD 1 = q3 ∧ AD 2 = q4 ∧ AD 3 = q5 ∧ AD 4 = q1 ∧ (∀ k, k < 8 → AD (k + 5) = r2 k) := ⟨fun k => cond (Nat.blt k 1) h (cond (Nat.blt k 2) q3 (cond (Nat.blt k 3) q4 (cond (Nat.blt k 4) q5 (cond (Nat.blt k 5) q1 (cond (Nat.blt k 13) (r2 (k - 5)) (0)))))), rfl, rfl, rfl, rfl, rfl, (fun k hk => match k, hk with | 0, _ => rfl | 1, _ => rfl | 2, _ => rfl | 3, _ => rfl | 4, _ => rfl | 5, _ => rfl | 6, _ => rfl | 7, _ => rfl | k + 8, h => absurd h (by omega))⟩
  subst e_q3
  subst e_q4
  subst e_q5
  subst e_q1
  have eo_r2 : (fun i => if i < 8 then some (r2 i) else none) = (fun i => if i < 8 then some (AD (i + 5)) else none) := bw_outer (fun i hi => (e_r2 i hi).symm)
  rw [eo_r2, ← e_r2 0 (by decide), ← e_r2 1 (by decide), ← e_r2 2 (by decide), ← e_r2 3 (by decide), ← e_r2 4 (by decide), ← e_r2 5 (by decide), ← e_r2 6 (by decide), ← e_r2 7 (by decide)] at hP hD
  subst e_h
  have hPf : va_P (dC, dI) vwCl (wdF2 cI cJ cT cII cJJ AD 3 5 ((-1)) (fun _ => 0) (fun _ => 0) (fun _ => 0) (fun _ _ => 0)) H := bw_subP (is := [0, 10, 11, 12, 1, 2, 3, 4, 5, 6, 7, 8, 9]) hP rfl
  have hDf : va_D A (wdF2 cI cJ cT cII cJJ AD 3 5 ((-1)) (fun _ => 0) (fun _ => 0) (fun _ => 0) (fun _ _ => 0)) := bw_subDA (is := [0, 10, 11, 12, 1, 2, 3, 4, 5, 6, 7, 8, 9]) hD rfl (by decide)
  clear hP hD
  have hP := hPf
  have hD := hDf
  refine bw_wvv (wc := (wdX2_becomeEmpty cI cJ cT cII cJJ AD 3 5 ((-1)) (fun _ => 0) (fun _ => 0) (fun _ => 0) (fun _ _ => 0))) (w1 := (fun (u : Int32 × (Nat → Int32) × (Nat → Int32) × (Nat → Int32) × (Nat → Nat → Int32)) => wdX2_becomeEmpty cI cJ cT cII cJJ AD u.1 5 ((-1)) u.2.1 u.2.2.1 u.2.2.2.1 u.2.2.2.2)) (As := [.int 3]) (rest := []) ⟨hx, hb, hml, hown, hts⟩ (mX2_becomeEmpty l dC dI cI cJ cT cII cJJ AD _ 3 5 ((-1)) (fun _ => 0) (fun _ => 0) (fun _ => 0) (fun _ _ => 0) 3 _ hw) (cwV 1 hts gX2_init_X2_becomeEmpty rfl rfl rfl hdX2_becomeEmpty ⟨Nat.le_of_ble_eq_true rfl, Nat.le_of_ble_eq_true rfl⟩) hK hP hD hS hA [0, 1, 2, 3, 4, 5, 6, 7, 8, 9, 10, 11, 12] rfl (by decide) (fun _ => rfl) rfl rfl rfl rfl hl.1 rfl (Nat.le_of_ble_eq_true rfl) ⟨Nat.le_of_ble_eq_true rfl, Nat.le_of_ble_eq_true rfl⟩ dX2_init_60 (fun u H locs hw hP hD hS => ?_)
  obtain ⟨y6, y7, y8, y9, y10⟩ := u
  try dsimp only at hw
  have hP : va_P (dC, dI) vwCl (wdF2 cI cJ cT cII cJJ AD y6 5 ((-1)) y7 y8 y9 y10) H := hP
  have hD : va_D A (wdF2 cI cJ cT cII cJJ AD y6 5 ((-1)) y7 y8 y9 y10) := hD
  exact W.vret hx hb hr (fun t ht hW => ⟨⟨(AD, y6, 5, (-1), y7, y8, y9, y10), rfl, ⟨rfl, hw⟩, by show va_P _ _ _ t.heap ∧ _; rw [ht]; exact ⟨hP, hD⟩⟩, hS.F ht⟩) hS.2.2 dX2_init_63
set_option maxHeartbeats 8000000 in
set_option maxRecDepth 100000 in
theorem mX1_init (l : Launch) (dC : Nat → ClassId) (dI : Nat → Nat → Nat) (cI cJ cT cII cJJ : ClassId) (h : Nat) (sz : Nat) (Post : Int32 → Int32 → Int32 → (Nat → Int32) → (Nat → Int32) → (Nat → Int32) → (Nat → Nat → Int32) → Int32 → (Nat → Int32) → (Nat → Int32) → Int32 → (Nat → Int32) → (Nat → Int32) → Int32 → (Nat → Int32) → (Nat → Int32) → Prop) (hw : wpX1_init Post) : Met l yX1_init wsX1_init ({ frames := 4, cells := 22, slots := 172, locals := 85 } : Room) (va_Pc [.ref h] (fun U => U.heap.size = sz ∧ va_P (dC, dI) vwCl [(h, .inr (1, [.null, .null, .null, .null]))] U.heap ∧ va_K (dC, dI) vwCl (bw_tys cI cJ cT cII cJJ) U ∧ va_D (fun _ => True) [(h, .inr (1, [.null, .null, .null, .null]))] ∧ bw_X U)) (va_Qv (fun (u : (Nat → Nat) × Int32 × Int32 × Int32 × (Nat → Int32) × (Nat → Int32) × (Nat → Int32) × (Nat → Nat → Int32) × Int32 × (Nat → Int32) × (Nat → Int32) × Int32 × (Nat → Int32) × (Nat → Int32) × Int32 × (Nat → Int32) × (Nat → Int32)) => u.1 0 = h ∧ Post u.2.1 u.2.2.1 u.2.2.2.1 u.2.2.2.2.1 u.2.2.2.2.2.1 u.2.2.2.2.2.2.1 u.2.2.2.2.2.2.2.1 u.2.2.2.2.2.2.2.2.1 u.2.2.2.2.2.2.2.2.2.1 u.2.2.2.2.2.2.2.2.2.2.1 u.2.2.2.2.2.2.2.2.2.2.2.1 u.2.2.2.2.2.2.2.2.2.2.2.2.1 u.2.2.2.2.2.2.2.2.2.2.2.2.2.1 u.2.2.2.2.2.2.2.2.2.2.2.2.2.2.1 u.2.2.2.2.2.2.2.2.2.2.2.2.2.2.2.1 u.2.2.2.2.2.2.2.2.2.2.2.2.2.2.2.2) (fun (u : (Nat → Nat) × Int32 × Int32 × Int32 × (Nat → Int32) × (Nat → Int32) × (Nat → Int32) × (Nat → Nat → Int32) × Int32 × (Nat → Int32) × (Nat → Int32) × Int32 × (Nat → Int32) × (Nat → Int32) × Int32 × (Nat → Int32) × (Nat → Int32)) t => va_P (dC, dI) vwCl (wdF1 cI cJ cT cII cJJ u.1 u.2.1 u.2.2.1 u.2.2.2.1 u.2.2.2.2.1 u.2.2.2.2.2.1 u.2.2.2.2.2.2.1 u.2.2.2.2.2.2.2.1 u.2.2.2.2.2.2.2.2.1 u.2.2.2.2.2.2.2.2.2.1 u.2.2.2.2.2.2.2.2.2.2.1 u.2.2.2.2.2.2.2.2.2.2.2.1 u.2.2.2.2.2.2.2.2.2.2.2.2.1 u.2.2.2.2.2.2.2.2.2.2.2.2.2.1 u.2.2.2.2.2.2.2.2.2.2.2.2.2.2.1 u.2.2.2.2.2.2.2.2.2.2.2.2.2.2.2.1 u.2.2.2.2.2.2.2.2.2.2.2.2.2.2.2.2) t.heap ∧ va_D (va_A [(h, .inr (1, [.null, .null, .null, .null]))] sz) (wdF1 cI cJ cT cII cJJ u.1 u.2.1 u.2.2.1 u.2.2.2.1 u.2.2.2.2.1 u.2.2.2.2.2.1 u.2.2.2.2.2.2.1 u.2.2.2.2.2.2.2.1 u.2.2.2.2.2.2.2.2.1 u.2.2.2.2.2.2.2.2.2.1 u.2.2.2.2.2.2.2.2.2.2.1 u.2.2.2.2.2.2.2.2.2.2.2.1 u.2.2.2.2.2.2.2.2.2.2.2.2.1 u.2.2.2.2.2.2.2.2.2.2.2.2.2.1 u.2.2.2.2.2.2.2.2.2.2.2.2.2.2.1 u.2.2.2.2.2.2.2.2.2.2.2.2.2.2.2.1 u.2.2.2.2.2.2.2.2.2.2.2.2.2.2.2.2)) (va_A [(h, .inr (1, [.null, .null, .null, .null]))] sz)) 22 172 (va_A [(h, .inr (1, [.null, .null, .null, .null]))] sz) := by
  refine Met.ofW (cc := cX1_init) (maxL := 1) (ret := none) (by decide) rfl ?_
  intro p e s m args below meth c s₁ B hml hv
  obtain ⟨rfl, hsz, hP, hK, hD0, hX⟩ := hv
  have hx := B.exec
  have hb := B.bytes
  have hr := B.returns
  have hts := atoms_spec (ws := wsX1_init) B.pre
  have hown : s.vm.findClass RX1 = some m.cls := findClass_of_methodNamed B.named
  have hlocks := B.notSynchronized
  have hin : meth.name = "<init>" := (name_of_methodNamed B.named B.method).1
  subst hsz
  have hD := hD0.self (sz := s.heap.size)
  generalize hAe : va_A [(h, .inr (1, [.null, .null, .null, .null]))] s.heap.size = A at hD ⊢
  have hA : ∀ q : Nat, s.heap.size ≤ q → A q := fun q h => by rw [← hAe]; exact Or.inr h
  have hS : va_S A s.heap s.heap [] := va_S.rf
  have hl := lv_entry ([.ref h]) (n := 1) (Nat.le_of_ble_eq_true rfl)
  rw [lg_entry_eq]
  generalize (lg_sl ([.ref h]) ++ List.replicate (1 - (lg_sl ([.ref h])).length) Slot.unset).toArray = ls at hl ⊢
  have hl : lv_has ls 1 [(0, .ref h)] := hl
  unfold wpX1_init at hw
  refine lv_aload_n hx hb dX1_init_0 rfl (lv_at hl 0 rfl) ?_
  refine W.objInit hx hb hown (hts (.methodLink RX1 1 objectInit) (List.mem_of_getElem? (i := 1) rfl)) (hts (.instanceMethod objectInit) (List.mem_of_getElem? (i := 2) rfl)) (hts (.code objectInit ⟨#[0xb1]⟩ 1 none) (List.mem_of_getElem? (i := 3) rfl)) rfl (by rw [hml]; exact hl.1) rfl dX1_init_1 (Nat.le_of_ble_eq_true rfl) (Nat.le_of_ble_eq_true rfl) ?_
  refine W.eq (g2 := F0 m 4 ls []) rfl ?_
  refine lv_aload_n hx hb dX1_init_4 rfl (lv_at hl 0 rfl) ?_
  refine va_new (ci := 2) (fs := [.null, .null, .null, .null, .int 0, .int 0, .int 0]) (C := RX2) (T := TX2) (N := 7) hx hb hts (fun w h => List.mem_cons_of_mem _ (List.mem_append_left _ (List.mem_append_left _ (List.mem_append_right _ h)))) tyX2 tyX2_ok hown (hts (.classLink RX1 7 RX2) (List.mem_of_getElem? (i := 4) rfl)) (hts (.instantiable RX2 7) (List.mem_of_getElem? (i := 5) rfl)) (hts (.initialized RX2) (List.mem_of_getElem? (i := 6) rfl)) hK hP hD hS hA rfl (fun j hj => by rcases (show j = 0 ∨ j = 1 ∨ j = 2 ∨ j = 3 ∨ j = 4 ∨ j = 5 ∨ j = 6 by omega) with rfl | rfl | rfl | rfl | rfl | rfl | rfl <;> rfl) (Nat.le_of_ble_eq_true rfl) (Nat.le_of_ble_eq_true rfl) dX1_init_5 (fun q1 H hP hD hS => ?_)
  refine W.widen (k := 1) (n := 7) (Nat.le_of_ble_eq_true rfl) (Nat.le_of_ble_eq_true rfl) ?_
  have hP : va_P (dC, dI) vwCl [(h, .inr (1, [.null, .null, .null, .null])), (q1, .inr (2, [.null, .null, .null, .null, .int 0, .int 0, .int 0]))] H := hP
  have hD : va_D A [(h, .inr (1, [.null, .null, .null, .null])), (q1, .inr (2, [.null, .null, .null, .null, .int 0, .int 0, .int 0]))] := hD
  refine lv_dup hx hb dX1_init_8 rfl ?_
  refine bw_ctor (X := [(h, .inr (1, [.null, .null, .null, .null]))]) (wc := [(q1, .inr (2, [.null, .null, .null, .null, .int 0, .int 0, .int 0]))]) (w1 := (fun (u : (Nat → Nat) × Int32 × Int32 × Int32 × (Nat → Int32) × (Nat → Int32) × (Nat → Int32) × (Nat → Nat → Int32)) => wdF2 cI cJ cT cII cJJ u.1 u.2.1 u.2.2.1 u.2.2.2.1 u.2.2.2.2.1 u.2.2.2.2.2.1 u.2.2.2.2.2.2.1 u.2.2.2.2.2.2.2)) (As := []) (rest := [.ref q1, .ref h]) (k2 := 13) (n2 := 103) ⟨hx, hb, hml, hown, hts⟩ (mX2_init l dC dI cI cJ cT cII cJJ q1 _ _ hw) (cwI 0 hts gX1_init_X2_init rfl rfl rfl (hts (.initialized RX2) (List.mem_of_getElem? (i := 6) rfl)) (hts (.methodLink RX1 9 yX2_init) (List.mem_of_getElem? (i := 14) rfl)) (hts (.instanceMethod yX2_init) (List.mem_of_getElem? (i := 15) rfl)) rfl hdX2_init ⟨Nat.le_of_ble_eq_true rfl, Nat.le_of_ble_eq_true rfl⟩) hX hK hP hD hS hA rfl hl.1 rfl (Nat.le_of_ble_eq_true rfl) ⟨Nat.le_of_ble_eq_true rfl, Nat.le_of_ble_eq_true rfl⟩ (Nat.le_of_ble_eq_true rfl) (Nat.le_of_ble_eq_true rfl) dX1_init_9 (fun u H17 locs hw hPn hDn hS => ?_)
  obtain ⟨ad2, y10, y11, y12, y13, y14, y15, y16⟩ := u
  clear hP hD
  obtain ⟨hq, hw⟩ := hw
  try dsimp only at hq hw
  subst hq
  have hP : va_P (dC, dI) vwCl ((h, .inr (1, [.null, .null, .null, .null])) :: (wdF2 cI cJ cT cII cJJ ad2 y10 y11 y12 y13 y14 y15 y16)) H17 := hPn
  have hD : va_D A ((h, .inr (1, [.null, .null, .null, .null])) :: (wdF2 cI cJ cT cII cJJ ad2 y10 y11 y12 y13 y14 y15 y16)) := hDn
  clear hPn hDn
  refine va_putF (D := (dC, dI)) (ci := 1) (v := .ref (ad2 0)) (ty := (.object "BidMarket$Market")) (C := RX1) (T := TX1) (N := 4) hx hb hts (fun w h => List.mem_cons_of_mem _ (List.mem_append_left _ (List.mem_append_right _ h))) tyX1 tyX1_ok nmX1 hown hK hP hD hS 0 rfl rfl 0 (by decide) (hts (.fieldLink RX1 10 "BidMarket$Holdings" "market" "LBidMarket$Market;") (List.mem_of_getElem? (i := 7) rfl)) (fun _ h9 => h9) rfl hin rfl (by decide +kernel) rfl rfl (Nat.le_of_ble_eq_true rfl) dX1_init_12 (fun H locs hP hD hS => ?_)
  have hP : va_P (dC, dI) vwCl ((h, .inr (1, [.ref (ad2 0), .null, .null, .null])) :: (wdF2 cI cJ cT cII cJJ ad2 y10 y11 y12 y13 y14 y15 y16)) H := hP
  have hD : va_D A ((h, .inr (1, [.ref (ad2 0), .null, .null, .null])) :: (wdF2 cI cJ cT cII cJJ ad2 y10 y11 y12 y13 y14 y15 y16)) := hD
  refine lv_aload_n hx hb dX1_init_15 rfl (lv_at hl 0 rfl) ?_
  refine va_new (ci := 4) (fs := [.null, .null, .int 0]) (C := RX4) (T := TX4) (N := 3) hx hb hts (fun w h => List.mem_cons_of_mem _ (List.mem_append_right _ h)) tyX4 tyX4_ok hown (hts (.classLink RX1 16 RX4) (List.mem_of_getElem? (i := 8) rfl)) (hts (.instantiable RX4 3) (List.mem_of_getElem? (i := 9) rfl)) (hts (.initialized RX4) (List.mem_of_getElem? (i := 10) rfl)) hK hP hD hS hA rfl (fun j hj => by rcases (show j = 0 ∨ j = 1 ∨ j = 2 by omega) with rfl | rfl | rfl <;> rfl) (Nat.le_of_ble_eq_true rfl) (Nat.le_of_ble_eq_true rfl) dX1_init_16 (fun q18 H hP hD hS => ?_)
  refine W.widen (k := 14) (n := 106) (Nat.le_of_ble_eq_true rfl) (Nat.le_of_ble_eq_true rfl) ?_
  have hP : va_P (dC, dI) vwCl ((h, .inr (1, [.ref (ad2 0), .null, .null, .null])) :: ((wdF2 cI cJ cT cII cJJ ad2 y10 y11 y12 y13 y14 y15 y16) ++ [(q18, .inr (4, [.null, .null, .int 0]))])) H := hP
  have hD : va_D A ((h, .inr (1, [.ref (ad2 0), .null, .null, .null])) :: ((wdF2 cI cJ cT cII cJJ ad2 y10 y11 y12 y13 y14 y15 y16) ++ [(q18, .inr (4, [.null, .null, .int 0]))])) := hD
  refine lv_dup hx hb dX1_init_19 rfl ?_
  refine lv_iconst (v := 5) hx hb dX1_init_20 (by decide) ?_
  refine bw_ctor (X := ((h, .inr (1, [.ref (ad2 0), .null, .null, .null])) :: (wdF2 cI cJ cT cII cJJ ad2 y10 y11 y12 y13 y14 y15 y16))) (wc := [(q18, .inr (4, [.null, .null, .int 0]))]) (w1 := (fun (u : (Nat → Nat) × Int32 × (Nat → Int32) × (Nat → Int32)) => wdF4 cI cJ cT cII cJJ u.1 u.2.1 5 u.2.2.1 u.2.2.2)) (As := [.int 5]) (rest := [.ref q18, .ref h]) (k2 := 16) (n2 := 126) ⟨hx, hb, hml, hown, hts⟩ (mX4_init l dC dI cI cJ cT cII cJJ q18 _ 5 5 rfl (by decide) (Nat.le_of_ble_eq_true rfl) _ hw) (cwI 1 hts gX1_init_X4_init rfl rfl rfl (hts (.initialized RX4) (List.mem_of_getElem? (i := 10) rfl)) (hts (.methodLink RX1 18 yX4_init) (List.mem_of_getElem? (i := 39) rfl)) (hts (.instanceMethod yX4_init) (List.mem_of_getElem? (i := 40) rfl)) rfl hdX4_init ⟨Nat.le_of_ble_eq_true rfl, Nat.le_of_ble_eq_true rfl⟩) hX hK hP hD hS hA rfl hl.1 rfl (Nat.le_of_ble_eq_true rfl) ⟨Nat.le_of_ble_eq_true rfl, Nat.le_of_ble_eq_true rfl⟩ (Nat.le_of_ble_eq_true rfl) (Nat.le_of_ble_eq_true rfl) dX1_init_21 (fun u H27 locs hw hPn hDn hS => ?_)
  obtain ⟨ad19, y24, y25, y26⟩ := u
  clear hP hD
  obtain ⟨hq, hw⟩ := hw
  try dsimp only at hq hw
  subst hq
  have hP : va_P (dC, dI) vwCl ((h, .inr (1, [.ref (ad2 0), .null, .null, .null])) :: ((wdF2 cI cJ cT cII cJJ ad2 y10 y11 y12 y13 y14 y15 y16) ++ (wdF4 cI cJ cT cII cJJ ad19 y24 5 y25 y26))) H27 := hPn
  have hD : va_D A ((h, .inr (1, [.ref (ad2 0), .null, .null, .null])) :: ((wdF2 cI cJ cT cII cJJ ad2 y10 y11 y12 y13 y14 y15 y16) ++ (wdF4 cI cJ cT cII cJJ ad19 y24 5 y25 y26))) := hDn
  clear hPn hDn
  refine va_putF (D := (dC, dI)) (ci := 1) (v := .ref (ad19 0)) (ty := (.object "BidMarket$Rows")) (C := RX1) (T := TX1) (N := 4) hx hb hts (fun w h => List.mem_cons_of_mem _ (List.mem_append_left _ (List.mem_append_right _ h))) tyX1 tyX1_ok nmX1 hown hK hP hD hS 0 rfl rfl 1 (by decide) (hts (.fieldLink RX1 21 "BidMarket$Holdings" "seen" "LBidMarket$Rows;") (List.mem_of_getElem? (i := 11) rfl)) (fun _ h9 => h9) rfl hin rfl (by decide +kernel) rfl rfl (Nat.le_of_ble_eq_true rfl) dX1_init_24 (fun H locs hP hD hS => ?_)
  have hP : va_P (dC, dI) vwCl ((h, .inr (1, [.ref (ad2 0), .ref (ad19 0), .null, .null])) :: ((wdF2 cI cJ cT cII cJJ ad2 y10 y11 y12 y13 y14 y15 y16) ++ (wdF4 cI cJ cT cII cJJ ad19 y24 5 y25 y26))) H := hP
  have hD : va_D A ((h, .inr (1, [.ref (ad2 0), .ref (ad19 0), .null, .null])) :: ((wdF2 cI cJ cT cII cJJ ad2 y10 y11 y12 y13 y14 y15 y16) ++ (wdF4 cI cJ cT cII cJJ ad19 y24 5 y25 y26))) := hD
  refine lv_aload_n hx hb dX1_init_27 rfl (lv_at hl 0 rfl) ?_
  refine va_new (ci := 4) (fs := [.null, .null, .int 0]) (C := RX4) (T := TX4) (N := 3) hx hb hts (fun w h => List.mem_cons_of_mem _ (List.mem_append_right _ h)) tyX4 tyX4_ok hown (hts (.classLink RX1 16 RX4) (List.mem_of_getElem? (i := 8) rfl)) (hts (.instantiable RX4 3) (List.mem_of_getElem? (i := 9) rfl)) (hts (.initialized RX4) (List.mem_of_getElem? (i := 10) rfl)) hK hP hD hS hA rfl (fun j hj => by rcases (show j = 0 ∨ j = 1 ∨ j = 2 by omega) with rfl | rfl | rfl <;> rfl) (Nat.le_of_ble_eq_true rfl) (Nat.le_of_ble_eq_true rfl) dX1_init_28 (fun q28 H hP hD hS => ?_)
  refine W.widen (k := 17) (n := 129) (Nat.le_of_ble_eq_true rfl) (Nat.le_of_ble_eq_true rfl) ?_
  have hP : va_P (dC, dI) vwCl ((h, .inr (1, [.ref (ad2 0), .ref (ad19 0), .null, .null])) :: (((wdF2 cI cJ cT cII cJJ ad2 y10 y11 y12 y13 y14 y15 y16) ++ (wdF4 cI cJ cT cII cJJ ad19 y24 5 y25 y26)) ++ [(q28, .inr (4, [.null, .null, .int 0]))])) H := hP
  have hD : va_D A ((h, .inr (1, [.ref (ad2 0), .ref (ad19 0), .null, .null])) :: (((wdF2 cI cJ cT cII cJJ ad2 y10 y11 y12 y13 y14 y15 y16) ++ (wdF4 cI cJ cT cII cJJ ad19 y24 5 y25 y26)) ++ [(q28, .inr (4, [.null, .null, .int 0]))])) := hD
  refine lv_dup hx hb dX1_init_31 rfl ?_
  refine lv_bipush (v := 10) hx hb dX1_init_32 (by decide) ?_
  refine bw_ctor (X := ((h, .inr (1, [.ref (ad2 0), .ref (ad19 0), .null, .null])) :: ((wdF2 cI cJ cT cII cJJ ad2 y10 y11 y12 y13 y14 y15 y16) ++ (wdF4 cI cJ cT cII cJJ ad19 y24 5 y25 y26)))) (wc := [(q28, .inr (4, [.null, .null, .int 0]))]) (w1 := (fun (u : (Nat → Nat) × Int32 × (Nat → Int32) × (Nat → Int32)) => wdF4 cI cJ cT cII cJJ u.1 u.2.1 10 u.2.2.1 u.2.2.2)) (As := [.int 10]) (rest := [.ref q28, .ref h]) (k2 := 19) (n2 := 149) ⟨hx, hb, hml, hown, hts⟩ (mX4_init l dC dI cI cJ cT cII cJJ q28 _ 10 10 rfl (by decide) (Nat.le_of_ble_eq_true rfl) _ hw) (cwI 1 hts gX1_init_X4_init rfl rfl rfl (hts (.initialized RX4) (List.mem_of_getElem? (i := 10) rfl)) (hts (.methodLink RX1 18 yX4_init) (List.mem_of_getElem? (i := 39) rfl)) (hts (.instanceMethod yX4_init) (List.mem_of_getElem? (i := 40) rfl)) rfl hdX4_init ⟨Nat.le_of_ble_eq_true rfl, Nat.le_of_ble_eq_true rfl⟩) hX hK hP hD hS hA rfl hl.1 rfl (Nat.le_of_ble_eq_true rfl) ⟨Nat.le_of_ble_eq_true rfl, Nat.le_of_ble_eq_true rfl⟩ (Nat.le_of_ble_eq_true rfl) (Nat.le_of_ble_eq_true rfl) dX1_init_34 (fun u H37 locs hw hPn hDn hS => ?_)
  obtain ⟨ad29, y34, y35, y36⟩ := u
  clear hP hD
  obtain ⟨hq, hw⟩ := hw
  try dsimp only at hq hw
  subst hq
  have hP : va_P (dC, dI) vwCl ((h, .inr (1, [.ref (ad2 0), .ref (ad19 0), .null, .null])) :: (((wdF2 cI cJ cT cII cJJ ad2 y10 y11 y12 y13 y14 y15 y16) ++ (wdF4 cI cJ cT cII cJJ ad19 y24 5 y25 y26)) ++ (wdF4 cI cJ cT cII cJJ ad29 y34 10 y35 y36))) H37 := hPn
  have hD : va_D A ((h, .inr (1, [.ref (ad2 0), .ref (ad19 0), .null, .null])) :: (((wdF2 cI cJ cT cII cJJ ad2 y10 y11 y12 y13 y14 y15 y16) ++ (wdF4 cI cJ cT cII cJJ ad19 y24 5 y25 y26)) ++ (wdF4 cI cJ cT cII cJJ ad29 y34 10 y35 y36))) := hDn
  clear hPn hDn
  refine va_putF (D := (dC, dI)) (ci := 1) (v := .ref (ad29 0)) (ty := (.object "BidMarket$Rows")) (C := RX1) (T := TX1) (N := 4) hx hb hts (fun w h => List.mem_cons_of_mem _ (List.mem_append_left _ (List.mem_append_right _ h))) tyX1 tyX1_ok nmX1 hown hK hP hD hS 0 rfl rfl 2 (by decide) (hts (.fieldLink RX1 25 "BidMarket$Holdings" "plan" "LBidMarket$Rows;") (List.mem_of_getElem? (i := 12) rfl)) (fun _ h9 => h9) rfl hin rfl (by decide +kernel) rfl rfl (Nat.le_of_ble_eq_true rfl) dX1_init_37 (fun H locs hP hD hS => ?_)
  have hP : va_P (dC, dI) vwCl ((h, .inr (1, [.ref (ad2 0), .ref (ad19 0), .ref (ad29 0), .null])) :: (((wdF2 cI cJ cT cII cJJ ad2 y10 y11 y12 y13 y14 y15 y16) ++ (wdF4 cI cJ cT cII cJJ ad19 y24 5 y25 y26)) ++ (wdF4 cI cJ cT cII cJJ ad29 y34 10 y35 y36))) H := hP
  have hD : va_D A ((h, .inr (1, [.ref (ad2 0), .ref (ad19 0), .ref (ad29 0), .null])) :: (((wdF2 cI cJ cT cII cJJ ad2 y10 y11 y12 y13 y14 y15 y16) ++ (wdF4 cI cJ cT cII cJJ ad19 y24 5 y25 y26)) ++ (wdF4 cI cJ cT cII cJJ ad29 y34 10 y35 y36))) := hD
  refine lv_aload_n hx hb dX1_init_40 rfl (lv_at hl 0 rfl) ?_
  refine va_new (ci := 4) (fs := [.null, .null, .int 0]) (C := RX4) (T := TX4) (N := 3) hx hb hts (fun w h => List.mem_cons_of_mem _ (List.mem_append_right _ h)) tyX4 tyX4_ok hown (hts (.classLink RX1 16 RX4) (List.mem_of_getElem? (i := 8) rfl)) (hts (.instantiable RX4 3) (List.mem_of_getElem? (i := 9) rfl)) (hts (.initialized RX4) (List.mem_of_getElem? (i := 10) rfl)) hK hP hD hS hA rfl (fun j hj => by rcases (show j = 0 ∨ j = 1 ∨ j = 2 by omega) with rfl | rfl | rfl <;> rfl) (Nat.le_of_ble_eq_true rfl) (Nat.le_of_ble_eq_true rfl) dX1_init_41 (fun q38 H hP hD hS => ?_)
  refine W.widen (k := 20) (n := 152) (Nat.le_of_ble_eq_true rfl) (Nat.le_of_ble_eq_true rfl) ?_
  have hP : va_P (dC, dI) vwCl ((h, .inr (1, [.ref (ad2 0), .ref (ad19 0), .ref (ad29 0), .null])) :: ((((wdF2 cI cJ cT cII cJJ ad2 y10 y11 y12 y13 y14 y15 y16) ++ (wdF4 cI cJ cT cII cJJ ad19 y24 5 y25 y26)) ++ (wdF4 cI cJ cT cII cJJ ad29 y34 10 y35 y36)) ++ [(q38, .inr (4, [.null, .null, .int 0]))])) H := hP
  have hD : va_D A ((h, .inr (1, [.ref (ad2 0), .ref (ad19 0), .ref (ad29 0), .null])) :: ((((wdF2 cI cJ cT cII cJJ ad2 y10 y11 y12 y13 y14 y15 y16) ++ (wdF4 cI cJ cT cII cJJ ad19 y24 5 y25 y26)) ++ (wdF4 cI cJ cT cII cJJ ad29 y34 10 y35 y36)) ++ [(q38, .inr (4, [.null, .null, .int 0]))])) := hD
  refine lv_dup hx hb dX1_init_44 rfl ?_
  refine lv_bipush (v := 8) hx hb dX1_init_45 (by decide) ?_
  refine bw_ctor (X := ((h, .inr (1, [.ref (ad2 0), .ref (ad19 0), .ref (ad29 0), .null])) :: (((wdF2 cI cJ cT cII cJJ ad2 y10 y11 y12 y13 y14 y15 y16) ++ (wdF4 cI cJ cT cII cJJ ad19 y24 5 y25 y26)) ++ (wdF4 cI cJ cT cII cJJ ad29 y34 10 y35 y36)))) (wc := [(q38, .inr (4, [.null, .null, .int 0]))]) (w1 := (fun (u : (Nat → Nat) × Int32 × (Nat → Int32) × (Nat → Int32)) => wdF4 cI cJ cT cII cJJ u.1 u.2.1 8 u.2.2.1 u.2.2.2)) (As := [.int 8]) (rest := [.ref q38, .ref h]) (k2 := 22) (n2 := 172) ⟨hx, hb, hml, hown, hts⟩ (mX4_init l dC dI cI cJ cT cII cJJ q38 _ 8 8 rfl (by decide) (Nat.le_of_ble_eq_true rfl) _ hw) (cwI 1 hts gX1_init_X4_init rfl rfl rfl (hts (.initialized RX4) (List.mem_of_getElem? (i := 10) rfl)) (hts (.methodLink RX1 18 yX4_init) (List.mem_of_getElem? (i := 39) rfl)) (hts (.instanceMethod yX4_init) (List.mem_of_getElem? (i := 40) rfl)) rfl hdX4_init ⟨Nat.le_of_ble_eq_true rfl, Nat.le_of_ble_eq_true rfl⟩) hX hK hP hD hS hA rfl hl.1 rfl (Nat.le_of_ble_eq_true rfl) ⟨Nat.le_of_ble_eq_true rfl, Nat.le_of_ble_eq_true rfl⟩ (Nat.le_of_ble_eq_true rfl) (Nat.le_of_ble_eq_true rfl) dX1_init_47 (fun u H47 locs hw hPn hDn hS => ?_)
  obtain ⟨ad39, y44, y45, y46⟩ := u
  clear hP hD
  obtain ⟨hq, hw⟩ := hw
  try dsimp only at hq hw
  subst hq
  have hP : va_P (dC, dI) vwCl ((h, .inr (1, [.ref (ad2 0), .ref (ad19 0), .ref (ad29 0), .null])) :: ((((wdF2 cI cJ cT cII cJJ ad2 y10 y11 y12 y13 y14 y15 y16) ++ (wdF4 cI cJ cT cII cJJ ad19 y24 5 y25 y26)) ++ (wdF4 cI cJ cT cII cJJ ad29 y34 10 y35 y36)) ++ (wdF4 cI cJ cT cII cJJ ad39 y44 8 y45 y46))) H47 := hPn
  have hD : va_D A ((h, .inr (1, [.ref (ad2 0), .ref (ad19 0), .ref (ad29 0), .null])) :: ((((wdF2 cI cJ cT cII cJJ ad2 y10 y11 y12 y13 y14 y15 y16) ++ (wdF4 cI cJ cT cII cJJ ad19 y24 5 y25 y26)) ++ (wdF4 cI cJ cT cII cJJ ad29 y34 10 y35 y36)) ++ (wdF4 cI cJ cT cII cJJ ad39 y44 8 y45 y46))) := hDn
  clear hPn hDn
  refine va_putF (D := (dC, dI)) (ci := 1) (v := .ref (ad39 0)) (ty := (.object "BidMarket$Rows")) (C := RX1) (T := TX1) (N := 4) hx hb hts (fun w h => List.mem_cons_of_mem _ (List.mem_append_left _ (List.mem_append_right _ h))) tyX1 tyX1_ok nmX1 hown hK hP hD hS 0 rfl rfl 3 (by decide) (hts (.fieldLink RX1 28 "BidMarket$Holdings" "book" "LBidMarket$Rows;") (List.mem_of_getElem? (i := 13) rfl)) (fun _ h9 => h9) rfl hin rfl (by decide +kernel) rfl rfl (Nat.le_of_ble_eq_true rfl) dX1_init_50 (fun H locs hP hD hS => ?_)
  have hP : va_P (dC, dI) vwCl ((h, .inr (1, [.ref (ad2 0), .ref (ad19 0), .ref (ad29 0), .ref (ad39 0)])) :: ((((wdF2 cI cJ cT cII cJJ ad2 y10 y11 y12 y13 y14 y15 y16) ++ (wdF4 cI cJ cT cII cJJ ad19 y24 5 y25 y26)) ++ (wdF4 cI cJ cT cII cJJ ad29 y34 10 y35 y36)) ++ (wdF4 cI cJ cT cII cJJ ad39 y44 8 y45 y46))) H := hP
  have hD : va_D A ((h, .inr (1, [.ref (ad2 0), .ref (ad19 0), .ref (ad29 0), .ref (ad39 0)])) :: ((((wdF2 cI cJ cT cII cJJ ad2 y10 y11 y12 y13 y14 y15 y16) ++ (wdF4 cI cJ cT cII cJJ ad19 y24 5 y25 y26)) ++ (wdF4 cI cJ cT cII cJJ ad29 y34 10 y35 y36)) ++ (wdF4 cI cJ cT cII cJJ ad39 y44 8 y45 y46))) := hD
  obtain ⟨AD, e_h, e_ad2, e_ad19, e_ad29, e_ad39⟩ : ∃ AD : Nat → Nat, AD 0 = h ∧ (∀ k, k < 13 → AD (k + 1) = ad2 k) ∧ (∀ k, k < 3 → AD (k + 14) = ad19 k) ∧ (∀ k, k < 3 → AD (k + 17) = ad29 k) ∧ (∀ k, k < 3 → AD (k + 20) = ad39 k) := ⟨fun k => cond (Nat.blt k 1) h (cond (Nat.blt k 14) (ad2 (k - 1)) (cond (Nat.blt k 17) (ad19 (k - 14)) (cond (Nat.blt k 20) (ad29 (k - 17)) (cond (Nat.blt k 23) (ad39 (k - 20)) (0))))), rfl, (fun k hk => match k, hk with | 0, _ => rfl | 1, _ => rfl | 2, _ => rfl | 3, _ => rfl | 4, _ => rfl | 5, _ => rfl | 6, _ => rfl | 7, _ => rfl | 8, _ => rfl | 9, _ => rfl | 10, _ => rfl | 11, _ => rfl | 12, _ => rfl | k + 13, h => absurd h (by omega)), (fun k hk => match k, hk with | 0, _ => rfl | 1, _ => rfl | 2, _ => rfl | k + 3, h => absurd h (by omega)), (fun k hk => match k, hk with | 0, _ => rfl | 1, _ => rfl | 2, _ => rfl | k + 3, h => absurd h (by omega)), (fun k hk => match k, hk with | 0, _ => rfl | 1, _ => rfl | 2, _ => rfl | k + 3, h => absurd h (by omega))⟩
  rw [wdF2_congr (g := fun k => AD (k + 1)) (fun k hk => (e_ad2 k hk).symm), ← e_ad2 0 (by decide)] at hP hD
  rw [wdF4_congr (g := fun k => AD (k + 14)) (fun k hk => (e_ad19 k hk).symm), ← e_ad19 0 (by decide)] at hP hD
  rw [wdF4_congr (g := fun k => AD (k + 17)) (fun k hk => (e_ad29 k hk).symm), ← e_ad29 0 (by decide)] at hP hD
  rw [wdF4_congr (g := fun k => AD (k + 20)) (fun k hk => (e_ad39 k hk).symm), ← e_ad39 0 (by decide)] at hP hD
  subst e_h
  have hPf : va_P (dC, dI) vwCl (wdF1 cI cJ cT cII cJJ AD y10 y11 y12 y13 y14 y15 y16 y24 y25 y26 y34 y35 y36 y44 y45 y46) H := bw_subP (is := [0, 1, 2, 3, 4, 5, 6, 7, 8, 9, 10, 11, 12, 13, 14, 15, 16, 17, 18, 19, 20, 21, 22]) hP rfl
  have hDf : va_D A (wdF1 cI cJ cT cII cJJ AD y10 y11 y12 y13 y14 y15 y16 y24 y25 y26 y34 y35 y36 y44 y45 y46) := bw_subDA (is := [0, 1, 2, 3, 4, 5, 6, 7, 8, 9, 10, 11, 12, 13, 14, 15, 16, 17, 18, 19, 20, 21, 22]) hD rfl (by decide)
  clear hP hD
  have hP := hPf
  have hD := hDf
  exact W.vret hx hb hr (fun t ht hW => ⟨⟨(AD, y10, y11, y12, y13, y14, y15, y16, y24, y25, y26, y34, y35, y36, y44, y45, y46), rfl, ⟨rfl, hw⟩, by show va_P _ _ _ t.heap ∧ _; rw [ht]; exact ⟨hP, hD⟩⟩, hS.F ht⟩) hS.2.2 dX1_init_53
