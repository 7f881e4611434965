set_option maxHeartbeats 4000000 in
set_option maxRecDepth 100000 in
theorem mX2_runScaled (l : Launch) (dC : Nat → ClassId) (dI : Nat → Nat → Nat) (cI cJ cT cII cJJ : ClassId) (ad : Nat → Nat) (sz : Nat) (sc : Nat) (n : Int32) (pa : Int32) (br : Int32) (th : Nat → Int32) (pe : Nat → Int32) (pr : Nat → Int32) (w : Nat → Nat → Int32) (Post : Int32 → Int32 → Int32 → (Nat → Int32) → (Nat → Int32) → (Nat → Int32) → Prop) (hw : wpX2_runScaled n pa br th pe pr w Post) : Met l yX2_runScaled wsX2_runScaled ({ frames := 5, cells := 0, slots := 0, locals := 117 } : Room) (va_Pc [.ref (ad 0)] (fun U => U.heap.size = sz ∧ va_P (dC, dI) vwCl (wdX2_runScaled cI cJ cT cII cJJ ad n pa br th pe pr w) U.heap ∧ va_K (dC, dI) vwCl (bw_tys cI cJ cT cII cJJ) U ∧ va_D (fun _ => True) (wdX2_runScaled cI cJ cT cII cJJ ad n pa br th pe pr w) ∧ bw_SC sc (va_A (wdX2_runScaled cI cJ cT cII cJJ ad n pa br th pe pr w) sz) U U.heap)) (va_Qi (fun (r : Int32) (u : Int32 × Int32 × (Nat → Int32) × (Nat → Int32) × (Nat → Int32)) => Post r u.1 u.2.1 u.2.2.1 u.2.2.2.1 u.2.2.2.2) (fun (u : Int32 × Int32 × (Nat → Int32) × (Nat → Int32) × (Nat → Int32)) t => va_P (dC, dI) vwCl (wdX2_runScaled cI cJ cT cII cJJ ad n u.1 u.2.1 u.2.2.1 u.2.2.2.1 u.2.2.2.2 w) t.heap) (va_A (wdX2_runScaled cI cJ cT cII cJJ ad n pa br th pe pr w) sz)) 0 0 (va_A (wdX2_runScaled cI cJ cT cII cJJ ad n pa br th pe pr w) sz) := by
  refine Met.ofW (cc := cX2_runScaled) (maxL := 4) (ret := (some .int)) (by decide) rfl ?_
  intro p e s m args below meth c s₁ B hml hv
  obtain ⟨rfl, hsz, hP, hK, hD0, hSC⟩ := hv
  have hx := B.exec
  have hb := B.bytes
  have hr := B.returns
  have hts := atoms_spec (ws := wsX2_runScaled) B.pre
  have hown : s.vm.findClass RX2 = some m.cls := findClass_of_methodNamed B.named
  have hlocks := B.notSynchronized
  subst hsz
  have hD := hD0.self (sz := s.heap.size)
  generalize hAe : va_A (wdX2_runScaled cI cJ cT cII cJJ ad n pa br th pe pr w) s.heap.size = A at hD hSC ⊢
  have hA : ∀ q : Nat, s.heap.size ≤ q → A q := fun q h => by rw [← hAe]; exact Or.inr h
  have hS : va_S A s.heap s.heap [] := va_S.rf
  have hl := lv_entry ([.ref (ad 0)]) (n := 4) (Nat.le_of_ble_eq_true rfl)
  rw [lg_entry_eq]
  generalize (lg_sl ([.ref (ad 0)]) ++ List.replicate (4 - (lg_sl ([.ref (ad 0)])).length) Slot.unset).toArray = ls at hl ⊢
  have hl : lv_has ls 4 [(0, .ref (ad 0))] := hl
  have kB55 : ∀ (v1 : Int32) (v2 : Int32) (pa : Int32) (br : Int32) (th : Nat → Int32) (pe : Nat → Int32) (pr : Nat → Int32), ∀ (H : Heap) (locs : List Loc), va_P (dC, dI) vwCl (wdX2_runScaled cI cJ cT cII cJJ ad n pa br th pe pr w) H → va_D A (wdX2_runScaled cI cJ cT cII cJJ ad n pa br th pe pr w) → va_S A s.heap H locs → ∀ ls : Array Slot, lv_has ls 4 [(0, .ref (ad 0)), (1, .int v1), (2, .int v2)] → wpX2_runScaled_B55 n w Post v1 v2 pa br th pe pr → W p l e (headSpec wsX2_runScaled ({ frames := 5, cells := 0, slots := 0, locals := 117 } : Room)).room s m ([.ref (ad 0)] : List Value).toArray below meth c H locs 0 0 (MQ below (va_Qi (fun (r : Int32) (u : Int32 × Int32 × (Nat → Int32) × (Nat → Int32) × (Nat → Int32)) => Post r u.1 u.2.1 u.2.2.1 u.2.2.2.1 u.2.2.2.2) (fun (u : Int32 × Int32 × (Nat → Int32) × (Nat → Int32) × (Nat → Int32)) t => va_P (dC, dI) vwCl (wdX2_runScaled cI cJ cT cII cJJ ad n u.1 u.2.1 u.2.2.1 u.2.2.2.1 u.2.2.2.2 w) t.heap) A) ([.ref (ad 0)] : List Value).toArray s 0 0 A) (F0 m 55 ls []) := by
    intro v1 v2 pa br th pe pr H locs hP hD hS ls hl hw
    unfold wpX2_runScaled_B55 at hw
    refine lv_aload_n hx hb dX2_runScaled_55 rfl (lv_at hl 0 rfl) ?_
    refine lv_iload_n hx hb dX2_runScaled_56 rfl (lv_at hl 1 rfl) ?_
    refine va_put (D := (dC, dI)) (ci := 2) (v := .int v1) (ty := .int) (C := RX2) (T := TX2) (N := 7) hx hb hts (fun w h => List.mem_cons_of_mem _ (List.mem_append_right _ h)) tyX2 tyX2_ok nmX2 hown hK hP hD hS 0 rfl rfl 5 (by decide) (hts (.fieldLink RX2 30 "BidMarket$Market" "pace" "I") (List.mem_of_getElem? (i := 1) rfl)) (fun _ h9 => h9) rfl (by decide +kernel) rfl rfl (Nat.le_of_ble_eq_true rfl) dX2_runScaled_57 (fun H locs hP hD hS => ?_)
    have hP : va_P (dC, dI) vwCl (wdX2_runScaled cI cJ cT cII cJJ ad n v1 br th pe pr w) H := hP
    have hD : va_D A (wdX2_runScaled cI cJ cT cII cJJ ad n v1 br th pe pr w) := hD
    refine lv_iload_n hx hb dX2_runScaled_60 rfl (lv_at hl 2 rfl) ?_
    exact W.iret (v := v2) hx hb hr (fun t ht hW => ⟨⟨v2, (v1, br, th, pe, pr), rfl, hw, by show va_P _ _ _ t.heap; rw [ht]; exact hP⟩, hS.F ht⟩) hS.2.2 dX2_runScaled_61
  have kB14 : ∀ f : Nat, ∀ (v1 : Int32) (v2 : Int32) (v3 : Int32) (pa : Int32) (br : Int32) (th : Nat → Int32) (pe : Nat → Int32) (pr : Nat → Int32), ∀ (H : Heap) (locs : List Loc), va_P (dC, dI) vwCl (wdX2_runScaled cI cJ cT cII cJJ ad n pa br th pe pr w) H → va_D A (wdX2_runScaled cI cJ cT cII cJJ ad n pa br th pe pr w) → va_S A s.heap H locs → ∀ ls : Array Slot, lv_has ls 4 [(0, .ref (ad 0)), (1, .int v1), (2, .int v2), (3, .int v3)] → wpX2_runScaled_B14 n w Post f v1 v2 v3 pa br th pe pr → W p l e (headSpec wsX2_runScaled ({ frames := 5, cells := 0, slots := 0, locals := 117 } : Room)).room s m ([.ref (ad 0)] : List Value).toArray below meth c H locs 0 0 (MQ below (va_Qi (fun (r : Int32) (u : Int32 × Int32 × (Nat → Int32) × (Nat → Int32) × (Nat → Int32)) => Post r u.1 u.2.1 u.2.2.1 u.2.2.2.1 u.2.2.2.2) (fun (u : Int32 × Int32 × (Nat → Int32) × (Nat → Int32) × (Nat → Int32)) t => va_P (dC, dI) vwCl (wdX2_runScaled cI cJ cT cII cJJ ad n u.1 u.2.1 u.2.2.1 u.2.2.2.1 u.2.2.2.2 w) t.heap) A) ([.ref (ad 0)] : List Value).toArray s 0 0 A) (F0 m 14 ls []) := by
    intro  f
    induction f with
    | zero => intro v1 v2 v3 pa br th pe pr H locs hP hD hS ls hl hw; exact (show False from hw).elim
    | succ f ih =>
      intro v1 v2 v3 pa br th pe pr H locs hP hD hS ls hl hw
      rw [wpX2_runScaled_B14] at hw
      refine lv_iload_n hx hb dX2_runScaled_14 rfl (lv_at hl 3 rfl) ?_
      refine va_gets hx hb hSC.1 hS hown (hts (.fieldLink RX2 85 "BidMarket$Market" "SCALE" "[I") (List.mem_of_getElem? (i := 3) rfl)) (fun _ h9 => h9) dX2_runScaled_15 ?_
      refine va_tlen hx hb hSC.2 hS (v := 4) rfl dX2_runScaled_18 ?_
      refine lv_icmp_ge (tgt := 55) hx hb dX2_runScaled_19 (by decide) (fun c1 => ?_) (fun c1 => ?_)
      · have hw := hw.1 c1
        exact kB55 v1 v2 pa br th pe pr _ _ hP hD hS ls (lv_sub hl [0, 1, 2] rfl) hw
      · have hw := hw.2 c1
        refine lv_aload_n hx hb dX2_runScaled_22 rfl (lv_at hl 0 rfl) ?_
        refine va_get (D := (dC, dI)) (ci := 2) (v := .int br) (C := RX2) (T := TX2) (N := 7) hx hb hts (fun w h => List.mem_cons_of_mem _ (List.mem_append_right _ h)) hown hK hP 0 rfl rfl 6 (by decide) (hts (.fieldLink RX2 33 "BidMarket$Market" "breaker" "I") (List.mem_of_getElem? (i := 2) rfl)) (fun _ h9 => h9) rfl dX2_runScaled_23 ?_
        refine lv_if_ge (tgt := 55) hx hb dX2_runScaled_26 (by decide) (fun c2 => ?_) (fun c2 => ?_)
        · have hw := hw.1 c2
          exact kB55 v1 v2 pa br th pe pr _ _ hP hD hS ls (lv_sub hl [0, 1, 2] rfl) hw
        · have hw := hw.2 c2
          refine lv_aload_n hx hb dX2_runScaled_29 rfl (lv_at hl 0 rfl) ?_
          refine bw_wvv (wc := (wdX2_takeAllAway cI cJ cT cII cJJ ad n pa br th pe)) (w1 := (fun (u : (Nat → Int32) × (Nat → Int32)) => wdX2_takeAllAway cI cJ cT cII cJJ ad n pa br u.1 u.2)) (As := []) (rest := []) ⟨hx, hb, hml, hown, hts⟩ (mX2_takeAllAway l dC dI cI cJ cT cII cJJ ad _ n pa br th pe _ hw) (cwV 0 hts gX2_runScaled_X2_takeAllAway rfl rfl rfl hdX2_takeAllAway ⟨Nat.le_of_ble_eq_true rfl, Nat.le_of_ble_eq_true rfl⟩) hK hP hD hS hA [0, 1, 2] rfl (by decide) (fun _ => rfl) rfl rfl rfl rfl hl.1 rfl (Nat.le_of_ble_eq_true rfl) ⟨Nat.le_of_ble_eq_true rfl, Nat.le_of_ble_eq_true rfl⟩ dX2_runScaled_30 (fun u H locs hw hP hD hS => ?_)
          obtain ⟨y3, y4⟩ := u
          try dsimp only at hw
          have hP : va_P (dC, dI) vwCl (wdX2_runScaled cI cJ cT cII cJJ ad n pa br y3 y4 pr w) H := hP
          have hD : va_D A (wdX2_runScaled cI cJ cT cII cJJ ad n pa br y3 y4 pr w) := hD
          refine lv_aload_n hx hb dX2_runScaled_33 rfl (lv_at hl 0 rfl) ?_
          refine va_gets hx hb hSC.1 hS hown (hts (.fieldLink RX2 85 "BidMarket$Market" "SCALE" "[I") (List.mem_of_getElem? (i := 3) rfl)) (fun _ h9 => h9) dX2_runScaled_34 ?_
          refine lv_iload_n hx hb dX2_runScaled_37 rfl (lv_at hl 3 rfl) ?_
          have h5 := hw.1
          have hw := hw.2
          refine va_ti (v := .int (bw_scale v3.toNatClampNeg)) hx hb hSC.2 hS h5 rfl dX2_runScaled_38 ?_
          refine va_put (D := (dC, dI)) (ci := 2) (v := .int (bw_scale v3.toNatClampNeg)) (ty := .int) (C := RX2) (T := TX2) (N := 7) hx hb hts (fun w h => List.mem_cons_of_mem _ (List.mem_append_right _ h)) tyX2 tyX2_ok nmX2 hown hK hP hD hS 0 rfl rfl 5 (by decide) (hts (.fieldLink RX2 30 "BidMarket$Market" "pace" "I") (List.mem_of_getElem? (i := 1) rfl)) (fun _ h9 => h9) rfl (by decide +kernel) rfl rfl (Nat.le_of_ble_eq_true rfl) dX2_runScaled_39 (fun H locs hP hD hS => ?_)
          have hP : va_P (dC, dI) vwCl (wdX2_runScaled cI cJ cT cII cJJ ad n (bw_scale v3.toNatClampNeg) br y3 y4 pr w) H := hP
          have hD : va_D A (wdX2_runScaled cI cJ cT cII cJJ ad n (bw_scale v3.toNatClampNeg) br y3 y4 pr w) := hD
          refine lv_iload_n hx hb dX2_runScaled_42 rfl (lv_at hl 2 rfl) ?_
          refine lv_aload_n hx hb dX2_runScaled_43 rfl (lv_at hl 0 rfl) ?_
          refine bw_wvi (wc := (wdX2_runAuction cI cJ cT cII cJJ ad n (bw_scale v3.toNatClampNeg) br y3 y4 pr w)) (w1 := (fun (u : Int32 × (Nat → Int32) × (Nat → Int32) × (Nat → Int32)) => wdX2_runAuction cI cJ cT cII cJJ ad n (bw_scale v3.toNatClampNeg) u.1 u.2.1 u.2.2.1 u.2.2.2 w)) (As := []) (rest := [.int v2]) ⟨hx, hb, hml, hown, hts⟩ (mX2_runAuction l dC dI cI cJ cT cII cJJ ad _ n (bw_scale v3.toNatClampNeg) br y3 y4 pr w _ hw) (cwV 0 hts gX2_runScaled_X2_runAuction rfl rfl rfl hdX2_runAuction ⟨Nat.le_of_ble_eq_true rfl, Nat.le_of_ble_eq_true rfl⟩) hK hP hD hS hA [0, 1, 2, 3, 4, 5, 6, 7, 8, 9, 10, 11, 12] rfl (by decide) (fun _ => rfl) rfl rfl rfl rfl hl.1 rfl (Nat.le_of_ble_eq_true rfl) ⟨Nat.le_of_ble_eq_true rfl, Nat.le_of_ble_eq_true rfl⟩ dX2_runScaled_44 (fun r7 u H locs hw hP hD hS => ?_)
          obtain ⟨y8, y9, y10, y11⟩ := u
          try dsimp only at hw
          have hP : va_P (dC, dI) vwCl (wdX2_runScaled cI cJ cT cII cJJ ad n (bw_scale v3.toNatClampNeg) y8 y9 y10 y11 w) H := hP
          have hD : va_D A (wdX2_runScaled cI cJ cT cII cJJ ad n (bw_scale v3.toNatClampNeg) y8 y9 y10 y11 w) := hD
          refine lv_iadd hx hb dX2_runScaled_47 ?_
          refine lv_topi (fun x12 ex12 => ?_)
          have hw := hw x12 ex12
          refine lv_istore_n (lv' := [(2, .int x12), (0, .ref (ad 0)), (1, .int v1), (3, .int v3)]) hx hb dX2_runScaled_48 rfl hl (by decide) rfl (fun ls hl => ?_)
          obtain ⟨x13, ex13⟩ : ∃ y : Int32, y = v3 + 1 := ⟨_, rfl⟩
          have hw := hw x13 ex13
          refine lv_iinc (v := x13) (lv' := [(3, .int x13), (2, .int x12), (0, .ref (ad 0)), (1, .int v1)]) hx hb dX2_runScaled_49 hl (k := 3) rfl (by rw [ex13]; rfl) (by decide) rfl (fun ls hl => ?_)
          refine lv_goto (tgt := 14) hx hb dX2_runScaled_52 (by decide) ?_
          exact ih v1 x12 x13 (bw_scale v3.toNatClampNeg) y8 y9 y10 y11 _ _ hP hD hS ls (lv_sub hl [2, 3, 1, 0] rfl) hw
  unfold wpX2_runScaled at hw
  refine lv_aload_n hx hb dX2_runScaled_0 rfl (lv_at hl 0 rfl) ?_
  refine va_get (D := (dC, dI)) (ci := 2) (v := .int pa) (C := RX2) (T := TX2) (N := 7) hx hb hts (fun w h => List.mem_cons_of_mem _ (List.mem_append_right _ h)) hown hK hP 0 rfl rfl 5 (by decide) (hts (.fieldLink RX2 30 "BidMarket$Market" "pace" "I") (List.mem_of_getElem? (i := 1) rfl)) (fun _ h9 => h9) rfl dX2_runScaled_1 ?_
  refine lv_istore_n (lv' := [(1, .int pa), (0, .ref (ad 0))]) hx hb dX2_runScaled_4 rfl hl (by decide) rfl (fun ls hl => ?_)
  refine lv_iconst (v := 0) hx hb dX2_runScaled_5 (by decide) ?_
  refine lv_istore_n (lv' := [(2, .int 0), (1, .int pa), (0, .ref (ad 0))]) hx hb dX2_runScaled_6 rfl hl (by decide) rfl (fun ls hl => ?_)
  refine lv_aload_n hx hb dX2_runScaled_7 rfl (lv_at hl 2 rfl) ?_
  refine lv_iconst (v := (-1)) hx hb dX2_runScaled_8 (by decide) ?_
  refine va_put (D := (dC, dI)) (ci := 2) (v := .int ((-1))) (ty := .int) (C := RX2) (T := TX2) (N := 7) hx hb hts (fun w h => List.mem_cons_of_mem _ (List.mem_append_right _ h)) tyX2 tyX2_ok nmX2 hown hK hP hD hS 0 rfl rfl 6 (by decide) (hts (.fieldLink RX2 33 "BidMarket$Market" "breaker" "I") (List.mem_of_getElem? (i := 2) rfl)) (fun _ h9 => h9) rfl (by decide +kernel) rfl rfl (Nat.le_of_ble_eq_true rfl) dX2_runScaled_9 (fun H locs hP hD hS => ?_)
  have hP : va_P (dC, dI) vwCl (wdX2_runScaled cI cJ cT cII cJJ ad n pa ((-1)) th pe pr w) H := hP
  have hD : va_D A (wdX2_runScaled cI cJ cT cII cJJ ad n pa ((-1)) th pe pr w) := hD
  refine lv_iconst (v := 0) hx hb dX2_runScaled_12 (by decide) ?_
  refine lv_istore_n (lv' := [(3, .int 0), (2, .int 0), (1, .int pa), (0, .ref (ad 0))]) hx hb dX2_runScaled_13 rfl hl (by decide) rfl (fun ls hl => ?_)
  obtain ⟨f1, hw⟩ := hw
  exact kB14 f1 pa 0 0 pa ((-1)) th pe pr _ _ hP hD hS ls (lv_sub hl [3, 2, 1, 0] rfl) hw
set_option maxHeartbeats 4000000 in
set_option maxRecDepth 100000 in
theorem mX7_scaled (l : Launch) (dC : Nat → ClassId) (dI : Nat → Nat → Nat) (cI cJ cT cII cJJ : ClassId) (ad : Nat → Nat) (sz : Nat) (sc : Nat) (im : Int32) (gn : Int32) (gpa : Int32) (gbr : Int32) (gth : Nat → Int32) (gpe : Nat → Int32) (gpr : Nat → Int32) (gw : Nat → Nat → Int32) (ck : Int32) (cc : Int32) (cd : Int32) (Post : Int32 → Int32 → Int32 → (Nat → Int32) → (Nat → Int32) → (Nat → Int32) → Int32 → Int32 → Int32 → Prop) (hw : wpX7_scaled gn gpa gbr gth gpe gpr gw ck cc cd Post) : Met l yX7_scaled wsX7_scaled ({ frames := 6, cells := 0, slots := 0, locals := 140 } : Room) (va_Pc [.ref (ad 0)] (fun U => U.heap.size = sz ∧ va_P (dC, dI) vwCl (wdX7_scaled cI cJ cT cII cJJ ad im gn gpa gbr gth gpe gpr gw ck cc cd) U.heap ∧ va_K (dC, dI) vwCl (bw_tys cI cJ cT cII cJJ) U ∧ va_D (fun _ => True) (wdX7_scaled cI cJ cT cII cJJ ad im gn gpa gbr gth gpe gpr gw ck cc cd) ∧ bw_SC sc (va_A (wdX7_scaled cI cJ cT cII cJJ ad im gn gpa gbr gth gpe gpr gw ck cc cd) sz) U U.heap)) (va_Qi (fun (r : Int32) (u : Int32 × Int32 × (Nat → Int32) × (Nat → Int32) × (Nat → Int32) × Int32 × Int32 × Int32) => Post r u.1 u.2.1 u.2.2.1 u.2.2.2.1 u.2.2.2.2.1 u.2.2.2.2.2.1 u.2.2.2.2.2.2.1 u.2.2.2.2.2.2.2) (fun (u : Int32 × Int32 × (Nat → Int32) × (Nat → Int32) × (Nat → Int32) × Int32 × Int32 × Int32) t => va_P (dC, dI) vwCl (wdX7_scaled cI cJ cT cII cJJ ad im gn u.1 u.2.1 u.2.2.1 u.2.2.2.1 u.2.2.2.2.1 gw u.2.2.2.2.2.1 u.2.2.2.2.2.2.1 u.2.2.2.2.2.2.2) t.heap) (va_A (wdX7_scaled cI cJ cT cII cJJ ad im gn gpa gbr gth gpe gpr gw ck cc cd) sz)) 0 0 (va_A (wdX7_scaled cI cJ cT cII cJJ ad im gn gpa gbr gth gpe gpr gw ck cc cd) sz) := by
  refine Met.ofW (cc := cX7_scaled) (maxL := 1) (ret := (some .int)) (by decide) rfl ?_
  intro p e s m args below meth c s₁ B hml hv
  obtain ⟨rfl, hsz, hP, hK, hD0, hSC⟩ := hv
  have hx := B.exec
  have hb := B.bytes
  have hr := B.returns
  have hts := atoms_spec (ws := wsX7_scaled) B.pre
  have hown : s.vm.findClass RX7 = some m.cls := findClass_of_methodNamed B.named
  have hlocks := B.notSynchronized
  subst hsz
  have hD := hD0.self (sz := s.heap.size)
  generalize hAe : va_A (wdX7_scaled cI cJ cT cII cJJ ad im gn gpa gbr gth gpe gpr gw ck cc cd) s.heap.size = A at hD hSC ⊢
  have hA : ∀ q : Nat, s.heap.size ≤ q → A q := fun q h => by rw [← hAe]; exact Or.inr h
  have hS : va_S A s.heap s.heap [] := va_S.rf
  have hl := lv_entry ([.ref (ad 0)]) (n := 1) (Nat.le_of_ble_eq_true rfl)
  rw [lg_entry_eq]
  generalize (lg_sl ([.ref (ad 0)]) ++ List.replicate (1 - (lg_sl ([.ref (ad 0)])).length) Slot.unset).toArray = ls at hl ⊢
  have hl : lv_has ls 1 [(0, .ref (ad 0))] := hl
  unfold wpX7_scaled at hw
  refine lv_aload_n hx hb dX7_scaled_0 rfl (lv_at hl 0 rfl) ?_
  refine lv_aload_n hx hb dX7_scaled_1 rfl (lv_at hl 0 rfl) ?_
  refine va_get (D := (dC, dI)) (ci := 7) (v := .ref (ad 1)) (C := RX7) (T := TX7) (N := 8) hx hb hts (fun w h => List.mem_cons_of_mem _ (List.mem_append_left _ (List.mem_append_left _ (List.mem_append_left _ (List.mem_append_right _ h))))) hown hK hP 0 rfl rfl 0 (by decide) (hts (.fieldLink RX7 12 "BidMarket" "held" "LBidMarket$Holdings;") (List.mem_of_getElem? (i := 1) rfl)) (fun _ h9 => h9) rfl dX7_scaled_2 ?_
  refine va_get (D := (dC, dI)) (ci := 1) (v := .ref (ad 2)) (C := RX1) (T := TX1) (N := 4) hx hb hts (fun w h => List.mem_cons_of_mem _ (List.mem_append_left _ (List.mem_append_left _ (List.mem_append_right _ h)))) hown hK hP 1 rfl rfl 0 (by decide) (hts (.fieldLink RX7 60 "BidMarket$Holdings" "market" "LBidMarket$Market;") (List.mem_of_getElem? (i := 2) rfl)) (fun _ h9 => h9) rfl dX7_scaled_5 ?_
  refine bw_wviS (wc := (wdX2_runScaled cI cJ cT cII cJJ (fun k => ad (k + 2)) gn gpa gbr gth gpe gpr gw)) (w1 := (fun (u : Int32 × Int32 × (Nat → Int32) × (Nat → Int32) × (Nat → Int32)) => wdX2_runScaled cI cJ cT cII cJJ (fun k => ad (k + 2)) gn u.1 u.2.1 u.2.2.1 u.2.2.2.1 u.2.2.2.2 gw)) (As := []) (rest := [.ref (ad 0)]) hSC ⟨hx, hb, hml, hown, hts⟩ (mX2_runScaled l dC dI cI cJ cT cII cJJ (fun k => ad (k + 2)) _ sc gn gpa gbr gth gpe gpr gw _ hw) (cwV 0 hts gX7_scaled_X2_runScaled rfl rfl rfl hdX2_runScaled ⟨Nat.le_of_ble_eq_true rfl, Nat.le_of_ble_eq_true rfl⟩) hK hP hD hS hA [2, 3, 4, 5, 6, 7, 8, 9, 10, 11, 12, 13, 14] rfl (by decide) (fun _ => rfl) rfl rfl rfl rfl hl.1 rfl (Nat.le_of_ble_eq_true rfl) ⟨Nat.le_of_ble_eq_true rfl, Nat.le_of_ble_eq_true rfl⟩ dX7_scaled_8 (fun r1 u H locs hw hP hD hS => ?_)
  obtain ⟨y2, y3, y4, y5, y6⟩ := u
  try dsimp only at hw
  have hP : va_P (dC, dI) vwCl (wdX7_scaled cI cJ cT cII cJJ ad im gn y2 y3 y4 y5 y6 gw ck cc cd) H := hP
  have hD : va_D A (wdX7_scaled cI cJ cT cII cJJ ad im gn y2 y3 y4 y5 y6 gw ck cc cd) := hD
  refine bw_wvi (wc := (wdX7_reported cI cJ cT cII cJJ ad im gn y2 y3 y4 ck cc cd)) (w1 := (fun (u : Int32 × Int32 × Int32) => wdX7_reported cI cJ cT cII cJJ ad im gn y2 y3 y4 u.1 u.2.1 u.2.2)) (As := [.int r1]) (rest := []) ⟨hx, hb, hml, hown, hts⟩ (mX7_reported l dC dI cI cJ cT cII cJJ ad _ im gn y2 y3 y4 ck cc cd r1 _ hw) (cwV 1 hts gX7_scaled_X7_reported rfl rfl rfl hdX7_reported ⟨Nat.le_of_ble_eq_true rfl, Nat.le_of_ble_eq_true rfl⟩) hK hP hD hS hA [0, 1, 2, 3, 15] rfl (by decide) (fun _ => rfl) rfl rfl rfl rfl hl.1 rfl (Nat.le_of_ble_eq_true rfl) ⟨Nat.le_of_ble_eq_true rfl, Nat.le_of_ble_eq_true rfl⟩ dX7_scaled_11 (fun r7 u H locs hw hP hD hS => ?_)
  obtain ⟨y8, y9, y10⟩ := u
  try dsimp only at hw
  have hP : va_P (dC, dI) vwCl (wdX7_scaled cI cJ cT cII cJJ ad im gn y2 y3 y4 y5 y6 gw y8 y9 y10) H := hP
  have hD : va_D A (wdX7_scaled cI cJ cT cII cJJ ad im gn y2 y3 y4 y5 y6 gw y8 y9 y10) := hD
  exact W.iret (v := r7) hx hb hr (fun t ht hW => ⟨⟨r7, (y2, y3, y4, y5, y6, y8, y9, y10), rfl, hw, by show va_P _ _ _ t.heap; rw [ht]; exact hP⟩, hS.F ht⟩) hS.2.2 dX7_scaled_14
