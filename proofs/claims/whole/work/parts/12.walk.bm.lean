set_option maxHeartbeats 4000000 in
set_option maxRecDepth 100000 in
theorem mX7_size (l : Launch) (dC : Nat → ClassId) (dI : Nat → Nat → Nat) (cI cJ cT cII cJJ : ClassId) (ad : Nat → Nat) (sz : Nat) (im : Int32) (gn : Int32) (gpa : Int32) (gbr : Int32) (gth : Nat → Int32) (gpe : Nat → Int32) (gpr : Nat → Int32) (gw : Nat → Nat → Int32) (gseru : Int32) (gplru : Int32) (gboru : Int32) (a1 : Int32) (Post : Int32 → Int32 → (Nat → Int32) → (Nat → Int32) → (Nat → Int32) → (Nat → Nat → Int32) → Int32 → Int32 → Int32 → Prop) (hw : wpX7_size gn gth gpe gpr gw gseru gplru gboru a1 Post) : Met l yX7_size wsX7_size ({ frames := 3, cells := 0, slots := 0, locals := 65 } : Room) (va_Pc [.ref (ad 0), .int a1] (fun U => U.heap.size = sz ∧ va_P (dC, dI) vwCl (wdX7_size cI cJ cT cII cJJ ad im gn gpa gbr gth gpe gpr gw gseru gplru gboru) U.heap ∧ va_K (dC, dI) vwCl (bw_tys cI cJ cT cII cJJ) U ∧ va_D (fun _ => True) (wdX7_size cI cJ cT cII cJJ ad im gn gpa gbr gth gpe gpr gw gseru gplru gboru))) (va_Qi (fun (r : Int32) (u : Int32 × (Nat → Int32) × (Nat → Int32) × (Nat → Int32) × (Nat → Nat → Int32) × Int32 × Int32 × Int32) => Post r u.1 u.2.1 u.2.2.1 u.2.2.2.1 u.2.2.2.2.1 u.2.2.2.2.2.1 u.2.2.2.2.2.2.1 u.2.2.2.2.2.2.2) (fun (u : Int32 × (Nat → Int32) × (Nat → Int32) × (Nat → Int32) × (Nat → Nat → Int32) × Int32 × Int32 × Int32) t => va_P (dC, dI) vwCl (wdX7_size cI cJ cT cII cJJ ad im u.1 gpa gbr u.2.1 u.2.2.1 u.2.2.2.1 u.2.2.2.2.1 u.2.2.2.2.2.1 u.2.2.2.2.2.2.1 u.2.2.2.2.2.2.2) t.heap) (va_A (wdX7_size cI cJ cT cII cJJ ad im gn gpa gbr gth gpe gpr gw gseru gplru gboru) sz)) 0 0 (va_A (wdX7_size cI cJ cT cII cJJ ad im gn gpa gbr gth gpe gpr gw gseru gplru gboru) sz) := by
  refine Met.ofW (cc := cX7_size) (maxL := 3) (ret := (some .int)) (by decide) rfl ?_
  intro p e s m args below meth c s₁ B hml hv
  obtain ⟨rfl, hsz, hP, hK, hD0⟩ := hv
  have hx := B.exec
  have hb := B.bytes
  have hr := B.returns
  have hts := atoms_spec (ws := wsX7_size) B.pre
  have hown : s.vm.findClass RX7 = some m.cls := findClass_of_methodNamed B.named
  have hlocks := B.notSynchronized
  subst hsz
  have hD := hD0.self (sz := s.heap.size)
  generalize hAe : va_A (wdX7_size cI cJ cT cII cJJ ad im gn gpa gbr gth gpe gpr gw gseru gplru gboru) s.heap.size = A at hD ⊢
  have hA : ∀ q : Nat, s.heap.size ≤ q → A q := fun q h => by rw [← hAe]; exact Or.inr h
  have hS : va_S A s.heap s.heap [] := va_S.rf
  have hl := lv_entry ([.ref (ad 0), .int a1]) (n := 3) (Nat.le_of_ble_eq_true rfl)
  rw [lg_entry_eq]
  generalize (lg_sl ([.ref (ad 0), .int a1]) ++ List.replicate (3 - (lg_sl ([.ref (ad 0), .int a1])).length) Slot.unset).toArray = ls at hl ⊢
  have hl : lv_has ls 3 [(0, .ref (ad 0)), (1, .int a1)] := hl
  unfold wpX7_size at hw
  refine lv_iload_n hx hb dX7_size_0 rfl (lv_at hl 1 rfl) ?_
  refine lv_iconst (v := 1) hx hb dX7_size_1 (by decide) ?_
  refine lv_icmp_lt (tgt := 11) hx hb dX7_size_2 (by decide) (fun c1 => ?_) (fun c1 => ?_)
  · have hw := hw.1 c1
    refine lv_bipush (v := (-2)) hx hb dX7_size_11 (by decide) ?_
    exact W.iret (v := (-2)) hx hb hr (fun t ht hW => ⟨⟨(-2), (gn, gth, gpe, gpr, gw, gseru, gplru, gboru), rfl, hw, by show va_P _ _ _ t.heap; rw [ht]; exact hP⟩, hS.F ht⟩) hS.2.2 dX7_size_13
  · have hw := hw.2 c1
    refine lv_iload_n hx hb dX7_size_5 rfl (lv_at hl 1 rfl) ?_
    refine lv_bipush (v := 8) hx hb dX7_size_6 (by decide) ?_
    refine lv_icmp_le (tgt := 14) hx hb dX7_size_8 (by decide) (fun c2 => ?_) (fun c2 => ?_)
    · have hw := hw.1 c2
      refine lv_aload_n hx hb dX7_size_14 rfl (lv_at hl 0 rfl) ?_
      refine va_get (D := (dC, dI)) (ci := 7) (v := .ref (ad 1)) (C := RX7) (T := TX7) (N := 8) hx hb hts (fun w h => List.mem_cons_of_mem _ (List.mem_append_left _ (List.mem_append_left _ (List.mem_append_left _ (List.mem_append_right _ h))))) hown hK hP 0 rfl rfl 0 (by decide) (hts (.fieldLink RX7 12 "BidMarket" "held" "LBidMarket$Holdings;") (List.mem_of_getElem? (i := 1) rfl)) (fun _ h9 => h9) rfl dX7_size_15 ?_
      refine va_get (D := (dC, dI)) (ci := 1) (v := .ref (ad 2)) (C := RX1) (T := TX1) (N := 4) hx hb hts (fun w h => List.mem_cons_of_mem _ (List.mem_append_left _ (List.mem_append_left _ (List.mem_append_right _ h)))) hown hK hP 1 rfl rfl 0 (by decide) (hts (.fieldLink RX7 60 "BidMarket$Holdings" "market" "LBidMarket$Market;") (List.mem_of_getElem? (i := 2) rfl)) (fun _ h9 => h9) rfl dX7_size_18 ?_
      refine va_get (D := (dC, dI)) (ci := 2) (v := .int gn) (C := RX2) (T := TX2) (N := 7) hx hb hts (fun w h => List.mem_cons_of_mem _ (List.mem_append_left _ (List.mem_append_right _ h))) hown hK hP 2 rfl rfl 4 (by decide) (hts (.fieldLink RX7 63 "BidMarket$Market" "n" "I") (List.mem_of_getElem? (i := 3) rfl)) (fun _ h9 => h9) rfl dX7_size_21 ?_
      refine lv_istore_n (lv' := [(2, .int gn), (0, .ref (ad 0)), (1, .int a1)]) hx hb dX7_size_24 rfl hl (by decide) rfl (fun ls hl => ?_)
      refine lv_aload_n hx hb dX7_size_25 rfl (lv_at hl 1 rfl) ?_
      refine va_get (D := (dC, dI)) (ci := 7) (v := .ref (ad 1)) (C := RX7) (T := TX7) (N := 8) hx hb hts (fun w h => List.mem_cons_of_mem _ (List.mem_append_left _ (List.mem_append_left _ (List.mem_append_left _ (List.mem_append_right _ h))))) hown hK hP 0 rfl rfl 0 (by decide) (hts (.fieldLink RX7 12 "BidMarket" "held" "LBidMarket$Holdings;") (List.mem_of_getElem? (i := 1) rfl)) (fun _ h9 => h9) rfl dX7_size_26 ?_
      refine va_get (D := (dC, dI)) (ci := 1) (v := .ref (ad 2)) (C := RX1) (T := TX1) (N := 4) hx hb hts (fun w h => List.mem_cons_of_mem _ (List.mem_append_left _ (List.mem_append_left _ (List.mem_append_right _ h)))) hown hK hP 1 rfl rfl 0 (by decide) (hts (.fieldLink RX7 60 "BidMarket$Holdings" "market" "LBidMarket$Market;") (List.mem_of_getElem? (i := 2) rfl)) (fun _ h9 => h9) rfl dX7_size_29 ?_
      refine lv_iload_n hx hb dX7_size_32 rfl (lv_at hl 2 rfl) ?_
      refine bw_wvv (wc := (wdX2_becomeEmpty cI cJ cT cII cJJ (fun k => ad (k + 2)) gn gpa gbr gth gpe gpr gw)) (w1 := (fun (u : Int32 × (Nat → Int32) × (Nat → Int32) × (Nat → Int32) × (Nat → Nat → Int32)) => wdX2_becomeEmpty cI cJ cT cII cJJ (fun k => ad (k + 2)) u.1 gpa gbr u.2.1 u.2.2.1 u.2.2.2.1 u.2.2.2.2)) (As := [.int a1]) (rest := []) ⟨hx, hb, hml, hown, hts⟩ (mX2_becomeEmpty l dC dI cI cJ cT cII cJJ (fun k => ad (k + 2)) _ gn gpa gbr gth gpe gpr gw a1 _ hw) (cwV 1 hts gX7_size_X2_becomeEmpty rfl rfl rfl hdX2_becomeEmpty ⟨Nat.le_of_ble_eq_true rfl, Nat.le_of_ble_eq_true rfl⟩) hK hP hD hS hA [2, 3, 4, 5, 6, 7, 8, 9, 10, 11, 12, 13, 14] rfl (by decide) (fun _ => rfl) rfl rfl rfl rfl hl.1 rfl (Nat.le_of_ble_eq_true rfl) ⟨Nat.le_of_ble_eq_true rfl, Nat.le_of_ble_eq_true rfl⟩ dX7_size_33 (fun u H locs hw hP hD hS => ?_)
      obtain ⟨y3, y4, y5, y6, y7⟩ := u
      try dsimp only at hw
      have hP : va_P (dC, dI) vwCl (wdX7_size cI cJ cT cII cJJ ad im y3 gpa gbr y4 y5 y6 y7 gseru gplru gboru) H := hP
      have hD : va_D A (wdX7_size cI cJ cT cII cJJ ad im y3 gpa gbr y4 y5 y6 y7 gseru gplru gboru) := hD
      refine lv_aload_n hx hb dX7_size_36 rfl (lv_at hl 1 rfl) ?_
      refine va_get (D := (dC, dI)) (ci := 7) (v := .ref (ad 1)) (C := RX7) (T := TX7) (N := 8) hx hb hts (fun w h => List.mem_cons_of_mem _ (List.mem_append_left _ (List.mem_append_left _ (List.mem_append_left _ (List.mem_append_right _ h))))) hown hK hP 0 rfl rfl 0 (by decide) (hts (.fieldLink RX7 12 "BidMarket" "held" "LBidMarket$Holdings;") (List.mem_of_getElem? (i := 1) rfl)) (fun _ h9 => h9) rfl dX7_size_37 ?_
      refine va_get (D := (dC, dI)) (ci := 1) (v := .ref (ad 15)) (C := RX1) (T := TX1) (N := 4) hx hb hts (fun w h => List.mem_cons_of_mem _ (List.mem_append_left _ (List.mem_append_left _ (List.mem_append_right _ h)))) hown hK hP 1 rfl rfl 1 (by decide) (hts (.fieldLink RX7 71 "BidMarket$Holdings" "seen" "LBidMarket$Rows;") (List.mem_of_getElem? (i := 4) rfl)) (fun _ h9 => h9) rfl dX7_size_40 ?_
      refine bw_wvi (wc := (wdX4_empty cI cJ cT cII cJJ (fun k => ad (k + 15)) gseru)) (w1 := (fun (u : Int32) => wdX4_empty cI cJ cT cII cJJ (fun k => ad (k + 15)) u)) (As := []) (rest := []) ⟨hx, hb, hml, hown, hts⟩ (mX4_empty l dC dI cI cJ cT cII cJJ (fun k => ad (k + 15)) _ gseru _ hw) (cwV 0 hts gX7_size_X4_empty rfl rfl rfl hdX4_empty ⟨Nat.le_of_ble_eq_true rfl, Nat.le_of_ble_eq_true rfl⟩) hK hP hD hS hA [15] rfl (by decide) (fun _ => rfl) rfl rfl rfl rfl hl.1 rfl (Nat.le_of_ble_eq_true rfl) ⟨Nat.le_of_ble_eq_true rfl, Nat.le_of_ble_eq_true rfl⟩ dX7_size_43 (fun r8 u H locs hw hP hD hS => ?_)
      obtain ⟨y9, rfl⟩ : ∃ z, z = u := ⟨_, rfl⟩
      try dsimp only at hw
      have hP : va_P (dC, dI) vwCl (wdX7_size cI cJ cT cII cJJ ad im y3 gpa gbr y4 y5 y6 y7 y9 gplru gboru) H := hP
      have hD : va_D A (wdX7_size cI cJ cT cII cJJ ad im y3 gpa gbr y4 y5 y6 y7 y9 gplru gboru) := hD
      refine lv_pop hx hb dX7_size_46 rfl ?_
      refine lv_aload_n hx hb dX7_size_47 rfl (lv_at hl 1 rfl) ?_
      refine va_get (D := (dC, dI)) (ci := 7) (v := .ref (ad 1)) (C := RX7) (T := TX7) (N := 8) hx hb hts (fun w h => List.mem_cons_of_mem _ (List.mem_append_left _ (List.mem_append_left _ (List.mem_append_left _ (List.mem_append_right _ h))))) hown hK hP 0 rfl rfl 0 (by decide) (hts (.fieldLink RX7 12 "BidMarket" "held" "LBidMarket$Holdings;") (List.mem_of_getElem? (i := 1) rfl)) (fun _ h9 => h9) rfl dX7_size_48 ?_
      refine va_get (D := (dC, dI)) (ci := 1) (v := .ref (ad 18)) (C := RX1) (T := TX1) (N := 4) hx hb hts (fun w h => List.mem_cons_of_mem _ (List.mem_append_left _ (List.mem_append_left _ (List.mem_append_right _ h)))) hown hK hP 1 rfl rfl 2 (by decide) (hts (.fieldLink RX7 81 "BidMarket$Holdings" "plan" "LBidMarket$Rows;") (List.mem_of_getElem? (i := 5) rfl)) (fun _ h9 => h9) rfl dX7_size_51 ?_
      refine bw_wvi (wc := (wdX4_empty cI cJ cT cII cJJ (fun k => ad (k + 18)) gplru)) (w1 := (fun (u : Int32) => wdX4_empty cI cJ cT cII cJJ (fun k => ad (k + 18)) u)) (As := []) (rest := []) ⟨hx, hb, hml, hown, hts⟩ (mX4_empty l dC dI cI cJ cT cII cJJ (fun k => ad (k + 18)) _ gplru _ hw) (cwV 0 hts gX7_size_X4_empty rfl rfl rfl hdX4_empty ⟨Nat.le_of_ble_eq_true rfl, Nat.le_of_ble_eq_true rfl⟩) hK hP hD hS hA [16] rfl (by decide) (fun _ => rfl) rfl rfl rfl rfl hl.1 rfl (Nat.le_of_ble_eq_true rfl) ⟨Nat.le_of_ble_eq_true rfl, Nat.le_of_ble_eq_true rfl⟩ dX7_size_54 (fun r10 u H locs hw hP hD hS => ?_)
      obtain ⟨y11, rfl⟩ : ∃ z, z = u := ⟨_, rfl⟩
      try dsimp only at hw
      have hP : va_P (dC, dI) vwCl (wdX7_size cI cJ cT cII cJJ ad im y3 gpa gbr y4 y5 y6 y7 y9 y11 gboru) H := hP
      have hD : va_D A (wdX7_size cI cJ cT cII cJJ ad im y3 gpa gbr y4 y5 y6 y7 y9 y11 gboru) := hD
      refine lv_pop hx hb dX7_size_57 rfl ?_
      refine lv_aload_n hx hb dX7_size_58 rfl (lv_at hl 1 rfl) ?_
      refine va_get (D := (dC, dI)) (ci := 7) (v := .ref (ad 1)) (C := RX7) (T := TX7) (N := 8) hx hb hts (fun w h => List.mem_cons_of_mem _ (List.mem_append_left _ (List.mem_append_left _ (List.mem_append_left _ (List.mem_append_right _ h))))) hown hK hP 0 rfl rfl 0 (by decide) (hts (.fieldLink RX7 12 "BidMarket" "held" "LBidMarket$Holdings;") (List.mem_of_getElem? (i := 1) rfl)) (fun _ h9 => h9) rfl dX7_size_59 ?_
      refine va_get (D := (dC, dI)) (ci := 1) (v := .ref (ad 21)) (C := RX1) (T := TX1) (N := 4) hx hb hts (fun w h => List.mem_cons_of_mem _ (List.mem_append_left _ (List.mem_append_left _ (List.mem_append_right _ h)))) hown hK hP 1 rfl rfl 3 (by decide) (hts (.fieldLink RX7 84 "BidMarket$Holdings" "book" "LBidMarket$Rows;") (List.mem_of_getElem? (i := 6) rfl)) (fun _ h9 => h9) rfl dX7_size_62 ?_
      refine bw_wvi (wc := (wdX4_empty cI cJ cT cII cJJ (fun k => ad (k + 21)) gboru)) (w1 := (fun (u : Int32) => wdX4_empty cI cJ cT cII cJJ (fun k => ad (k + 21)) u)) (As := []) (rest := []) ⟨hx, hb, hml, hown, hts⟩ (mX4_empty l dC dI cI cJ cT cII cJJ (fun k => ad (k + 21)) _ gboru _ hw) (cwV 0 hts gX7_size_X4_empty rfl rfl rfl hdX4_empty ⟨Nat.le_of_ble_eq_true rfl, Nat.le_of_ble_eq_true rfl⟩) hK hP hD hS hA [17] rfl (by decide) (fun _ => rfl) rfl rfl rfl rfl hl.1 rfl (Nat.le_of_ble_eq_true rfl) ⟨Nat.le_of_ble_eq_true rfl, Nat.le_of_ble_eq_true rfl⟩ dX7_size_65 (fun r12 u H locs hw hP hD hS => ?_)
      obtain ⟨y13, rfl⟩ : ∃ z, z = u := ⟨_, rfl⟩
      try dsimp only at hw
      have hP : va_P (dC, dI) vwCl (wdX7_size cI cJ cT cII cJJ ad im y3 gpa gbr y4 y5 y6 y7 y9 y11 y13) H := hP
      have hD : va_D A (wdX7_size cI cJ cT cII cJJ ad im y3 gpa gbr y4 y5 y6 y7 y9 y11 y13) := hD
      refine lv_pop hx hb dX7_size_68 rfl ?_
      refine lv_iload_n hx hb dX7_size_69 rfl (lv_at hl 0 rfl) ?_
      exact W.iret (v := gn) hx hb hr (fun t ht hW => ⟨⟨gn, (y3, y4, y5, y6, y7, y9, y11, y13), rfl, hw, by show va_P _ _ _ t.heap; rw [ht]; exact hP⟩, hS.F ht⟩) hS.2.2 dX7_size_70
    · have hw := hw.2 c2
      refine lv_bipush (v := (-2)) hx hb dX7_size_11 (by decide) ?_
      exact W.iret (v := (-2)) hx hb hr (fun t ht hW => ⟨⟨(-2), (gn, gth, gpe, gpr, gw, gseru, gplru, gboru), rfl, hw, by show va_P _ _ _ t.heap; rw [ht]; exact hP⟩, hS.F ht⟩) hS.2.2 dX7_size_13
set_option maxHeartbeats 4000000 in
set_option maxRecDepth 100000 in
theorem mX7_shownWorth (l : Launch) (dC : Nat → ClassId) (dI : Nat → Nat → Nat) (cI cJ cT cII cJJ : ClassId) (ad : Nat → Nat) (im : Int32) (gn : Int32) (gpa : Int32) (gbr : Int32) (gw : Nat → Nat → Int32) (a1 : Int32) (a2 : Int32) (Post : Int32 → Prop) (hw : wpX7_shownWorth gw a1 a2 Post) : Met l yX7_shownWorth wsX7_shownWorth ({ frames := 1, cells := 0, slots := 0, locals := 22 } : Room) (va_Pc [.ref (ad 0), .int a1, .int a2] (fun U => va_P (dC, dI) vwCl (wdX7_shownWorth cI cJ cT cII cJJ ad im gn gpa gbr gw) U.heap ∧ va_K (dC, dI) vwCl (bw_tys cI cJ cT cII cJJ) U)) (vp_Si Post) 0 0 (fun _ => False) := by
  refine Met.ofW (cc := cX7_shownWorth) (maxL := 3) (ret := (some .int)) (by decide) rfl ?_
  intro p e s m args below meth c s₁ B hml hv
  obtain ⟨rfl, hP, hK⟩ := hv
  have hx := B.exec
  have hb := B.bytes
  have hr := B.returns
  have hts := atoms_spec (ws := wsX7_shownWorth) B.pre
  have hown : s.vm.findClass RX7 = some m.cls := findClass_of_methodNamed B.named
  have hlocks := B.notSynchronized
  have hl := lv_entry ([.ref (ad 0), .int a1, .int a2]) (n := 3) (Nat.le_of_ble_eq_true rfl)
  rw [lg_entry_eq]
  generalize (lg_sl ([.ref (ad 0), .int a1, .int a2]) ++ List.replicate (3 - (lg_sl ([.ref (ad 0), .int a1, .int a2])).length) Slot.unset).toArray = ls at hl ⊢
  have hl : lv_has ls 3 [(0, .ref (ad 0)), (1, .int a1), (2, .int a2)] := hl
  unfold wpX7_shownWorth at hw
  refine lv_aload_n hx hb dX7_shownWorth_0 rfl (lv_at hl 0 rfl) ?_
  refine va_get (D := (dC, dI)) (ci := 7) (v := .ref (ad 1)) (C := RX7) (T := TX7) (N := 8) hx hb hts (fun w h => List.mem_cons_of_mem _ (List.mem_append_left _ (List.mem_append_left _ (List.mem_append_right _ h)))) hown hK hP 0 rfl rfl 0 (by decide) (hts (.fieldLink RX7 12 "BidMarket" "held" "LBidMarket$Holdings;") (List.mem_of_getElem? (i := 1) rfl)) (fun _ h9 => h9) rfl dX7_shownWorth_1 ?_
  refine va_get (D := (dC, dI)) (ci := 1) (v := .ref (ad 2)) (C := RX1) (T := TX1) (N := 4) hx hb hts (fun w h => List.mem_cons_of_mem _ (List.mem_append_left _ (List.mem_append_right _ h))) hown hK hP 1 rfl rfl 0 (by decide) (hts (.fieldLink RX7 60 "BidMarket$Holdings" "market" "LBidMarket$Market;") (List.mem_of_getElem? (i := 2) rfl)) (fun _ h9 => h9) rfl dX7_shownWorth_4 ?_
  refine lv_iload_n hx hb dX7_shownWorth_7 rfl (lv_at hl 1 rfl) ?_
  refine lv_iload_n hx hb dX7_shownWorth_8 rfl (lv_at hl 2 rfl) ?_
  refine bw_pvi (wc := (wdX2_allows cI cJ cT cII cJJ (fun k => ad (k + 2)) gn gpa gbr gw)) (As := [.int a1, .int a2]) (rest := []) ⟨hx, hb, hml, hown, hts⟩ (mX2_allows l dC dI cI cJ cT cII cJJ (fun k => ad (k + 2)) gn gpa gbr gw a1 a2 _ hw) (cwV 2 hts gX7_shownWorth_X2_allows rfl rfl rfl hdX2_allows ⟨Nat.le_of_ble_eq_true rfl, Nat.le_of_ble_eq_true rfl⟩) hK hP [2, 3, 4, 5, 6, 7, 8, 9, 10, 11] rfl rfl rfl rfl rfl hl.1 rfl (Nat.le_of_ble_eq_true rfl) ⟨Nat.le_of_ble_eq_true rfl, Nat.le_of_ble_eq_true rfl⟩ dX7_shownWorth_9 (fun r1 hw => ?_)
  refine lv_if_eq (tgt := 32) hx hb dX7_shownWorth_12 (by decide) (fun c2 => ?_) (fun c2 => ?_)
  · have hw := hw.1 c2
    refine lv_bipush (v := (-5)) hx hb dX7_shownWorth_32 (by decide) ?_
    exact W.iret (v := (-5)) hx hb hr (fun t ht hW => ⟨(-5), rfl, hw, ht⟩) (fun _ h => by cases h) dX7_shownWorth_34
  · have hw := hw.2 c2
    refine lv_aload_n hx hb dX7_shownWorth_15 rfl (lv_at hl 0 rfl) ?_
    refine va_get (D := (dC, dI)) (ci := 7) (v := .ref (ad 1)) (C := RX7) (T := TX7) (N := 8) hx hb hts (fun w h => List.mem_cons_of_mem _ (List.mem_append_left _ (List.mem_append_left _ (List.mem_append_right _ h)))) hown hK hP 0 rfl rfl 0 (by decide) (hts (.fieldLink RX7 12 "BidMarket" "held" "LBidMarket$Holdings;") (List.mem_of_getElem? (i := 1) rfl)) (fun _ h9 => h9) rfl dX7_shownWorth_16 ?_
    refine va_get (D := (dC, dI)) (ci := 1) (v := .ref (ad 2)) (C := RX1) (T := TX1) (N := 4) hx hb hts (fun w h => List.mem_cons_of_mem _ (List.mem_append_left _ (List.mem_append_right _ h))) hown hK hP 1 rfl rfl 0 (by decide) (hts (.fieldLink RX7 60 "BidMarket$Holdings" "market" "LBidMarket$Market;") (List.mem_of_getElem? (i := 2) rfl)) (fun _ h9 => h9) rfl dX7_shownWorth_19 ?_
    refine va_get (D := (dC, dI)) (ci := 2) (v := .ref (ad 6)) (C := RX2) (T := TX2) (N := 7) hx hb hts (fun w h => List.mem_cons_of_mem _ (List.mem_append_right _ h)) hown hK hP 2 rfl rfl 0 (by decide) (hts (.fieldLink RX7 292 "BidMarket$Market" "worths" "[[I") (List.mem_of_getElem? (i := 3) rfl)) (fun _ h9 => h9) rfl dX7_shownWorth_22 ?_
    refine lv_iload_n hx hb dX7_shownWorth_25 rfl (lv_at hl 1 rfl) ?_
    have h3 := hw.1
    have hw := hw.2
    have q4 := bw_lt h3
    refine bw_aald (g := fun i => ad (i + 7)) (b := ad (a1.toNatClampNeg + 7)) hx hb hK hP 3 3 rfl rfl rfl (fun k h => if_pos h) h3 rfl dX7_shownWorth_26 ?_
    refine lv_iload_n hx hb dX7_shownWorth_27 rfl (lv_at hl 2 rfl) ?_
    have h5 := hw.1
    have hw := hw.2
    have g6 : ∀ k, k < 8 → ((wdX7_shownWorth cI cJ cT cII cJJ ad im gn gpa gbr gw))[4 + k]? = some (ad (k + 7), .inl (cI, 8, .inl (gw k))) := bw_all8 rfl rfl rfl rfl rfl rfl rfl rfl
    refine va_iald hx hb hK hP (4 + a1.toNatClampNeg) 0 (g6 _ q4) rfl h5 dX7_shownWorth_28 ?_
    refine lv_goto (tgt := 34) hx hb dX7_shownWorth_29 (by decide) ?_
    exact W.iret (v := ((gw a1.toNatClampNeg)) a2.toNatClampNeg) hx hb hr (fun t ht hW => ⟨((gw a1.toNatClampNeg)) a2.toNatClampNeg, rfl, hw, ht⟩) (fun _ h => by cases h) dX7_shownWorth_34
set_option maxHeartbeats 4000000 in
set_option maxRecDepth 100000 in
theorem mX7_worth (l : Launch) (dC : Nat → ClassId) (dI : Nat → Nat → Nat) (cI cJ cT cII cJJ : ClassId) (ad : Nat → Nat) (sz : Nat) (im : Int32) (gn : Int32) (gpa : Int32) (gbr : Int32) (gth : Nat → Int32) (gpe : Nat → Int32) (gw : Nat → Nat → Int32) (a1 : Int32) (a2 : Int32) (a3 : Int32) (Post : Int32 → (Nat → Int32) → (Nat → Int32) → (Nat → Nat → Int32) → Prop) (hw : wpX7_worth gn gth gpe gw a1 a2 a3 Post) : Met l yX7_worth wsX7_worth ({ frames := 2, cells := 0, slots := 0, locals := 45 } : Room) (va_Pc [.ref (ad 0), .int a1, .int a2, .int a3] (fun U => U.heap.size = sz ∧ va_P (dC, dI) vwCl (wdX7_worth cI cJ cT cII cJJ ad im gn gpa gbr gth gpe gw) U.heap ∧ va_K (dC, dI) vwCl (bw_tys cI cJ cT cII cJJ) U ∧ va_D (fun _ => True) (wdX7_worth cI cJ cT cII cJJ ad im gn gpa gbr gth gpe gw))) (va_Qi (fun (r : Int32) (u : (Nat → Int32) × (Nat → Int32) × (Nat → Nat → Int32)) => Post r u.1 u.2.1 u.2.2) (fun (u : (Nat → Int32) × (Nat → Int32) × (Nat → Nat → Int32)) t => va_P (dC, dI) vwCl (wdX7_worth cI cJ cT cII cJJ ad im gn gpa gbr u.1 u.2.1 u.2.2) t.heap) (va_A (wdX7_worth cI cJ cT cII cJJ ad im gn gpa gbr gth gpe gw) sz)) 0 0 (va_A (wdX7_worth cI cJ cT cII cJJ ad im gn gpa gbr gth gpe gw) sz) := by
  refine Met.ofW (cc := cX7_worth) (maxL := 5) (ret := (some .int)) (by decide) rfl ?_
  intro p e s m args below meth c s₁ B hml hv
  obtain ⟨rfl, hsz, hP, hK, hD0⟩ := hv
  have hx := B.exec
  have hb := B.bytes
  have hr := B.returns
  have hts := atoms_spec (ws := wsX7_worth) B.pre
  have hown : s.vm.findClass RX7 = some m.cls := findClass_of_methodNamed B.named
  have hlocks := B.notSynchronized
  subst hsz
  have hD := hD0.self (sz := s.heap.size)
  generalize hAe : va_A (wdX7_worth cI cJ cT cII cJJ ad im gn gpa gbr gth gpe gw) s.heap.size = A at hD ⊢
  have hA : ∀ q : Nat, s.heap.size ≤ q → A q := fun q h => by rw [← hAe]; exact Or.inr h
  have hS : va_S A s.heap s.heap [] := va_S.rf
  have hl := lv_entry ([.ref (ad 0), .int a1, .int a2, .int a3]) (n := 5) (Nat.le_of_ble_eq_true rfl)
  rw [lg_entry_eq]
  generalize (lg_sl ([.ref (ad 0), .int a1, .int a2, .int a3]) ++ List.replicate (5 - (lg_sl ([.ref (ad 0), .int a1, .int a2, .int a3])).length) Slot.unset).toArray = ls at hl ⊢
  have hl : lv_has ls 5 [(0, .ref (ad 0)), (1, .int a1), (2, .int a2), (3, .int a3)] := hl
  unfold wpX7_worth at hw
  refine lv_aload_n hx hb dX7_worth_0 rfl (lv_at hl 0 rfl) ?_
  refine va_get (D := (dC, dI)) (ci := 7) (v := .ref (ad 1)) (C := RX7) (T := TX7) (N := 8) hx hb hts (fun w h => List.mem_cons_of_mem _ (List.mem_append_left _ (List.mem_append_left _ (List.mem_append_right _ h)))) hown hK hP 0 rfl rfl 0 (by decide) (hts (.fieldLink RX7 12 "BidMarket" "held" "LBidMarket$Holdings;") (List.mem_of_getElem? (i := 1) rfl)) (fun _ h9 => h9) rfl dX7_worth_1 ?_
  refine va_get (D := (dC, dI)) (ci := 1) (v := .ref (ad 2)) (C := RX1) (T := TX1) (N := 4) hx hb hts (fun w h => List.mem_cons_of_mem _ (List.mem_append_left _ (List.mem_append_right _ h))) hown hK hP 1 rfl rfl 0 (by decide) (hts (.fieldLink RX7 60 "BidMarket$Holdings" "market" "LBidMarket$Market;") (List.mem_of_getElem? (i := 2) rfl)) (fun _ h9 => h9) rfl dX7_worth_4 ?_
  refine lv_iload_n hx hb dX7_worth_7 rfl (lv_at hl 1 rfl) ?_
  refine bw_pvi (wc := (wdX2_has cI cJ cT cII cJJ (fun k => ad (k + 2)) gn gpa gbr)) (As := [.int a1]) (rest := []) ⟨hx, hb, hml, hown, hts⟩ (mX2_has l dC dI cI cJ cT cII cJJ (fun k => ad (k + 2)) gn gpa gbr a1 _ hw) (cwV 1 hts gX7_worth_X2_has rfl rfl rfl hdX2_has ⟨Nat.le_of_ble_eq_true rfl, Nat.le_of_ble_eq_true rfl⟩) hK hP [2] rfl rfl rfl rfl rfl hl.1 rfl (Nat.le_of_ble_eq_true rfl) ⟨Nat.le_of_ble_eq_true rfl, Nat.le_of_ble_eq_true rfl⟩ dX7_worth_8 (fun r1 hw => ?_)
  refine lv_if_eq (tgt := 28) hx hb dX7_worth_11 (by decide) (fun c2 => ?_) (fun c2 => ?_)
  · have hw := hw.1 c2
    refine lv_iconst (v := (-1)) hx hb dX7_worth_28 (by decide) ?_
    exact W.iret (v := (-1)) hx hb hr (fun t ht hW => ⟨⟨(-1), (gth, gpe, gw), rfl, hw, by show va_P _ _ _ t.heap; rw [ht]; exact hP⟩, hS.F ht⟩) hS.2.2 dX7_worth_29
  · have hw := hw.2 c2
    refine lv_aload_n hx hb dX7_worth_14 rfl (lv_at hl 0 rfl) ?_
    refine va_get (D := (dC, dI)) (ci := 7) (v := .ref (ad 1)) (C := RX7) (T := TX7) (N := 8) hx hb hts (fun w h => List.mem_cons_of_mem _ (List.mem_append_left _ (List.mem_append_left _ (List.mem_append_right _ h)))) hown hK hP 0 rfl rfl 0 (by decide) (hts (.fieldLink RX7 12 "BidMarket" "held" "LBidMarket$Holdings;") (List.mem_of_getElem? (i := 1) rfl)) (fun _ h9 => h9) rfl dX7_worth_15 ?_
    refine va_get (D := (dC, dI)) (ci := 1) (v := .ref (ad 2)) (C := RX1) (T := TX1) (N := 4) hx hb hts (fun w h => List.mem_cons_of_mem _ (List.mem_append_left _ (List.mem_append_right _ h))) hown hK hP 1 rfl rfl 0 (by decide) (hts (.fieldLink RX7 60 "BidMarket$Holdings" "market" "LBidMarket$Market;") (List.mem_of_getElem? (i := 2) rfl)) (fun _ h9 => h9) rfl dX7_worth_18 ?_
    refine lv_iload_n hx hb dX7_worth_21 rfl (lv_at hl 2 rfl) ?_
    refine bw_pvi (wc := (wdX2_has cI cJ cT cII cJJ (fun k => ad (k + 2)) gn gpa gbr)) (As := [.int a2]) (rest := []) ⟨hx, hb, hml, hown, hts⟩ (mX2_has l dC dI cI cJ cT cII cJJ (fun k => ad (k + 2)) gn gpa gbr a2 _ hw) (cwV 1 hts gX7_worth_X2_has rfl rfl rfl hdX2_has ⟨Nat.le_of_ble_eq_true rfl, Nat.le_of_ble_eq_true rfl⟩) hK hP [2] rfl rfl rfl rfl rfl hl.1 rfl (Nat.le_of_ble_eq_true rfl) ⟨Nat.le_of_ble_eq_true rfl, Nat.le_of_ble_eq_true rfl⟩ dX7_worth_22 (fun r3 hw => ?_)
    refine lv_if_ne (tgt := 30) hx hb dX7_worth_25 (by decide) (fun c4 => ?_) (fun c4 => ?_)
    · have hw := hw.1 c4
      refine lv_iload_n hx hb dX7_worth_30 rfl (lv_at hl 3 rfl) ?_
      refine lv_iconst (v := (-1)) hx hb dX7_worth_31 (by decide) ?_
      refine lv_icmp_lt (tgt := 41) hx hb dX7_worth_32 (by decide) (fun c5 => ?_) (fun c5 => ?_)
      · have hw := hw.1 c5
        refine lv_bipush (v := (-2)) hx hb dX7_worth_41 (by decide) ?_
        exact W.iret (v := (-2)) hx hb hr (fun t ht hW => ⟨⟨(-2), (gth, gpe, gw), rfl, hw, by show va_P _ _ _ t.heap; rw [ht]; exact hP⟩, hS.F ht⟩) hS.2.2 dX7_worth_43
      · have hw := hw.2 c5
        refine lv_iload_n hx hb dX7_worth_35 rfl (lv_at hl 3 rfl) ?_
        refine lv_bipush (v := 99) hx hb dX7_worth_36 (by decide) ?_
        refine lv_icmp_le (tgt := 44) hx hb dX7_worth_38 (by decide) (fun c6 => ?_) (fun c6 => ?_)
        · have hw := hw.1 c6
          refine lv_aload_n hx hb dX7_worth_44 rfl (lv_at hl 0 rfl) ?_
          refine lv_iload_n hx hb dX7_worth_45 rfl (lv_at hl 1 rfl) ?_
          refine lv_iload_n hx hb dX7_worth_46 rfl (lv_at hl 2 rfl) ?_
          refine bw_pvi (wc := (wdX7_shownWorth cI cJ cT cII cJJ ad im gn gpa gbr gw)) (As := [.int a1, .int a2]) (rest := []) ⟨hx, hb, hml, hown, hts⟩ (mX7_shownWorth l dC dI cI cJ cT cII cJJ ad im gn gpa gbr gw a1 a2 _ hw) (cwV 2 hts gX7_worth_X7_shownWorth rfl rfl rfl hdX7_shownWorth ⟨Nat.le_of_ble_eq_true rfl, Nat.le_of_ble_eq_true rfl⟩) hK hP [0, 1, 2, 5, 6, 7, 8, 9, 10, 11, 12, 13] rfl rfl rfl rfl rfl hl.1 rfl (Nat.le_of_ble_eq_true rfl) ⟨Nat.le_of_ble_eq_true rfl, Nat.le_of_ble_eq_true rfl⟩ dX7_worth_47 (fun r7 hw => ?_)
          refine lv_istore (lv' := [(4, .int r7), (0, .ref (ad 0)), (1, .int a1), (2, .int a2), (3, .int a3)]) hx hb dX7_worth_50 hl (by decide) rfl (fun ls hl => ?_)
          refine lv_aload_n hx hb dX7_worth_52 rfl (lv_at hl 1 rfl) ?_
          refine va_get (D := (dC, dI)) (ci := 7) (v := .ref (ad 1)) (C := RX7) (T := TX7) (N := 8) hx hb hts (fun w h => List.mem_cons_of_mem _ (List.mem_append_left _ (List.mem_append_left _ (List.mem_append_right _ h)))) hown hK hP 0 rfl rfl 0 (by decide) (hts (.fieldLink RX7 12 "BidMarket" "held" "LBidMarket$Holdings;") (List.mem_of_getElem? (i := 1) rfl)) (fun _ h9 => h9) rfl dX7_worth_53 ?_
          refine va_get (D := (dC, dI)) (ci := 1) (v := .ref (ad 2)) (C := RX1) (T := TX1) (N := 4) hx hb hts (fun w h => List.mem_cons_of_mem _ (List.mem_append_left _ (List.mem_append_right _ h))) hown hK hP 1 rfl rfl 0 (by decide) (hts (.fieldLink RX7 60 "BidMarket$Holdings" "market" "LBidMarket$Market;") (List.mem_of_getElem? (i := 2) rfl)) (fun _ h9 => h9) rfl dX7_worth_56 ?_
          refine lv_iload_n hx hb dX7_worth_59 rfl (lv_at hl 2 rfl) ?_
          refine lv_iload_n hx hb dX7_worth_60 rfl (lv_at hl 3 rfl) ?_
          refine lv_iload_n hx hb dX7_worth_61 rfl (lv_at hl 4 rfl) ?_
          refine bw_wvv (wc := (wdX2_becomeWorth cI cJ cT cII cJJ (fun k => ad (k + 2)) gn gpa gbr gth gpe gw)) (w1 := (fun (u : (Nat → Int32) × (Nat → Int32) × (Nat → Nat → Int32)) => wdX2_becomeWorth cI cJ cT cII cJJ (fun k => ad (k + 2)) gn gpa gbr u.1 u.2.1 u.2.2)) (As := [.int a1, .int a2, .int a3]) (rest := []) ⟨hx, hb, hml, hown, hts⟩ (mX2_becomeWorth l dC dI cI cJ cT cII cJJ (fun k => ad (k + 2)) _ gn gpa gbr gth gpe gw a1 a2 a3 _ hw) (cwV 3 hts gX7_worth_X2_becomeWorth rfl rfl rfl hdX2_becomeWorth ⟨Nat.le_of_ble_eq_true rfl, Nat.le_of_ble_eq_true rfl⟩) hK hP hD hS hA [2, 3, 4, 5, 6, 7, 8, 9, 10, 11, 12, 13] rfl (by decide) (fun _ => rfl) rfl rfl rfl rfl hl.1 rfl (Nat.le_of_ble_eq_true rfl) ⟨Nat.le_of_ble_eq_true rfl, Nat.le_of_ble_eq_true rfl⟩ dX7_worth_62 (fun u H locs hw hP hD hS => ?_)
          obtain ⟨y8, y9, y10⟩ := u
          try dsimp only at hw
          have hP : va_P (dC, dI) vwCl (wdX7_worth cI cJ cT cII cJJ ad im gn gpa gbr y8 y9 y10) H := hP
          have hD : va_D A (wdX7_worth cI cJ cT cII cJJ ad im gn gpa gbr y8 y9 y10) := hD
          refine lv_iload hx hb dX7_worth_65 (lv_at hl 0 rfl) ?_
          exact W.iret (v := r7) hx hb hr (fun t ht hW => ⟨⟨r7, (y8, y9, y10), rfl, hw, by show va_P _ _ _ t.heap; rw [ht]; exact hP⟩, hS.F ht⟩) hS.2.2 dX7_worth_67
        · have hw := hw.2 c6
          refine lv_bipush (v := (-2)) hx hb dX7_worth_41 (by decide) ?_
          exact W.iret (v := (-2)) hx hb hr (fun t ht hW => ⟨⟨(-2), (gth, gpe, gw), rfl, hw, by show va_P _ _ _ t.heap; rw [ht]; exact hP⟩, hS.F ht⟩) hS.2.2 dX7_worth_43
    · have hw := hw.2 c4
      refine lv_iconst (v := (-1)) hx hb dX7_worth_28 (by decide) ?_
      exact W.iret (v := (-1)) hx hb hr (fun t ht hW => ⟨⟨(-1), (gth, gpe, gw), rfl, hw, by show va_P _ _ _ t.heap; rw [ht]; exact hP⟩, hS.F ht⟩) hS.2.2 dX7_worth_29
set_option maxHeartbeats 4000000 in
set_option maxRecDepth 100000 in
theorem mX7_isStep (l : Launch) (dC : Nat → ClassId) (dI : Nat → Nat → Nat) (cI cJ cT cII cJJ : ClassId) (a0 : Int32) (Post : Int32 → Prop) (hw : wpX7_isStep a0 Post) : Met l yX7_isStep wsX7_isStep ({ frames := 0, cells := 0, slots := 0, locals := 0 } : Room) (va_Pc [.int a0] (fun U => va_P (dC, dI) vwCl [] U.heap ∧ va_K (dC, dI) vwCl (bw_tys cI cJ cT cII cJJ) U)) (vp_Si Post) 0 0 (fun _ => False) := by
  refine Met.ofW (cc := cX7_isStep) (maxL := 1) (ret := (some .boolean)) (by decide) rfl ?_
  intro p e s m args below meth c s₁ B hml hv
  obtain ⟨rfl, hP, hK⟩ := hv
  have hx := B.exec
  have hb := B.bytes
  have hr := B.returns
  have hts := atoms_spec (ws := wsX7_isStep) B.pre
  have hown : s.vm.findClass RX7 = some m.cls := findClass_of_methodNamed B.named
  have hlocks := B.notSynchronized
  have hl := lv_entry ([.int a0]) (n := 1) (Nat.le_of_ble_eq_true rfl)
  rw [lg_entry_eq]
  generalize (lg_sl ([.int a0]) ++ List.replicate (1 - (lg_sl ([.int a0])).length) Slot.unset).toArray = ls at hl ⊢
  have hl : lv_has ls 1 [(0, .int a0)] := hl
  unfold wpX7_isStep at hw
  refine lv_iload_n hx hb dX7_isStep_0 rfl (lv_at hl 0 rfl) ?_
  refine lv_iconst (v := 1) hx hb dX7_isStep_1 (by decide) ?_
  refine lv_icmp_lt (tgt := 15) hx hb dX7_isStep_2 (by decide) (fun c1 => ?_) (fun c1 => ?_)
  · have hw := hw.1 c1
    refine lv_iconst (v := 0) hx hb dX7_isStep_15 (by decide) ?_
    exact W.zret (v := 0) hx hb hr rfl (fun t ht hW => ⟨0, rfl, hw, ht⟩) (fun _ h => by cases h) dX7_isStep_16
  · have hw := hw.2 c1
    refine lv_iload_n hx hb dX7_isStep_5 rfl (lv_at hl 0 rfl) ?_
    refine lv_bipush (v := 50) hx hb dX7_isStep_6 (by decide) ?_
    refine lv_icmp_gt (tgt := 15) hx hb dX7_isStep_8 (by decide) (fun c2 => ?_) (fun c2 => ?_)
    · have hw := hw.1 c2
      refine lv_iconst (v := 0) hx hb dX7_isStep_15 (by decide) ?_
      exact W.zret (v := 0) hx hb hr rfl (fun t ht hW => ⟨0, rfl, hw, ht⟩) (fun _ h => by cases h) dX7_isStep_16
    · have hw := hw.2 c2
      refine lv_iconst (v := 1) hx hb dX7_isStep_11 (by decide) ?_
      refine lv_goto (tgt := 16) hx hb dX7_isStep_12 (by decide) ?_
      exact W.zret (v := 1) hx hb hr rfl (fun t ht hW => ⟨1, rfl, hw, ht⟩) (fun _ h => by cases h) dX7_isStep_16
set_option maxHeartbeats 4000000 in
set_option maxRecDepth 100000 in
theorem mX7_step (l : Launch) (dC : Nat → ClassId) (dI : Nat → Nat → Nat) (cI cJ cT cII cJJ : ClassId) (ad : Nat → Nat) (sz : Nat) (im : Int32) (gn : Int32) (gpa : Int32) (gbr : Int32) (a1 : Int32) (Post : Int32 → Int32 → Prop) (hw : wpX7_step gpa a1 Post) : Met l yX7_step wsX7_step ({ frames := 1, cells := 0, slots := 0, locals := 20 } : Room) (va_Pc [.ref (ad 0), .int a1] (fun U => U.heap.size = sz ∧ va_P (dC, dI) vwCl (wdX7_step cI cJ cT cII cJJ ad im gn gpa gbr) U.heap ∧ va_K (dC, dI) vwCl (bw_tys cI cJ cT cII cJJ) U ∧ va_D (fun _ => True) (wdX7_step cI cJ cT cII cJJ ad im gn gpa gbr))) (va_Qi (fun (r : Int32) (u : Int32) => Post r u) (fun (u : Int32) t => va_P (dC, dI) vwCl (wdX7_step cI cJ cT cII cJJ ad im gn u gbr) t.heap) (va_A (wdX7_step cI cJ cT cII cJJ ad im gn gpa gbr) sz)) 0 0 (va_A (wdX7_step cI cJ cT cII cJJ ad im gn gpa gbr) sz) := by
  refine Met.ofW (cc := cX7_step) (maxL := 3) (ret := (some .int)) (by decide) rfl ?_
  intro p e s m args below meth c s₁ B hml hv
  obtain ⟨rfl, hsz, hP, hK, hD0⟩ := hv
  have hx := B.exec
  have hb := B.bytes
  have hr := B.returns
  have hts := atoms_spec (ws := wsX7_step) B.pre
  have hown : s.vm.findClass RX7 = some m.cls := findClass_of_methodNamed B.named
  have hlocks := B.notSynchronized
  subst hsz
  have hD := hD0.self (sz := s.heap.size)
  generalize hAe : va_A (wdX7_step cI cJ cT cII cJJ ad im gn gpa gbr) s.heap.size = A at hD ⊢
  have hA : ∀ q : Nat, s.heap.size ≤ q → A q := fun q h => by rw [← hAe]; exact Or.inr h
  have hS : va_S A s.heap s.heap [] := va_S.rf
  have hl := lv_entry ([.ref (ad 0), .int a1]) (n := 3) (Nat.le_of_ble_eq_true rfl)
  rw [lg_entry_eq]
  generalize (lg_sl ([.ref (ad 0), .int a1]) ++ List.replicate (3 - (lg_sl ([.ref (ad 0), .int a1])).length) Slot.unset).toArray = ls at hl ⊢
  have hl : lv_has ls 3 [(0, .ref (ad 0)), (1, .int a1)] := hl
  unfold wpX7_step at hw
  refine lv_iload_n hx hb dX7_step_0 rfl (lv_at hl 1 rfl) ?_
  refine bw_psi (wc := []) (As := [.int a1]) (rest := []) ⟨hx, hb, hml, hown, hts⟩ (mX7_isStep l dC dI cI cJ cT cII cJJ a1 _ hw) (va_cwS 1 hts gX7_step_X7_isStep rfl rfl rfl hdX7_isStep ⟨Nat.le_of_ble_eq_true rfl, Nat.le_of_ble_eq_true rfl⟩) hK hP [] rfl rfl hl.1 rfl (Nat.le_of_ble_eq_true rfl) ⟨Nat.le_of_ble_eq_true rfl, Nat.le_of_ble_eq_true rfl⟩ dX7_step_1 (fun r1 hw => ?_)
  refine lv_if_ne (tgt := 10) hx hb dX7_step_4 (by decide) (fun c2 => ?_) (fun c2 => ?_)
  · have hw := hw.1 c2
    refine lv_aload_n hx hb dX7_step_10 rfl (lv_at hl 0 rfl) ?_
    refine va_get (D := (dC, dI)) (ci := 7) (v := .ref (ad 1)) (C := RX7) (T := TX7) (N := 8) hx hb hts (fun w h => List.mem_cons_of_mem _ (List.mem_append_left _ (List.mem_append_left _ (List.mem_append_right _ h)))) hown hK hP 0 rfl rfl 0 (by decide) (hts (.fieldLink RX7 12 "BidMarket" "held" "LBidMarket$Holdings;") (List.mem_of_getElem? (i := 1) rfl)) (fun _ h9 => h9) rfl dX7_step_11 ?_
    refine va_get (D := (dC, dI)) (ci := 1) (v := .ref (ad 2)) (C := RX1) (T := TX1) (N := 4) hx hb hts (fun w h => List.mem_cons_of_mem _ (List.mem_append_left _ (List.mem_append_right _ h))) hown hK hP 1 rfl rfl 0 (by decide) (hts (.fieldLink RX7 60 "BidMarket$Holdings" "market" "LBidMarket$Market;") (List.mem_of_getElem? (i := 2) rfl)) (fun _ h9 => h9) rfl dX7_step_14 ?_
    refine va_get (D := (dC, dI)) (ci := 2) (v := .int gpa) (C := RX2) (T := TX2) (N := 7) hx hb hts (fun w h => List.mem_cons_of_mem _ (List.mem_append_right _ h)) hown hK hP 2 rfl rfl 5 (by decide) (hts (.fieldLink RX7 102 "BidMarket$Market" "pace" "I") (List.mem_of_getElem? (i := 3) rfl)) (fun _ h9 => h9) rfl dX7_step_17 ?_
    refine lv_istore_n (lv' := [(2, .int gpa), (0, .ref (ad 0)), (1, .int a1)]) hx hb dX7_step_20 rfl hl (by decide) rfl (fun ls hl => ?_)
    refine lv_aload_n hx hb dX7_step_21 rfl (lv_at hl 1 rfl) ?_
    refine va_get (D := (dC, dI)) (ci := 7) (v := .ref (ad 1)) (C := RX7) (T := TX7) (N := 8) hx hb hts (fun w h => List.mem_cons_of_mem _ (List.mem_append_left _ (List.mem_append_left _ (List.mem_append_right _ h)))) hown hK hP 0 rfl rfl 0 (by decide) (hts (.fieldLink RX7 12 "BidMarket" "held" "LBidMarket$Holdings;") (List.mem_of_getElem? (i := 1) rfl)) (fun _ h9 => h9) rfl dX7_step_22 ?_
    refine va_get (D := (dC, dI)) (ci := 1) (v := .ref (ad 2)) (C := RX1) (T := TX1) (N := 4) hx hb hts (fun w h => List.mem_cons_of_mem _ (List.mem_append_left _ (List.mem_append_right _ h))) hown hK hP 1 rfl rfl 0 (by decide) (hts (.fieldLink RX7 60 "BidMarket$Holdings" "market" "LBidMarket$Market;") (List.mem_of_getElem? (i := 2) rfl)) (fun _ h9 => h9) rfl dX7_step_25 ?_
    refine lv_iload_n hx hb dX7_step_28 rfl (lv_at hl 2 rfl) ?_
    refine va_put (D := (dC, dI)) (ci := 2) (v := .int a1) (ty := .int) (C := RX2) (T := TX2) (N := 7) hx hb hts (fun w h => List.mem_cons_of_mem _ (List.mem_append_right _ h)) tyX2 tyX2_ok nmX2 hown hK hP hD hS 2 rfl rfl 5 (by decide) (hts (.fieldLink RX7 102 "BidMarket$Market" "pace" "I") (List.mem_of_getElem? (i := 3) rfl)) (fun _ h9 => h9) rfl (by decide +kernel) rfl rfl (Nat.le_of_ble_eq_true rfl) dX7_step_29 (fun H locs hP hD hS => ?_)
    have hP : va_P (dC, dI) vwCl (wdX7_step cI cJ cT cII cJJ ad im gn a1 gbr) H := hP
    have hD : va_D A (wdX7_step cI cJ cT cII cJJ ad im gn a1 gbr) := hD
    refine lv_iload_n hx hb dX7_step_32 rfl (lv_at hl 0 rfl) ?_
    exact W.iret (v := gpa) hx hb hr (fun t ht hW => ⟨⟨gpa, a1, rfl, hw, by show va_P _ _ _ t.heap; rw [ht]; exact hP⟩, hS.F ht⟩) hS.2.2 dX7_step_33
  · have hw := hw.2 c2
    refine lv_bipush (v := (-2)) hx hb dX7_step_7 (by decide) ?_
    exact W.iret (v := (-2)) hx hb hr (fun t ht hW => ⟨⟨(-2), gpa, rfl, hw, by show va_P _ _ _ t.heap; rw [ht]; exact hP⟩, hS.F ht⟩) hS.2.2 dX7_step_9
set_option maxHeartbeats 4000000 in
set_option maxRecDepth 100000 in
theorem mX7_feed (l : Launch) (dC : Nat → ClassId) (dI : Nat → Nat → Nat) (cI cJ cT cII cJJ : ClassId) (ad : Nat → Nat) (sz : Nat) (im : Int32) (tl : Int32) (tc : Int32) (ta : Int32) (tk : Int32) (tb : Nat → Int32) (a1 : Int32) (Post : Int32 → Int32 → (Nat → Int32) → Prop) (hw : wpX7_feed tl tb a1 Post) : Met l yX7_feed wsX7_feed ({ frames := 1, cells := 0, slots := 0, locals := 21 } : Room) (va_Pc [.ref (ad 0), .int a1] (fun U => U.heap.size = sz ∧ va_P (dC, dI) vwCl (wdX7_feed cI cJ cT cII cJJ ad im tl tc ta tk tb) U.heap ∧ va_K (dC, dI) vwCl (bw_tys cI cJ cT cII cJJ) U ∧ va_D (fun _ => True) (wdX7_feed cI cJ cT cII cJJ ad im tl tc ta tk tb))) (va_Qi (fun (r : Int32) (u : Int32 × (Nat → Int32)) => Post r u.1 u.2) (fun (u : Int32 × (Nat → Int32)) t => va_P (dC, dI) vwCl (wdX7_feed cI cJ cT cII cJJ ad im u.1 tc ta tk u.2) t.heap) (va_A (wdX7_feed cI cJ cT cII cJJ ad im tl tc ta tk tb) sz)) 0 0 (va_A (wdX7_feed cI cJ cT cII cJJ ad im tl tc ta tk tb) sz) := by
  refine Met.ofW (cc := cX7_feed) (maxL := 2) (ret := (some .int)) (by decide) rfl ?_
  intro p e s m args below meth c s₁ B hml hv
  obtain ⟨rfl, hsz, hP, hK, hD0⟩ := hv
  have hx := B.exec
  have hb := B.bytes
  have hr := B.returns
  have hts := atoms_spec (ws := wsX7_feed) B.pre
  have hown : s.vm.findClass RX7 = some m.cls := findClass_of_methodNamed B.named
  have hlocks := B.notSynchronized
  subst hsz
  have hD := hD0.self (sz := s.heap.size)
  generalize hAe : va_A (wdX7_feed cI cJ cT cII cJJ ad im tl tc ta tk tb) s.heap.size = A at hD ⊢
  have hA : ∀ q : Nat, s.heap.size ≤ q → A q := fun q h => by rw [← hAe]; exact Or.inr h
  have hS : va_S A s.heap s.heap [] := va_S.rf
  have hl := lv_entry ([.ref (ad 0), .int a1]) (n := 2) (Nat.le_of_ble_eq_true rfl)
  rw [lg_entry_eq]
  generalize (lg_sl ([.ref (ad 0), .int a1]) ++ List.replicate (2 - (lg_sl ([.ref (ad 0), .int a1])).length) Slot.unset).toArray = ls at hl ⊢
  have hl : lv_has ls 2 [(0, .ref (ad 0)), (1, .int a1)] := hl
  unfold wpX7_feed at hw
  refine lv_iload_n hx hb dX7_feed_0 rfl (lv_at hl 1 rfl) ?_
  refine lv_if_lt (tgt := 10) hx hb dX7_feed_1 (by decide) (fun c1 => ?_) (fun c1 => ?_)
  · have hw := hw.1 c1
    refine lv_bipush (v := (-2)) hx hb dX7_feed_10 (by decide) ?_
    exact W.iret (v := (-2)) hx hb hr (fun t ht hW => ⟨⟨(-2), (tl, tb), rfl, hw, by show va_P _ _ _ t.heap; rw [ht]; exact hP⟩, hS.F ht⟩) hS.2.2 dX7_feed_12
  · have hw := hw.2 c1
    refine lv_iload_n hx hb dX7_feed_4 rfl (lv_at hl 1 rfl) ?_
    refine lv_bipush (v := 127) hx hb dX7_feed_5 (by decide) ?_
    refine lv_icmp_le (tgt := 13) hx hb dX7_feed_7 (by decide) (fun c2 => ?_) (fun c2 => ?_)
    · have hw := hw.1 c2
      refine lv_aload_n hx hb dX7_feed_13 rfl (lv_at hl 0 rfl) ?_
      refine va_get (D := (dC, dI)) (ci := 7) (v := .ref (ad 62)) (C := RX7) (T := TX7) (N := 8) hx hb hts (fun w h => List.mem_cons_of_mem _ (List.mem_append_left _ (List.mem_append_right _ h))) hown hK hP 0 rfl rfl 4 (by decide) (hts (.fieldLink RX7 38 "BidMarket" "text" "LBidMarket$Text;") (List.mem_of_getElem? (i := 1) rfl)) (fun _ h9 => h9) rfl dX7_feed_14 ?_
      refine lv_iload_n hx hb dX7_feed_17 rfl (lv_at hl 1 rfl) ?_
      refine bw_wvi (wc := (wdX6_append cI cJ cT cII cJJ (fun k => ad (k + 62)) tl tc ta tk tb)) (w1 := (fun (u : Int32 × (Nat → Int32)) => wdX6_append cI cJ cT cII cJJ (fun k => ad (k + 62)) u.1 tc ta tk u.2)) (As := [.int a1]) (rest := []) ⟨hx, hb, hml, hown, hts⟩ (mX6_append l dC dI cI cJ cT cII cJJ (fun k => ad (k + 62)) _ tl tc ta tk tb a1 _ hw) (cwV 1 hts gX7_feed_X6_append rfl rfl rfl hdX6_append ⟨Nat.le_of_ble_eq_true rfl, Nat.le_of_ble_eq_true rfl⟩) hK hP hD hS hA [1, 2] rfl (by decide) (fun _ => rfl) rfl rfl rfl rfl hl.1 rfl (Nat.le_of_ble_eq_true rfl) ⟨Nat.le_of_ble_eq_true rfl, Nat.le_of_ble_eq_true rfl⟩ dX7_feed_18 (fun r3 u H locs hw hP hD hS => ?_)
      obtain ⟨y4, y5⟩ := u
      try dsimp only at hw
      have hP : va_P (dC, dI) vwCl (wdX7_feed cI cJ cT cII cJJ ad im y4 tc ta tk y5) H := hP
      have hD : va_D A (wdX7_feed cI cJ cT cII cJJ ad im y4 tc ta tk y5) := hD
      exact W.iret (v := r3) hx hb hr (fun t ht hW => ⟨⟨r3, (y4, y5), rfl, hw, by show va_P _ _ _ t.heap; rw [ht]; exact hP⟩, hS.F ht⟩) hS.2.2 dX7_feed_21
    · have hw := hw.2 c2
      refine lv_bipush (v := (-2)) hx hb dX7_feed_10 (by decide) ?_
      exact W.iret (v := (-2)) hx hb hr (fun t ht hW => ⟨⟨(-2), (tl, tb), rfl, hw, by show va_P _ _ _ t.heap; rw [ht]; exact hP⟩, hS.F ht⟩) hS.2.2 dX7_feed_12
set_option maxHeartbeats 4000000 in
set_option maxRecDepth 100000 in
theorem mX7_read (l : Launch) (dC : Nat → ClassId) (dI : Nat → Nat → Nat) (cI cJ cT cII cJJ : ClassId) (ad : Nat → Nat) (sz : Nat) (im : Int32) (gn : Int32) (gpa : Int32) (gbr : Int32) (gth : Nat → Int32) (gpe : Nat → Int32) (gw : Nat → Nat → Int32) (tl : Int32) (tc : Int32) (ta : Int32) (tk : Int32) (tb : Nat → Int32) (tp : Nat → Int32) (tt : Nat → Int32) (tw : Nat → Int32) (ck : Int32) (cc : Int32) (cd : Int32) (Post : Int32 → (Nat → Int32) → (Nat → Int32) → (Nat → Nat → Int32) → Int32 → Int32 → Int32 → Int32 → (Nat → Int32) → (Nat → Int32) → (Nat → Int32) → Int32 → Int32 → Int32 → Prop) (hw : wpX7_read gn gth gpe gw tl tc ta tk tb tp tt tw ck cc cd Post) : Met l yX7_read wsX7_read ({ frames := 5, cells := 0, slots := 0, locals := 107 } : Room) (va_Pc [.ref (ad 0)] (fun U => U.heap.size = sz ∧ va_P (dC, dI) vwCl (wdX7_read cI cJ cT cII cJJ ad im gn gpa gbr gth gpe gw tl tc ta tk tb tp tt tw ck cc cd) U.heap ∧ va_K (dC, dI) vwCl (bw_tys cI cJ cT cII cJJ) U ∧ va_D (fun _ => True) (wdX7_read cI cJ cT cII cJJ ad im gn gpa gbr gth gpe gw tl tc ta tk tb tp tt tw ck cc cd))) (va_Qi (fun (r : Int32) (u : (Nat → Int32) × (Nat → Int32) × (Nat → Nat → Int32) × Int32 × Int32 × Int32 × Int32 × (Nat → Int32) × (Nat → Int32) × (Nat → Int32) × Int32 × Int32 × Int32) => Post r u.1 u.2.1 u.2.2.1 u.2.2.2.1 u.2.2.2.2.1 u.2.2.2.2.2.1 u.2.2.2.2.2.2.1 u.2.2.2.2.2.2.2.1 u.2.2.2.2.2.2.2.2.1 u.2.2.2.2.2.2.2.2.2.1 u.2.2.2.2.2.2.2.2.2.2.1 u.2.2.2.2.2.2.2.2.2.2.2.1 u.2.2.2.2.2.2.2.2.2.2.2.2) (fun (u : (Nat → Int32) × (Nat → Int32) × (Nat → Nat → Int32) × Int32 × Int32 × Int32 × Int32 × (Nat → Int32) × (Nat → Int32) × (Nat → Int32) × Int32 × Int32 × Int32) t => va_P (dC, dI) vwCl (wdX7_read cI cJ cT cII cJJ ad im gn gpa gbr u.1 u.2.1 u.2.2.1 u.2.2.2.1 u.2.2.2.2.1 u.2.2.2.2.2.1 u.2.2.2.2.2.2.1 tb u.2.2.2.2.2.2.2.1 u.2.2.2.2.2.2.2.2.1 u.2.2.2.2.2.2.2.2.2.1 u.2.2.2.2.2.2.2.2.2.2.1 u.2.2.2.2.2.2.2.2.2.2.2.1 u.2.2.2.2.2.2.2.2.2.2.2.2) t.heap) (va_A (wdX7_read cI cJ cT cII cJJ ad im gn gpa gbr gth gpe gw tl tc ta tk tb tp tt tw ck cc cd) sz)) 0 0 (va_A (wdX7_read cI cJ cT cII cJJ ad im gn gpa gbr gth gpe gw tl tc ta tk tb tp tt tw ck cc cd) sz) := by
  refine Met.ofW (cc := cX7_read) (maxL := 5) (ret := (some .int)) (by decide) rfl ?_
  intro p e s m args below meth c s₁ B hml hv
  obtain ⟨rfl, hsz, hP, hK, hD0⟩ := hv
  have hx := B.exec
  have hb := B.bytes
  have hr := B.returns
  have hts := atoms_spec (ws := wsX7_read) B.pre
  have hown : s.vm.findClass RX7 = some m.cls := findClass_of_methodNamed B.named
  have hlocks := B.notSynchronized
  subst hsz
  have hD := hD0.self (sz := s.heap.size)
  generalize hAe : va_A (wdX7_read cI cJ cT cII cJJ ad im gn gpa gbr gth gpe gw tl tc ta tk tb tp tt tw ck cc cd) s.heap.size = A at hD ⊢
  have hA : ∀ q : Nat, s.heap.size ≤ q → A q := fun q h => by rw [← hAe]; exact Or.inr h
  have hS : va_S A s.heap s.heap [] := va_S.rf
  have hl := lv_entry ([.ref (ad 0)]) (n := 5) (Nat.le_of_ble_eq_true rfl)
  rw [lg_entry_eq]
  generalize (lg_sl ([.ref (ad 0)]) ++ List.replicate (5 - (lg_sl ([.ref (ad 0)])).length) Slot.unset).toArray = ls at hl ⊢
  have hl : lv_has ls 5 [(0, .ref (ad 0))] := hl
  have kB131 : ∀ (v1 : Int32) (v2 : Int32) (v3 : Int32) (gth : Nat → Int32) (gpe : Nat → Int32) (gw : Nat → Nat → Int32) (tl : Int32) (tc : Int32) (ta : Int32) (tk : Int32) (tp : Nat → Int32) (tt : Nat → Int32) (tw : Nat → Int32) (ck : Int32) (cc : Int32) (cd : Int32), ∀ (H : Heap) (locs : List Loc), va_P (dC, dI) vwCl (wdX7_read cI cJ cT cII cJJ ad im gn gpa gbr gth gpe gw tl tc ta tk tb tp tt tw ck cc cd) H → va_D A (wdX7_read cI cJ cT cII cJJ ad im gn gpa gbr gth gpe gw tl tc ta tk tb tp tt tw ck cc cd) → va_S A s.heap H locs → ∀ ls : Array Slot, lv_has ls 5 [(0, .ref (ad 0)), (1, .int v1), (2, .int v2), (3, .int v3)] → wpX7_read_B131 gn tb Post v1 v2 v3 gth gpe gw tl tc ta tk tp tt tw ck cc cd → W p l e (headSpec wsX7_read ({ frames := 5, cells := 0, slots := 0, locals := 107 } : Room)).room s m ([.ref (ad 0)] : List Value).toArray below meth c H locs 0 0 (MQ below (va_Qi (fun (r : Int32) (u : (Nat → Int32) × (Nat → Int32) × (Nat → Nat → Int32) × Int32 × Int32 × Int32 × Int32 × (Nat → Int32) × (Nat → Int32) × (Nat → Int32) × Int32 × Int32 × Int32) => Post r u.1 u.2.1 u.2.2.1 u.2.2.2.1 u.2.2.2.2.1 u.2.2.2.2.2.1 u.2.2.2.2.2.2.1 u.2.2.2.2.2.2.2.1 u.2.2.2.2.2.2.2.2.1 u.2.2.2.2.2.2.2.2.2.1 u.2.2.2.2.2.2.2.2.2.2.1 u.2.2.2.2.2.2.2.2.2.2.2.1 u.2.2.2.2.2.2.2.2.2.2.2.2) (fun (u : (Nat → Int32) × (Nat → Int32) × (Nat → Nat → Int32) × Int32 × Int32 × Int32 × Int32 × (Nat → Int32) × (Nat → Int32) × (Nat → Int32) × Int32 × Int32 × Int32) t => va_P (dC, dI) vwCl (wdX7_read cI cJ cT cII cJJ ad im gn gpa gbr u.1 u.2.1 u.2.2.1 u.2.2.2.1 u.2.2.2.2.1 u.2.2.2.2.2.1 u.2.2.2.2.2.2.1 tb u.2.2.2.2.2.2.2.1 u.2.2.2.2.2.2.2.2.1 u.2.2.2.2.2.2.2.2.2.1 u.2.2.2.2.2.2.2.2.2.2.1 u.2.2.2.2.2.2.2.2.2.2.2.1 u.2.2.2.2.2.2.2.2.2.2.2.2) t.heap) A) ([.ref (ad 0)] : List Value).toArray s 0 0 A) (F0 m 131 ls []) := by
    intro v1 v2 v3 gth gpe gw tl tc ta tk tp tt tw ck cc cd H locs hP hD hS ls hl hw
    unfold wpX7_read_B131 at hw
    refine lv_aload_n hx hb dX7_read_131 rfl (lv_at hl 0 rfl) ?_
    refine va_get (D := (dC, dI)) (ci := 7) (v := .ref (ad 62)) (C := RX7) (T := TX7) (N := 8) hx hb hts (fun w h => List.mem_cons_of_mem _ (List.mem_append_left _ (List.mem_append_left _ (List.mem_append_left _ (List.mem_append_left _ (List.mem_append_right _ h)))))) hown hK hP 0 rfl rfl 4 (by decide) (hts (.fieldLink RX7 38 "BidMarket" "text" "LBidMarket$Text;") (List.mem_of_getElem? (i := 1) rfl)) (fun _ h9 => h9) rfl dX7_read_132 ?_
    refine bw_wvv (wc := (wdX6_empty cI cJ cT cII cJJ (fun k => ad (k + 62)) tl tc ta tk)) (w1 := (fun (u : Int32) => wdX6_empty cI cJ cT cII cJJ (fun k => ad (k + 62)) u tc ta tk)) (As := []) (rest := []) ⟨hx, hb, hml, hown, hts⟩ (mX6_empty l dC dI cI cJ cT cII cJJ (fun k => ad (k + 62)) _ tl tc ta tk _ hw) (cwV 0 hts gX7_read_X6_empty rfl rfl rfl hdX6_empty ⟨Nat.le_of_ble_eq_true rfl, Nat.le_of_ble_eq_true rfl⟩) hK hP hD hS hA [14] rfl (by decide) (fun _ => rfl) rfl rfl rfl rfl hl.1 rfl (Nat.le_of_ble_eq_true rfl) ⟨Nat.le_of_ble_eq_true rfl, Nat.le_of_ble_eq_true rfl⟩ dX7_read_135 (fun u H locs hw hP hD hS => ?_)
    obtain ⟨y10, rfl⟩ : ∃ z, z = u := ⟨_, rfl⟩
    try dsimp only at hw
    have hP : va_P (dC, dI) vwCl (wdX7_read cI cJ cT cII cJJ ad im gn gpa gbr gth gpe gw y10 tc ta tk tb tp tt tw ck cc cd) H := hP
    have hD : va_D A (wdX7_read cI cJ cT cII cJJ ad im gn gpa gbr gth gpe gw y10 tc ta tk tb tp tt tw ck cc cd) := hD
    refine lv_iload_n hx hb dX7_read_138 rfl (lv_at hl 3 rfl) ?_
    refine lv_if_eq (tgt := 149) hx hb dX7_read_139 (by decide) (fun c11 => ?_) (fun c11 => ?_)
    · have hw := hw.1 c11
      refine lv_iload_n hx hb dX7_read_149 rfl (lv_at hl 1 rfl) ?_
      exact W.iret (v := v1) hx hb hr (fun t ht hW => ⟨⟨v1, (gth, gpe, gw, y10, tc, ta, tk, tp, tt, tw, ck, cc, cd), rfl, hw, by show va_P _ _ _ t.heap; rw [ht]; exact hP⟩, hS.F ht⟩) hS.2.2 dX7_read_150
    · have hw := hw.2 c11
      refine lv_bipush (v := (-10)) hx hb dX7_read_142 (by decide) ?_
      refine lv_iload_n hx hb dX7_read_144 rfl (lv_at hl 2 rfl) ?_
      refine lv_isub hx hb dX7_read_145 ?_
      refine lv_goto (tgt := 150) hx hb dX7_read_146 (by decide) ?_
      exact W.iret (v := ((-10)) - v2) hx hb hr (fun t ht hW => ⟨⟨((-10)) - v2, (gth, gpe, gw, y10, tc, ta, tk, tp, tt, tw, ck, cc, cd), rfl, hw, by show va_P _ _ _ t.heap; rw [ht]; exact hP⟩, hS.F ht⟩) hS.2.2 dX7_read_150
  have kB79 : ∀ f : Nat, ∀ (v1 : Int32) (v2 : Int32) (v3 : Int32) (v4 : Int32) (gth : Nat → Int32) (gpe : Nat → Int32) (gw : Nat → Nat → Int32) (tl : Int32) (tc : Int32) (ta : Int32) (tk : Int32) (tp : Nat → Int32) (tt : Nat → Int32) (tw : Nat → Int32) (ck : Int32) (cc : Int32) (cd : Int32), ∀ (H : Heap) (locs : List Loc), va_P (dC, dI) vwCl (wdX7_read cI cJ cT cII cJJ ad im gn gpa gbr gth gpe gw tl tc ta tk tb tp tt tw ck cc cd) H → va_D A (wdX7_read cI cJ cT cII cJJ ad im gn gpa gbr gth gpe gw tl tc ta tk tb tp tt tw ck cc cd) → va_S A s.heap H locs → ∀ ls : Array Slot, lv_has ls 5 [(0, .ref (ad 0)), (1, .int v1), (2, .int v2), (3, .int v3), (4, .int v4)] → wpX7_read_B79 gn tb Post f v1 v2 v3 v4 gth gpe gw tl tc ta tk tp tt tw ck cc cd → W p l e (headSpec wsX7_read ({ frames := 5, cells := 0, slots := 0, locals := 107 } : Room)).room s m ([.ref (ad 0)] : List Value).toArray below meth c H locs 0 0 (MQ below (va_Qi (fun (r : Int32) (u : (Nat → Int32) × (Nat → Int32) × (Nat → Nat → Int32) × Int32 × Int32 × Int32 × Int32 × (Nat → Int32) × (Nat → Int32) × (Nat → Int32) × Int32 × Int32 × Int32) => Post r u.1 u.2.1 u.2.2.1 u.2.2.2.1 u.2.2.2.2.1 u.2.2.2.2.2.1 u.2.2.2.2.2.2.1 u.2.2.2.2.2.2.2.1 u.2.2.2.2.2.2.2.2.1 u.2.2.2.2.2.2.2.2.2.1 u.2.2.2.2.2.2.2.2.2.2.1 u.2.2.2.2.2.2.2.2.2.2.2.1 u.2.2.2.2.2.2.2.2.2.2.2.2) (fun (u : (Nat → Int32) × (Nat → Int32) × (Nat → Nat → Int32) × Int32 × Int32 × Int32 × Int32 × (Nat → Int32) × (Nat → Int32) × (Nat → Int32) × Int32 × Int32 × Int32) t => va_P (dC, dI) vwCl (wdX7_read cI cJ cT cII cJJ ad im gn gpa gbr u.1 u.2.1 u.2.2.1 u.2.2.2.1 u.2.2.2.2.1 u.2.2.2.2.2.1 u.2.2.2.2.2.2.1 tb u.2.2.2.2.2.2.2.1 u.2.2.2.2.2.2.2.2.1 u.2.2.2.2.2.2.2.2.2.1 u.2.2.2.2.2.2.2.2.2.2.1 u.2.2.2.2.2.2.2.2.2.2.2.1 u.2.2.2.2.2.2.2.2.2.2.2.2) t.heap) A) ([.ref (ad 0)] : List Value).toArray s 0 0 A) (F0 m 79 ls []) := by
    intro  f
    induction f with
    | zero => intro v1 v2 v3 v4 gth gpe gw tl tc ta tk tp tt tw ck cc cd H locs hP hD hS ls hl hw; exact (show False from hw).elim
    | succ f ih =>
      intro v1 v2 v3 v4 gth gpe gw tl tc ta tk tp tt tw ck cc cd H locs hP hD hS ls hl hw
      rw [wpX7_read_B79] at hw
      refine lv_iload hx hb dX7_read_79 (lv_at hl 4 rfl) ?_
      refine lv_iload_n hx hb dX7_read_81 rfl (lv_at hl 1 rfl) ?_
      refine lv_icmp_ge (tgt := 131) hx hb dX7_read_82 (by decide) (fun c9 => ?_) (fun c9 => ?_)
      · have hw := hw.1 c9
        exact kB131 v1 v2 v3 gth gpe gw tl tc ta tk tp tt tw ck cc cd _ _ hP hD hS ls (lv_sub hl [0, 1, 2, 3] rfl) hw
      · have hw := hw.2 c9
        refine lv_aload_n hx hb dX7_read_85 rfl (lv_at hl 0 rfl) ?_
        refine va_get (D := (dC, dI)) (ci := 7) (v := .ref (ad 1)) (C := RX7) (T := TX7) (N := 8) hx hb hts (fun w h => List.mem_cons_of_mem _ (List.mem_append_left _ (List.mem_append_left _ (List.mem_append_left _ (List.mem_append_left _ (List.mem_append_right _ h)))))) hown hK hP 0 rfl rfl 0 (by decide) (hts (.fieldLink RX7 12 "BidMarket" "held" "LBidMarket$Holdings;") (List.mem_of_getElem? (i := 2) rfl)) (fun _ h9 => h9) rfl dX7_read_86 ?_
        refine va_get (D := (dC, dI)) (ci := 1) (v := .ref (ad 2)) (C := RX1) (T := TX1) (N := 4) hx hb hts (fun w h => List.mem_cons_of_mem _ (List.mem_append_left _ (List.mem_append_left _ (List.mem_append_left _ (List.mem_append_right _ h))))) hown hK hP 1 rfl rfl 0 (by decide) (hts (.fieldLink RX7 60 "BidMarket$Holdings" "market" "LBidMarket$Market;") (List.mem_of_getElem? (i := 3) rfl)) (fun _ h9 => h9) rfl dX7_read_89 ?_
        refine lv_aload_n hx hb dX7_read_92 rfl (lv_at hl 0 rfl) ?_
        refine va_get (D := (dC, dI)) (ci := 7) (v := .ref (ad 62)) (C := RX7) (T := TX7) (N := 8) hx hb hts (fun w h => List.mem_cons_of_mem _ (List.mem_append_left _ (List.mem_append_left _ (List.mem_append_left _ (List.mem_append_left _ (List.mem_append_right _ h)))))) hown hK hP 0 rfl rfl 4 (by decide) (hts (.fieldLink RX7 38 "BidMarket" "text" "LBidMarket$Text;") (List.mem_of_getElem? (i := 1) rfl)) (fun _ h9 => h9) rfl dX7_read_93 ?_
        refine va_get (D := (dC, dI)) (ci := 6) (v := .ref (ad 64)) (C := RX6) (T := TX6) (N := 8) hx hb hts (fun w h => List.mem_cons_of_mem _ (List.mem_append_left _ (List.mem_append_right _ h))) hown hK hP 14 rfl rfl 2 (by decide) (hts (.fieldLink RX7 124 "BidMarket$Text" "persons" "[I") (List.mem_of_getElem? (i := 9) rfl)) (fun _ h9 => h9) rfl dX7_read_96 ?_
        refine lv_iload hx hb dX7_read_99 (lv_at hl 4 rfl) ?_
        have h12 := hw.1
        have hw := hw.2
        refine va_iald hx hb hK hP 16 0 rfl rfl h12 dX7_read_101 ?_
        refine lv_aload_n hx hb dX7_read_102 rfl (lv_at hl 0 rfl) ?_
        refine va_get (D := (dC, dI)) (ci := 7) (v := .ref (ad 62)) (C := RX7) (T := TX7) (N := 8) hx hb hts (fun w h => List.mem_cons_of_mem _ (List.mem_append_left _ (List.mem_append_left _ (List.mem_append_left _ (List.mem_append_left _ (List.mem_append_right _ h)))))) hown hK hP 0 rfl rfl 4 (by decide) (hts (.fieldLink RX7 38 "BidMarket" "text" "LBidMarket$Text;") (List.mem_of_getElem? (i := 1) rfl)) (fun _ h9 => h9) rfl dX7_read_103 ?_
        refine va_get (D := (dC, dI)) (ci := 6) (v := .ref (ad 65)) (C := RX6) (T := TX6) (N := 8) hx hb hts (fun w h => List.mem_cons_of_mem _ (List.mem_append_left _ (List.mem_append_right _ h))) hown hK hP 14 rfl rfl 3 (by decide) (hts (.fieldLink RX7 128 "BidMarket$Text" "things" "[I") (List.mem_of_getElem? (i := 10) rfl)) (fun _ h9 => h9) rfl dX7_read_106 ?_
        refine lv_iload hx hb dX7_read_109 (lv_at hl 4 rfl) ?_
        have h13 := hw.1
        have hw := hw.2
        refine va_iald hx hb hK hP 17 0 rfl rfl h13 dX7_read_111 ?_
        refine lv_aload_n hx hb dX7_read_112 rfl (lv_at hl 0 rfl) ?_
        refine va_get (D := (dC, dI)) (ci := 7) (v := .ref (ad 62)) (C := RX7) (T := TX7) (N := 8) hx hb hts (fun w h => List.mem_cons_of_mem _ (List.mem_append_left _ (List.mem_append_left _ (List.mem_append_left _ (List.mem_append_left _ (List.mem_append_right _ h)))))) hown hK hP 0 rfl rfl 4 (by decide) (hts (.fieldLink RX7 38 "BidMarket" "text" "LBidMarket$Text;") (List.mem_of_getElem? (i := 1) rfl)) (fun _ h9 => h9) rfl dX7_read_113 ?_
        refine va_get (D := (dC, dI)) (ci := 6) (v := .ref (ad 66)) (C := RX6) (T := TX6) (N := 8) hx hb hts (fun w h => List.mem_cons_of_mem _ (List.mem_append_left _ (List.mem_append_right _ h))) hown hK hP 14 rfl rfl 4 (by decide) (hts (.fieldLink RX7 131 "BidMarket$Text" "worths" "[I") (List.mem_of_getElem? (i := 11) rfl)) (fun _ h9 => h9) rfl dX7_read_116 ?_
        refine lv_iload hx hb dX7_read_119 (lv_at hl 4 rfl) ?_
        have h14 := hw.1
        have hw := hw.2
        refine va_iald hx hb hK hP 18 0 rfl rfl h14 dX7_read_121 ?_
        refine bw_wvv (wc := (wdX2_becomeWorth cI cJ cT cII cJJ (fun k => ad (k + 2)) gn gpa gbr gth gpe gw)) (w1 := (fun (u : (Nat → Int32) × (Nat → Int32) × (Nat → Nat → Int32)) => wdX2_becomeWorth cI cJ cT cII cJJ (fun k => ad (k + 2)) gn gpa gbr u.1 u.2.1 u.2.2)) (As := [.int (tp v4.toNatClampNeg), .int (tt v4.toNatClampNeg), .int (tw v4.toNatClampNeg)]) (rest := []) ⟨hx, hb, hml, hown, hts⟩ (mX2_becomeWorth l dC dI cI cJ cT cII cJJ (fun k => ad (k + 2)) _ gn gpa gbr gth gpe gw (tp v4.toNatClampNeg) (tt v4.toNatClampNeg) (tw v4.toNatClampNeg) _ hw) (cwV 3 hts gX7_read_X2_becomeWorth rfl rfl rfl hdX2_becomeWorth ⟨Nat.le_of_ble_eq_true rfl, Nat.le_of_ble_eq_true rfl⟩) hK hP hD hS hA [2, 3, 4, 5, 6, 7, 8, 9, 10, 11, 12, 13] rfl (by decide) (fun _ => rfl) rfl rfl rfl rfl hl.1 rfl (Nat.le_of_ble_eq_true rfl) ⟨Nat.le_of_ble_eq_true rfl, Nat.le_of_ble_eq_true rfl⟩ dX7_read_122 (fun u H locs hw hP hD hS => ?_)
        obtain ⟨y15, y16, y17⟩ := u
        try dsimp only at hw
        have hP : va_P (dC, dI) vwCl (wdX7_read cI cJ cT cII cJJ ad im gn gpa gbr y15 y16 y17 tl tc ta tk tb tp tt tw ck cc cd) H := hP
        have hD : va_D A (wdX7_read cI cJ cT cII cJJ ad im gn gpa gbr y15 y16 y17 tl tc ta tk tb tp tt tw ck cc cd) := hD
        obtain ⟨x18, ex18⟩ : ∃ y : Int32, y = v4 + 1 := ⟨_, rfl⟩
        have hw := hw x18 ex18
        refine lv_iinc (v := x18) (lv' := [(4, .int x18), (0, .ref (ad 0)), (1, .int v1), (2, .int v2), (3, .int v3)]) hx hb dX7_read_125 hl (k := 4) rfl (by rw [ex18]; rfl) (by decide) rfl (fun ls hl => ?_)
        refine lv_goto (tgt := 79) hx hb dX7_read_128 (by decide) ?_
        exact ih v1 v2 v3 x18 y15 y16 y17 tl tc ta tk tp tt tw ck cc cd _ _ hP hD hS ls (lv_sub hl [1, 2, 3, 4, 0] rfl) hw
  have kB48 : ∀ (v1 : Int32) (v2 : Int32) (s0 : Int32) (gth : Nat → Int32) (gpe : Nat → Int32) (gw : Nat → Nat → Int32) (tl : Int32) (tc : Int32) (ta : Int32) (tk : Int32) (tp : Nat → Int32) (tt : Nat → Int32) (tw : Nat → Int32) (ck : Int32) (cc : Int32) (cd : Int32), ∀ (H : Heap) (locs : List Loc), va_P (dC, dI) vwCl (wdX7_read cI cJ cT cII cJJ ad im gn gpa gbr gth gpe gw tl tc ta tk tb tp tt tw ck cc cd) H → va_D A (wdX7_read cI cJ cT cII cJJ ad im gn gpa gbr gth gpe gw tl tc ta tk tb tp tt tw ck cc cd) → va_S A s.heap H locs → ∀ ls : Array Slot, lv_has ls 5 [(0, .ref (ad 0)), (1, .int v1), (2, .int v2)] → wpX7_read_B48 gn tb Post v1 v2 s0 gth gpe gw tl tc ta tk tp tt tw ck cc cd → W p l e (headSpec wsX7_read ({ frames := 5, cells := 0, slots := 0, locals := 107 } : Room)).room s m ([.ref (ad 0)] : List Value).toArray below meth c H locs 0 0 (MQ below (va_Qi (fun (r : Int32) (u : (Nat → Int32) × (Nat → Int32) × (Nat → Nat → Int32) × Int32 × Int32 × Int32 × Int32 × (Nat → Int32) × (Nat → Int32) × (Nat → Int32) × Int32 × Int32 × Int32) => Post r u.1 u.2.1 u.2.2.1 u.2.2.2.1 u.2.2.2.2.1 u.2.2.2.2.2.1 u.2.2.2.2.2.2.1 u.2.2.2.2.2.2.2.1 u.2.2.2.2.2.2.2.2.1 u.2.2.2.2.2.2.2.2.2.1 u.2.2.2.2.2.2.2.2.2.2.1 u.2.2.2.2.2.2.2.2.2.2.2.1 u.2.2.2.2.2.2.2.2.2.2.2.2) (fun (u : (Nat → Int32) × (Nat → Int32) × (Nat → Nat → Int32) × Int32 × Int32 × Int32 × Int32 × (Nat → Int32) × (Nat → Int32) × (Nat → Int32) × Int32 × Int32 × Int32) t => va_P (dC, dI) vwCl (wdX7_read cI cJ cT cII cJJ ad im gn gpa gbr u.1 u.2.1 u.2.2.1 u.2.2.2.1 u.2.2.2.2.1 u.2.2.2.2.2.1 u.2.2.2.2.2.2.1 tb u.2.2.2.2.2.2.2.1 u.2.2.2.2.2.2.2.2.1 u.2.2.2.2.2.2.2.2.2.1 u.2.2.2.2.2.2.2.2.2.2.1 u.2.2.2.2.2.2.2.2.2.2.2.1 u.2.2.2.2.2.2.2.2.2.2.2.2) t.heap) A) ([.ref (ad 0)] : List Value).toArray s 0 0 A) (F0 m 48 ls [.int s0]) := by
    intro v1 v2 s0 gth gpe gw tl tc ta tk tp tt tw ck cc cd H locs hP hD hS ls hl hw
    unfold wpX7_read_B48 at hw
    refine lv_istore_n (lv' := [(3, .int s0), (0, .ref (ad 0)), (1, .int v1), (2, .int v2)]) hx hb dX7_read_48 rfl hl (by decide) rfl (fun ls hl => ?_)
    refine lv_iload_n hx hb dX7_read_49 rfl (lv_at hl 0 rfl) ?_
    refine lv_if_eq (tgt := 76) hx hb dX7_read_50 (by decide) (fun c8 => ?_) (fun c8 => ?_)
    · have hw := hw.1 c8
      refine lv_iconst (v := 0) hx hb dX7_read_76 (by decide) ?_
      refine lv_istore (lv' := [(4, .int 0), (3, .int s0), (0, .ref (ad 0)), (1, .int v1), (2, .int v2)]) hx hb dX7_read_77 hl (by decide) rfl (fun ls hl => ?_)
      obtain ⟨f1, hw⟩ := hw
      exact kB79 f1 v1 v2 s0 0 gth gpe gw tl tc ta tk tp tt tw ck cc cd _ _ hP hD hS ls (lv_sub hl [2, 3, 4, 1, 0] rfl) hw
    · have hw := hw.2 c8
      refine lv_aload_n hx hb dX7_read_53 rfl (lv_at hl 1 rfl) ?_
      refine va_get (D := (dC, dI)) (ci := 7) (v := .ref (ad 67)) (C := RX7) (T := TX7) (N := 8) hx hb hts (fun w h => List.mem_cons_of_mem _ (List.mem_append_left _ (List.mem_append_left _ (List.mem_append_left _ (List.mem_append_left _ (List.mem_append_right _ h)))))) hown hK hP 0 rfl rfl 5 (by decide) (hts (.fieldLink RX7 45 "BidMarket" "complaint" "LBidMarket$Complaint;") (List.mem_of_getElem? (i := 8) rfl)) (fun _ h9 => h9) rfl dX7_read_54 ?_
      refine lv_aload_n hx hb dX7_read_57 rfl (lv_at hl 1 rfl) ?_
      refine va_get (D := (dC, dI)) (ci := 7) (v := .ref (ad 62)) (C := RX7) (T := TX7) (N := 8) hx hb hts (fun w h => List.mem_cons_of_mem _ (List.mem_append_left _ (List.mem_append_left _ (List.mem_append_left _ (List.mem_append_left _ (List.mem_append_right _ h)))))) hown hK hP 0 rfl rfl 4 (by decide) (hts (.fieldLink RX7 38 "BidMarket" "text" "LBidMarket$Text;") (List.mem_of_getElem? (i := 1) rfl)) (fun _ h9 => h9) rfl dX7_read_58 ?_
      refine va_get (D := (dC, dI)) (ci := 6) (v := .int tk) (C := RX6) (T := TX6) (N := 8) hx hb hts (fun w h => List.mem_cons_of_mem _ (List.mem_append_left _ (List.mem_append_right _ h))) hown hK hP 14 rfl rfl 7 (by decide) (hts (.fieldLink RX7 118 "BidMarket$Text" "kind" "I") (List.mem_of_getElem? (i := 7) rfl)) (fun _ h9 => h9) rfl dX7_read_61 ?_
      refine lv_bipush (v := 100) hx hb dX7_read_64 (by decide) ?_
      refine lv_iload_n hx hb dX7_read_66 rfl (lv_at hl 2 rfl) ?_
      refine lv_iadd hx hb dX7_read_67 ?_
      refine lv_bipush (v := (-5)) hx hb dX7_read_68 (by decide) ?_
      refine bw_wvv (wc := (wdX0_tell cI cJ cT cII cJJ (fun k => ad (k + 67)) ck cc cd)) (w1 := (fun (u : Int32 × Int32 × Int32) => wdX0_tell cI cJ cT cII cJJ (fun k => ad (k + 67)) u.1 u.2.1 u.2.2)) (As := [.int tk, .int (100 + v1), .int ((-5))]) (rest := []) ⟨hx, hb, hml, hown, hts⟩ (mX0_tell l dC dI cI cJ cT cII cJJ (fun k => ad (k + 67)) _ ck cc cd tk (100 + v1) ((-5)) _ hw) (cwV 3 hts gX7_read_X0_tell rfl rfl rfl hdX0_tell ⟨Nat.le_of_ble_eq_true rfl, Nat.le_of_ble_eq_true rfl⟩) hK hP hD hS hA [19] rfl (by decide) (fun _ => rfl) rfl rfl rfl rfl hl.1 rfl (Nat.le_of_ble_eq_true rfl) ⟨Nat.le_of_ble_eq_true rfl, Nat.le_of_ble_eq_true rfl⟩ dX7_read_70 (fun u H locs hw hP hD hS => ?_)
      obtain ⟨y19, y20, y21⟩ := u
      try dsimp only at hw
      have hP : va_P (dC, dI) vwCl (wdX7_read cI cJ cT cII cJJ ad im gn gpa gbr gth gpe gw tl tc ta tk tb tp tt tw y19 y20 y21) H := hP
      have hD : va_D A (wdX7_read cI cJ cT cII cJJ ad im gn gpa gbr gth gpe gw tl tc ta tk tb tp tt tw y19 y20 y21) := hD
      refine lv_goto (tgt := 131) hx hb dX7_read_73 (by decide) ?_
      exact kB131 v1 v2 s0 gth gpe gw tl tc ta tk tp tt tw y19 y20 y21 _ _ hP hD hS ls (lv_sub hl [1, 2, 3, 0] rfl) hw
  unfold wpX7_read at hw
  refine lv_aload_n hx hb dX7_read_0 rfl (lv_at hl 0 rfl) ?_
  refine va_get (D := (dC, dI)) (ci := 7) (v := .ref (ad 62)) (C := RX7) (T := TX7) (N := 8) hx hb hts (fun w h => List.mem_cons_of_mem _ (List.mem_append_left _ (List.mem_append_left _ (List.mem_append_left _ (List.mem_append_left _ (List.mem_append_right _ h)))))) hown hK hP 0 rfl rfl 4 (by decide) (hts (.fieldLink RX7 38 "BidMarket" "text" "LBidMarket$Text;") (List.mem_of_getElem? (i := 1) rfl)) (fun _ h9 => h9) rfl dX7_read_1 ?_
  refine lv_aload_n hx hb dX7_read_4 rfl (lv_at hl 0 rfl) ?_
  refine va_get (D := (dC, dI)) (ci := 7) (v := .ref (ad 1)) (C := RX7) (T := TX7) (N := 8) hx hb hts (fun w h => List.mem_cons_of_mem _ (List.mem_append_left _ (List.mem_append_left _ (List.mem_append_left _ (List.mem_append_left _ (List.mem_append_right _ h)))))) hown hK hP 0 rfl rfl 0 (by decide) (hts (.fieldLink RX7 12 "BidMarket" "held" "LBidMarket$Holdings;") (List.mem_of_getElem? (i := 2) rfl)) (fun _ h9 => h9) rfl dX7_read_5 ?_
  refine va_get (D := (dC, dI)) (ci := 1) (v := .ref (ad 2)) (C := RX1) (T := TX1) (N := 4) hx hb hts (fun w h => List.mem_cons_of_mem _ (List.mem_append_left _ (List.mem_append_left _ (List.mem_append_left _ (List.mem_append_right _ h))))) hown hK hP 1 rfl rfl 0 (by decide) (hts (.fieldLink RX7 60 "BidMarket$Holdings" "market" "LBidMarket$Market;") (List.mem_of_getElem? (i := 3) rfl)) (fun _ h9 => h9) rfl dX7_read_8 ?_
  refine va_get (D := (dC, dI)) (ci := 2) (v := .int gn) (C := RX2) (T := TX2) (N := 7) hx hb hts (fun w h => List.mem_cons_of_mem _ (List.mem_append_left _ (List.mem_append_left _ (List.mem_append_right _ h)))) hown hK hP 2 rfl rfl 4 (by decide) (hts (.fieldLink RX7 63 "BidMarket$Market" "n" "I") (List.mem_of_getElem? (i := 4) rfl)) (fun _ h9 => h9) rfl dX7_read_11 ?_
  refine bw_wvv (wc := (wdX6_findClauses cI cJ cT cII cJJ (fun k => ad (k + 62)) tl tc ta tk tb tp tt tw)) (w1 := (fun (u : Int32 × Int32 × Int32 × (Nat → Int32) × (Nat → Int32) × (Nat → Int32)) => wdX6_findClauses cI cJ cT cII cJJ (fun k => ad (k + 62)) tl u.1 u.2.1 u.2.2.1 tb u.2.2.2.1 u.2.2.2.2.1 u.2.2.2.2.2)) (As := [.int gn]) (rest := []) ⟨hx, hb, hml, hown, hts⟩ (mX6_findClauses l dC dI cI cJ cT cII cJJ (fun k => ad (k + 62)) _ tl tc ta tk tb tp tt tw gn _ hw) (cwV 1 hts gX7_read_X6_findClauses rfl rfl rfl hdX6_findClauses ⟨Nat.le_of_ble_eq_true rfl, Nat.le_of_ble_eq_true rfl⟩) hK hP hD hS hA [14, 15, 16, 17, 18] rfl (by decide) (fun _ => rfl) rfl rfl rfl rfl hl.1 rfl (Nat.le_of_ble_eq_true rfl) ⟨Nat.le_of_ble_eq_true rfl, Nat.le_of_ble_eq_true rfl⟩ dX7_read_14 (fun u H locs hw hP hD hS => ?_)
  obtain ⟨y1, y2, y3, y4, y5, y6⟩ := u
  try dsimp only at hw
  have hP : va_P (dC, dI) vwCl (wdX7_read cI cJ cT cII cJJ ad im gn gpa gbr gth gpe gw tl y1 y2 y3 tb y4 y5 y6 ck cc cd) H := hP
  have hD : va_D A (wdX7_read cI cJ cT cII cJJ ad im gn gpa gbr gth gpe gw tl y1 y2 y3 tb y4 y5 y6 ck cc cd) := hD
  refine lv_aload_n hx hb dX7_read_17 rfl (lv_at hl 0 rfl) ?_
  refine va_get (D := (dC, dI)) (ci := 7) (v := .ref (ad 62)) (C := RX7) (T := TX7) (N := 8) hx hb hts (fun w h => List.mem_cons_of_mem _ (List.mem_append_left _ (List.mem_append_left _ (List.mem_append_left _ (List.mem_append_left _ (List.mem_append_right _ h)))))) hown hK hP 0 rfl rfl 4 (by decide) (hts (.fieldLink RX7 38 "BidMarket" "text" "LBidMarket$Text;") (List.mem_of_getElem? (i := 1) rfl)) (fun _ h9 => h9) rfl dX7_read_18 ?_
  refine va_get (D := (dC, dI)) (ci := 6) (v := .int y1) (C := RX6) (T := TX6) (N := 8) hx hb hts (fun w h => List.mem_cons_of_mem _ (List.mem_append_left _ (List.mem_append_right _ h))) hown hK hP 14 rfl rfl 5 (by decide) (hts (.fieldLink RX7 112 "BidMarket$Text" "clauses" "I") (List.mem_of_getElem? (i := 5) rfl)) (fun _ h9 => h9) rfl dX7_read_21 ?_
  refine lv_istore_n (lv' := [(1, .int y1), (0, .ref (ad 0))]) hx hb dX7_read_24 rfl hl (by decide) rfl (fun ls hl => ?_)
  refine lv_aload_n hx hb dX7_read_25 rfl (lv_at hl 1 rfl) ?_
  refine va_get (D := (dC, dI)) (ci := 7) (v := .ref (ad 62)) (C := RX7) (T := TX7) (N := 8) hx hb hts (fun w h => List.mem_cons_of_mem _ (List.mem_append_left _ (List.mem_append_left _ (List.mem_append_left _ (List.mem_append_left _ (List.mem_append_right _ h)))))) hown hK hP 0 rfl rfl 4 (by decide) (hts (.fieldLink RX7 38 "BidMarket" "text" "LBidMarket$Text;") (List.mem_of_getElem? (i := 1) rfl)) (fun _ h9 => h9) rfl dX7_read_26 ?_
  refine va_get (D := (dC, dI)) (ci := 6) (v := .int y2) (C := RX6) (T := TX6) (N := 8) hx hb hts (fun w h => List.mem_cons_of_mem _ (List.mem_append_left _ (List.mem_append_right _ h))) hown hK hP 14 rfl rfl 6 (by decide) (hts (.fieldLink RX7 115 "BidMarket$Text" "at" "I") (List.mem_of_getElem? (i := 6) rfl)) (fun _ h9 => h9) rfl dX7_read_29 ?_
  refine lv_istore_n (lv' := [(2, .int y2), (1, .int y1), (0, .ref (ad 0))]) hx hb dX7_read_32 rfl hl (by decide) rfl (fun ls hl => ?_)
  refine lv_aload_n hx hb dX7_read_33 rfl (lv_at hl 2 rfl) ?_
  refine va_get (D := (dC, dI)) (ci := 7) (v := .ref (ad 62)) (C := RX7) (T := TX7) (N := 8) hx hb hts (fun w h => List.mem_cons_of_mem _ (List.mem_append_left _ (List.mem_append_left _ (List.mem_append_left _ (List.mem_append_left _ (List.mem_append_right _ h)))))) hown hK hP 0 rfl rfl 4 (by decide) (hts (.fieldLink RX7 38 "BidMarket" "text" "LBidMarket$Text;") (List.mem_of_getElem? (i := 1) rfl)) (fun _ h9 => h9) rfl dX7_read_34 ?_
  refine va_get (D := (dC, dI)) (ci := 6) (v := .int y3) (C := RX6) (T := TX6) (N := 8) hx hb hts (fun w h => List.mem_cons_of_mem _ (List.mem_append_left _ (List.mem_append_right _ h))) hown hK hP 14 rfl rfl 7 (by decide) (hts (.fieldLink RX7 118 "BidMarket$Text" "kind" "I") (List.mem_of_getElem? (i := 7) rfl)) (fun _ h9 => h9) rfl dX7_read_37 ?_
  refine lv_if_eq (tgt := 47) hx hb dX7_read_40 (by decide) (fun c7 => ?_) (fun c7 => ?_)
  · have hw := hw.1 c7
    refine lv_iconst (v := 0) hx hb dX7_read_47 (by decide) ?_
    exact kB48 y1 y2 0 gth gpe gw tl y1 y2 y3 y4 y5 y6 ck cc cd _ _ hP hD hS ls (lv_sub hl [2, 1, 0] rfl) hw
  · have hw := hw.2 c7
    refine lv_iconst (v := 1) hx hb dX7_read_43 (by decide) ?_
    refine lv_goto (tgt := 48) hx hb dX7_read_44 (by decide) ?_
    exact kB48 y1 y2 1 gth gpe gw tl y1 y2 y3 y4 y5 y6 ck cc cd _ _ hP hD hS ls (lv_sub hl [2, 1, 0] rfl) hw
set_option maxHeartbeats 4000000 in
set_option maxRecDepth 100000 in
theorem mX7_of (l : Launch) (dC : Nat → ClassId) (dI : Nat → Nat → Nat) (cI cJ cT cII cJJ : ClassId) (ad : Nat → Nat) (im : Int32) (gn : Int32) (gpa : Int32) (gbr : Int32) (gpr : Nat → Int32) (gw : Nat → Nat → Int32) (a1 : Int32) (a2 : Int32) (a3 : Int32) (Post : Int64 → Prop) (hw : wpX7_of gn gpr gw a1 a2 a3 Post) : Met l yX7_of wsX7_of ({ frames := 2, cells := 0, slots := 0, locals := 44 } : Room) (va_Pc [.ref (ad 0), .int a1, .int a2, .int a3] (fun U => va_P (dC, dI) vwCl (wdX7_of cI cJ cT cII cJJ ad im gn gpa gbr gpr gw) U.heap ∧ va_K (dC, dI) vwCl (bw_tys cI cJ cT cII cJJ) U)) (vp_Sl Post) 0 0 (fun _ => False) := by
  refine Met.ofW (cc := cX7_of) (maxL := 4) (ret := (some .long)) (by decide) rfl ?_
  intro p e s m args below meth c s₁ B hml hv
  obtain ⟨rfl, hP, hK⟩ := hv
  have hx := B.exec
  have hb := B.bytes
  have hr := B.returns
  have hts := atoms_spec (ws := wsX7_of) B.pre
  have hown : s.vm.findClass RX7 = some m.cls := findClass_of_methodNamed B.named
  have hlocks := B.notSynchronized
  have hl := lv_entry ([.ref (ad 0), .int a1, .int a2, .int a3]) (n := 4) (Nat.le_of_ble_eq_true rfl)
  rw [lg_entry_eq]
  generalize (lg_sl ([.ref (ad 0), .int a1, .int a2, .int a3]) ++ List.replicate (4 - (lg_sl ([.ref (ad 0), .int a1, .int a2, .int a3])).length) Slot.unset).toArray = ls at hl ⊢
  have hl : lv_has ls 4 [(0, .ref (ad 0)), (1, .int a1), (2, .int a2), (3, .int a3)] := hl
  unfold wpX7_of at hw
  refine lv_aload_n hx hb dX7_of_0 rfl (lv_at hl 0 rfl) ?_
  refine va_get (D := (dC, dI)) (ci := 7) (v := .ref (ad 1)) (C := RX7) (T := TX7) (N := 8) hx hb hts (fun w h => List.mem_cons_of_mem _ (List.mem_append_left _ (List.mem_append_left _ (List.mem_append_right _ h)))) hown hK hP 0 rfl rfl 0 (by decide) (hts (.fieldLink RX7 12 "BidMarket" "held" "LBidMarket$Holdings;") (List.mem_of_getElem? (i := 1) rfl)) (fun _ h9 => h9) rfl dX7_of_1 ?_
  refine va_get (D := (dC, dI)) (ci := 1) (v := .ref (ad 2)) (C := RX1) (T := TX1) (N := 4) hx hb hts (fun w h => List.mem_cons_of_mem _ (List.mem_append_left _ (List.mem_append_right _ h))) hown hK hP 1 rfl rfl 0 (by decide) (hts (.fieldLink RX7 60 "BidMarket$Holdings" "market" "LBidMarket$Market;") (List.mem_of_getElem? (i := 2) rfl)) (fun _ h9 => h9) rfl dX7_of_4 ?_
  refine lv_iload_n hx hb dX7_of_7 rfl (lv_at hl 1 rfl) ?_
  refine bw_pvi (wc := (wdX2_has cI cJ cT cII cJJ (fun k => ad (k + 2)) gn gpa gbr)) (As := [.int a1]) (rest := []) ⟨hx, hb, hml, hown, hts⟩ (mX2_has l dC dI cI cJ cT cII cJJ (fun k => ad (k + 2)) gn gpa gbr a1 _ hw) (cwV 1 hts gX7_of_X2_has rfl rfl rfl hdX2_has ⟨Nat.le_of_ble_eq_true rfl, Nat.le_of_ble_eq_true rfl⟩) hK hP [2] rfl rfl rfl rfl rfl hl.1 rfl (Nat.le_of_ble_eq_true rfl) ⟨Nat.le_of_ble_eq_true rfl, Nat.le_of_ble_eq_true rfl⟩ dX7_of_8 (fun r1 hw => ?_)
  refine lv_if_eq (tgt := 28) hx hb dX7_of_11 (by decide) (fun c2 => ?_) (fun c2 => ?_)
  · have hw := hw.1 c2
    refine lv_ldc2 hx hb hown (hts (.constantLong RX7 136 (-9223372036854775808)) (List.mem_of_getElem? (i := 3) rfl)) dX7_of_28 ?_
    exact W.lret (v := (-9223372036854775808)) hx hb hr (fun t ht hW => ⟨(-9223372036854775808), rfl, hw, ht⟩) (fun _ h => by cases h) dX7_of_31
  · have hw := hw.2 c2
    refine lv_aload_n hx hb dX7_of_14 rfl (lv_at hl 0 rfl) ?_
    refine va_get (D := (dC, dI)) (ci := 7) (v := .ref (ad 1)) (C := RX7) (T := TX7) (N := 8) hx hb hts (fun w h => List.mem_cons_of_mem _ (List.mem_append_left _ (List.mem_append_left _ (List.mem_append_right _ h)))) hown hK hP 0 rfl rfl 0 (by decide) (hts (.fieldLink RX7 12 "BidMarket" "held" "LBidMarket$Holdings;") (List.mem_of_getElem? (i := 1) rfl)) (fun _ h9 => h9) rfl dX7_of_15 ?_
    refine va_get (D := (dC, dI)) (ci := 1) (v := .ref (ad 2)) (C := RX1) (T := TX1) (N := 4) hx hb hts (fun w h => List.mem_cons_of_mem _ (List.mem_append_left _ (List.mem_append_right _ h))) hown hK hP 1 rfl rfl 0 (by decide) (hts (.fieldLink RX7 60 "BidMarket$Holdings" "market" "LBidMarket$Market;") (List.mem_of_getElem? (i := 2) rfl)) (fun _ h9 => h9) rfl dX7_of_18 ?_
    refine lv_iload_n hx hb dX7_of_21 rfl (lv_at hl 2 rfl) ?_
    refine bw_pvi (wc := (wdX2_has cI cJ cT cII cJJ (fun k => ad (k + 2)) gn gpa gbr)) (As := [.int a2]) (rest := []) ⟨hx, hb, hml, hown, hts⟩ (mX2_has l dC dI cI cJ cT cII cJJ (fun k => ad (k + 2)) gn gpa gbr a2 _ hw) (cwV 1 hts gX7_of_X2_has rfl rfl rfl hdX2_has ⟨Nat.le_of_ble_eq_true rfl, Nat.le_of_ble_eq_true rfl⟩) hK hP [2] rfl rfl rfl rfl rfl hl.1 rfl (Nat.le_of_ble_eq_true rfl) ⟨Nat.le_of_ble_eq_true rfl, Nat.le_of_ble_eq_true rfl⟩ dX7_of_22 (fun r3 hw => ?_)
    refine lv_if_ne (tgt := 32) hx hb dX7_of_25 (by decide) (fun c4 => ?_) (fun c4 => ?_)
    · have hw := hw.1 c4
      refine lv_iload_n hx hb dX7_of_32 rfl (lv_at hl 3 rfl) ?_
      refine lv_if_ne (tgt := 44) hx hb dX7_of_33 (by decide) (fun c5 => ?_) (fun c5 => ?_)
      · have hw := hw.1 c5
        refine lv_iload_n hx hb dX7_of_44 rfl (lv_at hl 3 rfl) ?_
        refine lv_iconst (v := 1) hx hb dX7_of_45 (by decide) ?_
        refine lv_icmp_ne (tgt := 78) hx hb dX7_of_46 (by decide) (fun c6 => ?_) (fun c6 => ?_)
        · have hw := hw.1 c6
          refine lv_ldc2 hx hb hown (hts (.constantLong RX7 136 (-9223372036854775808)) (List.mem_of_getElem? (i := 3) rfl)) dX7_of_78 ?_
          exact W.lret (v := (-9223372036854775808)) hx hb hr (fun t ht hW => ⟨(-9223372036854775808), rfl, hw, ht⟩) (fun _ h => by cases h) dX7_of_81
        · have hw := hw.2 c6
          refine lv_aload_n hx hb dX7_of_49 rfl (lv_at hl 0 rfl) ?_
          refine va_get (D := (dC, dI)) (ci := 7) (v := .ref (ad 1)) (C := RX7) (T := TX7) (N := 8) hx hb hts (fun w h => List.mem_cons_of_mem _ (List.mem_append_left _ (List.mem_append_left _ (List.mem_append_right _ h)))) hown hK hP 0 rfl rfl 0 (by decide) (hts (.fieldLink RX7 12 "BidMarket" "held" "LBidMarket$Holdings;") (List.mem_of_getElem? (i := 1) rfl)) (fun _ h9 => h9) rfl dX7_of_50 ?_
          refine va_get (D := (dC, dI)) (ci := 1) (v := .ref (ad 2)) (C := RX1) (T := TX1) (N := 4) hx hb hts (fun w h => List.mem_cons_of_mem _ (List.mem_append_left _ (List.mem_append_right _ h))) hown hK hP 1 rfl rfl 0 (by decide) (hts (.fieldLink RX7 60 "BidMarket$Holdings" "market" "LBidMarket$Market;") (List.mem_of_getElem? (i := 2) rfl)) (fun _ h9 => h9) rfl dX7_of_53 ?_
          refine lv_iload_n hx hb dX7_of_56 rfl (lv_at hl 1 rfl) ?_
          refine lv_iload_n hx hb dX7_of_57 rfl (lv_at hl 2 rfl) ?_
          refine bw_pvi (wc := (wdX2_allows cI cJ cT cII cJJ (fun k => ad (k + 2)) gn gpa gbr gw)) (As := [.int a1, .int a2]) (rest := []) ⟨hx, hb, hml, hown, hts⟩ (mX2_allows l dC dI cI cJ cT cII cJJ (fun k => ad (k + 2)) gn gpa gbr gw a1 a2 _ hw) (cwV 2 hts gX7_of_X2_allows rfl rfl rfl hdX2_allows ⟨Nat.le_of_ble_eq_true rfl, Nat.le_of_ble_eq_true rfl⟩) hK hP [2, 4, 5, 6, 7, 8, 9, 10, 11, 12] rfl rfl rfl rfl rfl hl.1 rfl (Nat.le_of_ble_eq_true rfl) ⟨Nat.le_of_ble_eq_true rfl, Nat.le_of_ble_eq_true rfl⟩ dX7_of_58 (fun r7 hw => ?_)
          refine lv_if_eq (tgt := 78) hx hb dX7_of_61 (by decide) (fun c8 => ?_) (fun c8 => ?_)
          · have hw := hw.1 c8
            refine lv_ldc2 hx hb hown (hts (.constantLong RX7 136 (-9223372036854775808)) (List.mem_of_getElem? (i := 3) rfl)) dX7_of_78 ?_
            exact W.lret (v := (-9223372036854775808)) hx hb hr (fun t ht hW => ⟨(-9223372036854775808), rfl, hw, ht⟩) (fun _ h => by cases h) dX7_of_81
          · have hw := hw.2 c8
            refine lv_aload_n hx hb dX7_of_64 rfl (lv_at hl 0 rfl) ?_
            refine va_get (D := (dC, dI)) (ci := 7) (v := .ref (ad 1)) (C := RX7) (T := TX7) (N := 8) hx hb hts (fun w h => List.mem_cons_of_mem _ (List.mem_append_left _ (List.mem_append_left _ (List.mem_append_right _ h)))) hown hK hP 0 rfl rfl 0 (by decide) (hts (.fieldLink RX7 12 "BidMarket" "held" "LBidMarket$Holdings;") (List.mem_of_getElem? (i := 1) rfl)) (fun _ h9 => h9) rfl dX7_of_65 ?_
            refine va_get (D := (dC, dI)) (ci := 1) (v := .ref (ad 2)) (C := RX1) (T := TX1) (N := 4) hx hb hts (fun w h => List.mem_cons_of_mem _ (List.mem_append_left _ (List.mem_append_right _ h))) hown hK hP 1 rfl rfl 0 (by decide) (hts (.fieldLink RX7 60 "BidMarket$Holdings" "market" "LBidMarket$Market;") (List.mem_of_getElem? (i := 2) rfl)) (fun _ h9 => h9) rfl dX7_of_68 ?_
            refine lv_iload_n hx hb dX7_of_71 rfl (lv_at hl 1 rfl) ?_
            refine lv_iload_n hx hb dX7_of_72 rfl (lv_at hl 2 rfl) ?_
            refine bw_pvi (wc := (wdX2_gainOf cI cJ cT cII cJJ (fun k => ad (k + 2)) gn gpa gbr gpr gw)) (As := [.int a1, .int a2]) (rest := []) ⟨hx, hb, hml, hown, hts⟩ (mX2_gainOf l dC dI cI cJ cT cII cJJ (fun k => ad (k + 2)) gn gpa gbr gpr gw a1 a2 _ hw) (cwV 2 hts gX7_of_X2_gainOf rfl rfl rfl hdX2_gainOf ⟨Nat.le_of_ble_eq_true rfl, Nat.le_of_ble_eq_true rfl⟩) hK hP [2, 3, 4, 5, 6, 7, 8, 9, 10, 11, 12] rfl rfl rfl rfl rfl hl.1 rfl (Nat.le_of_ble_eq_true rfl) ⟨Nat.le_of_ble_eq_true rfl, Nat.le_of_ble_eq_true rfl⟩ dX7_of_73 (fun r9 hw => ?_)
            refine lv_i2l hx hb dX7_of_76 rfl ?_
            exact W.lret (v := r9.toInt64) hx hb hr (fun t ht hW => ⟨r9.toInt64, rfl, hw, ht⟩) (fun _ h => by cases h) dX7_of_77
      · have hw := hw.2 c5
        refine lv_aload_n hx hb dX7_of_36 rfl (lv_at hl 0 rfl) ?_
        refine lv_iload_n hx hb dX7_of_37 rfl (lv_at hl 1 rfl) ?_
        refine lv_iload_n hx hb dX7_of_38 rfl (lv_at hl 2 rfl) ?_
        refine bw_pvi (wc := (wdX7_shownWorth cI cJ cT cII cJJ ad im gn gpa gbr gw)) (As := [.int a1, .int a2]) (rest := []) ⟨hx, hb, hml, hown, hts⟩ (mX7_shownWorth l dC dI cI cJ cT cII cJJ ad im gn gpa gbr gw a1 a2 _ hw) (cwV 2 hts gX7_of_X7_shownWorth rfl rfl rfl hdX7_shownWorth ⟨Nat.le_of_ble_eq_true rfl, Nat.le_of_ble_eq_true rfl⟩) hK hP [0, 1, 2, 4, 5, 6, 7, 8, 9, 10, 11, 12] rfl rfl rfl rfl rfl hl.1 rfl (Nat.le_of_ble_eq_true rfl) ⟨Nat.le_of_ble_eq_true rfl, Nat.le_of_ble_eq_true rfl⟩ dX7_of_39 (fun r10 hw => ?_)
        refine lv_i2l hx hb dX7_of_42 rfl ?_
        exact W.lret (v := r10.toInt64) hx hb hr (fun t ht hW => ⟨r10.toInt64, rfl, hw, ht⟩) (fun _ h => by cases h) dX7_of_43
    · have hw := hw.2 c4
      refine lv_ldc2 hx hb hown (hts (.constantLong RX7 136 (-9223372036854775808)) (List.mem_of_getElem? (i := 3) rfl)) dX7_of_28 ?_
      exact W.lret (v := (-9223372036854775808)) hx hb hr (fun t ht hW => ⟨(-9223372036854775808), rfl, hw, ht⟩) (fun _ h => by cases h) dX7_of_31
set_option maxHeartbeats 4000000 in
set_option maxRecDepth 100000 in
theorem mX7_shownNumber (l : Launch) (dC : Nat → ClassId) (dI : Nat → Nat → Nat) (cI cJ cT cII cJJ : ClassId) (a0 : Int32) (Post : Int32 → Prop) (hw : wpX7_shownNumber a0 Post) : Met l yX7_shownNumber wsX7_shownNumber ({ frames := 0, cells := 0, slots := 0, locals := 0 } : Room) (va_Pc [.int a0] (fun U => va_P (dC, dI) vwCl [] U.heap ∧ va_K (dC, dI) vwCl (bw_tys cI cJ cT cII cJJ) U)) (vp_Si Post) 0 0 (fun _ => False) := by
  refine Met.ofW (cc := cX7_shownNumber) (maxL := 1) (ret := (some .int)) (by decide) rfl ?_
  intro p e s m args below meth c s₁ B hml hv
  obtain ⟨rfl, hP, hK⟩ := hv
  have hx := B.exec
  have hb := B.bytes
  have hr := B.returns
  have hts := atoms_spec (ws := wsX7_shownNumber) B.pre
  have hown : s.vm.findClass RX7 = some m.cls := findClass_of_methodNamed B.named
  have hlocks := B.notSynchronized
  have hl := lv_entry ([.int a0]) (n := 1) (Nat.le_of_ble_eq_true rfl)
  rw [lg_entry_eq]
  generalize (lg_sl ([.int a0]) ++ List.replicate (1 - (lg_sl ([.int a0])).length) Slot.unset).toArray = ls at hl ⊢
  have hl : lv_has ls 1 [(0, .int a0)] := hl
  unfold wpX7_shownNumber at hw
  refine lv_iload_n hx hb dX7_shownNumber_0 rfl (lv_at hl 0 rfl) ?_
  refine lv_if_ge (tgt := 9) hx hb dX7_shownNumber_1 (by decide) (fun c1 => ?_) (fun c1 => ?_)
  · have hw := hw.1 c1
    refine lv_iload_n hx hb dX7_shownNumber_9 rfl (lv_at hl 0 rfl) ?_
    exact W.iret (v := a0) hx hb hr (fun t ht hW => ⟨a0, rfl, hw, ht⟩) (fun _ h => by cases h) dX7_shownNumber_10
  · have hw := hw.2 c1
    refine lv_bipush (v := (-5)) hx hb dX7_shownNumber_4 (by decide) ?_
    refine lv_goto (tgt := 10) hx hb dX7_shownNumber_6 (by decide) ?_
    exact W.iret (v := (-5)) hx hb hr (fun t ht hW => ⟨(-5), rfl, hw, ht⟩) (fun _ h => by cases h) dX7_shownNumber_10
set_option maxHeartbeats 4000000 in
set_option maxRecDepth 100000 in
theorem mX7_person (l : Launch) (dC : Nat → ClassId) (dI : Nat → Nat → Nat) (cI cJ cT cII cJJ : ClassId) (ad : Nat → Nat) (im : Int32) (gn : Int32) (gpa : Int32) (gbr : Int32) (gth : Nat → Int32) (gpr : Nat → Int32) (gw : Nat → Nat → Int32) (a1 : Int32) (a2 : Int32) (Post : Int32 → Prop) (hw : wpX7_person gn gth gpr gw a1 a2 Post) : Met l yX7_person wsX7_person ({ frames := 3, cells := 0, slots := 0, locals := 69 } : Room) (va_Pc [.ref (ad 0), .int a1, .int a2] (fun U => va_P (dC, dI) vwCl (wdX7_person cI cJ cT cII cJJ ad im gn gpa gbr gth gpr gw) U.heap ∧ va_K (dC, dI) vwCl (bw_tys cI cJ cT cII cJJ) U)) (vp_Si Post) 0 0 (fun _ => False) := by
  refine Met.ofW (cc := cX7_person) (maxL := 3) (ret := (some .int)) (by decide) rfl ?_
  intro p e s m args below meth c s₁ B hml hv
  obtain ⟨rfl, hP, hK⟩ := hv
  have hx := B.exec
  have hb := B.bytes
  have hr := B.returns
  have hts := atoms_spec (ws := wsX7_person) B.pre
  have hown : s.vm.findClass RX7 = some m.cls := findClass_of_methodNamed B.named
  have hlocks := B.notSynchronized
  have hl := lv_entry ([.ref (ad 0), .int a1, .int a2]) (n := 3) (Nat.le_of_ble_eq_true rfl)
  rw [lg_entry_eq]
  generalize (lg_sl ([.ref (ad 0), .int a1, .int a2]) ++ List.replicate (3 - (lg_sl ([.ref (ad 0), .int a1, .int a2])).length) Slot.unset).toArray = ls at hl ⊢
  have hl : lv_has ls 3 [(0, .ref (ad 0)), (1, .int a1), (2, .int a2)] := hl
  unfold wpX7_person at hw
  refine lv_aload_n hx hb dX7_person_0 rfl (lv_at hl 0 rfl) ?_
  refine va_get (D := (dC, dI)) (ci := 7) (v := .ref (ad 1)) (C := RX7) (T := TX7) (N := 8) hx hb hts (fun w h => List.mem_cons_of_mem _ (List.mem_append_left _ (List.mem_append_left _ (List.mem_append_right _ h)))) hown hK hP 0 rfl rfl 0 (by decide) (hts (.fieldLink RX7 12 "BidMarket" "held" "LBidMarket$Holdings;") (List.mem_of_getElem? (i := 1) rfl)) (fun _ h9 => h9) rfl dX7_person_1 ?_
  refine va_get (D := (dC, dI)) (ci := 1) (v := .ref (ad 2)) (C := RX1) (T := TX1) (N := 4) hx hb hts (fun w h => List.mem_cons_of_mem _ (List.mem_append_left _ (List.mem_append_right _ h))) hown hK hP 1 rfl rfl 0 (by decide) (hts (.fieldLink RX7 60 "BidMarket$Holdings" "market" "LBidMarket$Market;") (List.mem_of_getElem? (i := 2) rfl)) (fun _ h9 => h9) rfl dX7_person_4 ?_
  refine lv_iload_n hx hb dX7_person_7 rfl (lv_at hl 1 rfl) ?_
  refine bw_pvi (wc := (wdX2_has cI cJ cT cII cJJ (fun k => ad (k + 2)) gn gpa gbr)) (As := [.int a1]) (rest := []) ⟨hx, hb, hml, hown, hts⟩ (mX2_has l dC dI cI cJ cT cII cJJ (fun k => ad (k + 2)) gn gpa gbr a1 _ hw) (cwV 1 hts gX7_person_X2_has rfl rfl rfl hdX2_has ⟨Nat.le_of_ble_eq_true rfl, Nat.le_of_ble_eq_true rfl⟩) hK hP [2] rfl rfl rfl rfl rfl hl.1 rfl (Nat.le_of_ble_eq_true rfl) ⟨Nat.le_of_ble_eq_true rfl, Nat.le_of_ble_eq_true rfl⟩ dX7_person_8 (fun r1 hw => ?_)
  refine lv_if_ne (tgt := 16) hx hb dX7_person_11 (by decide) (fun c2 => ?_) (fun c2 => ?_)
  · have hw := hw.1 c2
    refine lv_iload_n hx hb dX7_person_16 rfl (lv_at hl 2 rfl) ?_
    by_cases c3 : a2.toInt < 0 ∨ 3 < a2.toInt
    · have hw := hw.1 c3
      refine lv_tableOut (tgt := 106) hx hb dX7_person_17 c3 (by decide) ?_
      refine lv_iconst (v := (-1)) hx hb dX7_person_106 (by decide) ?_
      exact W.iret (v := (-1)) hx hb hr (fun t ht hW => ⟨(-1), rfl, hw, ht⟩) (fun _ h => by cases h) dX7_person_107
    have hw := hw.2
    by_cases c4 : a2 = 0
    · have hw := hw.1 c4
      refine lv_tableIn (tgt := 48) (off := 31) hx hb dX7_person_17 (fun h => c3 (Or.inl h)) (fun h => c3 (Or.inr h)) (by rw [c4]; rfl) (by decide) ?_
      refine lv_aload_n hx hb dX7_person_48 rfl (lv_at hl 0 rfl) ?_
      refine va_get (D := (dC, dI)) (ci := 7) (v := .ref (ad 1)) (C := RX7) (T := TX7) (N := 8) hx hb hts (fun w h => List.mem_cons_of_mem _ (List.mem_append_left _ (List.mem_append_left _ (List.mem_append_right _ h)))) hown hK hP 0 rfl rfl 0 (by decide) (hts (.fieldLink RX7 12 "BidMarket" "held" "LBidMarket$Holdings;") (List.mem_of_getElem? (i := 1) rfl)) (fun _ h9 => h9) rfl dX7_person_49 ?_
      refine va_get (D := (dC, dI)) (ci := 1) (v := .ref (ad 2)) (C := RX1) (T := TX1) (N := 4) hx hb hts (fun w h => List.mem_cons_of_mem _ (List.mem_append_left _ (List.mem_append_right _ h))) hown hK hP 1 rfl rfl 0 (by decide) (hts (.fieldLink RX7 60 "BidMarket$Holdings" "market" "LBidMarket$Market;") (List.mem_of_getElem? (i := 2) rfl)) (fun _ h9 => h9) rfl dX7_person_52 ?_
      refine va_get (D := (dC, dI)) (ci := 2) (v := .ref (ad 3)) (C := RX2) (T := TX2) (N := 7) hx hb hts (fun w h => List.mem_cons_of_mem _ (List.mem_append_right _ h)) hown hK hP 2 rfl rfl 1 (by decide) (hts (.fieldLink RX7 145 "BidMarket$Market" "thingOf" "[I") (List.mem_of_getElem? (i := 3) rfl)) (fun _ h9 => h9) rfl dX7_person_55 ?_
      refine lv_iload_n hx hb dX7_person_58 rfl (lv_at hl 1 rfl) ?_
      have h5 := hw.1
      have hw := hw.2
      refine va_iald hx hb hK hP 3 0 rfl rfl h5 dX7_person_59 ?_
      refine bw_psi (wc := []) (As := [.int (gth a1.toNatClampNeg)]) (rest := []) ⟨hx, hb, hml, hown, hts⟩ (mX7_shownNumber l dC dI cI cJ cT cII cJJ (gth a1.toNatClampNeg) _ hw) (va_cwS 1 hts gX7_person_X7_shownNumber rfl rfl rfl hdX7_shownNumber ⟨Nat.le_of_ble_eq_true rfl, Nat.le_of_ble_eq_true rfl⟩) hK hP [] rfl rfl hl.1 rfl (Nat.le_of_ble_eq_true rfl) ⟨Nat.le_of_ble_eq_true rfl, Nat.le_of_ble_eq_true rfl⟩ dX7_person_60 (fun r6 hw => ?_)
      exact W.iret (v := r6) hx hb hr (fun t ht hW => ⟨r6, rfl, hw, ht⟩) (fun _ h => by cases h) dX7_person_63
    have hw := hw.2
    by_cases c7 : a2 = 1
    · have hw := hw.1 c7
      refine lv_tableIn (tgt := 64) (off := 47) hx hb dX7_person_17 (fun h => c3 (Or.inl h)) (fun h => c3 (Or.inr h)) (by rw [c7]; rfl) (by decide) ?_
      refine lv_aload_n hx hb dX7_person_64 rfl (lv_at hl 0 rfl) ?_
      refine va_get (D := (dC, dI)) (ci := 7) (v := .ref (ad 1)) (C := RX7) (T := TX7) (N := 8) hx hb hts (fun w h => List.mem_cons_of_mem _ (List.mem_append_left _ (List.mem_append_left _ (List.mem_append_right _ h)))) hown hK hP 0 rfl rfl 0 (by decide) (hts (.fieldLink RX7 12 "BidMarket" "held" "LBidMarket$Holdings;") (List.mem_of_getElem? (i := 1) rfl)) (fun _ h9 => h9) rfl dX7_person_65 ?_
      refine va_get (D := (dC, dI)) (ci := 1) (v := .ref (ad 2)) (C := RX1) (T := TX1) (N := 4) hx hb hts (fun w h => List.mem_cons_of_mem _ (List.mem_append_left _ (List.mem_append_right _ h))) hown hK hP 1 rfl rfl 0 (by decide) (hts (.fieldLink RX7 60 "BidMarket$Holdings" "market" "LBidMarket$Market;") (List.mem_of_getElem? (i := 2) rfl)) (fun _ h9 => h9) rfl dX7_person_68 ?_
      refine lv_iload_n hx hb dX7_person_71 rfl (lv_at hl 1 rfl) ?_
      refine bw_pvi (wc := (wdX2_bestOf cI cJ cT cII cJJ (fun k => ad (k + 2)) gn gpa gbr gpr gw)) (As := [.int a1]) (rest := []) ⟨hx, hb, hml, hown, hts⟩ (mX2_bestOf l dC dI cI cJ cT cII cJJ (fun k => ad (k + 2)) gn gpa gbr gpr gw a1 _ hw) (cwV 1 hts gX7_person_X2_bestOf rfl rfl rfl hdX2_bestOf ⟨Nat.le_of_ble_eq_true rfl, Nat.le_of_ble_eq_true rfl⟩) hK hP [2, 4, 5, 6, 7, 8, 9, 10, 11, 12, 13] rfl rfl rfl rfl rfl hl.1 rfl (Nat.le_of_ble_eq_true rfl) ⟨Nat.le_of_ble_eq_true rfl, Nat.le_of_ble_eq_true rfl⟩ dX7_person_72 (fun r8 hw => ?_)
      refine bw_psi (wc := []) (As := [.int r8]) (rest := []) ⟨hx, hb, hml, hown, hts⟩ (mX7_shownNumber l dC dI cI cJ cT cII cJJ r8 _ hw) (va_cwS 1 hts gX7_person_X7_shownNumber rfl rfl rfl hdX7_shownNumber ⟨Nat.le_of_ble_eq_true rfl, Nat.le_of_ble_eq_true rfl⟩) hK hP [] rfl rfl hl.1 rfl (Nat.le_of_ble_eq_true rfl) ⟨Nat.le_of_ble_eq_true rfl, Nat.le_of_ble_eq_true rfl⟩ dX7_person_75 (fun r9 hw => ?_)
      exact W.iret (v := r9) hx hb hr (fun t ht hW => ⟨r9, rfl, hw, ht⟩) (fun _ h => by cases h) dX7_person_78
    have hw := hw.2
    by_cases c10 : a2 = 2
    · have hw := hw.1 c10
      refine lv_tableIn (tgt := 79) (off := 62) hx hb dX7_person_17 (fun h => c3 (Or.inl h)) (fun h => c3 (Or.inr h)) (by rw [c10]; rfl) (by decide) ?_
      refine lv_aload_n hx hb dX7_person_79 rfl (lv_at hl 0 rfl) ?_
      refine va_get (D := (dC, dI)) (ci := 7) (v := .ref (ad 1)) (C := RX7) (T := TX7) (N := 8) hx hb hts (fun w h => List.mem_cons_of_mem _ (List.mem_append_left _ (List.mem_append_left _ (List.mem_append_right _ h)))) hown hK hP 0 rfl rfl 0 (by decide) (hts (.fieldLink RX7 12 "BidMarket" "held" "LBidMarket$Holdings;") (List.mem_of_getElem? (i := 1) rfl)) (fun _ h9 => h9) rfl dX7_person_80 ?_
      refine va_get (D := (dC, dI)) (ci := 1) (v := .ref (ad 2)) (C := RX1) (T := TX1) (N := 4) hx hb hts (fun w h => List.mem_cons_of_mem _ (List.mem_append_left _ (List.mem_append_right _ h))) hown hK hP 1 rfl rfl 0 (by decide) (hts (.fieldLink RX7 60 "BidMarket$Holdings" "market" "LBidMarket$Market;") (List.mem_of_getElem? (i := 2) rfl)) (fun _ h9 => h9) rfl dX7_person_83 ?_
      refine lv_iload_n hx hb dX7_person_86 rfl (lv_at hl 1 rfl) ?_
      refine bw_pvi (wc := (wdX2_envyOf cI cJ cT cII cJJ (fun k => ad (k + 2)) gn gpa gbr gth gpr gw)) (As := [.int a1]) (rest := []) ⟨hx, hb, hml, hown, hts⟩ (mX2_envyOf l dC dI cI cJ cT cII cJJ (fun k => ad (k + 2)) gn gpa gbr gth gpr gw a1 _ hw) (cwV 1 hts gX7_person_X2_envyOf rfl rfl rfl hdX2_envyOf ⟨Nat.le_of_ble_eq_true rfl, Nat.le_of_ble_eq_true rfl⟩) hK hP [2, 3, 4, 5, 6, 7, 8, 9, 10, 11, 12, 13] rfl rfl rfl rfl rfl hl.1 rfl (Nat.le_of_ble_eq_true rfl) ⟨Nat.le_of_ble_eq_true rfl, Nat.le_of_ble_eq_true rfl⟩ dX7_person_87 (fun r11 hw => ?_)
      exact W.iret (v := r11) hx hb hr (fun t ht hW => ⟨r11, rfl, hw, ht⟩) (fun _ h => by cases h) dX7_person_90
    have hw := hw.2
    by_cases c12 : a2 = 3
    · have hw := hw c12
      refine lv_tableIn (tgt := 91) (off := 74) hx hb dX7_person_17 (fun h => c3 (Or.inl h)) (fun h => c3 (Or.inr h)) (by rw [c12]; rfl) (by decide) ?_
      refine lv_aload_n hx hb dX7_person_91 rfl (lv_at hl 0 rfl) ?_
      refine va_get (D := (dC, dI)) (ci := 7) (v := .ref (ad 1)) (C := RX7) (T := TX7) (N := 8) hx hb hts (fun w h => List.mem_cons_of_mem _ (List.mem_append_left _ (List.mem_append_left _ (List.mem_append_right _ h)))) hown hK hP 0 rfl rfl 0 (by decide) (hts (.fieldLink RX7 12 "BidMarket" "held" "LBidMarket$Holdings;") (List.mem_of_getElem? (i := 1) rfl)) (fun _ h9 => h9) rfl dX7_person_92 ?_
      refine va_get (D := (dC, dI)) (ci := 1) (v := .ref (ad 2)) (C := RX1) (T := TX1) (N := 4) hx hb hts (fun w h => List.mem_cons_of_mem _ (List.mem_append_left _ (List.mem_append_right _ h))) hown hK hP 1 rfl rfl 0 (by decide) (hts (.fieldLink RX7 60 "BidMarket$Holdings" "market" "LBidMarket$Market;") (List.mem_of_getElem? (i := 2) rfl)) (fun _ h9 => h9) rfl dX7_person_95 ?_
      refine lv_iload_n hx hb dX7_person_98 rfl (lv_at hl 1 rfl) ?_
      refine bw_pvi (wc := (wdX2_allowedTo cI cJ cT cII cJJ (fun k => ad (k + 2)) gn gpa gbr gw)) (As := [.int a1]) (rest := []) ⟨hx, hb, hml, hown, hts⟩ (mX2_allowedTo l dC dI cI cJ cT cII cJJ (fun k => ad (k + 2)) gn gpa gbr gw a1 _ hw) (cwV 1 hts gX7_person_X2_allowedTo rfl rfl rfl hdX2_allowedTo ⟨Nat.le_of_ble_eq_true rfl, Nat.le_of_ble_eq_true rfl⟩) hK hP [2, 5, 6, 7, 8, 9, 10, 11, 12, 13] rfl rfl rfl rfl rfl hl.1 rfl (Nat.le_of_ble_eq_true rfl) ⟨Nat.le_of_ble_eq_true rfl, Nat.le_of_ble_eq_true rfl⟩ dX7_person_99 (fun r13 hw => ?_)
      refine bw_psi (wc := []) (As := [.int r13]) (rest := []) ⟨hx, hb, hml, hown, hts⟩ (mJ6_bitCount_0f7a4 l dC dI cI cJ cT cII cJJ r13 _ hw) (va_cwS 1 hts gX7_person_J6_bitCount_0f7a4 rfl rfl rfl hdJ6_bitCount_0f7a4 ⟨Nat.le_of_ble_eq_true rfl, Nat.le_of_ble_eq_true rfl⟩) hK hP [] rfl rfl hl.1 rfl (Nat.le_of_ble_eq_true rfl) ⟨Nat.le_of_ble_eq_true rfl, Nat.le_of_ble_eq_true rfl⟩ dX7_person_102 (fun r14 hw => ?_)
      exact W.iret (v := r14) hx hb hr (fun t ht hW => ⟨r14, rfl, hw, ht⟩) (fun _ h => by cases h) dX7_person_105
    exact (bw_sw 3 c3 (fun k hk => match k, hk with | 0, _ => c4 | 1, _ => c7 | 2, _ => c10 | 3, _ => c12 | k + 4, h => absurd h (by omega))).elim
  · have hw := hw.2 c2
    refine lv_iconst (v := (-1)) hx hb dX7_person_14 (by decide) ?_
    exact W.iret (v := (-1)) hx hb hr (fun t ht hW => ⟨(-1), rfl, hw, ht⟩) (fun _ h => by cases h) dX7_person_15
set_option maxHeartbeats 4000000 in
set_option maxRecDepth 100000 in
theorem mX7_thing (l : Launch) (dC : Nat → ClassId) (dI : Nat → Nat → Nat) (cI cJ cT cII cJJ : ClassId) (ad : Nat → Nat) (im : Int32) (gn : Int32) (gpa : Int32) (gbr : Int32) (gpe : Nat → Int32) (gpr : Nat → Int32) (gw : Nat → Nat → Int32) (a1 : Int32) (a2 : Int32) (Post : Int32 → Prop) (hw : wpX7_thing gn gpe gpr gw a1 a2 Post) : Met l yX7_thing wsX7_thing ({ frames := 4, cells := 0, slots := 0, locals := 92 } : Room) (va_Pc [.ref (ad 0), .int a1, .int a2] (fun U => va_P (dC, dI) vwCl (wdX7_thing cI cJ cT cII cJJ ad im gn gpa gbr gpe gpr gw) U.heap ∧ va_K (dC, dI) vwCl (bw_tys cI cJ cT cII cJJ) U)) (vp_Si Post) 0 0 (fun _ => False) := by
  refine Met.ofW (cc := cX7_thing) (maxL := 3) (ret := (some .int)) (by decide) rfl ?_
  intro p e s m args below meth c s₁ B hml hv
  obtain ⟨rfl, hP, hK⟩ := hv
  have hx := B.exec
  have hb := B.bytes
  have hr := B.returns
  have hts := atoms_spec (ws := wsX7_thing) B.pre
  have hown : s.vm.findClass RX7 = some m.cls := findClass_of_methodNamed B.named
  have hlocks := B.notSynchronized
  have hl := lv_entry ([.ref (ad 0), .int a1, .int a2]) (n := 3) (Nat.le_of_ble_eq_true rfl)
  rw [lg_entry_eq]
  generalize (lg_sl ([.ref (ad 0), .int a1, .int a2]) ++ List.replicate (3 - (lg_sl ([.ref (ad 0), .int a1, .int a2])).length) Slot.unset).toArray = ls at hl ⊢
  have hl : lv_has ls 3 [(0, .ref (ad 0)), (1, .int a1), (2, .int a2)] := hl
  unfold wpX7_thing at hw
  refine lv_aload_n hx hb dX7_thing_0 rfl (lv_at hl 0 rfl) ?_
  refine va_get (D := (dC, dI)) (ci := 7) (v := .ref (ad 1)) (C := RX7) (T := TX7) (N := 8) hx hb hts (fun w h => List.mem_cons_of_mem _ (List.mem_append_left _ (List.mem_append_left _ (List.mem_append_right _ h)))) hown hK hP 0 rfl rfl 0 (by decide) (hts (.fieldLink RX7 12 "BidMarket" "held" "LBidMarket$Holdings;") (List.mem_of_getElem? (i := 1) rfl)) (fun _ h9 => h9) rfl dX7_thing_1 ?_
  refine va_get (D := (dC, dI)) (ci := 1) (v := .ref (ad 2)) (C := RX1) (T := TX1) (N := 4) hx hb hts (fun w h => List.mem_cons_of_mem _ (List.mem_append_left _ (List.mem_append_right _ h))) hown hK hP 1 rfl rfl 0 (by decide) (hts (.fieldLink RX7 60 "BidMarket$Holdings" "market" "LBidMarket$Market;") (List.mem_of_getElem? (i := 2) rfl)) (fun _ h9 => h9) rfl dX7_thing_4 ?_
  refine lv_iload_n hx hb dX7_thing_7 rfl (lv_at hl 1 rfl) ?_
  refine bw_pvi (wc := (wdX2_has cI cJ cT cII cJJ (fun k => ad (k + 2)) gn gpa gbr)) (As := [.int a1]) (rest := []) ⟨hx, hb, hml, hown, hts⟩ (mX2_has l dC dI cI cJ cT cII cJJ (fun k => ad (k + 2)) gn gpa gbr a1 _ hw) (cwV 1 hts gX7_thing_X2_has rfl rfl rfl hdX2_has ⟨Nat.le_of_ble_eq_true rfl, Nat.le_of_ble_eq_true rfl⟩) hK hP [2] rfl rfl rfl rfl rfl hl.1 rfl (Nat.le_of_ble_eq_true rfl) ⟨Nat.le_of_ble_eq_true rfl, Nat.le_of_ble_eq_true rfl⟩ dX7_thing_8 (fun r1 hw => ?_)
  refine lv_if_ne (tgt := 16) hx hb dX7_thing_11 (by decide) (fun c2 => ?_) (fun c2 => ?_)
  · have hw := hw.1 c2
    refine lv_iload_n hx hb dX7_thing_16 rfl (lv_at hl 2 rfl) ?_
    by_cases c3 : a2.toInt < 0 ∨ 2 < a2.toInt
    · have hw := hw.1 c3
      refine lv_tableOut (tgt := 85) hx hb dX7_thing_17 c3 (by decide) ?_
      refine lv_iconst (v := (-1)) hx hb dX7_thing_85 (by decide) ?_
      exact W.iret (v := (-1)) hx hb hr (fun t ht hW => ⟨(-1), rfl, hw, ht⟩) (fun _ h => by cases h) dX7_thing_86
    have hw := hw.2
    by_cases c4 : a2 = 0
    · have hw := hw.1 c4
      refine lv_tableIn (tgt := 44) (off := 27) hx hb dX7_thing_17 (fun h => c3 (Or.inl h)) (fun h => c3 (Or.inr h)) (by rw [c4]; rfl) (by decide) ?_
      refine lv_aload_n hx hb dX7_thing_44 rfl (lv_at hl 0 rfl) ?_
      refine va_get (D := (dC, dI)) (ci := 7) (v := .ref (ad 1)) (C := RX7) (T := TX7) (N := 8) hx hb hts (fun w h => List.mem_cons_of_mem _ (List.mem_append_left _ (List.mem_append_left _ (List.mem_append_right _ h)))) hown hK hP 0 rfl rfl 0 (by decide) (hts (.fieldLink RX7 12 "BidMarket" "held" "LBidMarket$Holdings;") (List.mem_of_getElem? (i := 1) rfl)) (fun _ h9 => h9) rfl dX7_thing_45 ?_
      refine va_get (D := (dC, dI)) (ci := 1) (v := .ref (ad 2)) (C := RX1) (T := TX1) (N := 4) hx hb hts (fun w h => List.mem_cons_of_mem _ (List.mem_append_left _ (List.mem_append_right _ h))) hown hK hP 1 rfl rfl 0 (by decide) (hts (.fieldLink RX7 60 "BidMarket$Holdings" "market" "LBidMarket$Market;") (List.mem_of_getElem? (i := 2) rfl)) (fun _ h9 => h9) rfl dX7_thing_48 ?_
      refine va_get (D := (dC, dI)) (ci := 2) (v := .ref (ad 5)) (C := RX2) (T := TX2) (N := 7) hx hb hts (fun w h => List.mem_cons_of_mem _ (List.mem_append_right _ h)) hown hK hP 2 rfl rfl 3 (by decide) (hts (.fieldLink RX7 165 "BidMarket$Market" "prices" "[I") (List.mem_of_getElem? (i := 3) rfl)) (fun _ h9 => h9) rfl dX7_thing_51 ?_
      refine lv_iload_n hx hb dX7_thing_54 rfl (lv_at hl 1 rfl) ?_
      have h5 := hw.1
      have hw := hw.2
      refine va_iald hx hb hK hP 4 0 rfl rfl h5 dX7_thing_55 ?_
      exact W.iret (v := gpr a1.toNatClampNeg) hx hb hr (fun t ht hW => ⟨gpr a1.toNatClampNeg, rfl, hw, ht⟩) (fun _ h => by cases h) dX7_thing_56
    have hw := hw.2
    by_cases c6 : a2 = 1
    · have hw := hw.1 c6
      refine lv_tableIn (tgt := 57) (off := 40) hx hb dX7_thing_17 (fun h => c3 (Or.inl h)) (fun h => c3 (Or.inr h)) (by rw [c6]; rfl) (by decide) ?_
      refine lv_aload_n hx hb dX7_thing_57 rfl (lv_at hl 0 rfl) ?_
      refine va_get (D := (dC, dI)) (ci := 7) (v := .ref (ad 1)) (C := RX7) (T := TX7) (N := 8) hx hb hts (fun w h => List.mem_cons_of_mem _ (List.mem_append_left _ (List.mem_append_left _ (List.mem_append_right _ h)))) hown hK hP 0 rfl rfl 0 (by decide) (hts (.fieldLink RX7 12 "BidMarket" "held" "LBidMarket$Holdings;") (List.mem_of_getElem? (i := 1) rfl)) (fun _ h9 => h9) rfl dX7_thing_58 ?_
      refine va_get (D := (dC, dI)) (ci := 1) (v := .ref (ad 2)) (C := RX1) (T := TX1) (N := 4) hx hb hts (fun w h => List.mem_cons_of_mem _ (List.mem_append_left _ (List.mem_append_right _ h))) hown hK hP 1 rfl rfl 0 (by decide) (hts (.fieldLink RX7 60 "BidMarket$Holdings" "market" "LBidMarket$Market;") (List.mem_of_getElem? (i := 2) rfl)) (fun _ h9 => h9) rfl dX7_thing_61 ?_
      refine va_get (D := (dC, dI)) (ci := 2) (v := .ref (ad 4)) (C := RX2) (T := TX2) (N := 7) hx hb hts (fun w h => List.mem_cons_of_mem _ (List.mem_append_right _ h)) hown hK hP 2 rfl rfl 2 (by decide) (hts (.fieldLink RX7 168 "BidMarket$Market" "personOf" "[I") (List.mem_of_getElem? (i := 4) rfl)) (fun _ h9 => h9) rfl dX7_thing_64 ?_
      refine lv_iload_n hx hb dX7_thing_67 rfl (lv_at hl 1 rfl) ?_
      have h7 := hw.1
      have hw := hw.2
      refine va_iald hx hb hK hP 3 0 rfl rfl h7 dX7_thing_68 ?_
      refine bw_psi (wc := []) (As := [.int (gpe a1.toNatClampNeg)]) (rest := []) ⟨hx, hb, hml, hown, hts⟩ (mX7_shownNumber l dC dI cI cJ cT cII cJJ (gpe a1.toNatClampNeg) _ hw) (va_cwS 1 hts gX7_thing_X7_shownNumber rfl rfl rfl hdX7_shownNumber ⟨Nat.le_of_ble_eq_true rfl, Nat.le_of_ble_eq_true rfl⟩) hK hP [] rfl rfl hl.1 rfl (Nat.le_of_ble_eq_true rfl) ⟨Nat.le_of_ble_eq_true rfl, Nat.le_of_ble_eq_true rfl⟩ dX7_thing_69 (fun r8 hw => ?_)
      exact W.iret (v := r8) hx hb hr (fun t ht hW => ⟨r8, rfl, hw, ht⟩) (fun _ h => by cases h) dX7_thing_72
    have hw := hw.2
    by_cases c9 : a2 = 2
    · have hw := hw c9
      refine lv_tableIn (tgt := 73) (off := 56) hx hb dX7_thing_17 (fun h => c3 (Or.inl h)) (fun h => c3 (Or.inr h)) (by rw [c9]; rfl) (by decide) ?_
      refine lv_aload_n hx hb dX7_thing_73 rfl (lv_at hl 0 rfl) ?_
      refine va_get (D := (dC, dI)) (ci := 7) (v := .ref (ad 1)) (C := RX7) (T := TX7) (N := 8) hx hb hts (fun w h => List.mem_cons_of_mem _ (List.mem_append_left _ (List.mem_append_left _ (List.mem_append_right _ h)))) hown hK hP 0 rfl rfl 0 (by decide) (hts (.fieldLink RX7 12 "BidMarket" "held" "LBidMarket$Holdings;") (List.mem_of_getElem? (i := 1) rfl)) (fun _ h9 => h9) rfl dX7_thing_74 ?_
      refine va_get (D := (dC, dI)) (ci := 1) (v := .ref (ad 2)) (C := RX1) (T := TX1) (N := 4) hx hb hts (fun w h => List.mem_cons_of_mem _ (List.mem_append_left _ (List.mem_append_right _ h))) hown hK hP 1 rfl rfl 0 (by decide) (hts (.fieldLink RX7 60 "BidMarket$Holdings" "market" "LBidMarket$Market;") (List.mem_of_getElem? (i := 2) rfl)) (fun _ h9 => h9) rfl dX7_thing_77 ?_
      refine lv_iload_n hx hb dX7_thing_80 rfl (lv_at hl 1 rfl) ?_
      refine bw_pvi (wc := (wdX2_wantersOf cI cJ cT cII cJJ (fun k => ad (k + 2)) gn gpa gbr gpr gw)) (As := [.int a1]) (rest := []) ⟨hx, hb, hml, hown, hts⟩ (mX2_wantersOf l dC dI cI cJ cT cII cJJ (fun k => ad (k + 2)) gn gpa gbr gpr gw a1 _ hw) (cwV 1 hts gX7_thing_X2_wantersOf rfl rfl rfl hdX2_wantersOf ⟨Nat.le_of_ble_eq_true rfl, Nat.le_of_ble_eq_true rfl⟩) hK hP [2, 4, 5, 6, 7, 8, 9, 10, 11, 12, 13] rfl rfl rfl rfl rfl hl.1 rfl (Nat.le_of_ble_eq_true rfl) ⟨Nat.le_of_ble_eq_true rfl, Nat.le_of_ble_eq_true rfl⟩ dX7_thing_81 (fun r10 hw => ?_)
      exact W.iret (v := r10) hx hb hr (fun t ht hW => ⟨r10, rfl, hw, ht⟩) (fun _ h => by cases h) dX7_thing_84
    exact (bw_sw 2 c3 (fun k hk => match k, hk with | 0, _ => c4 | 1, _ => c6 | 2, _ => c9 | k + 3, h => absurd h (by omega))).elim
  · have hw := hw.2 c2
    refine lv_iconst (v := (-1)) hx hb dX7_thing_14 (by decide) ?_
    exact W.iret (v := (-1)) hx hb hr (fun t ht hW => ⟨(-1), rfl, hw, ht⟩) (fun _ h => by cases h) dX7_thing_15
set_option maxHeartbeats 4000000 in
set_option maxRecDepth 100000 in
theorem mX7_bid (l : Launch) (dC : Nat → ClassId) (dI : Nat → Nat → Nat) (cI cJ cT cII cJJ : ClassId) (ad : Nat → Nat) (sz : Nat) (im : Int32) (gn : Int32) (gpa : Int32) (gbr : Int32) (gth : Nat → Int32) (gpe : Nat → Int32) (gpr : Nat → Int32) (gw : Nat → Nat → Int32) (Post : Int32 → (Nat → Int32) → (Nat → Int32) → (Nat → Int32) → Prop) (hw : wpX7_bid gn gpa gth gpe gpr gw Post) : Met l yX7_bid wsX7_bid ({ frames := 4, cells := 0, slots := 0, locals := 95 } : Room) (va_Pc [.ref (ad 0)] (fun U => U.heap.size = sz ∧ va_P (dC, dI) vwCl (wdX7_bid cI cJ cT cII cJJ ad im gn gpa gbr gth gpe gpr gw) U.heap ∧ va_K (dC, dI) vwCl (bw_tys cI cJ cT cII cJJ) U ∧ va_D (fun _ => True) (wdX7_bid cI cJ cT cII cJJ ad im gn gpa gbr gth gpe gpr gw))) (va_Qi (fun (r : Int32) (u : (Nat → Int32) × (Nat → Int32) × (Nat → Int32)) => Post r u.1 u.2.1 u.2.2) (fun (u : (Nat → Int32) × (Nat → Int32) × (Nat → Int32)) t => va_P (dC, dI) vwCl (wdX7_bid cI cJ cT cII cJJ ad im gn gpa gbr u.1 u.2.1 u.2.2 gw) t.heap) (va_A (wdX7_bid cI cJ cT cII cJJ ad im gn gpa gbr gth gpe gpr gw) sz)) 0 0 (va_A (wdX7_bid cI cJ cT cII cJJ ad im gn gpa gbr gth gpe gpr gw) sz) := by
  refine Met.ofW (cc := cX7_bid) (maxL := 1) (ret := (some .int)) (by decide) rfl ?_
  intro p e s m args below meth c s₁ B hml hv
  obtain ⟨rfl, hsz, hP, hK, hD0⟩ := hv
  have hx := B.exec
  have hb := B.bytes
  have hr := B.returns
  have hts := atoms_spec (ws := wsX7_bid) B.pre
  have hown : s.vm.findClass RX7 = some m.cls := findClass_of_methodNamed B.named
  have hlocks := B.notSynchronized
  subst hsz
  have hD := hD0.self (sz := s.heap.size)
  generalize hAe : va_A (wdX7_bid cI cJ cT cII cJJ ad im gn gpa gbr gth gpe gpr gw) s.heap.size = A at hD ⊢
  have hA : ∀ q : Nat, s.heap.size ≤ q → A q := fun q h => by rw [← hAe]; exact Or.inr h
  have hS : va_S A s.heap s.heap [] := va_S.rf
  have hl := lv_entry ([.ref (ad 0)]) (n := 1) (Nat.le_of_ble_eq_true rfl)
  rw [lg_entry_eq]
  generalize (lg_sl ([.ref (ad 0)]) ++ List.replicate (1 - (lg_sl ([.ref (ad 0)])).length) Slot.unset).toArray = ls at hl ⊢
  have hl : lv_has ls 1 [(0, .ref (ad 0))] := hl
  unfold wpX7_bid at hw
  refine lv_aload_n hx hb dX7_bid_0 rfl (lv_at hl 0 rfl) ?_
  refine va_get (D := (dC, dI)) (ci := 7) (v := .ref (ad 1)) (C := RX7) (T := TX7) (N := 8) hx hb hts (fun w h => List.mem_cons_of_mem _ (List.mem_append_left _ (List.mem_append_left _ (List.mem_append_right _ h)))) hown hK hP 0 rfl rfl 0 (by decide) (hts (.fieldLink RX7 12 "BidMarket" "held" "LBidMarket$Holdings;") (List.mem_of_getElem? (i := 1) rfl)) (fun _ h9 => h9) rfl dX7_bid_1 ?_
  refine va_get (D := (dC, dI)) (ci := 1) (v := .ref (ad 2)) (C := RX1) (T := TX1) (N := 4) hx hb hts (fun w h => List.mem_cons_of_mem _ (List.mem_append_left _ (List.mem_append_right _ h))) hown hK hP 1 rfl rfl 0 (by decide) (hts (.fieldLink RX7 60 "BidMarket$Holdings" "market" "LBidMarket$Market;") (List.mem_of_getElem? (i := 2) rfl)) (fun _ h9 => h9) rfl dX7_bid_4 ?_
  refine bw_wvi (wc := (wdX2_letNextBid cI cJ cT cII cJJ (fun k => ad (k + 2)) gn gpa gbr gth gpe gpr gw)) (w1 := (fun (u : (Nat → Int32) × (Nat → Int32) × (Nat → Int32)) => wdX2_letNextBid cI cJ cT cII cJJ (fun k => ad (k + 2)) gn gpa gbr u.1 u.2.1 u.2.2 gw)) (As := []) (rest := []) ⟨hx, hb, hml, hown, hts⟩ (mX2_letNextBid l dC dI cI cJ cT cII cJJ (fun k => ad (k + 2)) _ gn gpa gbr gth gpe gpr gw _ hw) (cwV 0 hts gX7_bid_X2_letNextBid rfl rfl rfl hdX2_letNextBid ⟨Nat.le_of_ble_eq_true rfl, Nat.le_of_ble_eq_true rfl⟩) hK hP hD hS hA [2, 3, 4, 5, 6, 7, 8, 9, 10, 11, 12, 13, 14] rfl (by decide) (fun _ => rfl) rfl rfl rfl rfl hl.1 rfl (Nat.le_of_ble_eq_true rfl) ⟨Nat.le_of_ble_eq_true rfl, Nat.le_of_ble_eq_true rfl⟩ dX7_bid_7 (fun r1 u H locs hw hP hD hS => ?_)
  obtain ⟨y2, y3, y4⟩ := u
  try dsimp only at hw
  have hP : va_P (dC, dI) vwCl (wdX7_bid cI cJ cT cII cJJ ad im gn gpa gbr y2 y3 y4 gw) H := hP
  have hD : va_D A (wdX7_bid cI cJ cT cII cJJ ad im gn gpa gbr y2 y3 y4 gw) := hD
  refine bw_psi (wc := []) (As := [.int r1]) (rest := []) ⟨hx, hb, hml, hown, hts⟩ (mX7_shownNumber l dC dI cI cJ cT cII cJJ r1 _ hw) (va_cwS 1 hts gX7_bid_X7_shownNumber rfl rfl rfl hdX7_shownNumber ⟨Nat.le_of_ble_eq_true rfl, Nat.le_of_ble_eq_true rfl⟩) hK hP [] rfl rfl hl.1 rfl (Nat.le_of_ble_eq_true rfl) ⟨Nat.le_of_ble_eq_true rfl, Nat.le_of_ble_eq_true rfl⟩ dX7_bid_10 (fun r5 hw => ?_)
  exact W.iret (v := r5) hx hb hr (fun t ht hW => ⟨⟨r5, (y2, y3, y4), rfl, hw, by show va_P _ _ _ t.heap; rw [ht]; exact hP⟩, hS.F ht⟩) hS.2.2 dX7_bid_13
set_option maxHeartbeats 4000000 in
set_option maxRecDepth 100000 in
theorem mX7_reported (l : Launch) (dC : Nat → ClassId) (dI : Nat → Nat → Nat) (cI cJ cT cII cJJ : ClassId) (ad : Nat → Nat) (sz : Nat) (im : Int32) (gn : Int32) (gpa : Int32) (gbr : Int32) (gth : Nat → Int32) (ck : Int32) (cc : Int32) (cd : Int32) (a1 : Int32) (Post : Int32 → Int32 → Int32 → Int32 → Prop) (hw : wpX7_reported gn gbr gth ck cc cd a1 Post) : Met l yX7_reported wsX7_reported ({ frames := 1, cells := 0, slots := 0, locals := 23 } : Room) (va_Pc [.ref (ad 0), .int a1] (fun U => U.heap.size = sz ∧ va_P (dC, dI) vwCl (wdX7_reported cI cJ cT cII cJJ ad im gn gpa gbr gth ck cc cd) U.heap ∧ va_K (dC, dI) vwCl (bw_tys cI cJ cT cII cJJ) U ∧ va_D (fun _ => True) (wdX7_reported cI cJ cT cII cJJ ad im gn gpa gbr gth ck cc cd))) (va_Qi (fun (r : Int32) (u : Int32 × Int32 × Int32) => Post r u.1 u.2.1 u.2.2) (fun (u : Int32 × Int32 × Int32) t => va_P (dC, dI) vwCl (wdX7_reported cI cJ cT cII cJJ ad im gn gpa gbr gth u.1 u.2.1 u.2.2) t.heap) (va_A (wdX7_reported cI cJ cT cII cJJ ad im gn gpa gbr gth ck cc cd) sz)) 0 0 (va_A (wdX7_reported cI cJ cT cII cJJ ad im gn gpa gbr gth ck cc cd) sz) := by
  refine Met.ofW (cc := cX7_reported) (maxL := 5) (ret := (some .int)) (by decide) rfl ?_
  intro p e s m args below meth c s₁ B hml hv
  obtain ⟨rfl, hsz, hP, hK, hD0⟩ := hv
  have hx := B.exec
  have hb := B.bytes
  have hr := B.returns
  have hts := atoms_spec (ws := wsX7_reported) B.pre
  have hown : s.vm.findClass RX7 = some m.cls := findClass_of_methodNamed B.named
  have hlocks := B.notSynchronized
  subst hsz
  have hD := hD0.self (sz := s.heap.size)
  generalize hAe : va_A (wdX7_reported cI cJ cT cII cJJ ad im gn gpa gbr gth ck cc cd) s.heap.size = A at hD ⊢
  have hA : ∀ q : Nat, s.heap.size ≤ q → A q := fun q h => by rw [← hAe]; exact Or.inr h
  have hS : va_S A s.heap s.heap [] := va_S.rf
  have hl := lv_entry ([.ref (ad 0), .int a1]) (n := 5) (Nat.le_of_ble_eq_true rfl)
  rw [lg_entry_eq]
  generalize (lg_sl ([.ref (ad 0), .int a1]) ++ List.replicate (5 - (lg_sl ([.ref (ad 0), .int a1])).length) Slot.unset).toArray = ls at hl ⊢
  have hl : lv_has ls 5 [(0, .ref (ad 0)), (1, .int a1)] := hl
  unfold wpX7_reported at hw
  refine lv_aload_n hx hb dX7_reported_0 rfl (lv_at hl 0 rfl) ?_
  refine va_get (D := (dC, dI)) (ci := 7) (v := .ref (ad 1)) (C := RX7) (T := TX7) (N := 8) hx hb hts (fun w h => List.mem_cons_of_mem _ (List.mem_append_left _ (List.mem_append_left _ (List.mem_append_left _ (List.mem_append_right _ h))))) hown hK hP 0 rfl rfl 0 (by decide) (hts (.fieldLink RX7 12 "BidMarket" "held" "LBidMarket$Holdings;") (List.mem_of_getElem? (i := 1) rfl)) (fun _ h9 => h9) rfl dX7_reported_1 ?_
  refine va_get (D := (dC, dI)) (ci := 1) (v := .ref (ad 2)) (C := RX1) (T := TX1) (N := 4) hx hb hts (fun w h => List.mem_cons_of_mem _ (List.mem_append_left _ (List.mem_append_left _ (List.mem_append_right _ h)))) hown hK hP 1 rfl rfl 0 (by decide) (hts (.fieldLink RX7 60 "BidMarket$Holdings" "market" "LBidMarket$Market;") (List.mem_of_getElem? (i := 2) rfl)) (fun _ h9 => h9) rfl dX7_reported_4 ?_
  refine lv_astore_n (lv' := [(2, .ref (ad 2)), (0, .ref (ad 0)), (1, .int a1)]) hx hb dX7_reported_7 rfl hl (by decide) rfl (fun ls hl => ?_)
  refine lv_aload_n hx hb dX7_reported_8 rfl (lv_at hl 0 rfl) ?_
  refine va_get (D := (dC, dI)) (ci := 2) (v := .int gbr) (C := RX2) (T := TX2) (N := 7) hx hb hts (fun w h => List.mem_cons_of_mem _ (List.mem_append_left _ (List.mem_append_right _ h))) hown hK hP 2 rfl rfl 6 (by decide) (hts (.fieldLink RX7 295 "BidMarket$Market" "breaker" "I") (List.mem_of_getElem? (i := 3) rfl)) (fun _ h9 => h9) rfl dX7_reported_9 ?_
  refine lv_if_lt (tgt := 38) hx hb dX7_reported_12 (by decide) (fun c1 => ?_) (fun c1 => ?_)
  · have hw := hw.1 c1
    refine lv_aload_n hx hb dX7_reported_38 rfl (lv_at hl 0 rfl) ?_
    refine bw_pvi (wc := (wdX2_leastWithout cI cJ cT cII cJJ (fun k => ad (k + 2)) gn gpa gbr gth)) (As := []) (rest := []) ⟨hx, hb, hml, hown, hts⟩ (mX2_leastWithout l dC dI cI cJ cT cII cJJ (fun k => ad (k + 2)) gn gpa gbr gth _ hw) (cwV 0 hts gX7_reported_X2_leastWithout rfl rfl rfl hdX2_leastWithout ⟨Nat.le_of_ble_eq_true rfl, Nat.le_of_ble_eq_true rfl⟩) hK hP [2, 3] rfl rfl rfl rfl rfl hl.1 rfl (Nat.le_of_ble_eq_true rfl) ⟨Nat.le_of_ble_eq_true rfl, Nat.le_of_ble_eq_true rfl⟩ dX7_reported_39 (fun r2 hw => ?_)
    refine lv_istore_n (lv' := [(3, .int r2), (2, .ref (ad 2)), (0, .ref (ad 0)), (1, .int a1)]) hx hb dX7_reported_42 rfl hl (by decide) rfl (fun ls hl => ?_)
    refine lv_iload_n hx hb dX7_reported_43 rfl (lv_at hl 0 rfl) ?_
    refine lv_if_lt (tgt := 77) hx hb dX7_reported_44 (by decide) (fun c3 => ?_) (fun c3 => ?_)
    · have hw := hw.1 c3
      refine lv_iload_n hx hb dX7_reported_77 rfl (lv_at hl 3 rfl) ?_
      exact W.iret (v := a1) hx hb hr (fun t ht hW => ⟨⟨a1, (ck, cc, cd), rfl, hw, by show va_P _ _ _ t.heap; rw [ht]; exact hP⟩, hS.F ht⟩) hS.2.2 dX7_reported_78
    · have hw := hw.2 c3
      refine lv_aload_n hx hb dX7_reported_47 rfl (lv_at hl 1 rfl) ?_
      refine va_get (D := (dC, dI)) (ci := 2) (v := .int gn) (C := RX2) (T := TX2) (N := 7) hx hb hts (fun w h => List.mem_cons_of_mem _ (List.mem_append_left _ (List.mem_append_right _ h))) hown hK hP 2 rfl rfl 4 (by decide) (hts (.fieldLink RX7 63 "BidMarket$Market" "n" "I") (List.mem_of_getElem? (i := 5) rfl)) (fun _ h9 => h9) rfl dX7_reported_48 ?_
      refine lv_aload_n hx hb dX7_reported_51 rfl (lv_at hl 1 rfl) ?_
      refine bw_pvi (wc := (wdX2_ownersCounted cI cJ cT cII cJJ (fun k => ad (k + 2)) gn gpa gbr gth)) (As := []) (rest := [.int gn]) ⟨hx, hb, hml, hown, hts⟩ (mX2_ownersCounted l dC dI cI cJ cT cII cJJ (fun k => ad (k + 2)) gn gpa gbr gth _ hw) (cwV 0 hts gX7_reported_X2_ownersCounted rfl rfl rfl hdX2_ownersCounted ⟨Nat.le_of_ble_eq_true rfl, Nat.le_of_ble_eq_true rfl⟩) hK hP [2, 3] rfl rfl rfl rfl rfl hl.1 rfl (Nat.le_of_ble_eq_true rfl) ⟨Nat.le_of_ble_eq_true rfl, Nat.le_of_ble_eq_true rfl⟩ dX7_reported_52 (fun r4 hw => ?_)
      refine lv_isub hx hb dX7_reported_55 ?_
      refine lv_topi (fun x5 ex5 => ?_)
      have hw := hw x5 ex5
      refine lv_istore (lv' := [(4, .int x5), (3, .int r2), (2, .ref (ad 2)), (0, .ref (ad 0)), (1, .int a1)]) hx hb dX7_reported_56 hl (by decide) rfl (fun ls hl => ?_)
      refine lv_aload_n hx hb dX7_reported_58 rfl (lv_at hl 3 rfl) ?_
      refine va_get (D := (dC, dI)) (ci := 7) (v := .ref (ad 67)) (C := RX7) (T := TX7) (N := 8) hx hb hts (fun w h => List.mem_cons_of_mem _ (List.mem_append_left _ (List.mem_append_left _ (List.mem_append_left _ (List.mem_append_right _ h))))) hown hK hP 0 rfl rfl 5 (by decide) (hts (.fieldLink RX7 45 "BidMarket" "complaint" "LBidMarket$Complaint;") (List.mem_of_getElem? (i := 4) rfl)) (fun _ h9 => h9) rfl dX7_reported_59 ?_
      refine lv_iconst (v := 5) hx hb dX7_reported_62 (by decide) ?_
      refine lv_sipush (v := 200) hx hb dX7_reported_63 (by decide) ?_
      refine lv_iload_n hx hb dX7_reported_66 rfl (lv_at hl 1 rfl) ?_
      refine lv_iadd hx hb dX7_reported_67 ?_
      refine lv_sipush (v := 300) hx hb dX7_reported_68 (by decide) ?_
      refine lv_iload hx hb dX7_reported_71 (lv_at hl 0 rfl) ?_
      refine lv_iadd hx hb dX7_reported_73 ?_
      refine bw_wvv (wc := (wdX0_tell cI cJ cT cII cJJ (fun k => ad (k + 67)) ck cc cd)) (w1 := (fun (u : Int32 × Int32 × Int32) => wdX0_tell cI cJ cT cII cJJ (fun k => ad (k + 67)) u.1 u.2.1 u.2.2)) (As := [.int 5, .int (200 + r2), .int (300 + x5)]) (rest := []) ⟨hx, hb, hml, hown, hts⟩ (mX0_tell l dC dI cI cJ cT cII cJJ (fun k => ad (k + 67)) _ ck cc cd 5 (200 + r2) (300 + x5) _ hw) (cwV 3 hts gX7_reported_X0_tell rfl rfl rfl hdX0_tell ⟨Nat.le_of_ble_eq_true rfl, Nat.le_of_ble_eq_true rfl⟩) hK hP hD hS hA [4] rfl (by decide) (fun _ => rfl) rfl rfl rfl rfl hl.1 rfl (Nat.le_of_ble_eq_true rfl) ⟨Nat.le_of_ble_eq_true rfl, Nat.le_of_ble_eq_true rfl⟩ dX7_reported_74 (fun u H locs hw hP hD hS => ?_)
      obtain ⟨y6, y7, y8⟩ := u
      try dsimp only at hw
      have hP : va_P (dC, dI) vwCl (wdX7_reported cI cJ cT cII cJJ ad im gn gpa gbr gth y6 y7 y8) H := hP
      have hD : va_D A (wdX7_reported cI cJ cT cII cJJ ad im gn gpa gbr gth y6 y7 y8) := hD
      refine lv_iload_n hx hb dX7_reported_77 rfl (lv_at hl 4 rfl) ?_
      exact W.iret (v := a1) hx hb hr (fun t ht hW => ⟨⟨a1, (y6, y7, y8), rfl, hw, by show va_P _ _ _ t.heap; rw [ht]; exact hP⟩, hS.F ht⟩) hS.2.2 dX7_reported_78
  · have hw := hw.2 c1
    refine lv_aload_n hx hb dX7_reported_15 rfl (lv_at hl 1 rfl) ?_
    refine va_get (D := (dC, dI)) (ci := 7) (v := .ref (ad 67)) (C := RX7) (T := TX7) (N := 8) hx hb hts (fun w h => List.mem_cons_of_mem _ (List.mem_append_left _ (List.mem_append_left _ (List.mem_append_left _ (List.mem_append_right _ h))))) hown hK hP 0 rfl rfl 5 (by decide) (hts (.fieldLink RX7 45 "BidMarket" "complaint" "LBidMarket$Complaint;") (List.mem_of_getElem? (i := 4) rfl)) (fun _ h9 => h9) rfl dX7_reported_16 ?_
    refine lv_iconst (v := 4) hx hb dX7_reported_19 (by decide) ?_
    refine lv_sipush (v := 200) hx hb dX7_reported_20 (by decide) ?_
    refine lv_aload_n hx hb dX7_reported_23 rfl (lv_at hl 0 rfl) ?_
    refine va_get (D := (dC, dI)) (ci := 2) (v := .int gbr) (C := RX2) (T := TX2) (N := 7) hx hb hts (fun w h => List.mem_cons_of_mem _ (List.mem_append_left _ (List.mem_append_right _ h))) hown hK hP 2 rfl rfl 6 (by decide) (hts (.fieldLink RX7 295 "BidMarket$Market" "breaker" "I") (List.mem_of_getElem? (i := 3) rfl)) (fun _ h9 => h9) rfl dX7_reported_24 ?_
    refine lv_iadd hx hb dX7_reported_27 ?_
    refine lv_bipush (v := (-5)) hx hb dX7_reported_28 (by decide) ?_
    refine bw_wvv (wc := (wdX0_tell cI cJ cT cII cJJ (fun k => ad (k + 67)) ck cc cd)) (w1 := (fun (u : Int32 × Int32 × Int32) => wdX0_tell cI cJ cT cII cJJ (fun k => ad (k + 67)) u.1 u.2.1 u.2.2)) (As := [.int 4, .int (200 + gbr), .int ((-5))]) (rest := []) ⟨hx, hb, hml, hown, hts⟩ (mX0_tell l dC dI cI cJ cT cII cJJ (fun k => ad (k + 67)) _ ck cc cd 4 (200 + gbr) ((-5)) _ hw) (cwV 3 hts gX7_reported_X0_tell rfl rfl rfl hdX0_tell ⟨Nat.le_of_ble_eq_true rfl, Nat.le_of_ble_eq_true rfl⟩) hK hP hD hS hA [4] rfl (by decide) (fun _ => rfl) rfl rfl rfl rfl hl.1 rfl (Nat.le_of_ble_eq_true rfl) ⟨Nat.le_of_ble_eq_true rfl, Nat.le_of_ble_eq_true rfl⟩ dX7_reported_30 (fun u H locs hw hP hD hS => ?_)
    obtain ⟨y9, y10, y11⟩ := u
    try dsimp only at hw
    have hP : va_P (dC, dI) vwCl (wdX7_reported cI cJ cT cII cJJ ad im gn gpa gbr gth y9 y10 y11) H := hP
    have hD : va_D A (wdX7_reported cI cJ cT cII cJJ ad im gn gpa gbr gth y9 y10 y11) := hD
    refine lv_bipush (v := (-10)) hx hb dX7_reported_33 (by decide) ?_
    refine lv_iload_n hx hb dX7_reported_35 rfl (lv_at hl 2 rfl) ?_
    refine lv_isub hx hb dX7_reported_36 ?_
    exact W.iret (v := ((-10)) - a1) hx hb hr (fun t ht hW => ⟨⟨((-10)) - a1, (y9, y10, y11), rfl, hw, by show va_P _ _ _ t.heap; rw [ht]; exact hP⟩, hS.F ht⟩) hS.2.2 dX7_reported_37
set_option maxHeartbeats 4000000 in
set_option maxRecDepth 100000 in
theorem mX7_auction (l : Launch) (dC : Nat → ClassId) (dI : Nat → Nat → Nat) (cI cJ cT cII cJJ : ClassId) (ad : Nat → Nat) (sz : Nat) (im : Int32) (gn : Int32) (gpa : Int32) (gbr : Int32) (gth : Nat → Int32) (gpe : Nat → Int32) (gpr : Nat → Int32) (gw : Nat → Nat → Int32) (ck : Int32) (cc : Int32) (cd : Int32) (Post : Int32 → Int32 → (Nat → Int32) → (Nat → Int32) → (Nat → Int32) → Int32 → Int32 → Int32 → Prop) (hw : wpX7_auction gn gpa gbr gth gpe gpr gw ck cc cd Post) : Met l yX7_auction wsX7_auction ({ frames := 5, cells := 0, slots := 0, locals := 117 } : Room) (va_Pc [.ref (ad 0)] (fun U => U.heap.size = sz ∧ va_P (dC, dI) vwCl (wdX7_auction cI cJ cT cII cJJ ad im gn gpa gbr gth gpe gpr gw ck cc cd) U.heap ∧ va_K (dC, dI) vwCl (bw_tys cI cJ cT cII cJJ) U ∧ va_D (fun _ => True) (wdX7_auction cI cJ cT cII cJJ ad im gn gpa gbr gth gpe gpr gw ck cc cd))) (va_Qi (fun (r : Int32) (u : Int32 × (Nat → Int32) × (Nat → Int32) × (Nat → Int32) × Int32 × Int32 × Int32) => Post r u.1 u.2.1 u.2.2.1 u.2.2.2.1 u.2.2.2.2.1 u.2.2.2.2.2.1 u.2.2.2.2.2.2) (fun (u : Int32 × (Nat → Int32) × (Nat → Int32) × (Nat → Int32) × Int32 × Int32 × Int32) t => va_P (dC, dI) vwCl (wdX7_auction cI cJ cT cII cJJ ad im gn gpa u.1 u.2.1 u.2.2.1 u.2.2.2.1 gw u.2.2.2.2.1 u.2.2.2.2.2.1 u.2.2.2.2.2.2) t.heap) (va_A (wdX7_auction cI cJ cT cII cJJ ad im gn gpa gbr gth gpe gpr gw ck cc cd) sz)) 0 0 (va_A (wdX7_auction cI cJ cT cII cJJ ad im gn gpa gbr gth gpe gpr gw ck cc cd) sz) := by
  refine Met.ofW (cc := cX7_auction) (maxL := 1) (ret := (some .int)) (by decide) rfl ?_
  intro p e s m args below meth c s₁ B hml hv
  obtain ⟨rfl, hsz, hP, hK, hD0⟩ := hv
  have hx := B.exec
  have hb := B.bytes
  have hr := B.returns
  have hts := atoms_spec (ws := wsX7_auction) B.pre
  have hown : s.vm.findClass RX7 = some m.cls := findClass_of_methodNamed B.named
  have hlocks := B.notSynchronized
  subst hsz
  have hD := hD0.self (sz := s.heap.size)
  generalize hAe : va_A (wdX7_auction cI cJ cT cII cJJ ad im gn gpa gbr gth gpe gpr gw ck cc cd) s.heap.size = A at hD ⊢
  have hA : ∀ q : Nat, s.heap.size ≤ q → A q := fun q h => by rw [← hAe]; exact Or.inr h
  have hS : va_S A s.heap s.heap [] := va_S.rf
  have hl := lv_entry ([.ref (ad 0)]) (n := 1) (Nat.le_of_ble_eq_true rfl)
  rw [lg_entry_eq]
  generalize (lg_sl ([.ref (ad 0)]) ++ List.replicate (1 - (lg_sl ([.ref (ad 0)])).length) Slot.unset).toArray = ls at hl ⊢
  have hl : lv_has ls 1 [(0, .ref (ad 0))] := hl
  unfold wpX7_auction at hw
  refine lv_aload_n hx hb dX7_auction_0 rfl (lv_at hl 0 rfl) ?_
  refine lv_aload_n hx hb dX7_auction_1 rfl (lv_at hl 0 rfl) ?_
  refine va_get (D := (dC, dI)) (ci := 7) (v := .ref (ad 1)) (C := RX7) (T := TX7) (N := 8) hx hb hts (fun w h => List.mem_cons_of_mem _ (List.mem_append_left _ (List.mem_append_left _ (List.mem_append_left _ (List.mem_append_right _ h))))) hown hK hP 0 rfl rfl 0 (by decide) (hts (.fieldLink RX7 12 "BidMarket" "held" "LBidMarket$Holdings;") (List.mem_of_getElem? (i := 1) rfl)) (fun _ h9 => h9) rfl dX7_auction_2 ?_
  refine va_get (D := (dC, dI)) (ci := 1) (v := .ref (ad 2)) (C := RX1) (T := TX1) (N := 4) hx hb hts (fun w h => List.mem_cons_of_mem _ (List.mem_append_left _ (List.mem_append_left _ (List.mem_append_right _ h)))) hown hK hP 1 rfl rfl 0 (by decide) (hts (.fieldLink RX7 60 "BidMarket$Holdings" "market" "LBidMarket$Market;") (List.mem_of_getElem? (i := 2) rfl)) (fun _ h9 => h9) rfl dX7_auction_5 ?_
  refine bw_wvi (wc := (wdX2_runAuction cI cJ cT cII cJJ (fun k => ad (k + 2)) gn gpa gbr gth gpe gpr gw)) (w1 := (fun (u : Int32 × (Nat → Int32) × (Nat → Int32) × (Nat → Int32)) => wdX2_runAuction cI cJ cT cII cJJ (fun k => ad (k + 2)) gn gpa u.1 u.2.1 u.2.2.1 u.2.2.2 gw)) (As := []) (rest := [.ref (ad 0)]) ⟨hx, hb, hml, hown, hts⟩ (mX2_runAuction l dC dI cI cJ cT cII cJJ (fun k => ad (k + 2)) _ gn gpa gbr gth gpe gpr gw _ hw) (cwV 0 hts gX7_auction_X2_runAuction rfl rfl rfl hdX2_runAuction ⟨Nat.le_of_ble_eq_true rfl, Nat.le_of_ble_eq_true rfl⟩) hK hP hD hS hA [2, 3, 4, 5, 6, 7, 8, 9, 10, 11, 12, 13, 14] rfl (by decide) (fun _ => rfl) rfl rfl rfl rfl hl.1 rfl (Nat.le_of_ble_eq_true rfl) ⟨Nat.le_of_ble_eq_true rfl, Nat.le_of_ble_eq_true rfl⟩ dX7_auction_8 (fun r1 u H locs hw hP hD hS => ?_)
  obtain ⟨y2, y3, y4, y5⟩ := u
  try dsimp only at hw
  have hP : va_P (dC, dI) vwCl (wdX7_auction cI cJ cT cII cJJ ad im gn gpa y2 y3 y4 y5 gw ck cc cd) H := hP
  have hD : va_D A (wdX7_auction cI cJ cT cII cJJ ad im gn gpa y2 y3 y4 y5 gw ck cc cd) := hD
  refine bw_wvi (wc := (wdX7_reported cI cJ cT cII cJJ ad im gn gpa y2 y3 ck cc cd)) (w1 := (fun (u : Int32 × Int32 × Int32) => wdX7_reported cI cJ cT cII cJJ ad im gn gpa y2 y3 u.1 u.2.1 u.2.2)) (As := [.int r1]) (rest := []) ⟨hx, hb, hml, hown, hts⟩ (mX7_reported l dC dI cI cJ cT cII cJJ ad _ im gn gpa y2 y3 ck cc cd r1 _ hw) (cwV 1 hts gX7_auction_X7_reported rfl rfl rfl hdX7_reported ⟨Nat.le_of_ble_eq_true rfl, Nat.le_of_ble_eq_true rfl⟩) hK hP hD hS hA [0, 1, 2, 3, 15] rfl (by decide) (fun _ => rfl) rfl rfl rfl rfl hl.1 rfl (Nat.le_of_ble_eq_true rfl) ⟨Nat.le_of_ble_eq_true rfl, Nat.le_of_ble_eq_true rfl⟩ dX7_auction_11 (fun r6 u H locs hw hP hD hS => ?_)
  obtain ⟨y7, y8, y9⟩ := u
  try dsimp only at hw
  have hP : va_P (dC, dI) vwCl (wdX7_auction cI cJ cT cII cJJ ad im gn gpa y2 y3 y4 y5 gw y7 y8 y9) H := hP
  have hD : va_D A (wdX7_auction cI cJ cT cII cJJ ad im gn gpa y2 y3 y4 y5 gw y7 y8 y9) := hD
  exact W.iret (v := r6) hx hb hr (fun t ht hW => ⟨⟨r6, (y2, y3, y4, y5, y7, y8, y9), rfl, hw, by show va_P _ _ _ t.heap; rw [ht]; exact hP⟩, hS.F ht⟩) hS.2.2 dX7_auction_14
set_option maxHeartbeats 4000000 in
set_option maxRecDepth 100000 in
theorem mX7_fresh (l : Launch) (dC : Nat → ClassId) (dI : Nat → Nat → Nat) (cI cJ cT cII cJJ : ClassId) (ad : Nat → Nat) (sz : Nat) (im : Int32) (gn : Int32) (gpa : Int32) (gbr : Int32) (gth : Nat → Int32) (gpe : Nat → Int32) (gpr : Nat → Int32) (Post : Int32 → (Nat → Int32) → (Nat → Int32) → (Nat → Int32) → Prop) (hw : wpX7_fresh gn gth gpe gpr Post) : Met l yX7_fresh wsX7_fresh ({ frames := 2, cells := 0, slots := 0, locals := 42 } : Room) (va_Pc [.ref (ad 0)] (fun U => U.heap.size = sz ∧ va_P (dC, dI) vwCl (wdX7_fresh cI cJ cT cII cJJ ad im gn gpa gbr gth gpe gpr) U.heap ∧ va_K (dC, dI) vwCl (bw_tys cI cJ cT cII cJJ) U ∧ va_D (fun _ => True) (wdX7_fresh cI cJ cT cII cJJ ad im gn gpa gbr gth gpe gpr))) (va_Qi (fun (r : Int32) (u : (Nat → Int32) × (Nat → Int32) × (Nat → Int32)) => Post r u.1 u.2.1 u.2.2) (fun (u : (Nat → Int32) × (Nat → Int32) × (Nat → Int32)) t => va_P (dC, dI) vwCl (wdX7_fresh cI cJ cT cII cJJ ad im gn gpa gbr u.1 u.2.1 u.2.2) t.heap) (va_A (wdX7_fresh cI cJ cT cII cJJ ad im gn gpa gbr gth gpe gpr) sz)) 0 0 (va_A (wdX7_fresh cI cJ cT cII cJJ ad im gn gpa gbr gth gpe gpr) sz) := by
  refine Met.ofW (cc := cX7_fresh) (maxL := 2) (ret := (some .int)) (by decide) rfl ?_
  intro p e s m args below meth c s₁ B hml hv
  obtain ⟨rfl, hsz, hP, hK, hD0⟩ := hv
  have hx := B.exec
  have hb := B.bytes
  have hr := B.returns
  have hts := atoms_spec (ws := wsX7_fresh) B.pre
  have hown : s.vm.findClass RX7 = some m.cls := findClass_of_methodNamed B.named
  have hlocks := B.notSynchronized
  subst hsz
  have hD := hD0.self (sz := s.heap.size)
  generalize hAe : va_A (wdX7_fresh cI cJ cT cII cJJ ad im gn gpa gbr gth gpe gpr) s.heap.size = A at hD ⊢
  have hA : ∀ q : Nat, s.heap.size ≤ q → A q := fun q h => by rw [← hAe]; exact Or.inr h
  have hS : va_S A s.heap s.heap [] := va_S.rf
  have hl := lv_entry ([.ref (ad 0)]) (n := 2) (Nat.le_of_ble_eq_true rfl)
  rw [lg_entry_eq]
  generalize (lg_sl ([.ref (ad 0)]) ++ List.replicate (2 - (lg_sl ([.ref (ad 0)])).length) Slot.unset).toArray = ls at hl ⊢
  have hl : lv_has ls 2 [(0, .ref (ad 0))] := hl
  unfold wpX7_fresh at hw
  refine lv_aload_n hx hb dX7_fresh_0 rfl (lv_at hl 0 rfl) ?_
  refine va_get (D := (dC, dI)) (ci := 7) (v := .ref (ad 1)) (C := RX7) (T := TX7) (N := 8) hx hb hts (fun w h => List.mem_cons_of_mem _ (List.mem_append_left _ (List.mem_append_left _ (List.mem_append_right _ h)))) hown hK hP 0 rfl rfl 0 (by decide) (hts (.fieldLink RX7 12 "BidMarket" "held" "LBidMarket$Holdings;") (List.mem_of_getElem? (i := 1) rfl)) (fun _ h9 => h9) rfl dX7_fresh_1 ?_
  refine va_get (D := (dC, dI)) (ci := 1) (v := .ref (ad 2)) (C := RX1) (T := TX1) (N := 4) hx hb hts (fun w h => List.mem_cons_of_mem _ (List.mem_append_left _ (List.mem_append_right _ h))) hown hK hP 1 rfl rfl 0 (by decide) (hts (.fieldLink RX7 60 "BidMarket$Holdings" "market" "LBidMarket$Market;") (List.mem_of_getElem? (i := 2) rfl)) (fun _ h9 => h9) rfl dX7_fresh_4 ?_
  refine bw_pvi (wc := (wdX2_ownersCounted cI cJ cT cII cJJ (fun k => ad (k + 2)) gn gpa gbr gth)) (As := []) (rest := []) ⟨hx, hb, hml, hown, hts⟩ (mX2_ownersCounted l dC dI cI cJ cT cII cJJ (fun k => ad (k + 2)) gn gpa gbr gth _ hw) (cwV 0 hts gX7_fresh_X2_ownersCounted rfl rfl rfl hdX2_ownersCounted ⟨Nat.le_of_ble_eq_true rfl, Nat.le_of_ble_eq_true rfl⟩) hK hP [2, 3] rfl rfl rfl rfl rfl hl.1 rfl (Nat.le_of_ble_eq_true rfl) ⟨Nat.le_of_ble_eq_true rfl, Nat.le_of_ble_eq_true rfl⟩ dX7_fresh_7 (fun r1 hw => ?_)
  refine lv_istore_n (lv' := [(1, .int r1), (0, .ref (ad 0))]) hx hb dX7_fresh_10 rfl hl (by decide) rfl (fun ls hl => ?_)
  refine lv_aload_n hx hb dX7_fresh_11 rfl (lv_at hl 1 rfl) ?_
  refine va_get (D := (dC, dI)) (ci := 7) (v := .ref (ad 1)) (C := RX7) (T := TX7) (N := 8) hx hb hts (fun w h => List.mem_cons_of_mem _ (List.mem_append_left _ (List.mem_append_left _ (List.mem_append_right _ h)))) hown hK hP 0 rfl rfl 0 (by decide) (hts (.fieldLink RX7 12 "BidMarket" "held" "LBidMarket$Holdings;") (List.mem_of_getElem? (i := 1) rfl)) (fun _ h9 => h9) rfl dX7_fresh_12 ?_
  refine va_get (D := (dC, dI)) (ci := 1) (v := .ref (ad 2)) (C := RX1) (T := TX1) (N := 4) hx hb hts (fun w h => List.mem_cons_of_mem _ (List.mem_append_left _ (List.mem_append_right _ h))) hown hK hP 1 rfl rfl 0 (by decide) (hts (.fieldLink RX7 60 "BidMarket$Holdings" "market" "LBidMarket$Market;") (List.mem_of_getElem? (i := 2) rfl)) (fun _ h9 => h9) rfl dX7_fresh_15 ?_
  refine bw_wvv (wc := (wdX2_startAnew cI cJ cT cII cJJ (fun k => ad (k + 2)) gn gpa gbr gth gpe gpr)) (w1 := (fun (u : (Nat → Int32) × (Nat → Int32) × (Nat → Int32)) => wdX2_startAnew cI cJ cT cII cJJ (fun k => ad (k + 2)) gn gpa gbr u.1 u.2.1 u.2.2)) (As := []) (rest := []) ⟨hx, hb, hml, hown, hts⟩ (mX2_startAnew l dC dI cI cJ cT cII cJJ (fun k => ad (k + 2)) _ gn gpa gbr gth gpe gpr _ hw) (cwV 0 hts gX7_fresh_X2_startAnew rfl rfl rfl hdX2_startAnew ⟨Nat.le_of_ble_eq_true rfl, Nat.le_of_ble_eq_true rfl⟩) hK hP hD hS hA [2, 3, 4, 5] rfl (by decide) (fun _ => rfl) rfl rfl rfl rfl hl.1 rfl (Nat.le_of_ble_eq_true rfl) ⟨Nat.le_of_ble_eq_true rfl, Nat.le_of_ble_eq_true rfl⟩ dX7_fresh_18 (fun u H locs hw hP hD hS => ?_)
  obtain ⟨y2, y3, y4⟩ := u
  try dsimp only at hw
  have hP : va_P (dC, dI) vwCl (wdX7_fresh cI cJ cT cII cJJ ad im gn gpa gbr y2 y3 y4) H := hP
  have hD : va_D A (wdX7_fresh cI cJ cT cII cJJ ad im gn gpa gbr y2 y3 y4) := hD
  refine lv_iload_n hx hb dX7_fresh_21 rfl (lv_at hl 0 rfl) ?_
  exact W.iret (v := r1) hx hb hr (fun t ht hW => ⟨⟨r1, (y2, y3, y4), rfl, hw, by show va_P _ _ _ t.heap; rw [ht]; exact hP⟩, hS.F ht⟩) hS.2.2 dX7_fresh_22
set_option maxHeartbeats 4000000 in
set_option maxRecDepth 100000 in
theorem mX7_leave (l : Launch) (dC : Nat → ClassId) (dI : Nat → Nat → Nat) (cI cJ cT cII cJJ : ClassId) (ad : Nat → Nat) (sz : Nat) (im : Int32) (gn : Int32) (gpa : Int32) (gbr : Int32) (gth : Nat → Int32) (gpe : Nat → Int32) (a1 : Int32) (Post : Int32 → (Nat → Int32) → (Nat → Int32) → Prop) (hw : wpX7_leave gn gth gpe a1 Post) : Met l yX7_leave wsX7_leave ({ frames := 1, cells := 0, slots := 0, locals := 22 } : Room) (va_Pc [.ref (ad 0), .int a1] (fun U => U.heap.size = sz ∧ va_P (dC, dI) vwCl (wdX7_leave cI cJ cT cII cJJ ad im gn gpa gbr gth gpe) U.heap ∧ va_K (dC, dI) vwCl (bw_tys cI cJ cT cII cJJ) U ∧ va_D (fun _ => True) (wdX7_leave cI cJ cT cII cJJ ad im gn gpa gbr gth gpe))) (va_Qi (fun (r : Int32) (u : (Nat → Int32) × (Nat → Int32)) => Post r u.1 u.2) (fun (u : (Nat → Int32) × (Nat → Int32)) t => va_P (dC, dI) vwCl (wdX7_leave cI cJ cT cII cJJ ad im gn gpa gbr u.1 u.2) t.heap) (va_A (wdX7_leave cI cJ cT cII cJJ ad im gn gpa gbr gth gpe) sz)) 0 0 (va_A (wdX7_leave cI cJ cT cII cJJ ad im gn gpa gbr gth gpe) sz) := by
  refine Met.ofW (cc := cX7_leave) (maxL := 3) (ret := (some .int)) (by decide) rfl ?_
  intro p e s m args below meth c s₁ B hml hv
  obtain ⟨rfl, hsz, hP, hK, hD0⟩ := hv
  have hx := B.exec
  have hb := B.bytes
  have hr := B.returns
  have hts := atoms_spec (ws := wsX7_leave) B.pre
  have hown : s.vm.findClass RX7 = some m.cls := findClass_of_methodNamed B.named
  have hlocks := B.notSynchronized
  subst hsz
  have hD := hD0.self (sz := s.heap.size)
  generalize hAe : va_A (wdX7_leave cI cJ cT cII cJJ ad im gn gpa gbr gth gpe) s.heap.size = A at hD ⊢
  have hA : ∀ q : Nat, s.heap.size ≤ q → A q := fun q h => by rw [← hAe]; exact Or.inr h
  have hS : va_S A s.heap s.heap [] := va_S.rf
  have hl := lv_entry ([.ref (ad 0), .int a1]) (n := 3) (Nat.le_of_ble_eq_true rfl)
  rw [lg_entry_eq]
  generalize (lg_sl ([.ref (ad 0), .int a1]) ++ List.replicate (3 - (lg_sl ([.ref (ad 0), .int a1])).length) Slot.unset).toArray = ls at hl ⊢
  have hl : lv_has ls 3 [(0, .ref (ad 0)), (1, .int a1)] := hl
  unfold wpX7_leave at hw
  refine lv_aload_n hx hb dX7_leave_0 rfl (lv_at hl 0 rfl) ?_
  refine va_get (D := (dC, dI)) (ci := 7) (v := .ref (ad 1)) (C := RX7) (T := TX7) (N := 8) hx hb hts (fun w h => List.mem_cons_of_mem _ (List.mem_append_left _ (List.mem_append_left _ (List.mem_append_right _ h)))) hown hK hP 0 rfl rfl 0 (by decide) (hts (.fieldLink RX7 12 "BidMarket" "held" "LBidMarket$Holdings;") (List.mem_of_getElem? (i := 1) rfl)) (fun _ h9 => h9) rfl dX7_leave_1 ?_
  refine va_get (D := (dC, dI)) (ci := 1) (v := .ref (ad 2)) (C := RX1) (T := TX1) (N := 4) hx hb hts (fun w h => List.mem_cons_of_mem _ (List.mem_append_left _ (List.mem_append_right _ h))) hown hK hP 1 rfl rfl 0 (by decide) (hts (.fieldLink RX7 60 "BidMarket$Holdings" "market" "LBidMarket$Market;") (List.mem_of_getElem? (i := 2) rfl)) (fun _ h9 => h9) rfl dX7_leave_4 ?_
  refine lv_iload_n hx hb dX7_leave_7 rfl (lv_at hl 1 rfl) ?_
  refine bw_pvi (wc := (wdX2_has cI cJ cT cII cJJ (fun k => ad (k + 2)) gn gpa gbr)) (As := [.int a1]) (rest := []) ⟨hx, hb, hml, hown, hts⟩ (mX2_has l dC dI cI cJ cT cII cJJ (fun k => ad (k + 2)) gn gpa gbr a1 _ hw) (cwV 1 hts gX7_leave_X2_has rfl rfl rfl hdX2_has ⟨Nat.le_of_ble_eq_true rfl, Nat.le_of_ble_eq_true rfl⟩) hK hP [2] rfl rfl rfl rfl rfl hl.1 rfl (Nat.le_of_ble_eq_true rfl) ⟨Nat.le_of_ble_eq_true rfl, Nat.le_of_ble_eq_true rfl⟩ dX7_leave_8 (fun r1 hw => ?_)
  refine lv_if_ne (tgt := 16) hx hb dX7_leave_11 (by decide) (fun c2 => ?_) (fun c2 => ?_)
  · have hw := hw.1 c2
    refine lv_aload_n hx hb dX7_leave_16 rfl (lv_at hl 0 rfl) ?_
    refine va_get (D := (dC, dI)) (ci := 7) (v := .ref (ad 1)) (C := RX7) (T := TX7) (N := 8) hx hb hts (fun w h => List.mem_cons_of_mem _ (List.mem_append_left _ (List.mem_append_left _ (List.mem_append_right _ h)))) hown hK hP 0 rfl rfl 0 (by decide) (hts (.fieldLink RX7 12 "BidMarket" "held" "LBidMarket$Holdings;") (List.mem_of_getElem? (i := 1) rfl)) (fun _ h9 => h9) rfl dX7_leave_17 ?_
    refine va_get (D := (dC, dI)) (ci := 1) (v := .ref (ad 2)) (C := RX1) (T := TX1) (N := 4) hx hb hts (fun w h => List.mem_cons_of_mem _ (List.mem_append_left _ (List.mem_append_right _ h))) hown hK hP 1 rfl rfl 0 (by decide) (hts (.fieldLink RX7 60 "BidMarket$Holdings" "market" "LBidMarket$Market;") (List.mem_of_getElem? (i := 2) rfl)) (fun _ h9 => h9) rfl dX7_leave_20 ?_
    refine va_get (D := (dC, dI)) (ci := 2) (v := .ref (ad 3)) (C := RX2) (T := TX2) (N := 7) hx hb hts (fun w h => List.mem_cons_of_mem _ (List.mem_append_right _ h)) hown hK hP 2 rfl rfl 1 (by decide) (hts (.fieldLink RX7 145 "BidMarket$Market" "thingOf" "[I") (List.mem_of_getElem? (i := 3) rfl)) (fun _ h9 => h9) rfl dX7_leave_23 ?_
    refine lv_iload_n hx hb dX7_leave_26 rfl (lv_at hl 1 rfl) ?_
    have h3 := hw.1
    have hw := hw.2
    refine va_iald hx hb hK hP 3 0 rfl rfl h3 dX7_leave_27 ?_
    refine lv_topi (fun x4 ex4 => ?_)
    have hw := hw x4 ex4
    refine lv_istore_n (lv' := [(2, .int x4), (0, .ref (ad 0)), (1, .int a1)]) hx hb dX7_leave_28 rfl hl (by decide) rfl (fun ls hl => ?_)
    refine lv_iload_n hx hb dX7_leave_29 rfl (lv_at hl 0 rfl) ?_
    refine lv_if_ge (tgt := 36) hx hb dX7_leave_30 (by decide) (fun c5 => ?_) (fun c5 => ?_)
    · have hw := hw.1 c5
      refine lv_aload_n hx hb dX7_leave_36 rfl (lv_at hl 1 rfl) ?_
      refine va_get (D := (dC, dI)) (ci := 7) (v := .ref (ad 1)) (C := RX7) (T := TX7) (N := 8) hx hb hts (fun w h => List.mem_cons_of_mem _ (List.mem_append_left _ (List.mem_append_left _ (List.mem_append_right _ h)))) hown hK hP 0 rfl rfl 0 (by decide) (hts (.fieldLink RX7 12 "BidMarket" "held" "LBidMarket$Holdings;") (List.mem_of_getElem? (i := 1) rfl)) (fun _ h9 => h9) rfl dX7_leave_37 ?_
      refine va_get (D := (dC, dI)) (ci := 1) (v := .ref (ad 2)) (C := RX1) (T := TX1) (N := 4) hx hb hts (fun w h => List.mem_cons_of_mem _ (List.mem_append_left _ (List.mem_append_right _ h))) hown hK hP 1 rfl rfl 0 (by decide) (hts (.fieldLink RX7 60 "BidMarket$Holdings" "market" "LBidMarket$Market;") (List.mem_of_getElem? (i := 2) rfl)) (fun _ h9 => h9) rfl dX7_leave_40 ?_
      refine lv_iload_n hx hb dX7_leave_43 rfl (lv_at hl 2 rfl) ?_
      refine bw_wvv (wc := (wdX2_giveUp cI cJ cT cII cJJ (fun k => ad (k + 2)) gn gpa gbr gth gpe)) (w1 := (fun (u : (Nat → Int32) × (Nat → Int32)) => wdX2_giveUp cI cJ cT cII cJJ (fun k => ad (k + 2)) gn gpa gbr u.1 u.2)) (As := [.int a1]) (rest := []) ⟨hx, hb, hml, hown, hts⟩ (mX2_giveUp l dC dI cI cJ cT cII cJJ (fun k => ad (k + 2)) _ gn gpa gbr gth gpe a1 _ hw) (cwV 1 hts gX7_leave_X2_giveUp rfl rfl rfl hdX2_giveUp ⟨Nat.le_of_ble_eq_true rfl, Nat.le_of_ble_eq_true rfl⟩) hK hP hD hS hA [2, 3, 4] rfl (by decide) (fun _ => rfl) rfl rfl rfl rfl hl.1 rfl (Nat.le_of_ble_eq_true rfl) ⟨Nat.le_of_ble_eq_true rfl, Nat.le_of_ble_eq_true rfl⟩ dX7_leave_44 (fun u H locs hw hP hD hS => ?_)
      obtain ⟨y6, y7⟩ := u
      try dsimp only at hw
      have hP : va_P (dC, dI) vwCl (wdX7_leave cI cJ cT cII cJJ ad im gn gpa gbr y6 y7) H := hP
      have hD : va_D A (wdX7_leave cI cJ cT cII cJJ ad im gn gpa gbr y6 y7) := hD
      refine lv_iload_n hx hb dX7_leave_47 rfl (lv_at hl 0 rfl) ?_
      exact W.iret (v := x4) hx hb hr (fun t ht hW => ⟨⟨x4, (y6, y7), rfl, hw, by show va_P _ _ _ t.heap; rw [ht]; exact hP⟩, hS.F ht⟩) hS.2.2 dX7_leave_48
    · have hw := hw.2 c5
      refine lv_bipush (v := (-3)) hx hb dX7_leave_33 (by decide) ?_
      exact W.iret (v := (-3)) hx hb hr (fun t ht hW => ⟨⟨(-3), (gth, gpe), rfl, hw, by show va_P _ _ _ t.heap; rw [ht]; exact hP⟩, hS.F ht⟩) hS.2.2 dX7_leave_35
  · have hw := hw.2 c2
    refine lv_iconst (v := (-1)) hx hb dX7_leave_14 (by decide) ?_
    exact W.iret (v := (-1)) hx hb hr (fun t ht hW => ⟨⟨(-1), (gth, gpe), rfl, hw, by show va_P _ _ _ t.heap; rw [ht]; exact hP⟩, hS.F ht⟩) hS.2.2 dX7_leave_15
set_option maxHeartbeats 4000000 in
set_option maxRecDepth 100000 in
theorem mX7_told (l : Launch) (dC : Nat → ClassId) (dI : Nat → Nat → Nat) (cI cJ cT cII cJJ : ClassId) (ad : Nat → Nat) (sz : Nat) (im : Int32) (gn : Int32) (gpa : Int32) (gbr : Int32) (gth : Nat → Int32) (gpr : Nat → Int32) (gw : Nat → Nat → Int32) (su : Nat → Int32) (a1 : Int32) (Post : Int32 → (Nat → Int32) → Prop) (hw : wpX7_told gn gpa gth gpr gw su a1 Post) : Met l yX7_told wsX7_told ({ frames := 4, cells := 0, slots := 0, locals := 113 } : Room) (va_Pc [.ref (ad 0), .int a1] (fun U => U.heap.size = sz ∧ va_P (dC, dI) vwCl (wdX7_told cI cJ cT cII cJJ ad im gn gpa gbr gth gpr gw su) U.heap ∧ va_K (dC, dI) vwCl (bw_tys cI cJ cT cII cJJ) U ∧ va_D (fun _ => True) (wdX7_told cI cJ cT cII cJJ ad im gn gpa gbr gth gpr gw su))) (va_Qi (fun (r : Int32) (u : (Nat → Int32)) => Post r u) (fun (u : (Nat → Int32)) t => va_P (dC, dI) vwCl (wdX7_told cI cJ cT cII cJJ ad im gn gpa gbr gth gpr gw u) t.heap) (va_A (wdX7_told cI cJ cT cII cJJ ad im gn gpa gbr gth gpr gw su) sz)) 0 0 (va_A (wdX7_told cI cJ cT cII cJJ ad im gn gpa gbr gth gpr gw su) sz) := by
  refine Met.ofW (cc := cX7_told) (maxL := 2) (ret := (some .int)) (by decide) rfl ?_
  intro p e s m args below meth c s₁ B hml hv
  obtain ⟨rfl, hsz, hP, hK, hD0⟩ := hv
  have hx := B.exec
  have hb := B.bytes
  have hr := B.returns
  have hts := atoms_spec (ws := wsX7_told) B.pre
  have hown : s.vm.findClass RX7 = some m.cls := findClass_of_methodNamed B.named
  have hlocks := B.notSynchronized
  subst hsz
  have hD := hD0.self (sz := s.heap.size)
  generalize hAe : va_A (wdX7_told cI cJ cT cII cJJ ad im gn gpa gbr gth gpr gw su) s.heap.size = A at hD ⊢
  have hA : ∀ q : Nat, s.heap.size ≤ q → A q := fun q h => by rw [← hAe]; exact Or.inr h
  have hS : va_S A s.heap s.heap [] := va_S.rf
  have hl := lv_entry ([.ref (ad 0), .int a1]) (n := 2) (Nat.le_of_ble_eq_true rfl)
  rw [lg_entry_eq]
  generalize (lg_sl ([.ref (ad 0), .int a1]) ++ List.replicate (2 - (lg_sl ([.ref (ad 0), .int a1])).length) Slot.unset).toArray = ls at hl ⊢
  have hl : lv_has ls 2 [(0, .ref (ad 0)), (1, .int a1)] := hl
  unfold wpX7_told at hw
  refine lv_iload_n hx hb dX7_told_0 rfl (lv_at hl 1 rfl) ?_
  by_cases c1 : a1.toInt < 0 ∨ 9 < a1.toInt
  · have hw := hw.1 c1
    refine lv_tableOut (tgt := 185) hx hb dX7_told_1 c1 (by decide) ?_
    refine lv_iconst (v := (-1)) hx hb dX7_told_185 (by decide) ?_
    exact W.iret (v := (-1)) hx hb hr (fun t ht hW => ⟨⟨(-1), su, rfl, hw, by show va_P _ _ _ t.heap; rw [ht]; exact hP⟩, hS.F ht⟩) hS.2.2 dX7_told_186
  have hw := hw.2
  by_cases c2 : a1 = 0
  · have hw := hw.1 c2
    refine lv_tableIn (tgt := 56) (off := 55) hx hb dX7_told_1 (fun h => c1 (Or.inl h)) (fun h => c1 (Or.inr h)) (by rw [c2]; rfl) (by decide) ?_
    refine lv_aload_n hx hb dX7_told_56 rfl (lv_at hl 0 rfl) ?_
    refine va_get (D := (dC, dI)) (ci := 7) (v := .ref (ad 1)) (C := RX7) (T := TX7) (N := 8) hx hb hts (fun w h => List.mem_cons_of_mem _ (List.mem_append_left _ (List.mem_append_left _ (List.mem_append_left _ (List.mem_append_right _ h))))) hown hK hP 0 rfl rfl 0 (by decide) (hts (.fieldLink RX7 12 "BidMarket" "held" "LBidMarket$Holdings;") (List.mem_of_getElem? (i := 1) rfl)) (fun _ h9 => h9) rfl dX7_told_57 ?_
    refine va_get (D := (dC, dI)) (ci := 1) (v := .ref (ad 2)) (C := RX1) (T := TX1) (N := 4) hx hb hts (fun w h => List.mem_cons_of_mem _ (List.mem_append_left _ (List.mem_append_left _ (List.mem_append_right _ h)))) hown hK hP 1 rfl rfl 0 (by decide) (hts (.fieldLink RX7 60 "BidMarket$Holdings" "market" "LBidMarket$Market;") (List.mem_of_getElem? (i := 2) rfl)) (fun _ h9 => h9) rfl dX7_told_60 ?_
    refine va_get (D := (dC, dI)) (ci := 2) (v := .int gn) (C := RX2) (T := TX2) (N := 7) hx hb hts (fun w h => List.mem_cons_of_mem _ (List.mem_append_left _ (List.mem_append_right _ h))) hown hK hP 2 rfl rfl 4 (by decide) (hts (.fieldLink RX7 63 "BidMarket$Market" "n" "I") (List.mem_of_getElem? (i := 3) rfl)) (fun _ h9 => h9) rfl dX7_told_63 ?_
    exact W.iret (v := gn) hx hb hr (fun t ht hW => ⟨⟨gn, su, rfl, hw, by show va_P _ _ _ t.heap; rw [ht]; exact hP⟩, hS.F ht⟩) hS.2.2 dX7_told_66
  have hw := hw.2
  by_cases c3 : a1 = 1
  · have hw := hw.1 c3
    refine lv_tableIn (tgt := 67) (off := 66) hx hb dX7_told_1 (fun h => c1 (Or.inl h)) (fun h => c1 (Or.inr h)) (by rw [c3]; rfl) (by decide) ?_
    refine lv_aload_n hx hb dX7_told_67 rfl (lv_at hl 0 rfl) ?_
    refine va_get (D := (dC, dI)) (ci := 7) (v := .ref (ad 1)) (C := RX7) (T := TX7) (N := 8) hx hb hts (fun w h => List.mem_cons_of_mem _ (List.mem_append_left _ (List.mem_append_left _ (List.mem_append_left _ (List.mem_append_right _ h))))) hown hK hP 0 rfl rfl 0 (by decide) (hts (.fieldLink RX7 12 "BidMarket" "held" "LBidMarket$Holdings;") (List.mem_of_getElem? (i := 1) rfl)) (fun _ h9 => h9) rfl dX7_told_68 ?_
    refine va_get (D := (dC, dI)) (ci := 1) (v := .ref (ad 2)) (C := RX1) (T := TX1) (N := 4) hx hb hts (fun w h => List.mem_cons_of_mem _ (List.mem_append_left _ (List.mem_append_left _ (List.mem_append_right _ h)))) hown hK hP 1 rfl rfl 0 (by decide) (hts (.fieldLink RX7 60 "BidMarket$Holdings" "market" "LBidMarket$Market;") (List.mem_of_getElem? (i := 2) rfl)) (fun _ h9 => h9) rfl dX7_told_71 ?_
    refine va_get (D := (dC, dI)) (ci := 2) (v := .int gpa) (C := RX2) (T := TX2) (N := 7) hx hb hts (fun w h => List.mem_cons_of_mem _ (List.mem_append_left _ (List.mem_append_right _ h))) hown hK hP 2 rfl rfl 5 (by decide) (hts (.fieldLink RX7 102 "BidMarket$Market" "pace" "I") (List.mem_of_getElem? (i := 4) rfl)) (fun _ h9 => h9) rfl dX7_told_74 ?_
    exact W.iret (v := gpa) hx hb hr (fun t ht hW => ⟨⟨gpa, su, rfl, hw, by show va_P _ _ _ t.heap; rw [ht]; exact hP⟩, hS.F ht⟩) hS.2.2 dX7_told_77
  have hw := hw.2
  by_cases c4 : a1 = 2
  · have hw := hw.1 c4
    refine lv_tableIn (tgt := 78) (off := 77) hx hb dX7_told_1 (fun h => c1 (Or.inl h)) (fun h => c1 (Or.inr h)) (by rw [c4]; rfl) (by decide) ?_
    refine lv_aload_n hx hb dX7_told_78 rfl (lv_at hl 0 rfl) ?_
    refine va_get (D := (dC, dI)) (ci := 7) (v := .ref (ad 1)) (C := RX7) (T := TX7) (N := 8) hx hb hts (fun w h => List.mem_cons_of_mem _ (List.mem_append_left _ (List.mem_append_left _ (List.mem_append_left _ (List.mem_append_right _ h))))) hown hK hP 0 rfl rfl 0 (by decide) (hts (.fieldLink RX7 12 "BidMarket" "held" "LBidMarket$Holdings;") (List.mem_of_getElem? (i := 1) rfl)) (fun _ h9 => h9) rfl dX7_told_79 ?_
    refine va_get (D := (dC, dI)) (ci := 1) (v := .ref (ad 2)) (C := RX1) (T := TX1) (N := 4) hx hb hts (fun w h => List.mem_cons_of_mem _ (List.mem_append_left _ (List.mem_append_left _ (List.mem_append_right _ h)))) hown hK hP 1 rfl rfl 0 (by decide) (hts (.fieldLink RX7 60 "BidMarket$Holdings" "market" "LBidMarket$Market;") (List.mem_of_getElem? (i := 2) rfl)) (fun _ h9 => h9) rfl dX7_told_82 ?_
    refine bw_pvi (wc := (wdX2_worthTogether cI cJ cT cII cJJ (fun k => ad (k + 2)) gn gpa gbr gth gw)) (As := []) (rest := []) ⟨hx, hb, hml, hown, hts⟩ (mX2_worthTogether l dC dI cI cJ cT cII cJJ (fun k => ad (k + 2)) gn gpa gbr gth gw _ hw) (cwV 0 hts gX7_told_X2_worthTogether rfl rfl rfl hdX2_worthTogether ⟨Nat.le_of_ble_eq_true rfl, Nat.le_of_ble_eq_true rfl⟩) hK hP [2, 3, 5, 6, 7, 8, 9, 10, 11, 12, 13] rfl rfl rfl rfl rfl hl.1 rfl (Nat.le_of_ble_eq_true rfl) ⟨Nat.le_of_ble_eq_true rfl, Nat.le_of_ble_eq_true rfl⟩ dX7_told_85 (fun r5 hw => ?_)
    exact W.iret (v := r5) hx hb hr (fun t ht hW => ⟨⟨r5, su, rfl, hw, by show va_P _ _ _ t.heap; rw [ht]; exact hP⟩, hS.F ht⟩) hS.2.2 dX7_told_88
  have hw := hw.2
  by_cases c6 : a1 = 3
  · have hw := hw.1 c6
    refine lv_tableIn (tgt := 89) (off := 88) hx hb dX7_told_1 (fun h => c1 (Or.inl h)) (fun h => c1 (Or.inr h)) (by rw [c6]; rfl) (by decide) ?_
    refine lv_aload_n hx hb dX7_told_89 rfl (lv_at hl 0 rfl) ?_
    refine va_get (D := (dC, dI)) (ci := 7) (v := .ref (ad 60)) (C := RX7) (T := TX7) (N := 8) hx hb hts (fun w h => List.mem_cons_of_mem _ (List.mem_append_left _ (List.mem_append_left _ (List.mem_append_left _ (List.mem_append_right _ h))))) hown hK hP 0 rfl rfl 3 (by decide) (hts (.fieldLink RX7 31 "BidMarket" "optimum" "LBidMarket$Optimum;") (List.mem_of_getElem? (i := 5) rfl)) (fun _ h9 => h9) rfl dX7_told_90 ?_
    refine lv_aload_n hx hb dX7_told_93 rfl (lv_at hl 0 rfl) ?_
    refine va_get (D := (dC, dI)) (ci := 7) (v := .ref (ad 1)) (C := RX7) (T := TX7) (N := 8) hx hb hts (fun w h => List.mem_cons_of_mem _ (List.mem_append_left _ (List.mem_append_left _ (List.mem_append_left _ (List.mem_append_right _ h))))) hown hK hP 0 rfl rfl 0 (by decide) (hts (.fieldLink RX7 12 "BidMarket" "held" "LBidMarket$Holdings;") (List.mem_of_getElem? (i := 1) rfl)) (fun _ h9 => h9) rfl dX7_told_94 ?_
    refine va_get (D := (dC, dI)) (ci := 1) (v := .ref (ad 2)) (C := RX1) (T := TX1) (N := 4) hx hb hts (fun w h => List.mem_cons_of_mem _ (List.mem_append_left _ (List.mem_append_left _ (List.mem_append_right _ h)))) hown hK hP 1 rfl rfl 0 (by decide) (hts (.fieldLink RX7 60 "BidMarket$Holdings" "market" "LBidMarket$Market;") (List.mem_of_getElem? (i := 2) rfl)) (fun _ h9 => h9) rfl dX7_told_97 ?_
    refine bw_wvi (wc := (wdX3_mostWorth cI cJ cT cII cJJ (fun k => ad (k + 60)) (fun k => ad (k + 2)) su gn gpa gbr gw)) (w1 := (fun (u : (Nat → Int32)) => wdX3_mostWorth cI cJ cT cII cJJ (fun k => ad (k + 60)) (fun k => ad (k + 2)) u gn gpa gbr gw)) (As := [.ref (ad 2)]) (rest := []) ⟨hx, hb, hml, hown, hts⟩ (mX3_mostWorth l dC dI cI cJ cT cII cJJ (fun k => ad (k + 60)) (fun k => ad (k + 2)) _ su gn gpa gbr gw _ hw) (cwV 1 hts gX7_told_X3_mostWorth rfl rfl rfl hdX3_mostWorth ⟨Nat.le_of_ble_eq_true rfl, Nat.le_of_ble_eq_true rfl⟩) hK hP hD hS hA [14, 15, 2, 5, 6, 7, 8, 9, 10, 11, 12, 13] rfl (by decide) (fun _ => rfl) rfl rfl rfl rfl hl.1 rfl (Nat.le_of_ble_eq_true rfl) ⟨Nat.le_of_ble_eq_true rfl, Nat.le_of_ble_eq_true rfl⟩ dX7_told_100 (fun r7 u H locs hw hP hD hS => ?_)
    obtain ⟨y8, rfl⟩ : ∃ z, z = u := ⟨_, rfl⟩
    try dsimp only at hw
    have hP : va_P (dC, dI) vwCl (wdX7_told cI cJ cT cII cJJ ad im gn gpa gbr gth gpr gw y8) H := hP
    have hD : va_D A (wdX7_told cI cJ cT cII cJJ ad im gn gpa gbr gth gpr gw y8) := hD
    exact W.iret (v := r7) hx hb hr (fun t ht hW => ⟨⟨r7, y8, rfl, hw, by show va_P _ _ _ t.heap; rw [ht]; exact hP⟩, hS.F ht⟩) hS.2.2 dX7_told_103
  have hw := hw.2
  by_cases c9 : a1 = 4
  · have hw := hw.1 c9
    refine lv_tableIn (tgt := 104) (off := 103) hx hb dX7_told_1 (fun h => c1 (Or.inl h)) (fun h => c1 (Or.inr h)) (by rw [c9]; rfl) (by decide) ?_
    refine lv_aload_n hx hb dX7_told_104 rfl (lv_at hl 0 rfl) ?_
    refine va_get (D := (dC, dI)) (ci := 7) (v := .ref (ad 1)) (C := RX7) (T := TX7) (N := 8) hx hb hts (fun w h => List.mem_cons_of_mem _ (List.mem_append_left _ (List.mem_append_left _ (List.mem_append_left _ (List.mem_append_right _ h))))) hown hK hP 0 rfl rfl 0 (by decide) (hts (.fieldLink RX7 12 "BidMarket" "held" "LBidMarket$Holdings;") (List.mem_of_getElem? (i := 1) rfl)) (fun _ h9 => h9) rfl dX7_told_105 ?_
    refine va_get (D := (dC, dI)) (ci := 1) (v := .ref (ad 2)) (C := RX1) (T := TX1) (N := 4) hx hb hts (fun w h => List.mem_cons_of_mem _ (List.mem_append_left _ (List.mem_append_left _ (List.mem_append_right _ h)))) hown hK hP 1 rfl rfl 0 (by decide) (hts (.fieldLink RX7 60 "BidMarket$Holdings" "market" "LBidMarket$Market;") (List.mem_of_getElem? (i := 2) rfl)) (fun _ h9 => h9) rfl dX7_told_108 ?_
    refine bw_pvi (wc := (wdX2_isSure cI cJ cT cII cJJ (fun k => ad (k + 2)) gn gpa gbr gth gpr gw)) (As := []) (rest := []) ⟨hx, hb, hml, hown, hts⟩ (mX2_isSure l dC dI cI cJ cT cII cJJ (fun k => ad (k + 2)) gn gpa gbr gth gpr gw _ hw) (cwV 0 hts gX7_told_X2_isSure rfl rfl rfl hdX2_isSure ⟨Nat.le_of_ble_eq_true rfl, Nat.le_of_ble_eq_true rfl⟩) hK hP [2, 3, 4, 5, 6, 7, 8, 9, 10, 11, 12, 13] rfl rfl rfl rfl rfl hl.1 rfl (Nat.le_of_ble_eq_true rfl) ⟨Nat.le_of_ble_eq_true rfl, Nat.le_of_ble_eq_true rfl⟩ dX7_told_111 (fun r10 hw => ?_)
    refine lv_if_eq (tgt := 121) hx hb dX7_told_114 (by decide) (fun c11 => ?_) (fun c11 => ?_)
    · have hw := hw.1 c11
      refine lv_iconst (v := 0) hx hb dX7_told_121 (by decide) ?_
      exact W.iret (v := 0) hx hb hr (fun t ht hW => ⟨⟨0, su, rfl, hw, by show va_P _ _ _ t.heap; rw [ht]; exact hP⟩, hS.F ht⟩) hS.2.2 dX7_told_122
    · have hw := hw.2 c11
      refine lv_iconst (v := 1) hx hb dX7_told_117 (by decide) ?_
      refine lv_goto (tgt := 122) hx hb dX7_told_118 (by decide) ?_
      exact W.iret (v := 1) hx hb hr (fun t ht hW => ⟨⟨1, su, rfl, hw, by show va_P _ _ _ t.heap; rw [ht]; exact hP⟩, hS.F ht⟩) hS.2.2 dX7_told_122
  have hw := hw.2
  by_cases c12 : a1 = 5
  · have hw := hw.1 c12
    refine lv_tableIn (tgt := 123) (off := 122) hx hb dX7_told_1 (fun h => c1 (Or.inl h)) (fun h => c1 (Or.inr h)) (by rw [c12]; rfl) (by decide) ?_
    refine lv_aload_n hx hb dX7_told_123 rfl (lv_at hl 0 rfl) ?_
    refine va_get (D := (dC, dI)) (ci := 7) (v := .ref (ad 60)) (C := RX7) (T := TX7) (N := 8) hx hb hts (fun w h => List.mem_cons_of_mem _ (List.mem_append_left _ (List.mem_append_left _ (List.mem_append_left _ (List.mem_append_right _ h))))) hown hK hP 0 rfl rfl 3 (by decide) (hts (.fieldLink RX7 31 "BidMarket" "optimum" "LBidMarket$Optimum;") (List.mem_of_getElem? (i := 5) rfl)) (fun _ h9 => h9) rfl dX7_told_124 ?_
    refine lv_aload_n hx hb dX7_told_127 rfl (lv_at hl 0 rfl) ?_
    refine va_get (D := (dC, dI)) (ci := 7) (v := .ref (ad 1)) (C := RX7) (T := TX7) (N := 8) hx hb hts (fun w h => List.mem_cons_of_mem _ (List.mem_append_left _ (List.mem_append_left _ (List.mem_append_left _ (List.mem_append_right _ h))))) hown hK hP 0 rfl rfl 0 (by decide) (hts (.fieldLink RX7 12 "BidMarket" "held" "LBidMarket$Holdings;") (List.mem_of_getElem? (i := 1) rfl)) (fun _ h9 => h9) rfl dX7_told_128 ?_
    refine va_get (D := (dC, dI)) (ci := 1) (v := .ref (ad 2)) (C := RX1) (T := TX1) (N := 4) hx hb hts (fun w h => List.mem_cons_of_mem _ (List.mem_append_left _ (List.mem_append_left _ (List.mem_append_right _ h)))) hown hK hP 1 rfl rfl 0 (by decide) (hts (.fieldLink RX7 60 "BidMarket$Holdings" "market" "LBidMarket$Market;") (List.mem_of_getElem? (i := 2) rfl)) (fun _ h9 => h9) rfl dX7_told_131 ?_
    refine bw_pvi (wc := (wdX3_leastLacking cI cJ cT cII cJJ (fun k => ad (k + 60)) (fun k => ad (k + 2)) gn gpa gbr gw)) (As := [.ref (ad 2)]) (rest := []) ⟨hx, hb, hml, hown, hts⟩ (mX3_leastLacking l dC dI cI cJ cT cII cJJ (fun k => ad (k + 60)) (fun k => ad (k + 2)) gn gpa gbr gw _ hw) (cwV 1 hts gX7_told_X3_leastLacking rfl rfl rfl hdX3_leastLacking ⟨Nat.le_of_ble_eq_true rfl, Nat.le_of_ble_eq_true rfl⟩) hK hP [14, 2, 5, 6, 7, 8, 9, 10, 11, 12, 13] rfl rfl rfl rfl rfl hl.1 rfl (Nat.le_of_ble_eq_true rfl) ⟨Nat.le_of_ble_eq_true rfl, Nat.le_of_ble_eq_true rfl⟩ dX7_told_134 (fun r13 hw => ?_)
    exact W.iret (v := r13) hx hb hr (fun t ht hW => ⟨⟨r13, su, rfl, hw, by show va_P _ _ _ t.heap; rw [ht]; exact hP⟩, hS.F ht⟩) hS.2.2 dX7_told_137
  have hw := hw.2
  by_cases c14 : a1 = 6
  · have hw := hw.1 c14
    refine lv_tableIn (tgt := 138) (off := 137) hx hb dX7_told_1 (fun h => c1 (Or.inl h)) (fun h => c1 (Or.inr h)) (by rw [c14]; rfl) (by decide) ?_
    refine lv_aload_n hx hb dX7_told_138 rfl (lv_at hl 0 rfl) ?_
    refine va_get (D := (dC, dI)) (ci := 7) (v := .ref (ad 1)) (C := RX7) (T := TX7) (N := 8) hx hb hts (fun w h => List.mem_cons_of_mem _ (List.mem_append_left _ (List.mem_append_left _ (List.mem_append_left _ (List.mem_append_right _ h))))) hown hK hP 0 rfl rfl 0 (by decide) (hts (.fieldLink RX7 12 "BidMarket" "held" "LBidMarket$Holdings;") (List.mem_of_getElem? (i := 1) rfl)) (fun _ h9 => h9) rfl dX7_told_139 ?_
    refine va_get (D := (dC, dI)) (ci := 1) (v := .ref (ad 2)) (C := RX1) (T := TX1) (N := 4) hx hb hts (fun w h => List.mem_cons_of_mem _ (List.mem_append_left _ (List.mem_append_left _ (List.mem_append_right _ h)))) hown hK hP 1 rfl rfl 0 (by decide) (hts (.fieldLink RX7 60 "BidMarket$Holdings" "market" "LBidMarket$Market;") (List.mem_of_getElem? (i := 2) rfl)) (fun _ h9 => h9) rfl dX7_told_142 ?_
    refine bw_pvi (wc := (wdX2_nextBidder cI cJ cT cII cJJ (fun k => ad (k + 2)) gn gpa gbr gth gw)) (As := []) (rest := []) ⟨hx, hb, hml, hown, hts⟩ (mX2_nextBidder l dC dI cI cJ cT cII cJJ (fun k => ad (k + 2)) gn gpa gbr gth gw _ hw) (cwV 0 hts gX7_told_X2_nextBidder rfl rfl rfl hdX2_nextBidder ⟨Nat.le_of_ble_eq_true rfl, Nat.le_of_ble_eq_true rfl⟩) hK hP [2, 3, 5, 6, 7, 8, 9, 10, 11, 12, 13] rfl rfl rfl rfl rfl hl.1 rfl (Nat.le_of_ble_eq_true rfl) ⟨Nat.le_of_ble_eq_true rfl, Nat.le_of_ble_eq_true rfl⟩ dX7_told_145 (fun r15 hw => ?_)
    refine bw_psi (wc := []) (As := [.int r15]) (rest := []) ⟨hx, hb, hml, hown, hts⟩ (mX7_shownNumber l dC dI cI cJ cT cII cJJ r15 _ hw) (va_cwS 1 hts gX7_told_X7_shownNumber rfl rfl rfl hdX7_shownNumber ⟨Nat.le_of_ble_eq_true rfl, Nat.le_of_ble_eq_true rfl⟩) hK hP [] rfl rfl hl.1 rfl (Nat.le_of_ble_eq_true rfl) ⟨Nat.le_of_ble_eq_true rfl, Nat.le_of_ble_eq_true rfl⟩ dX7_told_148 (fun r16 hw => ?_)
    exact W.iret (v := r16) hx hb hr (fun t ht hW => ⟨⟨r16, su, rfl, hw, by show va_P _ _ _ t.heap; rw [ht]; exact hP⟩, hS.F ht⟩) hS.2.2 dX7_told_151
  have hw := hw.2
  by_cases c17 : a1 = 7
  · have hw := hw.1 c17
    refine lv_tableIn (tgt := 152) (off := 151) hx hb dX7_told_1 (fun h => c1 (Or.inl h)) (fun h => c1 (Or.inr h)) (by rw [c17]; rfl) (by decide) ?_
    refine lv_aload_n hx hb dX7_told_152 rfl (lv_at hl 0 rfl) ?_
    refine va_get (D := (dC, dI)) (ci := 7) (v := .ref (ad 1)) (C := RX7) (T := TX7) (N := 8) hx hb hts (fun w h => List.mem_cons_of_mem _ (List.mem_append_left _ (List.mem_append_left _ (List.mem_append_left _ (List.mem_append_right _ h))))) hown hK hP 0 rfl rfl 0 (by decide) (hts (.fieldLink RX7 12 "BidMarket" "held" "LBidMarket$Holdings;") (List.mem_of_getElem? (i := 1) rfl)) (fun _ h9 => h9) rfl dX7_told_153 ?_
    refine va_get (D := (dC, dI)) (ci := 1) (v := .ref (ad 2)) (C := RX1) (T := TX1) (N := 4) hx hb hts (fun w h => List.mem_cons_of_mem _ (List.mem_append_left _ (List.mem_append_left _ (List.mem_append_right _ h)))) hown hK hP 1 rfl rfl 0 (by decide) (hts (.fieldLink RX7 60 "BidMarket$Holdings" "market" "LBidMarket$Market;") (List.mem_of_getElem? (i := 2) rfl)) (fun _ h9 => h9) rfl dX7_told_156 ?_
    refine bw_pvi (wc := (wdX2_nextOffer cI cJ cT cII cJJ (fun k => ad (k + 2)) gn gpa gbr gth gpr gw)) (As := []) (rest := []) ⟨hx, hb, hml, hown, hts⟩ (mX2_nextOffer l dC dI cI cJ cT cII cJJ (fun k => ad (k + 2)) gn gpa gbr gth gpr gw _ hw) (cwV 0 hts gX7_told_X2_nextOffer rfl rfl rfl hdX2_nextOffer ⟨Nat.le_of_ble_eq_true rfl, Nat.le_of_ble_eq_true rfl⟩) hK hP [2, 3, 4, 5, 6, 7, 8, 9, 10, 11, 12, 13] rfl rfl rfl rfl rfl hl.1 rfl (Nat.le_of_ble_eq_true rfl) ⟨Nat.le_of_ble_eq_true rfl, Nat.le_of_ble_eq_true rfl⟩ dX7_told_159 (fun r18 hw => ?_)
    exact W.iret (v := r18) hx hb hr (fun t ht hW => ⟨⟨r18, su, rfl, hw, by show va_P _ _ _ t.heap; rw [ht]; exact hP⟩, hS.F ht⟩) hS.2.2 dX7_told_162
  have hw := hw.2
  by_cases c19 : a1 = 8
  · have hw := hw.1 c19
    refine lv_tableIn (tgt := 163) (off := 162) hx hb dX7_told_1 (fun h => c1 (Or.inl h)) (fun h => c1 (Or.inr h)) (by rw [c19]; rfl) (by decide) ?_
    refine lv_aload_n hx hb dX7_told_163 rfl (lv_at hl 0 rfl) ?_
    refine va_get (D := (dC, dI)) (ci := 7) (v := .ref (ad 1)) (C := RX7) (T := TX7) (N := 8) hx hb hts (fun w h => List.mem_cons_of_mem _ (List.mem_append_left _ (List.mem_append_left _ (List.mem_append_left _ (List.mem_append_right _ h))))) hown hK hP 0 rfl rfl 0 (by decide) (hts (.fieldLink RX7 12 "BidMarket" "held" "LBidMarket$Holdings;") (List.mem_of_getElem? (i := 1) rfl)) (fun _ h9 => h9) rfl dX7_told_164 ?_
    refine va_get (D := (dC, dI)) (ci := 1) (v := .ref (ad 2)) (C := RX1) (T := TX1) (N := 4) hx hb hts (fun w h => List.mem_cons_of_mem _ (List.mem_append_left _ (List.mem_append_left _ (List.mem_append_right _ h)))) hown hK hP 1 rfl rfl 0 (by decide) (hts (.fieldLink RX7 60 "BidMarket$Holdings" "market" "LBidMarket$Market;") (List.mem_of_getElem? (i := 2) rfl)) (fun _ h9 => h9) rfl dX7_told_167 ?_
    refine bw_pvi (wc := (wdX2_ownersCounted cI cJ cT cII cJJ (fun k => ad (k + 2)) gn gpa gbr gth)) (As := []) (rest := []) ⟨hx, hb, hml, hown, hts⟩ (mX2_ownersCounted l dC dI cI cJ cT cII cJJ (fun k => ad (k + 2)) gn gpa gbr gth _ hw) (cwV 0 hts gX7_told_X2_ownersCounted rfl rfl rfl hdX2_ownersCounted ⟨Nat.le_of_ble_eq_true rfl, Nat.le_of_ble_eq_true rfl⟩) hK hP [2, 3] rfl rfl rfl rfl rfl hl.1 rfl (Nat.le_of_ble_eq_true rfl) ⟨Nat.le_of_ble_eq_true rfl, Nat.le_of_ble_eq_true rfl⟩ dX7_told_170 (fun r20 hw => ?_)
    exact W.iret (v := r20) hx hb hr (fun t ht hW => ⟨⟨r20, su, rfl, hw, by show va_P _ _ _ t.heap; rw [ht]; exact hP⟩, hS.F ht⟩) hS.2.2 dX7_told_173
  have hw := hw.2
  by_cases c21 : a1 = 9
  · have hw := hw c21
    refine lv_tableIn (tgt := 174) (off := 173) hx hb dX7_told_1 (fun h => c1 (Or.inl h)) (fun h => c1 (Or.inr h)) (by rw [c21]; rfl) (by decide) ?_
    refine lv_aload_n hx hb dX7_told_174 rfl (lv_at hl 0 rfl) ?_
    refine va_get (D := (dC, dI)) (ci := 7) (v := .ref (ad 1)) (C := RX7) (T := TX7) (N := 8) hx hb hts (fun w h => List.mem_cons_of_mem _ (List.mem_append_left _ (List.mem_append_left _ (List.mem_append_left _ (List.mem_append_right _ h))))) hown hK hP 0 rfl rfl 0 (by decide) (hts (.fieldLink RX7 12 "BidMarket" "held" "LBidMarket$Holdings;") (List.mem_of_getElem? (i := 1) rfl)) (fun _ h9 => h9) rfl dX7_told_175 ?_
    refine va_get (D := (dC, dI)) (ci := 1) (v := .ref (ad 2)) (C := RX1) (T := TX1) (N := 4) hx hb hts (fun w h => List.mem_cons_of_mem _ (List.mem_append_left _ (List.mem_append_left _ (List.mem_append_right _ h)))) hown hK hP 1 rfl rfl 0 (by decide) (hts (.fieldLink RX7 60 "BidMarket$Holdings" "market" "LBidMarket$Market;") (List.mem_of_getElem? (i := 2) rfl)) (fun _ h9 => h9) rfl dX7_told_178 ?_
    refine bw_pvi (wc := (wdX2_pricesTogether cI cJ cT cII cJJ (fun k => ad (k + 2)) gn gpa gbr gpr)) (As := []) (rest := []) ⟨hx, hb, hml, hown, hts⟩ (mX2_pricesTogether l dC dI cI cJ cT cII cJJ (fun k => ad (k + 2)) gn gpa gbr gpr _ hw) (cwV 0 hts gX7_told_X2_pricesTogether rfl rfl rfl hdX2_pricesTogether ⟨Nat.le_of_ble_eq_true rfl, Nat.le_of_ble_eq_true rfl⟩) hK hP [2, 4] rfl rfl rfl rfl rfl hl.1 rfl (Nat.le_of_ble_eq_true rfl) ⟨Nat.le_of_ble_eq_true rfl, Nat.le_of_ble_eq_true rfl⟩ dX7_told_181 (fun r22 hw => ?_)
    exact W.iret (v := r22) hx hb hr (fun t ht hW => ⟨⟨r22, su, rfl, hw, by show va_P _ _ _ t.heap; rw [ht]; exact hP⟩, hS.F ht⟩) hS.2.2 dX7_told_184
  exact (bw_sw 9 c1 (fun k hk => match k, hk with | 0, _ => c2 | 1, _ => c3 | 2, _ => c4 | 3, _ => c6 | 4, _ => c9 | 5, _ => c12 | 6, _ => c14 | 7, _ => c17 | 8, _ => c19 | 9, _ => c21 | k + 10, h => absurd h (by omega))).elim
set_option maxHeartbeats 4000000 in
set_option maxRecDepth 100000 in
theorem mX7_wrong (l : Launch) (dC : Nat → ClassId) (dI : Nat → Nat → Nat) (cI cJ cT cII cJJ : ClassId) (ad : Nat → Nat) (im : Int32) (ck : Int32) (cc : Int32) (cd : Int32) (a1 : Int32) (Post : Int32 → Prop) (hw : wpX7_wrong ck cc cd a1 Post) : Met l yX7_wrong wsX7_wrong ({ frames := 0, cells := 0, slots := 0, locals := 0 } : Room) (va_Pc [.ref (ad 0), .int a1] (fun U => va_P (dC, dI) vwCl (wdX7_wrong cI cJ cT cII cJJ ad im ck cc cd) U.heap ∧ va_K (dC, dI) vwCl (bw_tys cI cJ cT cII cJJ) U)) (vp_Si Post) 0 0 (fun _ => False) := by
  refine Met.ofW (cc := cX7_wrong) (maxL := 2) (ret := (some .int)) (by decide) rfl ?_
  intro p e s m args below meth c s₁ B hml hv
  obtain ⟨rfl, hP, hK⟩ := hv
  have hx := B.exec
  have hb := B.bytes
  have hr := B.returns
  have hts := atoms_spec (ws := wsX7_wrong) B.pre
  have hown : s.vm.findClass RX7 = some m.cls := findClass_of_methodNamed B.named
  have hlocks := B.notSynchronized
  have hl := lv_entry ([.ref (ad 0), .int a1]) (n := 2) (Nat.le_of_ble_eq_true rfl)
  rw [lg_entry_eq]
  generalize (lg_sl ([.ref (ad 0), .int a1]) ++ List.replicate (2 - (lg_sl ([.ref (ad 0), .int a1])).length) Slot.unset).toArray = ls at hl ⊢
  have hl : lv_has ls 2 [(0, .ref (ad 0)), (1, .int a1)] := hl
  unfold wpX7_wrong at hw
  refine lv_iload_n hx hb dX7_wrong_0 rfl (lv_at hl 1 rfl) ?_
  by_cases c1 : a1.toInt < 0 ∨ 2 < a1.toInt
  · have hw := hw.1 c1
    refine lv_tableOut (tgt := 52) hx hb dX7_wrong_1 c1 (by decide) ?_
    refine lv_iload_n hx hb dX7_wrong_52 rfl (lv_at hl 1 rfl) ?_
    refine lv_if_ge (tgt := 60) hx hb dX7_wrong_53 (by decide) (fun c2 => ?_) (fun c2 => ?_)
    · have hw := hw.1 c2
      refine lv_bipush (v := (-5)) hx hb dX7_wrong_60 (by decide) ?_
      exact W.iret (v := (-5)) hx hb hr (fun t ht hW => ⟨(-5), rfl, hw, ht⟩) (fun _ h => by cases h) dX7_wrong_62
    · have hw := hw.2 c2
      refine lv_iconst (v := (-1)) hx hb dX7_wrong_56 (by decide) ?_
      refine lv_goto (tgt := 62) hx hb dX7_wrong_57 (by decide) ?_
      exact W.iret (v := (-1)) hx hb hr (fun t ht hW => ⟨(-1), rfl, hw, ht⟩) (fun _ h => by cases h) dX7_wrong_62
  have hw := hw.2
  by_cases c3 : a1 = 0
  · have hw := hw.1 c3
    refine lv_tableIn (tgt := 28) (off := 27) hx hb dX7_wrong_1 (fun h => c1 (Or.inl h)) (fun h => c1 (Or.inr h)) (by rw [c3]; rfl) (by decide) ?_
    refine lv_aload_n hx hb dX7_wrong_28 rfl (lv_at hl 0 rfl) ?_
    refine va_get (D := (dC, dI)) (ci := 7) (v := .ref (ad 67)) (C := RX7) (T := TX7) (N := 8) hx hb hts (fun w h => List.mem_cons_of_mem _ (List.mem_append_left _ (List.mem_append_right _ h))) hown hK hP 0 rfl rfl 5 (by decide) (hts (.fieldLink RX7 45 "BidMarket" "complaint" "LBidMarket$Complaint;") (List.mem_of_getElem? (i := 1) rfl)) (fun _ h9 => h9) rfl dX7_wrong_29 ?_
    refine va_get (D := (dC, dI)) (ci := 0) (v := .int ck) (C := RX0) (T := TX0) (N := 3) hx hb hts (fun w h => List.mem_cons_of_mem _ (List.mem_append_right _ h)) hown hK hP 1 rfl rfl 0 (by decide) (hts (.fieldLink RX7 218 "BidMarket$Complaint" "kind" "I") (List.mem_of_getElem? (i := 2) rfl)) (fun _ h9 => h9) rfl dX7_wrong_32 ?_
    exact W.iret (v := ck) hx hb hr (fun t ht hW => ⟨ck, rfl, hw, ht⟩) (fun _ h => by cases h) dX7_wrong_35
  have hw := hw.2
  by_cases c4 : a1 = 1
  · have hw := hw.1 c4
    refine lv_tableIn (tgt := 36) (off := 35) hx hb dX7_wrong_1 (fun h => c1 (Or.inl h)) (fun h => c1 (Or.inr h)) (by rw [c4]; rfl) (by decide) ?_
    refine lv_aload_n hx hb dX7_wrong_36 rfl (lv_at hl 0 rfl) ?_
    refine va_get (D := (dC, dI)) (ci := 7) (v := .ref (ad 67)) (C := RX7) (T := TX7) (N := 8) hx hb hts (fun w h => List.mem_cons_of_mem _ (List.mem_append_left _ (List.mem_append_right _ h))) hown hK hP 0 rfl rfl 5 (by decide) (hts (.fieldLink RX7 45 "BidMarket" "complaint" "LBidMarket$Complaint;") (List.mem_of_getElem? (i := 1) rfl)) (fun _ h9 => h9) rfl dX7_wrong_37 ?_
    refine va_get (D := (dC, dI)) (ci := 0) (v := .int cc) (C := RX0) (T := TX0) (N := 3) hx hb hts (fun w h => List.mem_cons_of_mem _ (List.mem_append_right _ h)) hown hK hP 1 rfl rfl 1 (by decide) (hts (.fieldLink RX7 219 "BidMarket$Complaint" "cause" "I") (List.mem_of_getElem? (i := 3) rfl)) (fun _ h9 => h9) rfl dX7_wrong_40 ?_
    exact W.iret (v := cc) hx hb hr (fun t ht hW => ⟨cc, rfl, hw, ht⟩) (fun _ h => by cases h) dX7_wrong_43
  have hw := hw.2
  by_cases c5 : a1 = 2
  · have hw := hw c5
    refine lv_tableIn (tgt := 44) (off := 43) hx hb dX7_wrong_1 (fun h => c1 (Or.inl h)) (fun h => c1 (Or.inr h)) (by rw [c5]; rfl) (by decide) ?_
    refine lv_aload_n hx hb dX7_wrong_44 rfl (lv_at hl 0 rfl) ?_
    refine va_get (D := (dC, dI)) (ci := 7) (v := .ref (ad 67)) (C := RX7) (T := TX7) (N := 8) hx hb hts (fun w h => List.mem_cons_of_mem _ (List.mem_append_left _ (List.mem_append_right _ h))) hown hK hP 0 rfl rfl 5 (by decide) (hts (.fieldLink RX7 45 "BidMarket" "complaint" "LBidMarket$Complaint;") (List.mem_of_getElem? (i := 1) rfl)) (fun _ h9 => h9) rfl dX7_wrong_45 ?_
    refine va_get (D := (dC, dI)) (ci := 0) (v := .int cd) (C := RX0) (T := TX0) (N := 3) hx hb hts (fun w h => List.mem_cons_of_mem _ (List.mem_append_right _ h)) hown hK hP 1 rfl rfl 2 (by decide) (hts (.fieldLink RX7 222 "BidMarket$Complaint" "causeOfCause" "I") (List.mem_of_getElem? (i := 4) rfl)) (fun _ h9 => h9) rfl dX7_wrong_48 ?_
    exact W.iret (v := cd) hx hb hr (fun t ht hW => ⟨cd, rfl, hw, ht⟩) (fun _ h => by cases h) dX7_wrong_51
  exact (bw_sw 2 c1 (fun k hk => match k, hk with | 0, _ => c3 | 1, _ => c4 | 2, _ => c5 | k + 3, h => absurd h (by omega))).elim
set_option maxHeartbeats 4000000 in
set_option maxRecDepth 100000 in
theorem mX7_see (l : Launch) (dC : Nat → ClassId) (dI : Nat → Nat → Nat) (cI cJ cT cII cJJ : ClassId) (ad : Nat → Nat) (sz : Nat) (im : Int32) (gn : Int32) (gpa : Int32) (gbr : Int32) (gseru : Int32) (gserl : Nat → Int32) (gserr : Nat → Int32) (a1 : Int32) (a2 : Int32) (Post : Int32 → Int32 → (Nat → Int32) → (Nat → Int32) → Prop) (hw : wpX7_see gn gseru gserl gserr a1 a2 Post) : Met l yX7_see wsX7_see ({ frames := 1, cells := 0, slots := 0, locals := 22 } : Room) (va_Pc [.ref (ad 0), .int a1, .int a2] (fun U => U.heap.size = sz ∧ va_P (dC, dI) vwCl (wdX7_see cI cJ cT cII cJJ ad im gn gpa gbr gseru gserl gserr) U.heap ∧ va_K (dC, dI) vwCl (bw_tys cI cJ cT cII cJJ) U ∧ va_D (fun _ => True) (wdX7_see cI cJ cT cII cJJ ad im gn gpa gbr gseru gserl gserr))) (va_Qi (fun (r : Int32) (u : Int32 × (Nat → Int32) × (Nat → Int32)) => Post r u.1 u.2.1 u.2.2) (fun (u : Int32 × (Nat → Int32) × (Nat → Int32)) t => va_P (dC, dI) vwCl (wdX7_see cI cJ cT cII cJJ ad im gn gpa gbr u.1 u.2.1 u.2.2) t.heap) (va_A (wdX7_see cI cJ cT cII cJJ ad im gn gpa gbr gseru gserl gserr) sz)) 0 0 (va_A (wdX7_see cI cJ cT cII cJJ ad im gn gpa gbr gseru gserl gserr) sz) := by
  refine Met.ofW (cc := cX7_see) (maxL := 3) (ret := (some .int)) (by decide) rfl ?_
  intro p e s m args below meth c s₁ B hml hv
  obtain ⟨rfl, hsz, hP, hK, hD0⟩ := hv
  have hx := B.exec
  have hb := B.bytes
  have hr := B.returns
  have hts := atoms_spec (ws := wsX7_see) B.pre
  have hown : s.vm.findClass RX7 = some m.cls := findClass_of_methodNamed B.named
  have hlocks := B.notSynchronized
  subst hsz
  have hD := hD0.self (sz := s.heap.size)
  generalize hAe : va_A (wdX7_see cI cJ cT cII cJJ ad im gn gpa gbr gseru gserl gserr) s.heap.size = A at hD ⊢
  have hA : ∀ q : Nat, s.heap.size ≤ q → A q := fun q h => by rw [← hAe]; exact Or.inr h
  have hS : va_S A s.heap s.heap [] := va_S.rf
  have hl := lv_entry ([.ref (ad 0), .int a1, .int a2]) (n := 3) (Nat.le_of_ble_eq_true rfl)
  rw [lg_entry_eq]
  generalize (lg_sl ([.ref (ad 0), .int a1, .int a2]) ++ List.replicate (3 - (lg_sl ([.ref (ad 0), .int a1, .int a2])).length) Slot.unset).toArray = ls at hl ⊢
  have hl : lv_has ls 3 [(0, .ref (ad 0)), (1, .int a1), (2, .int a2)] := hl
  unfold wpX7_see at hw
  refine lv_iload_n hx hb dX7_see_0 rfl (lv_at hl 1 rfl) ?_
  refine lv_iconst (v := (-1)) hx hb dX7_see_1 (by decide) ?_
  refine lv_icmp_ne (tgt := 16) hx hb dX7_see_2 (by decide) (fun c1 => ?_) (fun c1 => ?_)
  · have hw := hw.1 c1
    refine lv_aload_n hx hb dX7_see_16 rfl (lv_at hl 0 rfl) ?_
    refine va_get (D := (dC, dI)) (ci := 7) (v := .ref (ad 1)) (C := RX7) (T := TX7) (N := 8) hx hb hts (fun w h => List.mem_cons_of_mem _ (List.mem_append_left _ (List.mem_append_left _ (List.mem_append_left _ (List.mem_append_right _ h))))) hown hK hP 0 rfl rfl 0 (by decide) (hts (.fieldLink RX7 12 "BidMarket" "held" "LBidMarket$Holdings;") (List.mem_of_getElem? (i := 1) rfl)) (fun _ h9 => h9) rfl dX7_see_17 ?_
    refine va_get (D := (dC, dI)) (ci := 1) (v := .ref (ad 2)) (C := RX1) (T := TX1) (N := 4) hx hb hts (fun w h => List.mem_cons_of_mem _ (List.mem_append_left _ (List.mem_append_left _ (List.mem_append_right _ h)))) hown hK hP 1 rfl rfl 0 (by decide) (hts (.fieldLink RX7 60 "BidMarket$Holdings" "market" "LBidMarket$Market;") (List.mem_of_getElem? (i := 3) rfl)) (fun _ h9 => h9) rfl dX7_see_20 ?_
    refine lv_iload_n hx hb dX7_see_23 rfl (lv_at hl 1 rfl) ?_
    refine bw_pvi (wc := (wdX2_has cI cJ cT cII cJJ (fun k => ad (k + 2)) gn gpa gbr)) (As := [.int a1]) (rest := []) ⟨hx, hb, hml, hown, hts⟩ (mX2_has l dC dI cI cJ cT cII cJJ (fun k => ad (k + 2)) gn gpa gbr a1 _ hw) (cwV 1 hts gX7_see_X2_has rfl rfl rfl hdX2_has ⟨Nat.le_of_ble_eq_true rfl, Nat.le_of_ble_eq_true rfl⟩) hK hP [2] rfl rfl rfl rfl rfl hl.1 rfl (Nat.le_of_ble_eq_true rfl) ⟨Nat.le_of_ble_eq_true rfl, Nat.le_of_ble_eq_true rfl⟩ dX7_see_24 (fun r2 hw => ?_)
    refine lv_if_eq (tgt := 44) hx hb dX7_see_27 (by decide) (fun c3 => ?_) (fun c3 => ?_)
    · have hw := hw.1 c3
      refine lv_iconst (v := (-1)) hx hb dX7_see_44 (by decide) ?_
      exact W.iret (v := (-1)) hx hb hr (fun t ht hW => ⟨⟨(-1), (gseru, gserl, gserr), rfl, hw, by show va_P _ _ _ t.heap; rw [ht]; exact hP⟩, hS.F ht⟩) hS.2.2 dX7_see_45
    · have hw := hw.2 c3
      refine lv_aload_n hx hb dX7_see_30 rfl (lv_at hl 0 rfl) ?_
      refine va_get (D := (dC, dI)) (ci := 7) (v := .ref (ad 1)) (C := RX7) (T := TX7) (N := 8) hx hb hts (fun w h => List.mem_cons_of_mem _ (List.mem_append_left _ (List.mem_append_left _ (List.mem_append_left _ (List.mem_append_right _ h))))) hown hK hP 0 rfl rfl 0 (by decide) (hts (.fieldLink RX7 12 "BidMarket" "held" "LBidMarket$Holdings;") (List.mem_of_getElem? (i := 1) rfl)) (fun _ h9 => h9) rfl dX7_see_31 ?_
      refine va_get (D := (dC, dI)) (ci := 1) (v := .ref (ad 2)) (C := RX1) (T := TX1) (N := 4) hx hb hts (fun w h => List.mem_cons_of_mem _ (List.mem_append_left _ (List.mem_append_left _ (List.mem_append_right _ h)))) hown hK hP 1 rfl rfl 0 (by decide) (hts (.fieldLink RX7 60 "BidMarket$Holdings" "market" "LBidMarket$Market;") (List.mem_of_getElem? (i := 3) rfl)) (fun _ h9 => h9) rfl dX7_see_34 ?_
      refine lv_iload_n hx hb dX7_see_37 rfl (lv_at hl 2 rfl) ?_
      refine bw_pvi (wc := (wdX2_has cI cJ cT cII cJJ (fun k => ad (k + 2)) gn gpa gbr)) (As := [.int a2]) (rest := []) ⟨hx, hb, hml, hown, hts⟩ (mX2_has l dC dI cI cJ cT cII cJJ (fun k => ad (k + 2)) gn gpa gbr a2 _ hw) (cwV 1 hts gX7_see_X2_has rfl rfl rfl hdX2_has ⟨Nat.le_of_ble_eq_true rfl, Nat.le_of_ble_eq_true rfl⟩) hK hP [2] rfl rfl rfl rfl rfl hl.1 rfl (Nat.le_of_ble_eq_true rfl) ⟨Nat.le_of_ble_eq_true rfl, Nat.le_of_ble_eq_true rfl⟩ dX7_see_38 (fun r4 hw => ?_)
      refine lv_if_ne (tgt := 46) hx hb dX7_see_41 (by decide) (fun c5 => ?_) (fun c5 => ?_)
      · have hw := hw.1 c5
        refine lv_aload_n hx hb dX7_see_46 rfl (lv_at hl 0 rfl) ?_
        refine va_get (D := (dC, dI)) (ci := 7) (v := .ref (ad 1)) (C := RX7) (T := TX7) (N := 8) hx hb hts (fun w h => List.mem_cons_of_mem _ (List.mem_append_left _ (List.mem_append_left _ (List.mem_append_left _ (List.mem_append_right _ h))))) hown hK hP 0 rfl rfl 0 (by decide) (hts (.fieldLink RX7 12 "BidMarket" "held" "LBidMarket$Holdings;") (List.mem_of_getElem? (i := 1) rfl)) (fun _ h9 => h9) rfl dX7_see_47 ?_
        refine va_get (D := (dC, dI)) (ci := 1) (v := .ref (ad 15)) (C := RX1) (T := TX1) (N := 4) hx hb hts (fun w h => List.mem_cons_of_mem _ (List.mem_append_left _ (List.mem_append_left _ (List.mem_append_right _ h)))) hown hK hP 1 rfl rfl 1 (by decide) (hts (.fieldLink RX7 71 "BidMarket$Holdings" "seen" "LBidMarket$Rows;") (List.mem_of_getElem? (i := 2) rfl)) (fun _ h9 => h9) rfl dX7_see_50 ?_
        refine lv_iload_n hx hb dX7_see_53 rfl (lv_at hl 1 rfl) ?_
        refine lv_iload_n hx hb dX7_see_54 rfl (lv_at hl 2 rfl) ?_
        refine bw_wvi (wc := (wdX4_append cI cJ cT cII cJJ (fun k => ad (k + 15)) gseru 5 gserl gserr)) (w1 := (fun (u : Int32 × (Nat → Int32) × (Nat → Int32)) => wdX4_append cI cJ cT cII cJJ (fun k => ad (k + 15)) u.1 5 u.2.1 u.2.2)) (As := [.int a1, .int a2]) (rest := []) ⟨hx, hb, hml, hown, hts⟩ (mX4_append l dC dI cI cJ cT cII cJJ (fun k => ad (k + 15)) _ gseru 5 gserl gserr a1 a2 _ hw) (cwV 2 hts gX7_see_X4_append rfl rfl rfl hdX4_append ⟨Nat.le_of_ble_eq_true rfl, Nat.le_of_ble_eq_true rfl⟩) hK hP hD hS hA [3, 4, 5] rfl (by decide) (fun _ => rfl) rfl rfl rfl rfl hl.1 rfl (Nat.le_of_ble_eq_true rfl) ⟨Nat.le_of_ble_eq_true rfl, Nat.le_of_ble_eq_true rfl⟩ dX7_see_55 (fun r6 u H locs hw hP hD hS => ?_)
        obtain ⟨y7, y8, y9⟩ := u
        try dsimp only at hw
        have hP : va_P (dC, dI) vwCl (wdX7_see cI cJ cT cII cJJ ad im gn gpa gbr y7 y8 y9) H := hP
        have hD : va_D A (wdX7_see cI cJ cT cII cJJ ad im gn gpa gbr y7 y8 y9) := hD
        exact W.iret (v := r6) hx hb hr (fun t ht hW => ⟨⟨r6, (y7, y8, y9), rfl, hw, by show va_P _ _ _ t.heap; rw [ht]; exact hP⟩, hS.F ht⟩) hS.2.2 dX7_see_58
      · have hw := hw.2 c5
        refine lv_iconst (v := (-1)) hx hb dX7_see_44 (by decide) ?_
        exact W.iret (v := (-1)) hx hb hr (fun t ht hW => ⟨⟨(-1), (gseru, gserl, gserr), rfl, hw, by show va_P _ _ _ t.heap; rw [ht]; exact hP⟩, hS.F ht⟩) hS.2.2 dX7_see_45
  · have hw := hw.2 c1
    refine lv_aload_n hx hb dX7_see_5 rfl (lv_at hl 0 rfl) ?_
    refine va_get (D := (dC, dI)) (ci := 7) (v := .ref (ad 1)) (C := RX7) (T := TX7) (N := 8) hx hb hts (fun w h => List.mem_cons_of_mem _ (List.mem_append_left _ (List.mem_append_left _ (List.mem_append_left _ (List.mem_append_right _ h))))) hown hK hP 0 rfl rfl 0 (by decide) (hts (.fieldLink RX7 12 "BidMarket" "held" "LBidMarket$Holdings;") (List.mem_of_getElem? (i := 1) rfl)) (fun _ h9 => h9) rfl dX7_see_6 ?_
    refine va_get (D := (dC, dI)) (ci := 1) (v := .ref (ad 15)) (C := RX1) (T := TX1) (N := 4) hx hb hts (fun w h => List.mem_cons_of_mem _ (List.mem_append_left _ (List.mem_append_left _ (List.mem_append_right _ h)))) hown hK hP 1 rfl rfl 1 (by decide) (hts (.fieldLink RX7 71 "BidMarket$Holdings" "seen" "LBidMarket$Rows;") (List.mem_of_getElem? (i := 2) rfl)) (fun _ h9 => h9) rfl dX7_see_9 ?_
    refine bw_wvi (wc := (wdX4_empty cI cJ cT cII cJJ (fun k => ad (k + 15)) gseru)) (w1 := (fun (u : Int32) => wdX4_empty cI cJ cT cII cJJ (fun k => ad (k + 15)) u)) (As := []) (rest := []) ⟨hx, hb, hml, hown, hts⟩ (mX4_empty l dC dI cI cJ cT cII cJJ (fun k => ad (k + 15)) _ gseru _ hw) (cwV 0 hts gX7_see_X4_empty rfl rfl rfl hdX4_empty ⟨Nat.le_of_ble_eq_true rfl, Nat.le_of_ble_eq_true rfl⟩) hK hP hD hS hA [3] rfl (by decide) (fun _ => rfl) rfl rfl rfl rfl hl.1 rfl (Nat.le_of_ble_eq_true rfl) ⟨Nat.le_of_ble_eq_true rfl, Nat.le_of_ble_eq_true rfl⟩ dX7_see_12 (fun r10 u H locs hw hP hD hS => ?_)
    obtain ⟨y11, rfl⟩ : ∃ z, z = u := ⟨_, rfl⟩
    try dsimp only at hw
    have hP : va_P (dC, dI) vwCl (wdX7_see cI cJ cT cII cJJ ad im gn gpa gbr y11 gserl gserr) H := hP
    have hD : va_D A (wdX7_see cI cJ cT cII cJJ ad im gn gpa gbr y11 gserl gserr) := hD
    exact W.iret (v := r10) hx hb hr (fun t ht hW => ⟨⟨r10, (y11, gserl, gserr), rfl, hw, by show va_P _ _ _ t.heap; rw [ht]; exact hP⟩, hS.F ht⟩) hS.2.2 dX7_see_15
set_option maxHeartbeats 4000000 in
set_option maxRecDepth 100000 in
theorem mX7_goesAsSeen (l : Launch) (dC : Nat → ClassId) (dI : Nat → Nat → Nat) (cI cJ cT cII cJJ : ClassId) (ad : Nat → Nat) (im : Int32) (gseru : Int32) (gserl : Nat → Int32) (gserr : Nat → Int32) (xn : Int32) (xpa : Int32) (xbr : Int32) (xth : Nat → Int32) (Post : Int32 → Prop) (hw : wpX7_goesAsSeen gseru gserl gserr xn xth Post) : Met l yX7_goesAsSeen wsX7_goesAsSeen ({ frames := 1, cells := 0, slots := 0, locals := 21 } : Room) (va_Pc [.ref (ad 0), .ref (ad 47)] (fun U => va_P (dC, dI) vwCl (wdX7_goesAsSeen cI cJ cT cII cJJ ad im gseru gserl gserr xn xpa xbr xth) U.heap ∧ va_K (dC, dI) vwCl (bw_tys cI cJ cT cII cJJ) U)) (vp_Si Post) 0 0 (fun _ => False) := by
  refine Met.ofW (cc := cX7_goesAsSeen) (maxL := 4) (ret := (some .boolean)) (by decide) rfl ?_
  intro p e s m args below meth c s₁ B hml hv
  obtain ⟨rfl, hP, hK⟩ := hv
  have hx := B.exec
  have hb := B.bytes
  have hr := B.returns
  have hts := atoms_spec (ws := wsX7_goesAsSeen) B.pre
  have hown : s.vm.findClass RX7 = some m.cls := findClass_of_methodNamed B.named
  have hlocks := B.notSynchronized
  have hl := lv_entry ([.ref (ad 0), .ref (ad 47)]) (n := 4) (Nat.le_of_ble_eq_true rfl)
  rw [lg_entry_eq]
  generalize (lg_sl ([.ref (ad 0), .ref (ad 47)]) ++ List.replicate (4 - (lg_sl ([.ref (ad 0), .ref (ad 47)])).length) Slot.unset).toArray = ls at hl ⊢
  have hl : lv_has ls 4 [(0, .ref (ad 0)), (1, .ref (ad 47))] := hl
  have kB2 : ∀ f : Nat, ∀ (v2 : Int32), ∀ ls : Array Slot, lv_has ls 4 [(0, .ref (ad 0)), (1, .ref (ad 47)), (2, .int v2)] → wpX7_goesAsSeen_B2 gseru gserl gserr xn xth Post f v2 → W p l e (headSpec wsX7_goesAsSeen ({ frames := 1, cells := 0, slots := 0, locals := 21 } : Room)).room s m ([.ref (ad 0), .ref (ad 47)] : List Value).toArray below meth c s.heap [] 0 0 (MQ below (vp_Si Post) ([.ref (ad 0), .ref (ad 47)] : List Value).toArray s 0 0 (fun _ => False)) (F0 m 2 ls []) := by
    intro  f
    induction f with
    | zero => intro v2 ls hl hw; exact (show False from hw).elim
    | succ f ih =>
      intro v2 ls hl hw
      rw [wpX7_goesAsSeen_B2] at hw
      refine lv_iload_n hx hb dX7_goesAsSeen_2 rfl (lv_at hl 2 rfl) ?_
      refine lv_aload_n hx hb dX7_goesAsSeen_3 rfl (lv_at hl 0 rfl) ?_
      refine va_get (D := (dC, dI)) (ci := 7) (v := .ref (ad 1)) (C := RX7) (T := TX7) (N := 8) hx hb hts (fun w h => List.mem_cons_of_mem _ (List.mem_append_left _ (List.mem_append_left _ (List.mem_append_left _ (List.mem_append_right _ h))))) hown hK hP 0 rfl rfl 0 (by decide) (hts (.fieldLink RX7 12 "BidMarket" "held" "LBidMarket$Holdings;") (List.mem_of_getElem? (i := 1) rfl)) (fun _ h9 => h9) rfl dX7_goesAsSeen_4 ?_
      refine va_get (D := (dC, dI)) (ci := 1) (v := .ref (ad 15)) (C := RX1) (T := TX1) (N := 4) hx hb hts (fun w h => List.mem_cons_of_mem _ (List.mem_append_left _ (List.mem_append_left _ (List.mem_append_right _ h)))) hown hK hP 1 rfl rfl 1 (by decide) (hts (.fieldLink RX7 71 "BidMarket$Holdings" "seen" "LBidMarket$Rows;") (List.mem_of_getElem? (i := 2) rfl)) (fun _ h9 => h9) rfl dX7_goesAsSeen_7 ?_
      refine va_get (D := (dC, dI)) (ci := 4) (v := .int gseru) (C := RX4) (T := TX4) (N := 3) hx hb hts (fun w h => List.mem_cons_of_mem _ (List.mem_append_left _ (List.mem_append_right _ h))) hown hK hP 2 rfl rfl 2 (by decide) (hts (.fieldLink RX7 239 "BidMarket$Rows" "used" "I") (List.mem_of_getElem? (i := 3) rfl)) (fun _ h9 => h9) rfl dX7_goesAsSeen_10 ?_
      refine lv_icmp_ge (tgt := 66) hx hb dX7_goesAsSeen_13 (by decide) (fun c1 => ?_) (fun c1 => ?_)
      · have hw := hw.1 c1
        refine lv_iconst (v := 1) hx hb dX7_goesAsSeen_66 (by decide) ?_
        exact W.zret (v := 1) hx hb hr rfl (fun t ht hW => ⟨1, rfl, hw, ht⟩) (fun _ h => by cases h) dX7_goesAsSeen_67
      · have hw := hw.2 c1
        refine lv_aload_n hx hb dX7_goesAsSeen_16 rfl (lv_at hl 0 rfl) ?_
        refine va_get (D := (dC, dI)) (ci := 7) (v := .ref (ad 1)) (C := RX7) (T := TX7) (N := 8) hx hb hts (fun w h => List.mem_cons_of_mem _ (List.mem_append_left _ (List.mem_append_left _ (List.mem_append_left _ (List.mem_append_right _ h))))) hown hK hP 0 rfl rfl 0 (by decide) (hts (.fieldLink RX7 12 "BidMarket" "held" "LBidMarket$Holdings;") (List.mem_of_getElem? (i := 1) rfl)) (fun _ h9 => h9) rfl dX7_goesAsSeen_17 ?_
        refine va_get (D := (dC, dI)) (ci := 1) (v := .ref (ad 15)) (C := RX1) (T := TX1) (N := 4) hx hb hts (fun w h => List.mem_cons_of_mem _ (List.mem_append_left _ (List.mem_append_left _ (List.mem_append_right _ h)))) hown hK hP 1 rfl rfl 1 (by decide) (hts (.fieldLink RX7 71 "BidMarket$Holdings" "seen" "LBidMarket$Rows;") (List.mem_of_getElem? (i := 2) rfl)) (fun _ h9 => h9) rfl dX7_goesAsSeen_20 ?_
        refine va_get (D := (dC, dI)) (ci := 4) (v := .ref (ad 16)) (C := RX4) (T := TX4) (N := 3) hx hb hts (fun w h => List.mem_cons_of_mem _ (List.mem_append_left _ (List.mem_append_right _ h))) hown hK hP 2 rfl rfl 0 (by decide) (hts (.fieldLink RX7 242 "BidMarket$Rows" "left" "[I") (List.mem_of_getElem? (i := 4) rfl)) (fun _ h9 => h9) rfl dX7_goesAsSeen_23 ?_
        refine lv_iload_n hx hb dX7_goesAsSeen_26 rfl (lv_at hl 2 rfl) ?_
        have h2 := hw.1
        have hw := hw.2
        refine va_iald hx hb hK hP 3 0 rfl rfl h2 dX7_goesAsSeen_27 ?_
        refine lv_topi (fun x3 ex3 => ?_)
        have hw := hw x3 ex3
        refine lv_istore_n (lv' := [(3, .int x3), (0, .ref (ad 0)), (1, .ref (ad 47)), (2, .int v2)]) hx hb dX7_goesAsSeen_28 rfl hl (by decide) rfl (fun ls hl => ?_)
        refine lv_aload_n hx hb dX7_goesAsSeen_29 rfl (lv_at hl 2 rfl) ?_
        refine lv_iload_n hx hb dX7_goesAsSeen_30 rfl (lv_at hl 0 rfl) ?_
        refine bw_pvi (wc := (wdX2_has cI cJ cT cII cJJ (fun k => ad (k + 47)) xn xpa xbr)) (As := [.int x3]) (rest := []) ⟨hx, hb, hml, hown, hts⟩ (mX2_has l dC dI cI cJ cT cII cJJ (fun k => ad (k + 47)) xn xpa xbr x3 _ hw) (cwV 1 hts gX7_goesAsSeen_X2_has rfl rfl rfl hdX2_has ⟨Nat.le_of_ble_eq_true rfl, Nat.le_of_ble_eq_true rfl⟩) hK hP [5] rfl rfl rfl rfl rfl hl.1 rfl (Nat.le_of_ble_eq_true rfl) ⟨Nat.le_of_ble_eq_true rfl, Nat.le_of_ble_eq_true rfl⟩ dX7_goesAsSeen_31 (fun r4 hw => ?_)
        refine lv_if_eq (tgt := 58) hx hb dX7_goesAsSeen_34 (by decide) (fun c5 => ?_) (fun c5 => ?_)
        · have hw := hw.1 c5
          refine lv_iconst (v := 0) hx hb dX7_goesAsSeen_58 (by decide) ?_
          exact W.zret (v := 0) hx hb hr rfl (fun t ht hW => ⟨0, rfl, hw, ht⟩) (fun _ h => by cases h) dX7_goesAsSeen_59
        · have hw := hw.2 c5
          refine lv_aload_n hx hb dX7_goesAsSeen_37 rfl (lv_at hl 2 rfl) ?_
          refine va_get (D := (dC, dI)) (ci := 2) (v := .ref (ad 48)) (C := RX2) (T := TX2) (N := 7) hx hb hts (fun w h => List.mem_cons_of_mem _ (List.mem_append_right _ h)) hown hK hP 5 rfl rfl 1 (by decide) (hts (.fieldLink RX7 145 "BidMarket$Market" "thingOf" "[I") (List.mem_of_getElem? (i := 5) rfl)) (fun _ h9 => h9) rfl dX7_goesAsSeen_38 ?_
          refine lv_iload_n hx hb dX7_goesAsSeen_41 rfl (lv_at hl 0 rfl) ?_
          have h6 := hw.1
          have hw := hw.2
          refine va_iald hx hb hK hP 6 0 rfl rfl h6 dX7_goesAsSeen_42 ?_
          refine lv_aload_n hx hb dX7_goesAsSeen_43 rfl (lv_at hl 1 rfl) ?_
          refine va_get (D := (dC, dI)) (ci := 7) (v := .ref (ad 1)) (C := RX7) (T := TX7) (N := 8) hx hb hts (fun w h => List.mem_cons_of_mem _ (List.mem_append_left _ (List.mem_append_left _ (List.mem_append_left _ (List.mem_append_right _ h))))) hown hK hP 0 rfl rfl 0 (by decide) (hts (.fieldLink RX7 12 "BidMarket" "held" "LBidMarket$Holdings;") (List.mem_of_getElem? (i := 1) rfl)) (fun _ h9 => h9) rfl dX7_goesAsSeen_44 ?_
          refine va_get (D := (dC, dI)) (ci := 1) (v := .ref (ad 15)) (C := RX1) (T := TX1) (N := 4) hx hb hts (fun w h => List.mem_cons_of_mem _ (List.mem_append_left _ (List.mem_append_left _ (List.mem_append_right _ h)))) hown hK hP 1 rfl rfl 1 (by decide) (hts (.fieldLink RX7 71 "BidMarket$Holdings" "seen" "LBidMarket$Rows;") (List.mem_of_getElem? (i := 2) rfl)) (fun _ h9 => h9) rfl dX7_goesAsSeen_47 ?_
          refine va_get (D := (dC, dI)) (ci := 4) (v := .ref (ad 17)) (C := RX4) (T := TX4) (N := 3) hx hb hts (fun w h => List.mem_cons_of_mem _ (List.mem_append_left _ (List.mem_append_right _ h))) hown hK hP 2 rfl rfl 1 (by decide) (hts (.fieldLink RX7 245 "BidMarket$Rows" "right" "[I") (List.mem_of_getElem? (i := 6) rfl)) (fun _ h9 => h9) rfl dX7_goesAsSeen_50 ?_
          refine lv_iload_n hx hb dX7_goesAsSeen_53 rfl (lv_at hl 3 rfl) ?_
          have h7 := hw.1
          have hw := hw.2
          refine va_iald hx hb hK hP 4 0 rfl rfl h7 dX7_goesAsSeen_54 ?_
          refine lv_icmp_eq (tgt := 60) hx hb dX7_goesAsSeen_55 (by decide) (fun c8 => ?_) (fun c8 => ?_)
          · have hw := hw.1 c8
            obtain ⟨x9, ex9⟩ : ∃ y : Int32, y = v2 + 1 := ⟨_, rfl⟩
            have hw := hw x9 ex9
            refine lv_iinc (v := x9) (lv' := [(2, .int x9), (3, .int x3), (0, .ref (ad 0)), (1, .ref (ad 47))]) hx hb dX7_goesAsSeen_60 hl (k := 3) rfl (by rw [ex9]; rfl) (by decide) rfl (fun ls hl => ?_)
            refine lv_goto (tgt := 2) hx hb dX7_goesAsSeen_63 (by decide) ?_
            exact ih x9 ls (lv_sub hl [2, 3, 0] rfl) hw
          · have hw := hw.2 c8
            refine lv_iconst (v := 0) hx hb dX7_goesAsSeen_58 (by decide) ?_
            exact W.zret (v := 0) hx hb hr rfl (fun t ht hW => ⟨0, rfl, hw, ht⟩) (fun _ h => by cases h) dX7_goesAsSeen_59
  unfold wpX7_goesAsSeen at hw
  refine lv_iconst (v := 0) hx hb dX7_goesAsSeen_0 (by decide) ?_
  refine lv_istore_n (lv' := [(2, .int 0), (0, .ref (ad 0)), (1, .ref (ad 47))]) hx hb dX7_goesAsSeen_1 rfl hl (by decide) rfl (fun ls hl => ?_)
  obtain ⟨f1, hw⟩ := hw
  exact kB2 f1 0 ls (lv_sub hl [1, 2, 0] rfl) hw
set_option maxHeartbeats 4000000 in
set_option maxRecDepth 100000 in
theorem mX7_fits (l : Launch) (dC : Nat → ClassId) (dI : Nat → Nat → Nat) (cI cJ cT cII cJJ : ClassId) (ad : Nat → Nat) (sz : Nat) (im : Int32) (gn : Int32) (gpa : Int32) (gbr : Int32) (gth : Nat → Int32) (gpe : Nat → Int32) (gpr : Nat → Int32) (gw : Nat → Nat → Int32) (gseru : Int32) (gserl : Nat → Int32) (gserr : Nat → Int32) (xn : Int32) (xpa : Int32) (xbr : Int32) (xth : Nat → Int32) (xpe : Nat → Int32) (xpr : Nat → Int32) (xw : Nat → Nat → Int32) (a1 : Int32) (a2 : Int32) (a3 : Int32) (Post : Int32 → Int32 → Int32 → Int32 → (Nat → Int32) → (Nat → Int32) → (Nat → Int32) → (Nat → Nat → Int32) → Prop) (hw : wpX7_fits gn gpa gth gpe gpr gw gseru gserl gserr xn xpa xbr xth xpe xpr xw a1 a2 a3 Post) : Met l yX7_fits wsX7_fits ({ frames := 5, cells := 0, slots := 0, locals := 117 } : Room) (va_Pc [.ref (ad 0), .int a1, .int a2, .int a3] (fun U => U.heap.size = sz ∧ va_P (dC, dI) vwCl (wdX7_fits cI cJ cT cII cJJ ad im gn gpa gbr gth gpe gpr gw gseru gserl gserr xn xpa xbr xth xpe xpr xw) U.heap ∧ va_K (dC, dI) vwCl (bw_tys cI cJ cT cII cJJ) U ∧ va_D (fun _ => True) (wdX7_fits cI cJ cT cII cJJ ad im gn gpa gbr gth gpe gpr gw gseru gserl gserr xn xpa xbr xth xpe xpr xw))) (va_Qi (fun (r : Int32) (u : Int32 × Int32 × Int32 × (Nat → Int32) × (Nat → Int32) × (Nat → Int32) × (Nat → Nat → Int32)) => Post r u.1 u.2.1 u.2.2.1 u.2.2.2.1 u.2.2.2.2.1 u.2.2.2.2.2.1 u.2.2.2.2.2.2) (fun (u : Int32 × Int32 × Int32 × (Nat → Int32) × (Nat → Int32) × (Nat → Int32) × (Nat → Nat → Int32)) t => va_P (dC, dI) vwCl (wdX7_fits cI cJ cT cII cJJ ad im gn gpa gbr gth gpe gpr gw gseru gserl gserr u.1 u.2.1 u.2.2.1 u.2.2.2.1 u.2.2.2.2.1 u.2.2.2.2.2.1 u.2.2.2.2.2.2) t.heap) (va_A (wdX7_fits cI cJ cT cII cJJ ad im gn gpa gbr gth gpe gpr gw gseru gserl gserr xn xpa xbr xth xpe xpr xw) sz)) 0 0 (va_A (wdX7_fits cI cJ cT cII cJJ ad im gn gpa gbr gth gpe gpr gw gseru gserl gserr xn xpa xbr xth xpe xpr xw) sz) := by
  refine Met.ofW (cc := cX7_fits) (maxL := 7) (ret := (some .int)) (by decide) rfl ?_
  intro p e s m args below meth c s₁ B hml hv
  obtain ⟨rfl, hsz, hP, hK, hD0⟩ := hv
  have hx := B.exec
  have hb := B.bytes
  have hr := B.returns
  have hts := atoms_spec (ws := wsX7_fits) B.pre
  have hown : s.vm.findClass RX7 = some m.cls := findClass_of_methodNamed B.named
  have hlocks := B.notSynchronized
  subst hsz
  have hD := hD0.self (sz := s.heap.size)
  generalize hAe : va_A (wdX7_fits cI cJ cT cII cJJ ad im gn gpa gbr gth gpe gpr gw gseru gserl gserr xn xpa xbr xth xpe xpr xw) s.heap.size = A at hD ⊢
  have hA : ∀ q : Nat, s.heap.size ≤ q → A q := fun q h => by rw [← hAe]; exact Or.inr h
  have hS : va_S A s.heap s.heap [] := va_S.rf
  have hl := lv_entry ([.ref (ad 0), .int a1, .int a2, .int a3]) (n := 7) (Nat.le_of_ble_eq_true rfl)
  rw [lg_entry_eq]
  generalize (lg_sl ([.ref (ad 0), .int a1, .int a2, .int a3]) ++ List.replicate (7 - (lg_sl ([.ref (ad 0), .int a1, .int a2, .int a3])).length) Slot.unset).toArray = ls at hl ⊢
  have hl : lv_has ls 7 [(0, .ref (ad 0)), (1, .int a1), (2, .int a2), (3, .int a3)] := hl
  have kB124 : ∀ (K49 : Int32 → Int32 → Int32 → Int32 → Int32 → Int32 → (Nat → Int32) → (Nat → Int32) → (Nat → Int32) → (Nat → Nat → Int32) → Prop), (∀ (v4 : Int32) (v5 : Int32) (v6 : Int32) (xn : Int32) (xpa : Int32) (xbr : Int32) (xth : Nat → Int32) (xpe : Nat → Int32) (xpr : Nat → Int32) (xw : Nat → Nat → Int32), ∀ (H : Heap) (locs : List Loc), va_P (dC, dI) vwCl (wdX7_fits cI cJ cT cII cJJ ad im gn gpa gbr gth gpe gpr gw gseru gserl gserr xn xpa xbr xth xpe xpr xw) H → va_D A (wdX7_fits cI cJ cT cII cJJ ad im gn gpa gbr gth gpe gpr gw gseru gserl gserr xn xpa xbr xth xpe xpr xw) → va_S A s.heap H locs → ∀ ls : Array Slot, lv_has ls 7 [(0, .ref (ad 0)), (1, .int a1), (2, .int a2), (3, .int a3), (4, .int v4), (5, .int v5), (6, .int v6)] → K49 v4 v5 v6 xn xpa xbr xth xpe xpr xw → W p l e (headSpec wsX7_fits ({ frames := 5, cells := 0, slots := 0, locals := 117 } : Room)).room s m ([.ref (ad 0), .int a1, .int a2, .int a3] : List Value).toArray below meth c H locs 0 0 (MQ below (va_Qi (fun (r : Int32) (u : Int32 × Int32 × Int32 × (Nat → Int32) × (Nat → Int32) × (Nat → Int32) × (Nat → Nat → Int32)) => Post r u.1 u.2.1 u.2.2.1 u.2.2.2.1 u.2.2.2.2.1 u.2.2.2.2.2.1 u.2.2.2.2.2.2) (fun (u : Int32 × Int32 × Int32 × (Nat → Int32) × (Nat → Int32) × (Nat → Int32) × (Nat → Nat → Int32)) t => va_P (dC, dI) vwCl (wdX7_fits cI cJ cT cII cJJ ad im gn gpa gbr gth gpe gpr gw gseru gserl gserr u.1 u.2.1 u.2.2.1 u.2.2.2.1 u.2.2.2.2.1 u.2.2.2.2.2.1 u.2.2.2.2.2.2) t.heap) A) ([.ref (ad 0), .int a1, .int a2, .int a3] : List Value).toArray s 0 0 A) (F0 m 49 ls [])) → ∀ (v4 : Int32) (v5 : Int32) (v6 : Int32) (xn : Int32) (xpa : Int32) (xbr : Int32) (xth : Nat → Int32) (xpe : Nat → Int32) (xpr : Nat → Int32) (xw : Nat → Nat → Int32), ∀ (H : Heap) (locs : List Loc), va_P (dC, dI) vwCl (wdX7_fits cI cJ cT cII cJJ ad im gn gpa gbr gth gpe gpr gw gseru gserl gserr xn xpa xbr xth xpe xpr xw) H → va_D A (wdX7_fits cI cJ cT cII cJJ ad im gn gpa gbr gth gpe gpr gw gseru gserl gserr xn xpa xbr xth xpe xpr xw) → va_S A s.heap H locs → ∀ ls : Array Slot, lv_has ls 7 [(0, .ref (ad 0)), (1, .int a1), (2, .int a2), (3, .int a3), (4, .int v4), (5, .int v5), (6, .int v6)] → wpX7_fits_B124 gn gpa gth gpe gpr gw gseru gserl gserr a1 a2 a3 K49 Post v4 v5 v6 xn xpa xbr xth xpe xpr xw → W p l e (headSpec wsX7_fits ({ frames := 5, cells := 0, slots := 0, locals := 117 } : Room)).room s m ([.ref (ad 0), .int a1, .int a2, .int a3] : List Value).toArray below meth c H locs 0 0 (MQ below (va_Qi (fun (r : Int32) (u : Int32 × Int32 × Int32 × (Nat → Int32) × (Nat → Int32) × (Nat → Int32) × (Nat → Nat → Int32)) => Post r u.1 u.2.1 u.2.2.1 u.2.2.2.1 u.2.2.2.2.1 u.2.2.2.2.2.1 u.2.2.2.2.2.2) (fun (u : Int32 × Int32 × Int32 × (Nat → Int32) × (Nat → Int32) × (Nat → Int32) × (Nat → Nat → Int32)) t => va_P (dC, dI) vwCl (wdX7_fits cI cJ cT cII cJJ ad im gn gpa gbr gth gpe gpr gw gseru gserl gserr u.1 u.2.1 u.2.2.1 u.2.2.2.1 u.2.2.2.2.1 u.2.2.2.2.2.1 u.2.2.2.2.2.2) t.heap) A) ([.ref (ad 0), .int a1, .int a2, .int a3] : List Value).toArray s 0 0 A) (F0 m 124 ls []) := by
    intro K49 hK49 v4 v5 v6 xn xpa xbr xth xpe xpr xw H locs hP hD hS ls hl hw
    unfold wpX7_fits_B124 at hw
    obtain ⟨x29, ex29⟩ : ∃ y : Int32, y = v6 + 10 := ⟨_, rfl⟩
    have hw := hw x29 ex29
    refine lv_iinc (v := x29) (lv' := [(6, .int x29), (0, .ref (ad 0)), (1, .int a1), (2, .int a2), (3, .int a3), (4, .int v4), (5, .int v5)]) hx hb dX7_fits_124 hl (k := 6) rfl (by rw [ex29]; rfl) (by decide) rfl (fun ls hl => ?_)
    refine lv_goto (tgt := 49) hx hb dX7_fits_127 (by decide) ?_
    exact hK49 v4 v5 x29 xn xpa xbr xth xpe xpr xw _ _ hP hD hS ls (lv_sub hl [1, 2, 3, 4, 5, 6, 0] rfl) hw
  have kB119 : ∀ (K49 : Int32 → Int32 → Int32 → Int32 → Int32 → Int32 → (Nat → Int32) → (Nat → Int32) → (Nat → Int32) → (Nat → Nat → Int32) → Prop), (∀ (v4 : Int32) (v5 : Int32) (v6 : Int32) (xn : Int32) (xpa : Int32) (xbr : Int32) (xth : Nat → Int32) (xpe : Nat → Int32) (xpr : Nat → Int32) (xw : Nat → Nat → Int32), ∀ (H : Heap) (locs : List Loc), va_P (dC, dI) vwCl (wdX7_fits cI cJ cT cII cJJ ad im gn gpa gbr gth gpe gpr gw gseru gserl gserr xn xpa xbr xth xpe xpr xw) H → va_D A (wdX7_fits cI cJ cT cII cJJ ad im gn gpa gbr gth gpe gpr gw gseru gserl gserr xn xpa xbr xth xpe xpr xw) → va_S A s.heap H locs → ∀ ls : Array Slot, lv_has ls 7 [(0, .ref (ad 0)), (1, .int a1), (2, .int a2), (3, .int a3), (4, .int v4), (5, .int v5), (6, .int v6)] → K49 v4 v5 v6 xn xpa xbr xth xpe xpr xw → W p l e (headSpec wsX7_fits ({ frames := 5, cells := 0, slots := 0, locals := 117 } : Room)).room s m ([.ref (ad 0), .int a1, .int a2, .int a3] : List Value).toArray below meth c H locs 0 0 (MQ below (va_Qi (fun (r : Int32) (u : Int32 × Int32 × Int32 × (Nat → Int32) × (Nat → Int32) × (Nat → Int32) × (Nat → Nat → Int32)) => Post r u.1 u.2.1 u.2.2.1 u.2.2.2.1 u.2.2.2.2.1 u.2.2.2.2.2.1 u.2.2.2.2.2.2) (fun (u : Int32 × Int32 × Int32 × (Nat → Int32) × (Nat → Int32) × (Nat → Int32) × (Nat → Nat → Int32)) t => va_P (dC, dI) vwCl (wdX7_fits cI cJ cT cII cJJ ad im gn gpa gbr gth gpe gpr gw gseru gserl gserr u.1 u.2.1 u.2.2.1 u.2.2.2.1 u.2.2.2.2.1 u.2.2.2.2.2.1 u.2.2.2.2.2.2) t.heap) A) ([.ref (ad 0), .int a1, .int a2, .int a3] : List Value).toArray s 0 0 A) (F0 m 49 ls [])) → ∀ (v4 : Int32) (v6 : Int32) (s0 : Int32) (xn : Int32) (xpa : Int32) (xbr : Int32) (xth : Nat → Int32) (xpe : Nat → Int32) (xpr : Nat → Int32) (xw : Nat → Nat → Int32), ∀ (H : Heap) (locs : List Loc), va_P (dC, dI) vwCl (wdX7_fits cI cJ cT cII cJJ ad im gn gpa gbr gth gpe gpr gw gseru gserl gserr xn xpa xbr xth xpe xpr xw) H → va_D A (wdX7_fits cI cJ cT cII cJJ ad im gn gpa gbr gth gpe gpr gw gseru gserl gserr xn xpa xbr xth xpe xpr xw) → va_S A s.heap H locs → ∀ ls : Array Slot, lv_has ls 7 [(0, .ref (ad 0)), (1, .int a1), (2, .int a2), (3, .int a3), (4, .int v4), (6, .int v6)] → wpX7_fits_B119 gn gpa gth gpe gpr gw gseru gserl gserr a1 a2 a3 K49 Post v4 v6 s0 xn xpa xbr xth xpe xpr xw → W p l e (headSpec wsX7_fits ({ frames := 5, cells := 0, slots := 0, locals := 117 } : Room)).room s m ([.ref (ad 0), .int a1, .int a2, .int a3] : List Value).toArray below meth c H locs 0 0 (MQ below (va_Qi (fun (r : Int32) (u : Int32 × Int32 × Int32 × (Nat → Int32) × (Nat → Int32) × (Nat → Int32) × (Nat → Nat → Int32)) => Post r u.1 u.2.1 u.2.2.1 u.2.2.2.1 u.2.2.2.2.1 u.2.2.2.2.2.1 u.2.2.2.2.2.2) (fun (u : Int32 × Int32 × Int32 × (Nat → Int32) × (Nat → Int32) × (Nat → Int32) × (Nat → Nat → Int32)) t => va_P (dC, dI) vwCl (wdX7_fits cI cJ cT cII cJJ ad im gn gpa gbr gth gpe gpr gw gseru gserl gserr u.1 u.2.1 u.2.2.1 u.2.2.2.1 u.2.2.2.2.1 u.2.2.2.2.2.1 u.2.2.2.2.2.2) t.heap) A) ([.ref (ad 0), .int a1, .int a2, .int a3] : List Value).toArray s 0 0 A) (F0 m 119 ls [.int s0]) := by
    intro K49 hK49 v4 v6 s0 xn xpa xbr xth xpe xpr xw H locs hP hD hS ls hl hw
    unfold wpX7_fits_B119 at hw
    refine lv_istore (lv' := [(5, .int s0), (0, .ref (ad 0)), (1, .int a1), (2, .int a2), (3, .int a3), (4, .int v4), (6, .int v6)]) hx hb dX7_fits_119 hl (by decide) rfl (fun ls hl => ?_)
    obtain ⟨x31, ex31⟩ : ∃ y : Int32, y = v4 + 1 := ⟨_, rfl⟩
    have hw := hw x31 ex31
    refine lv_iinc (v := x31) (lv' := [(4, .int x31), (5, .int s0), (0, .ref (ad 0)), (1, .int a1), (2, .int a2), (3, .int a3), (6, .int v6)]) hx hb dX7_fits_121 hl (k := 5) rfl (by rw [ex31]; rfl) (by decide) rfl (fun ls hl => ?_)
    exact kB124 K49 hK49 x31 s0 v6 xn xpa xbr xth xpe xpr xw _ _ hP hD hS ls (lv_sub hl [2, 3, 4, 5, 0, 1, 6] rfl) hw
  have kB49 : ∀ f : Nat, ∀ (v4 : Int32) (v5 : Int32) (v6 : Int32) (xn : Int32) (xpa : Int32) (xbr : Int32) (xth : Nat → Int32) (xpe : Nat → Int32) (xpr : Nat → Int32) (xw : Nat → Nat → Int32), ∀ (H : Heap) (locs : List Loc), va_P (dC, dI) vwCl (wdX7_fits cI cJ cT cII cJJ ad im gn gpa gbr gth gpe gpr gw gseru gserl gserr xn xpa xbr xth xpe xpr xw) H → va_D A (wdX7_fits cI cJ cT cII cJJ ad im gn gpa gbr gth gpe gpr gw gseru gserl gserr xn xpa xbr xth xpe xpr xw) → va_S A s.heap H locs → ∀ ls : Array Slot, lv_has ls 7 [(0, .ref (ad 0)), (1, .int a1), (2, .int a2), (3, .int a3), (4, .int v4), (5, .int v5), (6, .int v6)] → wpX7_fits_B49 gn gpa gth gpe gpr gw gseru gserl gserr a1 a2 a3 Post f v4 v5 v6 xn xpa xbr xth xpe xpr xw → W p l e (headSpec wsX7_fits ({ frames := 5, cells := 0, slots := 0, locals := 117 } : Room)).room s m ([.ref (ad 0), .int a1, .int a2, .int a3] : List Value).toArray below meth c H locs 0 0 (MQ below (va_Qi (fun (r : Int32) (u : Int32 × Int32 × Int32 × (Nat → Int32) × (Nat → Int32) × (Nat → Int32) × (Nat → Nat → Int32)) => Post r u.1 u.2.1 u.2.2.1 u.2.2.2.1 u.2.2.2.2.1 u.2.2.2.2.2.1 u.2.2.2.2.2.2) (fun (u : Int32 × Int32 × Int32 × (Nat → Int32) × (Nat → Int32) × (Nat → Int32) × (Nat → Nat → Int32)) t => va_P (dC, dI) vwCl (wdX7_fits cI cJ cT cII cJJ ad im gn gpa gbr gth gpe gpr gw gseru gserl gserr u.1 u.2.1 u.2.2.1 u.2.2.2.1 u.2.2.2.2.1 u.2.2.2.2.2.1 u.2.2.2.2.2.2) t.heap) A) ([.ref (ad 0), .int a1, .int a2, .int a3] : List Value).toArray s 0 0 A) (F0 m 49 ls []) := by
    intro  f
    induction f with
    | zero => intro v4 v5 v6 xn xpa xbr xth xpe xpr xw H locs hP hD hS ls hl hw; exact (show False from hw).elim
    | succ f ih =>
      intro v4 v5 v6 xn xpa xbr xth xpe xpr xw H locs hP hD hS ls hl hw
      rw [wpX7_fits_B49] at hw
      refine lv_iload hx hb dX7_fits_49 (lv_at hl 6 rfl) ?_
      refine lv_bipush (v := 90) hx hb dX7_fits_51 (by decide) ?_
      refine lv_icmp_gt (tgt := 130) hx hb dX7_fits_53 (by decide) (fun c8 => ?_) (fun c8 => ?_)
      · have hw := hw.1 c8
        refine lv_iload_n hx hb dX7_fits_130 rfl (lv_at hl 3 rfl) ?_
        refine lv_if_ne (tgt := 139) hx hb dX7_fits_131 (by decide) (fun c9 => ?_) (fun c9 => ?_)
        · have hw := hw.1 c9
          refine lv_iload hx hb dX7_fits_139 (lv_at hl 5 rfl) ?_
          exact W.iret (v := v5) hx hb hr (fun t ht hW => ⟨⟨v5, (xn, xpa, xbr, xth, xpe, xpr, xw), rfl, hw, by show va_P _ _ _ t.heap; rw [ht]; exact hP⟩, hS.F ht⟩) hS.2.2 dX7_fits_141
        · have hw := hw.2 c9
          refine lv_iload hx hb dX7_fits_134 (lv_at hl 4 rfl) ?_
          refine lv_goto (tgt := 141) hx hb dX7_fits_136 (by decide) ?_
          exact W.iret (v := v4) hx hb hr (fun t ht hW => ⟨⟨v4, (xn, xpa, xbr, xth, xpe, xpr, xw), rfl, hw, by show va_P _ _ _ t.heap; rw [ht]; exact hP⟩, hS.F ht⟩) hS.2.2 dX7_fits_141
      · have hw := hw.2 c8
        refine lv_aload_n hx hb dX7_fits_56 rfl (lv_at hl 0 rfl) ?_
        refine va_get (D := (dC, dI)) (ci := 7) (v := .ref (ad 47)) (C := RX7) (T := TX7) (N := 8) hx hb hts (fun w h => List.mem_cons_of_mem _ (List.mem_append_left _ (List.mem_append_left _ (List.mem_append_left _ (List.mem_append_right _ h))))) hown hK hP 0 rfl rfl 2 (by decide) (hts (.fieldLink RX7 24 "BidMarket" "trial" "LBidMarket$Market;") (List.mem_of_getElem? (i := 3) rfl)) (fun _ h9 => h9) rfl dX7_fits_57 ?_
        refine lv_aload_n hx hb dX7_fits_60 rfl (lv_at hl 0 rfl) ?_
        refine va_get (D := (dC, dI)) (ci := 7) (v := .ref (ad 1)) (C := RX7) (T := TX7) (N := 8) hx hb hts (fun w h => List.mem_cons_of_mem _ (List.mem_append_left _ (List.mem_append_left _ (List.mem_append_left _ (List.mem_append_right _ h))))) hown hK hP 0 rfl rfl 0 (by decide) (hts (.fieldLink RX7 12 "BidMarket" "held" "LBidMarket$Holdings;") (List.mem_of_getElem? (i := 1) rfl)) (fun _ h9 => h9) rfl dX7_fits_61 ?_
        refine va_get (D := (dC, dI)) (ci := 1) (v := .ref (ad 2)) (C := RX1) (T := TX1) (N := 4) hx hb hts (fun w h => List.mem_cons_of_mem _ (List.mem_append_left _ (List.mem_append_left _ (List.mem_append_right _ h)))) hown hK hP 1 rfl rfl 0 (by decide) (hts (.fieldLink RX7 60 "BidMarket$Holdings" "market" "LBidMarket$Market;") (List.mem_of_getElem? (i := 2) rfl)) (fun _ h9 => h9) rfl dX7_fits_64 ?_
        refine bw_wvv (wc := (wdX2_become cI cJ cT cII cJJ (fun k => ad (k + 47)) (fun k => ad (k + 2)) xn xpa xbr xth xpe xpr xw gn gpa gbr gth gpe gpr gw)) (w1 := (fun (u : Int32 × Int32 × (Nat → Int32) × (Nat → Int32) × (Nat → Int32) × (Nat → Nat → Int32)) => wdX2_become cI cJ cT cII cJJ (fun k => ad (k + 47)) (fun k => ad (k + 2)) u.1 u.2.1 xbr u.2.2.1 u.2.2.2.1 u.2.2.2.2.1 u.2.2.2.2.2 gn gpa gbr gth gpe gpr gw)) (As := [.ref (ad 2)]) (rest := []) ⟨hx, hb, hml, hown, hts⟩ (mX2_become l dC dI cI cJ cT cII cJJ (fun k => ad (k + 47)) (fun k => ad (k + 2)) _ xn xpa xbr xth xpe xpr xw gn gpa gbr gth gpe gpr gw _ hw) (cwV 1 hts gX7_fits_X2_become rfl rfl rfl hdX2_become ⟨Nat.le_of_ble_eq_true rfl, Nat.le_of_ble_eq_true rfl⟩) hK hP hD hS hA [18, 19, 20, 21, 22, 23, 24, 25, 26, 27, 28, 29, 30, 2, 3, 4, 5, 6, 7, 8, 9, 10, 11, 12, 13, 14] rfl (by decide) (fun _ => rfl) rfl rfl rfl rfl hl.1 rfl (Nat.le_of_ble_eq_true rfl) ⟨Nat.le_of_ble_eq_true rfl, Nat.le_of_ble_eq_true rfl⟩ dX7_fits_67 (fun u H locs hw hP hD hS => ?_)
        obtain ⟨y10, y11, y12, y13, y14, y15⟩ := u
        try dsimp only at hw
        have hP : va_P (dC, dI) vwCl (wdX7_fits cI cJ cT cII cJJ ad im gn gpa gbr gth gpe gpr gw gseru gserl gserr y10 y11 xbr y12 y13 y14 y15) H := hP
        have hD : va_D A (wdX7_fits cI cJ cT cII cJJ ad im gn gpa gbr gth gpe gpr gw gseru gserl gserr y10 y11 xbr y12 y13 y14 y15) := hD
        refine lv_aload_n hx hb dX7_fits_70 rfl (lv_at hl 0 rfl) ?_
        refine va_get (D := (dC, dI)) (ci := 7) (v := .ref (ad 47)) (C := RX7) (T := TX7) (N := 8) hx hb hts (fun w h => List.mem_cons_of_mem _ (List.mem_append_left _ (List.mem_append_left _ (List.mem_append_left _ (List.mem_append_right _ h))))) hown hK hP 0 rfl rfl 2 (by decide) (hts (.fieldLink RX7 24 "BidMarket" "trial" "LBidMarket$Market;") (List.mem_of_getElem? (i := 3) rfl)) (fun _ h9 => h9) rfl dX7_fits_71 ?_
        refine lv_iload_n hx hb dX7_fits_74 rfl (lv_at hl 1 rfl) ?_
        refine lv_iload_n hx hb dX7_fits_75 rfl (lv_at hl 2 rfl) ?_
        refine lv_iload hx hb dX7_fits_76 (lv_at hl 6 rfl) ?_
        refine bw_wvv (wc := (wdX2_becomeWorth cI cJ cT cII cJJ (fun k => ad (k + 47)) y10 y11 xbr y12 y13 y15)) (w1 := (fun (u : (Nat → Int32) × (Nat → Int32) × (Nat → Nat → Int32)) => wdX2_becomeWorth cI cJ cT cII cJJ (fun k => ad (k + 47)) y10 y11 xbr u.1 u.2.1 u.2.2)) (As := [.int a1, .int a2, .int v6]) (rest := []) ⟨hx, hb, hml, hown, hts⟩ (mX2_becomeWorth l dC dI cI cJ cT cII cJJ (fun k => ad (k + 47)) _ y10 y11 xbr y12 y13 y15 a1 a2 v6 _ hw) (cwV 3 hts gX7_fits_X2_becomeWorth rfl rfl rfl hdX2_becomeWorth ⟨Nat.le_of_ble_eq_true rfl, Nat.le_of_ble_eq_true rfl⟩) hK hP hD hS hA [18, 19, 20, 22, 23, 24, 25, 26, 27, 28, 29, 30] rfl (by decide) (fun _ => rfl) rfl rfl rfl rfl hl.1 rfl (Nat.le_of_ble_eq_true rfl) ⟨Nat.le_of_ble_eq_true rfl, Nat.le_of_ble_eq_true rfl⟩ dX7_fits_78 (fun u H locs hw hP hD hS => ?_)
        obtain ⟨y16, y17, y18⟩ := u
        try dsimp only at hw
        have hP : va_P (dC, dI) vwCl (wdX7_fits cI cJ cT cII cJJ ad im gn gpa gbr gth gpe gpr gw gseru gserl gserr y10 y11 xbr y16 y17 y14 y18) H := hP
        have hD : va_D A (wdX7_fits cI cJ cT cII cJJ ad im gn gpa gbr gth gpe gpr gw gseru gserl gserr y10 y11 xbr y16 y17 y14 y18) := hD
        refine lv_aload_n hx hb dX7_fits_81 rfl (lv_at hl 0 rfl) ?_
        refine va_get (D := (dC, dI)) (ci := 7) (v := .ref (ad 47)) (C := RX7) (T := TX7) (N := 8) hx hb hts (fun w h => List.mem_cons_of_mem _ (List.mem_append_left _ (List.mem_append_left _ (List.mem_append_left _ (List.mem_append_right _ h))))) hown hK hP 0 rfl rfl 2 (by decide) (hts (.fieldLink RX7 24 "BidMarket" "trial" "LBidMarket$Market;") (List.mem_of_getElem? (i := 3) rfl)) (fun _ h9 => h9) rfl dX7_fits_82 ?_
        refine bw_wvv (wc := (wdX2_startAnew cI cJ cT cII cJJ (fun k => ad (k + 47)) y10 y11 xbr y16 y17 y14)) (w1 := (fun (u : (Nat → Int32) × (Nat → Int32) × (Nat → Int32)) => wdX2_startAnew cI cJ cT cII cJJ (fun k => ad (k + 47)) y10 y11 xbr u.1 u.2.1 u.2.2)) (As := []) (rest := []) ⟨hx, hb, hml, hown, hts⟩ (mX2_startAnew l dC dI cI cJ cT cII cJJ (fun k => ad (k + 47)) _ y10 y11 xbr y16 y17 y14 _ hw) (cwV 0 hts gX7_fits_X2_startAnew rfl rfl rfl hdX2_startAnew ⟨Nat.le_of_ble_eq_true rfl, Nat.le_of_ble_eq_true rfl⟩) hK hP hD hS hA [18, 19, 20, 21] rfl (by decide) (fun _ => rfl) rfl rfl rfl rfl hl.1 rfl (Nat.le_of_ble_eq_true rfl) ⟨Nat.le_of_ble_eq_true rfl, Nat.le_of_ble_eq_true rfl⟩ dX7_fits_85 (fun u H locs hw hP hD hS => ?_)
        obtain ⟨y19, y20, y21⟩ := u
        try dsimp only at hw
        have hP : va_P (dC, dI) vwCl (wdX7_fits cI cJ cT cII cJJ ad im gn gpa gbr gth gpe gpr gw gseru gserl gserr y10 y11 xbr y19 y20 y21 y18) H := hP
        have hD : va_D A (wdX7_fits cI cJ cT cII cJJ ad im gn gpa gbr gth gpe gpr gw gseru gserl gserr y10 y11 xbr y19 y20 y21 y18) := hD
        refine lv_aload_n hx hb dX7_fits_88 rfl (lv_at hl 0 rfl) ?_
        refine va_get (D := (dC, dI)) (ci := 7) (v := .ref (ad 47)) (C := RX7) (T := TX7) (N := 8) hx hb hts (fun w h => List.mem_cons_of_mem _ (List.mem_append_left _ (List.mem_append_left _ (List.mem_append_left _ (List.mem_append_right _ h))))) hown hK hP 0 rfl rfl 2 (by decide) (hts (.fieldLink RX7 24 "BidMarket" "trial" "LBidMarket$Market;") (List.mem_of_getElem? (i := 3) rfl)) (fun _ h9 => h9) rfl dX7_fits_89 ?_
        refine bw_wvi (wc := (wdX2_runAuction cI cJ cT cII cJJ (fun k => ad (k + 47)) y10 y11 xbr y19 y20 y21 y18)) (w1 := (fun (u : Int32 × (Nat → Int32) × (Nat → Int32) × (Nat → Int32)) => wdX2_runAuction cI cJ cT cII cJJ (fun k => ad (k + 47)) y10 y11 u.1 u.2.1 u.2.2.1 u.2.2.2 y18)) (As := []) (rest := []) ⟨hx, hb, hml, hown, hts⟩ (mX2_runAuction l dC dI cI cJ cT cII cJJ (fun k => ad (k + 47)) _ y10 y11 xbr y19 y20 y21 y18 _ hw) (cwV 0 hts gX7_fits_X2_runAuction rfl rfl rfl hdX2_runAuction ⟨Nat.le_of_ble_eq_true rfl, Nat.le_of_ble_eq_true rfl⟩) hK hP hD hS hA [18, 19, 20, 21, 22, 23, 24, 25, 26, 27, 28, 29, 30] rfl (by decide) (fun _ => rfl) rfl rfl rfl rfl hl.1 rfl (Nat.le_of_ble_eq_true rfl) ⟨Nat.le_of_ble_eq_true rfl, Nat.le_of_ble_eq_true rfl⟩ dX7_fits_92 (fun r22 u H locs hw hP hD hS => ?_)
        obtain ⟨y23, y24, y25, y26⟩ := u
        try dsimp only at hw
        have hP : va_P (dC, dI) vwCl (wdX7_fits cI cJ cT cII cJJ ad im gn gpa gbr gth gpe gpr gw gseru gserl gserr y10 y11 y23 y24 y25 y26 y18) H := hP
        have hD : va_D A (wdX7_fits cI cJ cT cII cJJ ad im gn gpa gbr gth gpe gpr gw gseru gserl gserr y10 y11 y23 y24 y25 y26 y18) := hD
        refine lv_pop hx hb dX7_fits_95 rfl ?_
        refine lv_aload_n hx hb dX7_fits_96 rfl (lv_at hl 0 rfl) ?_
        refine lv_aload_n hx hb dX7_fits_97 rfl (lv_at hl 0 rfl) ?_
        refine va_get (D := (dC, dI)) (ci := 7) (v := .ref (ad 47)) (C := RX7) (T := TX7) (N := 8) hx hb hts (fun w h => List.mem_cons_of_mem _ (List.mem_append_left _ (List.mem_append_left _ (List.mem_append_left _ (List.mem_append_right _ h))))) hown hK hP 0 rfl rfl 2 (by decide) (hts (.fieldLink RX7 24 "BidMarket" "trial" "LBidMarket$Market;") (List.mem_of_getElem? (i := 3) rfl)) (fun _ h9 => h9) rfl dX7_fits_98 ?_
        refine bw_pvi (wc := (wdX7_goesAsSeen cI cJ cT cII cJJ ad im gseru gserl gserr y10 y11 y23 y24)) (As := [.ref (ad 47)]) (rest := []) ⟨hx, hb, hml, hown, hts⟩ (mX7_goesAsSeen l dC dI cI cJ cT cII cJJ ad im gseru gserl gserr y10 y11 y23 y24 _ hw) (cwV 1 hts gX7_fits_X7_goesAsSeen rfl rfl rfl hdX7_goesAsSeen ⟨Nat.le_of_ble_eq_true rfl, Nat.le_of_ble_eq_true rfl⟩) hK hP [0, 1, 15, 16, 17, 18, 19] rfl rfl rfl rfl rfl hl.1 rfl (Nat.le_of_ble_eq_true rfl) ⟨Nat.le_of_ble_eq_true rfl, Nat.le_of_ble_eq_true rfl⟩ dX7_fits_101 (fun r27 hw => ?_)
        refine lv_if_eq (tgt := 124) hx hb dX7_fits_104 (by decide) (fun c28 => ?_) (fun c28 => ?_)
        · have hw := hw.1 c28
          exact kB124 (wpX7_fits_B49 gn gpa gth gpe gpr gw gseru gserl gserr a1 a2 a3 Post f) ih v4 v5 v6 y10 y11 y23 y24 y25 y26 y18 _ _ hP hD hS ls hl hw
        · have hw := hw.2 c28
          refine lv_iload hx hb dX7_fits_107 (lv_at hl 4 rfl) ?_
          refine lv_if_ne (tgt := 117) hx hb dX7_fits_109 (by decide) (fun c30 => ?_) (fun c30 => ?_)
          · have hw := hw.1 c30
            refine lv_iload hx hb dX7_fits_117 (lv_at hl 5 rfl) ?_
            exact kB119 (wpX7_fits_B49 gn gpa gth gpe gpr gw gseru gserl gserr a1 a2 a3 Post f) ih v4 v6 v5 y10 y11 y23 y24 y25 y26 y18 _ _ hP hD hS ls (lv_sub hl [0, 1, 2, 3, 4, 6] rfl) hw
          · have hw := hw.2 c30
            refine lv_iload hx hb dX7_fits_112 (lv_at hl 6 rfl) ?_
            refine lv_goto (tgt := 119) hx hb dX7_fits_114 (by decide) ?_
            exact kB119 (wpX7_fits_B49 gn gpa gth gpe gpr gw gseru gserl gserr a1 a2 a3 Post f) ih v4 v6 v6 y10 y11 y23 y24 y25 y26 y18 _ _ hP hD hS ls (lv_sub hl [0, 1, 2, 3, 4, 6] rfl) hw
  unfold wpX7_fits at hw
  refine lv_aload_n hx hb dX7_fits_0 rfl (lv_at hl 0 rfl) ?_
  refine va_get (D := (dC, dI)) (ci := 7) (v := .ref (ad 1)) (C := RX7) (T := TX7) (N := 8) hx hb hts (fun w h => List.mem_cons_of_mem _ (List.mem_append_left _ (List.mem_append_left _ (List.mem_append_left _ (List.mem_append_right _ h))))) hown hK hP 0 rfl rfl 0 (by decide) (hts (.fieldLink RX7 12 "BidMarket" "held" "LBidMarket$Holdings;") (List.mem_of_getElem? (i := 1) rfl)) (fun _ h9 => h9) rfl dX7_fits_1 ?_
  refine va_get (D := (dC, dI)) (ci := 1) (v := .ref (ad 2)) (C := RX1) (T := TX1) (N := 4) hx hb hts (fun w h => List.mem_cons_of_mem _ (List.mem_append_left _ (List.mem_append_left _ (List.mem_append_right _ h)))) hown hK hP 1 rfl rfl 0 (by decide) (hts (.fieldLink RX7 60 "BidMarket$Holdings" "market" "LBidMarket$Market;") (List.mem_of_getElem? (i := 2) rfl)) (fun _ h9 => h9) rfl dX7_fits_4 ?_
  refine lv_iload_n hx hb dX7_fits_7 rfl (lv_at hl 1 rfl) ?_
  refine bw_pvi (wc := (wdX2_has cI cJ cT cII cJJ (fun k => ad (k + 2)) gn gpa gbr)) (As := [.int a1]) (rest := []) ⟨hx, hb, hml, hown, hts⟩ (mX2_has l dC dI cI cJ cT cII cJJ (fun k => ad (k + 2)) gn gpa gbr a1 _ hw) (cwV 1 hts gX7_fits_X2_has rfl rfl rfl hdX2_has ⟨Nat.le_of_ble_eq_true rfl, Nat.le_of_ble_eq_true rfl⟩) hK hP [2] rfl rfl rfl rfl rfl hl.1 rfl (Nat.le_of_ble_eq_true rfl) ⟨Nat.le_of_ble_eq_true rfl, Nat.le_of_ble_eq_true rfl⟩ dX7_fits_8 (fun r1 hw => ?_)
  refine lv_if_eq (tgt := 37) hx hb dX7_fits_11 (by decide) (fun c2 => ?_) (fun c2 => ?_)
  · have hw := hw.1 c2
    refine lv_iconst (v := (-1)) hx hb dX7_fits_37 (by decide) ?_
    exact W.iret (v := (-1)) hx hb hr (fun t ht hW => ⟨⟨(-1), (xn, xpa, xbr, xth, xpe, xpr, xw), rfl, hw, by show va_P _ _ _ t.heap; rw [ht]; exact hP⟩, hS.F ht⟩) hS.2.2 dX7_fits_38
  · have hw := hw.2 c2
    refine lv_aload_n hx hb dX7_fits_14 rfl (lv_at hl 0 rfl) ?_
    refine va_get (D := (dC, dI)) (ci := 7) (v := .ref (ad 1)) (C := RX7) (T := TX7) (N := 8) hx hb hts (fun w h => List.mem_cons_of_mem _ (List.mem_append_left _ (List.mem_append_left _ (List.mem_append_left _ (List.mem_append_right _ h))))) hown hK hP 0 rfl rfl 0 (by decide) (hts (.fieldLink RX7 12 "BidMarket" "held" "LBidMarket$Holdings;") (List.mem_of_getElem? (i := 1) rfl)) (fun _ h9 => h9) rfl dX7_fits_15 ?_
    refine va_get (D := (dC, dI)) (ci := 1) (v := .ref (ad 2)) (C := RX1) (T := TX1) (N := 4) hx hb hts (fun w h => List.mem_cons_of_mem _ (List.mem_append_left _ (List.mem_append_left _ (List.mem_append_right _ h)))) hown hK hP 1 rfl rfl 0 (by decide) (hts (.fieldLink RX7 60 "BidMarket$Holdings" "market" "LBidMarket$Market;") (List.mem_of_getElem? (i := 2) rfl)) (fun _ h9 => h9) rfl dX7_fits_18 ?_
    refine lv_iload_n hx hb dX7_fits_21 rfl (lv_at hl 2 rfl) ?_
    refine bw_pvi (wc := (wdX2_has cI cJ cT cII cJJ (fun k => ad (k + 2)) gn gpa gbr)) (As := [.int a2]) (rest := []) ⟨hx, hb, hml, hown, hts⟩ (mX2_has l dC dI cI cJ cT cII cJJ (fun k => ad (k + 2)) gn gpa gbr a2 _ hw) (cwV 1 hts gX7_fits_X2_has rfl rfl rfl hdX2_has ⟨Nat.le_of_ble_eq_true rfl, Nat.le_of_ble_eq_true rfl⟩) hK hP [2] rfl rfl rfl rfl rfl hl.1 rfl (Nat.le_of_ble_eq_true rfl) ⟨Nat.le_of_ble_eq_true rfl, Nat.le_of_ble_eq_true rfl⟩ dX7_fits_22 (fun r3 hw => ?_)
    refine lv_if_eq (tgt := 37) hx hb dX7_fits_25 (by decide) (fun c4 => ?_) (fun c4 => ?_)
    · have hw := hw.1 c4
      refine lv_iconst (v := (-1)) hx hb dX7_fits_37 (by decide) ?_
      exact W.iret (v := (-1)) hx hb hr (fun t ht hW => ⟨⟨(-1), (xn, xpa, xbr, xth, xpe, xpr, xw), rfl, hw, by show va_P _ _ _ t.heap; rw [ht]; exact hP⟩, hS.F ht⟩) hS.2.2 dX7_fits_38
    · have hw := hw.2 c4
      refine lv_iload_n hx hb dX7_fits_28 rfl (lv_at hl 3 rfl) ?_
      refine lv_if_lt (tgt := 37) hx hb dX7_fits_29 (by decide) (fun c5 => ?_) (fun c5 => ?_)
      · have hw := hw.1 c5
        refine lv_iconst (v := (-1)) hx hb dX7_fits_37 (by decide) ?_
        exact W.iret (v := (-1)) hx hb hr (fun t ht hW => ⟨⟨(-1), (xn, xpa, xbr, xth, xpe, xpr, xw), rfl, hw, by show va_P _ _ _ t.heap; rw [ht]; exact hP⟩, hS.F ht⟩) hS.2.2 dX7_fits_38
      · have hw := hw.2 c5
        refine lv_iload_n hx hb dX7_fits_32 rfl (lv_at hl 3 rfl) ?_
        refine lv_iconst (v := 1) hx hb dX7_fits_33 (by decide) ?_
        refine lv_icmp_le (tgt := 39) hx hb dX7_fits_34 (by decide) (fun c6 => ?_) (fun c6 => ?_)
        · have hw := hw.1 c6
          refine lv_iconst (v := 0) hx hb dX7_fits_39 (by decide) ?_
          refine lv_istore (lv' := [(4, .int 0), (0, .ref (ad 0)), (1, .int a1), (2, .int a2), (3, .int a3)]) hx hb dX7_fits_40 hl (by decide) rfl (fun ls hl => ?_)
          refine lv_bipush (v := (-5)) hx hb dX7_fits_42 (by decide) ?_
          refine lv_topi (fun x7 ex7 => ?_)
          have hw := hw x7 ex7
          refine lv_istore (lv' := [(5, .int x7), (4, .int 0), (0, .ref (ad 0)), (1, .int a1), (2, .int a2), (3, .int a3)]) hx hb dX7_fits_44 hl (by decide) rfl (fun ls hl => ?_)
          refine lv_iconst (v := 0) hx hb dX7_fits_46 (by decide) ?_
          refine lv_istore (lv' := [(6, .int 0), (5, .int x7), (4, .int 0), (0, .ref (ad 0)), (1, .int a1), (2, .int a2), (3, .int a3)]) hx hb dX7_fits_47 hl (by decide) rfl (fun ls hl => ?_)
          obtain ⟨f1, hw⟩ := hw
          exact kB49 f1 0 x7 0 xn xpa xbr xth xpe xpr xw _ _ hP hD hS ls (lv_sub hl [3, 4, 5, 6, 2, 1, 0] rfl) hw
        · have hw := hw.2 c6
          refine lv_iconst (v := (-1)) hx hb dX7_fits_37 (by decide) ?_
          exact W.iret (v := (-1)) hx hb hr (fun t ht hW => ⟨⟨(-1), (xn, xpa, xbr, xth, xpe, xpr, xw), rfl, hw, by show va_P _ _ _ t.heap; rw [ht]; exact hP⟩, hS.F ht⟩) hS.2.2 dX7_fits_38
set_option maxHeartbeats 4000000 in
set_option maxRecDepth 100000 in
theorem mX7_lowestTerms (l : Launch) (dC : Nat → ClassId) (dI : Nat → Nat → Nat) (cI cJ cT cII cJJ : ClassId) (a0 : Int32) (a1 : Int32) (a2 : Int32) (Post : Int64 → Prop) (hw : wpX7_lowestTerms a0 a1 a2 Post) : Met l yX7_lowestTerms wsX7_lowestTerms ({ frames := 0, cells := 0, slots := 0, locals := 0 } : Room) (va_Pc [.int a0, .int a1, .int a2] (fun U => va_P (dC, dI) vwCl [] U.heap ∧ va_K (dC, dI) vwCl (bw_tys cI cJ cT cII cJJ) U)) (vp_Sl Post) 0 0 (fun _ => False) := by
  refine Met.ofW (cc := cX7_lowestTerms) (maxL := 5) (ret := (some .long)) (by decide) rfl ?_
  intro p e s m args below meth c s₁ B hml hv
  obtain ⟨rfl, hP, hK⟩ := hv
  have hx := B.exec
  have hb := B.bytes
  have hr := B.returns
  have hts := atoms_spec (ws := wsX7_lowestTerms) B.pre
  have hown : s.vm.findClass RX7 = some m.cls := findClass_of_methodNamed B.named
  have hlocks := B.notSynchronized
  have hl := lv_entry ([.int a0, .int a1, .int a2]) (n := 5) (Nat.le_of_ble_eq_true rfl)
  rw [lg_entry_eq]
  generalize (lg_sl ([.int a0, .int a1, .int a2]) ++ List.replicate (5 - (lg_sl ([.int a0, .int a1, .int a2])).length) Slot.unset).toArray = ls at hl ⊢
  have hl : lv_has ls 5 [(0, .int a0), (1, .int a1), (2, .int a2)] := hl
  have kB41 : ∀ (K18 : Int32 → Int32 → Prop), (∀ (v3 : Int32) (v4 : Int32), ∀ ls : Array Slot, lv_has ls 5 [(0, .int a0), (1, .int a1), (2, .int a2), (3, .int v3), (4, .int v4)] → K18 v3 v4 → W p l e (headSpec wsX7_lowestTerms ({ frames := 0, cells := 0, slots := 0, locals := 0 } : Room)).room s m ([.int a0, .int a1, .int a2] : List Value).toArray below meth c s.heap [] 0 0 (MQ below (vp_Sl Post) ([.int a0, .int a1, .int a2] : List Value).toArray s 0 0 (fun _ => False)) (F0 m 18 ls [])) → ∀ (v3 : Int32) (v4 : Int32), ∀ ls : Array Slot, lv_has ls 5 [(0, .int a0), (1, .int a1), (2, .int a2), (3, .int v3), (4, .int v4)] → wpX7_lowestTerms_B41 a0 a1 a2 K18 Post v3 v4 → W p l e (headSpec wsX7_lowestTerms ({ frames := 0, cells := 0, slots := 0, locals := 0 } : Room)).room s m ([.int a0, .int a1, .int a2] : List Value).toArray below meth c s.heap [] 0 0 (MQ below (vp_Sl Post) ([.int a0, .int a1, .int a2] : List Value).toArray s 0 0 (fun _ => False)) (F0 m 41 ls []) := by
    intro K18 hK18 v3 v4 ls hl hw
    unfold wpX7_lowestTerms_B41 at hw
    obtain ⟨x8, ex8⟩ : ∃ y : Int32, y = v4 + 1 := ⟨_, rfl⟩
    have hw := hw x8 ex8
    refine lv_iinc (v := x8) (lv' := [(4, .int x8), (0, .int a0), (1, .int a1), (2, .int a2), (3, .int v3)]) hx hb dX7_lowestTerms_41 hl (k := 4) rfl (by rw [ex8]; rfl) (by decide) rfl (fun ls hl => ?_)
    refine lv_goto (tgt := 18) hx hb dX7_lowestTerms_44 (by decide) ?_
    exact hK18 v3 x8 ls (lv_sub hl [1, 2, 3, 4, 0] rfl) hw
  have kB18 : ∀ f : Nat, ∀ (v3 : Int32) (v4 : Int32), ∀ ls : Array Slot, lv_has ls 5 [(0, .int a0), (1, .int a1), (2, .int a2), (3, .int v3), (4, .int v4)] → wpX7_lowestTerms_B18 a0 a1 a2 Post f v3 v4 → W p l e (headSpec wsX7_lowestTerms ({ frames := 0, cells := 0, slots := 0, locals := 0 } : Room)).room s m ([.int a0, .int a1, .int a2] : List Value).toArray below meth c s.heap [] 0 0 (MQ below (vp_Sl Post) ([.int a0, .int a1, .int a2] : List Value).toArray s 0 0 (fun _ => False)) (F0 m 18 ls []) := by
    intro  f
    induction f with
    | zero => intro v3 v4 ls hl hw; exact (show False from hw).elim
    | succ f ih =>
      intro v3 v4 ls hl hw
      rw [wpX7_lowestTerms_B18] at hw
      refine lv_iload hx hb dX7_lowestTerms_18 (lv_at hl 4 rfl) ?_
      refine lv_iload_n hx hb dX7_lowestTerms_20 rfl (lv_at hl 1 rfl) ?_
      refine lv_icmp_gt (tgt := 47) hx hb dX7_lowestTerms_21 (by decide) (fun c2 => ?_) (fun c2 => ?_)
      · have hw := hw.1 c2
        refine lv_iload_n hx hb dX7_lowestTerms_47 rfl (lv_at hl 2 rfl) ?_
        refine lv_if_ne (tgt := 58) hx hb dX7_lowestTerms_48 (by decide) (fun c3 => ?_) (fun c3 => ?_)
        · have hw := hw.1 c3
          refine lv_iload_n hx hb dX7_lowestTerms_58 rfl (lv_at hl 1 rfl) ?_
          refine lv_iload_n hx hb dX7_lowestTerms_59 rfl (lv_at hl 3 rfl) ?_
          have h4 := hw.1
          have hw := hw.2
          refine lv_idiv hx hb dX7_lowestTerms_60 h4 ?_
          refine lv_i2l hx hb dX7_lowestTerms_61 rfl ?_
          exact W.lret (v := (a1 / v3).toInt64) hx hb hr (fun t ht hW => ⟨(a1 / v3).toInt64, rfl, hw, ht⟩) (fun _ h => by cases h) dX7_lowestTerms_62
        · have hw := hw.2 c3
          refine lv_iload_n hx hb dX7_lowestTerms_51 rfl (lv_at hl 0 rfl) ?_
          refine lv_iload_n hx hb dX7_lowestTerms_52 rfl (lv_at hl 3 rfl) ?_
          have h5 := hw.1
          have hw := hw.2
          refine lv_idiv hx hb dX7_lowestTerms_53 h5 ?_
          refine lv_i2l hx hb dX7_lowestTerms_54 rfl ?_
          refine lv_goto (tgt := 62) hx hb dX7_lowestTerms_55 (by decide) ?_
          exact W.lret (v := (a0 / v3).toInt64) hx hb hr (fun t ht hW => ⟨(a0 / v3).toInt64, rfl, hw, ht⟩) (fun _ h => by cases h) dX7_lowestTerms_62
      · have hw := hw.2 c2
        refine lv_iload_n hx hb dX7_lowestTerms_24 rfl (lv_at hl 0 rfl) ?_
        refine lv_iload hx hb dX7_lowestTerms_25 (lv_at hl 4 rfl) ?_
        have h6 := hw.1
        have hw := hw.2
        refine lv_irem hx hb dX7_lowestTerms_27 h6 ?_
        refine lv_if_ne (tgt := 41) hx hb dX7_lowestTerms_28 (by decide) (fun c7 => ?_) (fun c7 => ?_)
        · have hw := hw.1 c7
          exact kB41 (wpX7_lowestTerms_B18 a0 a1 a2 Post f) ih v3 v4 ls hl hw
        · have hw := hw.2 c7
          refine lv_iload_n hx hb dX7_lowestTerms_31 rfl (lv_at hl 1 rfl) ?_
          refine lv_iload hx hb dX7_lowestTerms_32 (lv_at hl 4 rfl) ?_
          have h9 := hw.1
          have hw := hw.2
          refine lv_irem hx hb dX7_lowestTerms_34 h9 ?_
          refine lv_if_ne (tgt := 41) hx hb dX7_lowestTerms_35 (by decide) (fun c10 => ?_) (fun c10 => ?_)
          · have hw := hw.1 c10
            exact kB41 (wpX7_lowestTerms_B18 a0 a1 a2 Post f) ih v3 v4 ls hl hw
          · have hw := hw.2 c10
            refine lv_iload hx hb dX7_lowestTerms_38 (lv_at hl 4 rfl) ?_
            refine lv_istore_n (lv' := [(3, .int v4), (0, .int a0), (1, .int a1), (2, .int a2), (4, .int v4)]) hx hb dX7_lowestTerms_40 rfl hl (by decide) rfl (fun ls hl => ?_)
            exact kB41 (wpX7_lowestTerms_B18 a0 a1 a2 Post f) ih v4 v4 ls (lv_sub hl [1, 2, 3, 0, 4] rfl) hw
  have kB13 : ∀ ls : Array Slot, lv_has ls 5 [(0, .int a0), (1, .int a1), (2, .int a2)] → wpX7_lowestTerms_B13 a0 a1 a2 Post → W p l e (headSpec wsX7_lowestTerms ({ frames := 0, cells := 0, slots := 0, locals := 0 } : Room)).room s m ([.int a0, .int a1, .int a2] : List Value).toArray below meth c s.heap [] 0 0 (MQ below (vp_Sl Post) ([.int a0, .int a1, .int a2] : List Value).toArray s 0 0 (fun _ => False)) (F0 m 13 ls []) := by
    intro ls hl hw
    unfold wpX7_lowestTerms_B13 at hw
    refine lv_iconst (v := 1) hx hb dX7_lowestTerms_13 (by decide) ?_
    refine lv_istore_n (lv' := [(3, .int 1), (0, .int a0), (1, .int a1), (2, .int a2)]) hx hb dX7_lowestTerms_14 rfl hl (by decide) rfl (fun ls hl => ?_)
    refine lv_iconst (v := 2) hx hb dX7_lowestTerms_15 (by decide) ?_
    refine lv_istore (lv' := [(4, .int 2), (3, .int 1), (0, .int a0), (1, .int a1), (2, .int a2)]) hx hb dX7_lowestTerms_16 hl (by decide) rfl (fun ls hl => ?_)
    obtain ⟨f1, hw⟩ := hw
    exact kB18 f1 1 2 ls (lv_sub hl [2, 3, 4, 1, 0] rfl) hw
  unfold wpX7_lowestTerms at hw
  refine lv_iload_n hx hb dX7_lowestTerms_0 rfl (lv_at hl 2 rfl) ?_
  refine lv_if_eq (tgt := 13) hx hb dX7_lowestTerms_1 (by decide) (fun c1 => ?_) (fun c1 => ?_)
  · have hw := hw.1 c1
    exact kB13 ls hl hw
  · have hw := hw.2 c1
    refine lv_iload_n hx hb dX7_lowestTerms_4 rfl (lv_at hl 2 rfl) ?_
    refine lv_iconst (v := 1) hx hb dX7_lowestTerms_5 (by decide) ?_
    refine lv_icmp_eq (tgt := 13) hx hb dX7_lowestTerms_6 (by decide) (fun c11 => ?_) (fun c11 => ?_)
    · have hw := hw.1 c11
      exact kB13 ls hl hw
    · have hw := hw.2 c11
      refine lv_ldc2 hx hb hown (hts (.constantLong RX7 136 (-9223372036854775808)) (List.mem_of_getElem? (i := 1) rfl)) dX7_lowestTerms_9 ?_
      exact W.lret (v := (-9223372036854775808)) hx hb hr (fun t ht hW => ⟨(-9223372036854775808), rfl, hw, ht⟩) (fun _ h => by cases h) dX7_lowestTerms_12
set_option maxHeartbeats 4000000 in
set_option maxRecDepth 100000 in
theorem mX7_odds (l : Launch) (dC : Nat → ClassId) (dI : Nat → Nat → Nat) (cI cJ cT cII cJJ : ClassId) (ad : Nat → Nat) (sz : Nat) (im : Int32) (gn : Int32) (gpa : Int32) (gbr : Int32) (gth : Nat → Int32) (gpe : Nat → Int32) (gpr : Nat → Int32) (gw : Nat → Nat → Int32) (xn : Int32) (xpa : Int32) (xbr : Int32) (xth : Nat → Int32) (xpe : Nat → Int32) (xpr : Nat → Int32) (xw : Nat → Nat → Int32) (a1 : Int32) (a2 : Int32) (Post : Int64 → Int32 → Int32 → Int32 → (Nat → Int32) → (Nat → Int32) → (Nat → Int32) → (Nat → Nat → Int32) → Prop) (hw : wpX7_odds gn gpa gth gpe gpr gw xn xpa xbr xth xpe xpr xw a1 a2 Post) : Met l yX7_odds wsX7_odds ({ frames := 5, cells := 0, slots := 0, locals := 117 } : Room) (va_Pc [.ref (ad 0), .int a1, .int a2] (fun U => U.heap.size = sz ∧ va_P (dC, dI) vwCl (wdX7_odds cI cJ cT cII cJJ ad im gn gpa gbr gth gpe gpr gw xn xpa xbr xth xpe xpr xw) U.heap ∧ va_K (dC, dI) vwCl (bw_tys cI cJ cT cII cJJ) U ∧ va_D (fun _ => True) (wdX7_odds cI cJ cT cII cJJ ad im gn gpa gbr gth gpe gpr gw xn xpa xbr xth xpe xpr xw))) (va_Ql (fun (r : Int64) (u : Int32 × Int32 × Int32 × (Nat → Int32) × (Nat → Int32) × (Nat → Int32) × (Nat → Nat → Int32)) => Post r u.1 u.2.1 u.2.2.1 u.2.2.2.1 u.2.2.2.2.1 u.2.2.2.2.2.1 u.2.2.2.2.2.2) (fun (u : Int32 × Int32 × Int32 × (Nat → Int32) × (Nat → Int32) × (Nat → Int32) × (Nat → Nat → Int32)) t => va_P (dC, dI) vwCl (wdX7_odds cI cJ cT cII cJJ ad im gn gpa gbr gth gpe gpr gw u.1 u.2.1 u.2.2.1 u.2.2.2.1 u.2.2.2.2.1 u.2.2.2.2.2.1 u.2.2.2.2.2.2) t.heap) (va_A (wdX7_odds cI cJ cT cII cJJ ad im gn gpa gbr gth gpe gpr gw xn xpa xbr xth xpe xpr xw) sz)) 0 0 (va_A (wdX7_odds cI cJ cT cII cJJ ad im gn gpa gbr gth gpe gpr gw xn xpa xbr xth xpe xpr xw) sz) := by
  refine Met.ofW (cc := cX7_odds) (maxL := 6) (ret := (some .long)) (by decide) rfl ?_
  intro p e s m args below meth c s₁ B hml hv
  obtain ⟨rfl, hsz, hP, hK, hD0⟩ := hv
  have hx := B.exec
  have hb := B.bytes
  have hr := B.returns
  have hts := atoms_spec (ws := wsX7_odds) B.pre
  have hown : s.vm.findClass RX7 = some m.cls := findClass_of_methodNamed B.named
  have hlocks := B.notSynchronized
  subst hsz
  have hD := hD0.self (sz := s.heap.size)
  generalize hAe : va_A (wdX7_odds cI cJ cT cII cJJ ad im gn gpa gbr gth gpe gpr gw xn xpa xbr xth xpe xpr xw) s.heap.size = A at hD ⊢
  have hA : ∀ q : Nat, s.heap.size ≤ q → A q := fun q h => by rw [← hAe]; exact Or.inr h
  have hS : va_S A s.heap s.heap [] := va_S.rf
  have hl := lv_entry ([.ref (ad 0), .int a1, .int a2]) (n := 6) (Nat.le_of_ble_eq_true rfl)
  rw [lg_entry_eq]
  generalize (lg_sl ([.ref (ad 0), .int a1, .int a2]) ++ List.replicate (6 - (lg_sl ([.ref (ad 0), .int a1, .int a2])).length) Slot.unset).toArray = ls at hl ⊢
  have hl : lv_has ls 6 [(0, .ref (ad 0)), (1, .int a1), (2, .int a2)] := hl
  have kB101 : ∀ (K26 : Int32 → Int32 → Int32 → Int32 → Int32 → Int32 → (Nat → Int32) → (Nat → Int32) → (Nat → Int32) → (Nat → Nat → Int32) → Prop), (∀ (v3 : Int32) (v4 : Int32) (v5 : Int32) (xn : Int32) (xpa : Int32) (xbr : Int32) (xth : Nat → Int32) (xpe : Nat → Int32) (xpr : Nat → Int32) (xw : Nat → Nat → Int32), ∀ (H : Heap) (locs : List Loc), va_P (dC, dI) vwCl (wdX7_odds cI cJ cT cII cJJ ad im gn gpa gbr gth gpe gpr gw xn xpa xbr xth xpe xpr xw) H → va_D A (wdX7_odds cI cJ cT cII cJJ ad im gn gpa gbr gth gpe gpr gw xn xpa xbr xth xpe xpr xw) → va_S A s.heap H locs → ∀ ls : Array Slot, lv_has ls 6 [(0, .ref (ad 0)), (1, .int a1), (2, .int a2), (3, .int v3), (4, .int v4), (5, .int v5)] → K26 v3 v4 v5 xn xpa xbr xth xpe xpr xw → W p l e (headSpec wsX7_odds ({ frames := 5, cells := 0, slots := 0, locals := 117 } : Room)).room s m ([.ref (ad 0), .int a1, .int a2] : List Value).toArray below meth c H locs 0 0 (MQ below (va_Ql (fun (r : Int64) (u : Int32 × Int32 × Int32 × (Nat → Int32) × (Nat → Int32) × (Nat → Int32) × (Nat → Nat → Int32)) => Post r u.1 u.2.1 u.2.2.1 u.2.2.2.1 u.2.2.2.2.1 u.2.2.2.2.2.1 u.2.2.2.2.2.2) (fun (u : Int32 × Int32 × Int32 × (Nat → Int32) × (Nat → Int32) × (Nat → Int32) × (Nat → Nat → Int32)) t => va_P (dC, dI) vwCl (wdX7_odds cI cJ cT cII cJJ ad im gn gpa gbr gth gpe gpr gw u.1 u.2.1 u.2.2.1 u.2.2.2.1 u.2.2.2.2.1 u.2.2.2.2.2.1 u.2.2.2.2.2.2) t.heap) A) ([.ref (ad 0), .int a1, .int a2] : List Value).toArray s 0 0 A) (F0 m 26 ls [])) → ∀ (v3 : Int32) (v4 : Int32) (v5 : Int32) (xn : Int32) (xpa : Int32) (xbr : Int32) (xth : Nat → Int32) (xpe : Nat → Int32) (xpr : Nat → Int32) (xw : Nat → Nat → Int32), ∀ (H : Heap) (locs : List Loc), va_P (dC, dI) vwCl (wdX7_odds cI cJ cT cII cJJ ad im gn gpa gbr gth gpe gpr gw xn xpa xbr xth xpe xpr xw) H → va_D A (wdX7_odds cI cJ cT cII cJJ ad im gn gpa gbr gth gpe gpr gw xn xpa xbr xth xpe xpr xw) → va_S A s.heap H locs → ∀ ls : Array Slot, lv_has ls 6 [(0, .ref (ad 0)), (1, .int a1), (2, .int a2), (3, .int v3), (4, .int v4), (5, .int v5)] → wpX7_odds_B101 gn gpa gth gpe gpr gw a1 a2 K26 Post v3 v4 v5 xn xpa xbr xth xpe xpr xw → W p l e (headSpec wsX7_odds ({ frames := 5, cells := 0, slots := 0, locals := 117 } : Room)).room s m ([.ref (ad 0), .int a1, .int a2] : List Value).toArray below meth c H locs 0 0 (MQ below (va_Ql (fun (r : Int64) (u : Int32 × Int32 × Int32 × (Nat → Int32) × (Nat → Int32) × (Nat → Int32) × (Nat → Nat → Int32)) => Post r u.1 u.2.1 u.2.2.1 u.2.2.2.1 u.2.2.2.2.1 u.2.2.2.2.2.1 u.2.2.2.2.2.2) (fun (u : Int32 × Int32 × Int32 × (Nat → Int32) × (Nat → Int32) × (Nat → Int32) × (Nat → Nat → Int32)) t => va_P (dC, dI) vwCl (wdX7_odds cI cJ cT cII cJJ ad im gn gpa gbr gth gpe gpr gw u.1 u.2.1 u.2.2.1 u.2.2.2.1 u.2.2.2.2.1 u.2.2.2.2.2.1 u.2.2.2.2.2.2) t.heap) A) ([.ref (ad 0), .int a1, .int a2] : List Value).toArray s 0 0 A) (F0 m 101 ls []) := by
    intro K26 hK26 v3 v4 v5 xn xpa xbr xth xpe xpr xw H locs hP hD hS ls hl hw
    unfold wpX7_odds_B101 at hw
    obtain ⟨x23, ex23⟩ : ∃ y : Int32, y = v5 + 5 := ⟨_, rfl⟩
    have hw := hw x23 ex23
    refine lv_iinc (v := x23) (lv' := [(5, .int x23), (0, .ref (ad 0)), (1, .int a1), (2, .int a2), (3, .int v3), (4, .int v4)]) hx hb dX7_odds_101 hl (k := 5) rfl (by rw [ex23]; rfl) (by decide) rfl (fun ls hl => ?_)
    refine lv_goto (tgt := 26) hx hb dX7_odds_104 (by decide) ?_
    exact hK26 v3 v4 x23 xn xpa xbr xth xpe xpr xw _ _ hP hD hS ls (lv_sub hl [1, 2, 3, 4, 5, 0] rfl) hw
  have kB26 : ∀ f : Nat, ∀ (v3 : Int32) (v4 : Int32) (v5 : Int32) (xn : Int32) (xpa : Int32) (xbr : Int32) (xth : Nat → Int32) (xpe : Nat → Int32) (xpr : Nat → Int32) (xw : Nat → Nat → Int32), ∀ (H : Heap) (locs : List Loc), va_P (dC, dI) vwCl (wdX7_odds cI cJ cT cII cJJ ad im gn gpa gbr gth gpe gpr gw xn xpa xbr xth xpe xpr xw) H → va_D A (wdX7_odds cI cJ cT cII cJJ ad im gn gpa gbr gth gpe gpr gw xn xpa xbr xth xpe xpr xw) → va_S A s.heap H locs → ∀ ls : Array Slot, lv_has ls 6 [(0, .ref (ad 0)), (1, .int a1), (2, .int a2), (3, .int v3), (4, .int v4), (5, .int v5)] → wpX7_odds_B26 gn gpa gth gpe gpr gw a1 a2 Post f v3 v4 v5 xn xpa xbr xth xpe xpr xw → W p l e (headSpec wsX7_odds ({ frames := 5, cells := 0, slots := 0, locals := 117 } : Room)).room s m ([.ref (ad 0), .int a1, .int a2] : List Value).toArray below meth c H locs 0 0 (MQ below (va_Ql (fun (r : Int64) (u : Int32 × Int32 × Int32 × (Nat → Int32) × (Nat → Int32) × (Nat → Int32) × (Nat → Nat → Int32)) => Post r u.1 u.2.1 u.2.2.1 u.2.2.2.1 u.2.2.2.2.1 u.2.2.2.2.2.1 u.2.2.2.2.2.2) (fun (u : Int32 × Int32 × Int32 × (Nat → Int32) × (Nat → Int32) × (Nat → Int32) × (Nat → Nat → Int32)) t => va_P (dC, dI) vwCl (wdX7_odds cI cJ cT cII cJJ ad im gn gpa gbr gth gpe gpr gw u.1 u.2.1 u.2.2.1 u.2.2.2.1 u.2.2.2.2.1 u.2.2.2.2.2.1 u.2.2.2.2.2.2) t.heap) A) ([.ref (ad 0), .int a1, .int a2] : List Value).toArray s 0 0 A) (F0 m 26 ls []) := by
    intro  f
    induction f with
    | zero => intro v3 v4 v5 xn xpa xbr xth xpe xpr xw H locs hP hD hS ls hl hw; exact (show False from hw).elim
    | succ f ih =>
      intro v3 v4 v5 xn xpa xbr xth xpe xpr xw H locs hP hD hS ls hl hw
      rw [wpX7_odds_B26] at hw
      refine lv_iload hx hb dX7_odds_26 (lv_at hl 5 rfl) ?_
      refine lv_bipush (v := 46) hx hb dX7_odds_28 (by decide) ?_
      refine lv_icmp_gt (tgt := 107) hx hb dX7_odds_30 (by decide) (fun c3 => ?_) (fun c3 => ?_)
      · have hw := hw.1 c3
        refine lv_iload_n hx hb dX7_odds_107 rfl (lv_at hl 3 rfl) ?_
        refine lv_iload hx hb dX7_odds_108 (lv_at hl 4 rfl) ?_
        refine lv_iload_n hx hb dX7_odds_110 rfl (lv_at hl 2 rfl) ?_
        refine bw_psl (wc := []) (As := [.int v3, .int v4, .int a2]) (rest := []) ⟨hx, hb, hml, hown, hts⟩ (mX7_lowestTerms l dC dI cI cJ cT cII cJJ v3 v4 a2 _ hw) (va_cwS 3 hts gX7_odds_X7_lowestTerms rfl rfl rfl hdX7_lowestTerms ⟨Nat.le_of_ble_eq_true rfl, Nat.le_of_ble_eq_true rfl⟩) hK hP [] rfl rfl hl.1 rfl (Nat.le_of_ble_eq_true rfl) ⟨Nat.le_of_ble_eq_true rfl, Nat.le_of_ble_eq_true rfl⟩ dX7_odds_111 (fun r4 hw => ?_)
        exact W.lret (v := r4) hx hb hr (fun t ht hW => ⟨⟨r4, (xn, xpa, xbr, xth, xpe, xpr, xw), rfl, hw, by show va_P _ _ _ t.heap; rw [ht]; exact hP⟩, hS.F ht⟩) hS.2.2 dX7_odds_114
      · have hw := hw.2 c3
        refine lv_aload_n hx hb dX7_odds_33 rfl (lv_at hl 0 rfl) ?_
        refine va_get (D := (dC, dI)) (ci := 7) (v := .ref (ad 47)) (C := RX7) (T := TX7) (N := 8) hx hb hts (fun w h => List.mem_cons_of_mem _ (List.mem_append_left _ (List.mem_append_left _ (List.mem_append_right _ h)))) hown hK hP 0 rfl rfl 2 (by decide) (hts (.fieldLink RX7 24 "BidMarket" "trial" "LBidMarket$Market;") (List.mem_of_getElem? (i := 4) rfl)) (fun _ h9 => h9) rfl dX7_odds_34 ?_
        refine lv_aload_n hx hb dX7_odds_37 rfl (lv_at hl 0 rfl) ?_
        refine va_get (D := (dC, dI)) (ci := 7) (v := .ref (ad 1)) (C := RX7) (T := TX7) (N := 8) hx hb hts (fun w h => List.mem_cons_of_mem _ (List.mem_append_left _ (List.mem_append_left _ (List.mem_append_right _ h)))) hown hK hP 0 rfl rfl 0 (by decide) (hts (.fieldLink RX7 12 "BidMarket" "held" "LBidMarket$Holdings;") (List.mem_of_getElem? (i := 1) rfl)) (fun _ h9 => h9) rfl dX7_odds_38 ?_
        refine va_get (D := (dC, dI)) (ci := 1) (v := .ref (ad 2)) (C := RX1) (T := TX1) (N := 4) hx hb hts (fun w h => List.mem_cons_of_mem _ (List.mem_append_left _ (List.mem_append_right _ h))) hown hK hP 1 rfl rfl 0 (by decide) (hts (.fieldLink RX7 60 "BidMarket$Holdings" "market" "LBidMarket$Market;") (List.mem_of_getElem? (i := 2) rfl)) (fun _ h9 => h9) rfl dX7_odds_41 ?_
        refine bw_wvv (wc := (wdX2_become cI cJ cT cII cJJ (fun k => ad (k + 47)) (fun k => ad (k + 2)) xn xpa xbr xth xpe xpr xw gn gpa gbr gth gpe gpr gw)) (w1 := (fun (u : Int32 × Int32 × (Nat → Int32) × (Nat → Int32) × (Nat → Int32) × (Nat → Nat → Int32)) => wdX2_become cI cJ cT cII cJJ (fun k => ad (k + 47)) (fun k => ad (k + 2)) u.1 u.2.1 xbr u.2.2.1 u.2.2.2.1 u.2.2.2.2.1 u.2.2.2.2.2 gn gpa gbr gth gpe gpr gw)) (As := [.ref (ad 2)]) (rest := []) ⟨hx, hb, hml, hown, hts⟩ (mX2_become l dC dI cI cJ cT cII cJJ (fun k => ad (k + 47)) (fun k => ad (k + 2)) _ xn xpa xbr xth xpe xpr xw gn gpa gbr gth gpe gpr gw _ hw) (cwV 1 hts gX7_odds_X2_become rfl rfl rfl hdX2_become ⟨Nat.le_of_ble_eq_true rfl, Nat.le_of_ble_eq_true rfl⟩) hK hP hD hS hA [15, 16, 17, 18, 19, 20, 21, 22, 23, 24, 25, 26, 27, 2, 3, 4, 5, 6, 7, 8, 9, 10, 11, 12, 13, 14] rfl (by decide) (fun _ => rfl) rfl rfl rfl rfl hl.1 rfl (Nat.le_of_ble_eq_true rfl) ⟨Nat.le_of_ble_eq_true rfl, Nat.le_of_ble_eq_true rfl⟩ dX7_odds_44 (fun u H locs hw hP hD hS => ?_)
        obtain ⟨y5, y6, y7, y8, y9, y10⟩ := u
        try dsimp only at hw
        have hP : va_P (dC, dI) vwCl (wdX7_odds cI cJ cT cII cJJ ad im gn gpa gbr gth gpe gpr gw y5 y6 xbr y7 y8 y9 y10) H := hP
        have hD : va_D A (wdX7_odds cI cJ cT cII cJJ ad im gn gpa gbr gth gpe gpr gw y5 y6 xbr y7 y8 y9 y10) := hD
        refine lv_aload_n hx hb dX7_odds_47 rfl (lv_at hl 0 rfl) ?_
        refine va_get (D := (dC, dI)) (ci := 7) (v := .ref (ad 47)) (C := RX7) (T := TX7) (N := 8) hx hb hts (fun w h => List.mem_cons_of_mem _ (List.mem_append_left _ (List.mem_append_left _ (List.mem_append_right _ h)))) hown hK hP 0 rfl rfl 2 (by decide) (hts (.fieldLink RX7 24 "BidMarket" "trial" "LBidMarket$Market;") (List.mem_of_getElem? (i := 4) rfl)) (fun _ h9 => h9) rfl dX7_odds_48 ?_
        refine lv_iload hx hb dX7_odds_51 (lv_at hl 5 rfl) ?_
        refine va_put (D := (dC, dI)) (ci := 2) (v := .int v5) (ty := .int) (C := RX2) (T := TX2) (N := 7) hx hb hts (fun w h => List.mem_cons_of_mem _ (List.mem_append_right _ h)) tyX2 tyX2_ok nmX2 hown hK hP hD hS 15 rfl rfl 5 (by decide) (hts (.fieldLink RX7 102 "BidMarket$Market" "pace" "I") (List.mem_of_getElem? (i := 5) rfl)) (fun _ h9 => h9) rfl (by decide +kernel) rfl rfl (Nat.le_of_ble_eq_true rfl) dX7_odds_53 (fun H locs hP hD hS => ?_)
        have hP : va_P (dC, dI) vwCl (wdX7_odds cI cJ cT cII cJJ ad im gn gpa gbr gth gpe gpr gw y5 v5 xbr y7 y8 y9 y10) H := hP
        have hD : va_D A (wdX7_odds cI cJ cT cII cJJ ad im gn gpa gbr gth gpe gpr gw y5 v5 xbr y7 y8 y9 y10) := hD
        refine lv_aload_n hx hb dX7_odds_56 rfl (lv_at hl 0 rfl) ?_
        refine va_get (D := (dC, dI)) (ci := 7) (v := .ref (ad 47)) (C := RX7) (T := TX7) (N := 8) hx hb hts (fun w h => List.mem_cons_of_mem _ (List.mem_append_left _ (List.mem_append_left _ (List.mem_append_right _ h)))) hown hK hP 0 rfl rfl 2 (by decide) (hts (.fieldLink RX7 24 "BidMarket" "trial" "LBidMarket$Market;") (List.mem_of_getElem? (i := 4) rfl)) (fun _ h9 => h9) rfl dX7_odds_57 ?_
        refine bw_wvv (wc := (wdX2_startAnew cI cJ cT cII cJJ (fun k => ad (k + 47)) y5 v5 xbr y7 y8 y9)) (w1 := (fun (u : (Nat → Int32) × (Nat → Int32) × (Nat → Int32)) => wdX2_startAnew cI cJ cT cII cJJ (fun k => ad (k + 47)) y5 v5 xbr u.1 u.2.1 u.2.2)) (As := []) (rest := []) ⟨hx, hb, hml, hown, hts⟩ (mX2_startAnew l dC dI cI cJ cT cII cJJ (fun k => ad (k + 47)) _ y5 v5 xbr y7 y8 y9 _ hw) (cwV 0 hts gX7_odds_X2_startAnew rfl rfl rfl hdX2_startAnew ⟨Nat.le_of_ble_eq_true rfl, Nat.le_of_ble_eq_true rfl⟩) hK hP hD hS hA [15, 16, 17, 18] rfl (by decide) (fun _ => rfl) rfl rfl rfl rfl hl.1 rfl (Nat.le_of_ble_eq_true rfl) ⟨Nat.le_of_ble_eq_true rfl, Nat.le_of_ble_eq_true rfl⟩ dX7_odds_60 (fun u H locs hw hP hD hS => ?_)
        obtain ⟨y11, y12, y13⟩ := u
        try dsimp only at hw
        have hP : va_P (dC, dI) vwCl (wdX7_odds cI cJ cT cII cJJ ad im gn gpa gbr gth gpe gpr gw y5 v5 xbr y11 y12 y13 y10) H := hP
        have hD : va_D A (wdX7_odds cI cJ cT cII cJJ ad im gn gpa gbr gth gpe gpr gw y5 v5 xbr y11 y12 y13 y10) := hD
        refine lv_aload_n hx hb dX7_odds_63 rfl (lv_at hl 0 rfl) ?_
        refine va_get (D := (dC, dI)) (ci := 7) (v := .ref (ad 47)) (C := RX7) (T := TX7) (N := 8) hx hb hts (fun w h => List.mem_cons_of_mem _ (List.mem_append_left _ (List.mem_append_left _ (List.mem_append_right _ h)))) hown hK hP 0 rfl rfl 2 (by decide) (hts (.fieldLink RX7 24 "BidMarket" "trial" "LBidMarket$Market;") (List.mem_of_getElem? (i := 4) rfl)) (fun _ h9 => h9) rfl dX7_odds_64 ?_
        refine bw_wvi (wc := (wdX2_runAuction cI cJ cT cII cJJ (fun k => ad (k + 47)) y5 v5 xbr y11 y12 y13 y10)) (w1 := (fun (u : Int32 × (Nat → Int32) × (Nat → Int32) × (Nat → Int32)) => wdX2_runAuction cI cJ cT cII cJJ (fun k => ad (k + 47)) y5 v5 u.1 u.2.1 u.2.2.1 u.2.2.2 y10)) (As := []) (rest := []) ⟨hx, hb, hml, hown, hts⟩ (mX2_runAuction l dC dI cI cJ cT cII cJJ (fun k => ad (k + 47)) _ y5 v5 xbr y11 y12 y13 y10 _ hw) (cwV 0 hts gX7_odds_X2_runAuction rfl rfl rfl hdX2_runAuction ⟨Nat.le_of_ble_eq_true rfl, Nat.le_of_ble_eq_true rfl⟩) hK hP hD hS hA [15, 16, 17, 18, 19, 20, 21, 22, 23, 24, 25, 26, 27] rfl (by decide) (fun _ => rfl) rfl rfl rfl rfl hl.1 rfl (Nat.le_of_ble_eq_true rfl) ⟨Nat.le_of_ble_eq_true rfl, Nat.le_of_ble_eq_true rfl⟩ dX7_odds_67 (fun r14 u H locs hw hP hD hS => ?_)
        obtain ⟨y15, y16, y17, y18⟩ := u
        try dsimp only at hw
        have hP : va_P (dC, dI) vwCl (wdX7_odds cI cJ cT cII cJJ ad im gn gpa gbr gth gpe gpr gw y5 v5 y15 y16 y17 y18 y10) H := hP
        have hD : va_D A (wdX7_odds cI cJ cT cII cJJ ad im gn gpa gbr gth gpe gpr gw y5 v5 y15 y16 y17 y18 y10) := hD
        refine lv_pop hx hb dX7_odds_70 rfl ?_
        obtain ⟨x19, ex19⟩ : ∃ y : Int32, y = v4 + 1 := ⟨_, rfl⟩
        have hw := hw x19 ex19
        refine lv_iinc (v := x19) (lv' := [(4, .int x19), (0, .ref (ad 0)), (1, .int a1), (2, .int a2), (3, .int v3), (5, .int v5)]) hx hb dX7_odds_71 hl (k := 4) rfl (by rw [ex19]; rfl) (by decide) rfl (fun ls hl => ?_)
        refine lv_aload_n hx hb dX7_odds_74 rfl (lv_at hl 1 rfl) ?_
        refine va_get (D := (dC, dI)) (ci := 7) (v := .ref (ad 47)) (C := RX7) (T := TX7) (N := 8) hx hb hts (fun w h => List.mem_cons_of_mem _ (List.mem_append_left _ (List.mem_append_left _ (List.mem_append_right _ h)))) hown hK hP 0 rfl rfl 2 (by decide) (hts (.fieldLink RX7 24 "BidMarket" "trial" "LBidMarket$Market;") (List.mem_of_getElem? (i := 4) rfl)) (fun _ h9 => h9) rfl dX7_odds_75 ?_
        refine va_get (D := (dC, dI)) (ci := 2) (v := .ref (ad 48)) (C := RX2) (T := TX2) (N := 7) hx hb hts (fun w h => List.mem_cons_of_mem _ (List.mem_append_right _ h)) hown hK hP 15 rfl rfl 1 (by decide) (hts (.fieldLink RX7 145 "BidMarket$Market" "thingOf" "[I") (List.mem_of_getElem? (i := 6) rfl)) (fun _ h9 => h9) rfl dX7_odds_78 ?_
        refine lv_iload_n hx hb dX7_odds_81 rfl (lv_at hl 2 rfl) ?_
        have h20 := hw.1
        have hw := hw.2
        refine va_iald hx hb hK hP 16 0 rfl rfl h20 dX7_odds_82 ?_
        refine lv_aload_n hx hb dX7_odds_83 rfl (lv_at hl 1 rfl) ?_
        refine va_get (D := (dC, dI)) (ci := 7) (v := .ref (ad 1)) (C := RX7) (T := TX7) (N := 8) hx hb hts (fun w h => List.mem_cons_of_mem _ (List.mem_append_left _ (List.mem_append_left _ (List.mem_append_right _ h)))) hown hK hP 0 rfl rfl 0 (by decide) (hts (.fieldLink RX7 12 "BidMarket" "held" "LBidMarket$Holdings;") (List.mem_of_getElem? (i := 1) rfl)) (fun _ h9 => h9) rfl dX7_odds_84 ?_
        refine va_get (D := (dC, dI)) (ci := 1) (v := .ref (ad 2)) (C := RX1) (T := TX1) (N := 4) hx hb hts (fun w h => List.mem_cons_of_mem _ (List.mem_append_left _ (List.mem_append_right _ h))) hown hK hP 1 rfl rfl 0 (by decide) (hts (.fieldLink RX7 60 "BidMarket$Holdings" "market" "LBidMarket$Market;") (List.mem_of_getElem? (i := 2) rfl)) (fun _ h9 => h9) rfl dX7_odds_87 ?_
        refine va_get (D := (dC, dI)) (ci := 2) (v := .ref (ad 3)) (C := RX2) (T := TX2) (N := 7) hx hb hts (fun w h => List.mem_cons_of_mem _ (List.mem_append_right _ h)) hown hK hP 2 rfl rfl 1 (by decide) (hts (.fieldLink RX7 145 "BidMarket$Market" "thingOf" "[I") (List.mem_of_getElem? (i := 6) rfl)) (fun _ h9 => h9) rfl dX7_odds_90 ?_
        refine lv_iload_n hx hb dX7_odds_93 rfl (lv_at hl 2 rfl) ?_
        have h21 := hw.1
        have hw := hw.2
        refine va_iald hx hb hK hP 3 0 rfl rfl h21 dX7_odds_94 ?_
        refine lv_icmp_ne (tgt := 101) hx hb dX7_odds_95 (by decide) (fun c22 => ?_) (fun c22 => ?_)
        · have hw := hw.1 c22
          exact kB101 (wpX7_odds_B26 gn gpa gth gpe gpr gw a1 a2 Post f) ih v3 x19 v5 y5 v5 y15 y16 y17 y18 y10 _ _ hP hD hS ls (lv_sub hl [1, 2, 3, 4, 0, 5] rfl) hw
        · have hw := hw.2 c22
          obtain ⟨x24, ex24⟩ : ∃ y : Int32, y = v3 + 1 := ⟨_, rfl⟩
          have hw := hw x24 ex24
          refine lv_iinc (v := x24) (lv' := [(3, .int x24), (4, .int x19), (0, .ref (ad 0)), (1, .int a1), (2, .int a2), (5, .int v5)]) hx hb dX7_odds_98 hl (k := 4) rfl (by rw [ex24]; rfl) (by decide) rfl (fun ls hl => ?_)
          exact kB101 (wpX7_odds_B26 gn gpa gth gpe gpr gw a1 a2 Post f) ih x24 x19 v5 y5 v5 y15 y16 y17 y18 y10 _ _ hP hD hS ls (lv_sub hl [2, 3, 4, 0, 1, 5] rfl) hw
  unfold wpX7_odds at hw
  refine lv_aload_n hx hb dX7_odds_0 rfl (lv_at hl 0 rfl) ?_
  refine va_get (D := (dC, dI)) (ci := 7) (v := .ref (ad 1)) (C := RX7) (T := TX7) (N := 8) hx hb hts (fun w h => List.mem_cons_of_mem _ (List.mem_append_left _ (List.mem_append_left _ (List.mem_append_right _ h)))) hown hK hP 0 rfl rfl 0 (by decide) (hts (.fieldLink RX7 12 "BidMarket" "held" "LBidMarket$Holdings;") (List.mem_of_getElem? (i := 1) rfl)) (fun _ h9 => h9) rfl dX7_odds_1 ?_
  refine va_get (D := (dC, dI)) (ci := 1) (v := .ref (ad 2)) (C := RX1) (T := TX1) (N := 4) hx hb hts (fun w h => List.mem_cons_of_mem _ (List.mem_append_left _ (List.mem_append_right _ h))) hown hK hP 1 rfl rfl 0 (by decide) (hts (.fieldLink RX7 60 "BidMarket$Holdings" "market" "LBidMarket$Market;") (List.mem_of_getElem? (i := 2) rfl)) (fun _ h9 => h9) rfl dX7_odds_4 ?_
  refine lv_iload_n hx hb dX7_odds_7 rfl (lv_at hl 1 rfl) ?_
  refine bw_pvi (wc := (wdX2_has cI cJ cT cII cJJ (fun k => ad (k + 2)) gn gpa gbr)) (As := [.int a1]) (rest := []) ⟨hx, hb, hml, hown, hts⟩ (mX2_has l dC dI cI cJ cT cII cJJ (fun k => ad (k + 2)) gn gpa gbr a1 _ hw) (cwV 1 hts gX7_odds_X2_has rfl rfl rfl hdX2_has ⟨Nat.le_of_ble_eq_true rfl, Nat.le_of_ble_eq_true rfl⟩) hK hP [2] rfl rfl rfl rfl rfl hl.1 rfl (Nat.le_of_ble_eq_true rfl) ⟨Nat.le_of_ble_eq_true rfl, Nat.le_of_ble_eq_true rfl⟩ dX7_odds_8 (fun r1 hw => ?_)
  refine lv_if_ne (tgt := 18) hx hb dX7_odds_11 (by decide) (fun c2 => ?_) (fun c2 => ?_)
  · have hw := hw.1 c2
    refine lv_iconst (v := 0) hx hb dX7_odds_18 (by decide) ?_
    refine lv_istore_n (lv' := [(3, .int 0), (0, .ref (ad 0)), (1, .int a1), (2, .int a2)]) hx hb dX7_odds_19 rfl hl (by decide) rfl (fun ls hl => ?_)
    refine lv_iconst (v := 0) hx hb dX7_odds_20 (by decide) ?_
    refine lv_istore (lv' := [(4, .int 0), (3, .int 0), (0, .ref (ad 0)), (1, .int a1), (2, .int a2)]) hx hb dX7_odds_21 hl (by decide) rfl (fun ls hl => ?_)
    refine lv_iconst (v := 1) hx hb dX7_odds_23 (by decide) ?_
    refine lv_istore (lv' := [(5, .int 1), (4, .int 0), (3, .int 0), (0, .ref (ad 0)), (1, .int a1), (2, .int a2)]) hx hb dX7_odds_24 hl (by decide) rfl (fun ls hl => ?_)
    obtain ⟨f1, hw⟩ := hw
    exact kB26 f1 0 0 1 xn xpa xbr xth xpe xpr xw _ _ hP hD hS ls (lv_sub hl [3, 4, 5, 2, 1, 0] rfl) hw
  · have hw := hw.2 c2
    refine lv_ldc2 hx hb hown (hts (.constantLong RX7 136 (-9223372036854775808)) (List.mem_of_getElem? (i := 3) rfl)) dX7_odds_14 ?_
    exact W.lret (v := (-9223372036854775808)) hx hb hr (fun t ht hW => ⟨⟨(-9223372036854775808), (xn, xpa, xbr, xth, xpe, xpr, xw), rfl, hw, by show va_P _ _ _ t.heap; rw [ht]; exact hP⟩, hS.F ht⟩) hS.2.2 dX7_odds_17
set_option maxHeartbeats 4000000 in
set_option maxRecDepth 100000 in
theorem mX7_mean (l : Launch) (dC : Nat → ClassId) (dI : Nat → Nat → Nat) (cI cJ cT cII cJJ : ClassId) (ad : Nat → Nat) (im : Int32) (gn : Int32) (gpa : Int32) (gbr : Int32) (gpr : Nat → Int32) (a1 : Int32) (Post : Int64 → Prop) (hw : wpX7_mean gn gpr a1 Post) : Met l yX7_mean wsX7_mean ({ frames := 1, cells := 0, slots := 0, locals := 24 } : Room) (va_Pc [.ref (ad 0), .int a1] (fun U => va_P (dC, dI) vwCl (wdX7_mean cI cJ cT cII cJJ ad im gn gpa gbr gpr) U.heap ∧ va_K (dC, dI) vwCl (bw_tys cI cJ cT cII cJJ) U)) (vp_Sl Post) 0 0 (fun _ => False) := by
  refine Met.ofW (cc := cX7_mean) (maxL := 2) (ret := (some .long)) (by decide) rfl ?_
  intro p e s m args below meth c s₁ B hml hv
  obtain ⟨rfl, hP, hK⟩ := hv
  have hx := B.exec
  have hb := B.bytes
  have hr := B.returns
  have hts := atoms_spec (ws := wsX7_mean) B.pre
  have hown : s.vm.findClass RX7 = some m.cls := findClass_of_methodNamed B.named
  have hlocks := B.notSynchronized
  have hl := lv_entry ([.ref (ad 0), .int a1]) (n := 2) (Nat.le_of_ble_eq_true rfl)
  rw [lg_entry_eq]
  generalize (lg_sl ([.ref (ad 0), .int a1]) ++ List.replicate (2 - (lg_sl ([.ref (ad 0), .int a1])).length) Slot.unset).toArray = ls at hl ⊢
  have hl : lv_has ls 2 [(0, .ref (ad 0)), (1, .int a1)] := hl
  unfold wpX7_mean at hw
  refine lv_aload_n hx hb dX7_mean_0 rfl (lv_at hl 0 rfl) ?_
  refine va_get (D := (dC, dI)) (ci := 7) (v := .ref (ad 1)) (C := RX7) (T := TX7) (N := 8) hx hb hts (fun w h => List.mem_cons_of_mem _ (List.mem_append_left _ (List.mem_append_left _ (List.mem_append_right _ h)))) hown hK hP 0 rfl rfl 0 (by decide) (hts (.fieldLink RX7 12 "BidMarket" "held" "LBidMarket$Holdings;") (List.mem_of_getElem? (i := 1) rfl)) (fun _ h9 => h9) rfl dX7_mean_1 ?_
  refine va_get (D := (dC, dI)) (ci := 1) (v := .ref (ad 2)) (C := RX1) (T := TX1) (N := 4) hx hb hts (fun w h => List.mem_cons_of_mem _ (List.mem_append_left _ (List.mem_append_right _ h))) hown hK hP 1 rfl rfl 0 (by decide) (hts (.fieldLink RX7 60 "BidMarket$Holdings" "market" "LBidMarket$Market;") (List.mem_of_getElem? (i := 2) rfl)) (fun _ h9 => h9) rfl dX7_mean_4 ?_
  refine bw_pvi (wc := (wdX2_pricesTogether cI cJ cT cII cJJ (fun k => ad (k + 2)) gn gpa gbr gpr)) (As := []) (rest := []) ⟨hx, hb, hml, hown, hts⟩ (mX2_pricesTogether l dC dI cI cJ cT cII cJJ (fun k => ad (k + 2)) gn gpa gbr gpr _ hw) (cwV 0 hts gX7_mean_X2_pricesTogether rfl rfl rfl hdX2_pricesTogether ⟨Nat.le_of_ble_eq_true rfl, Nat.le_of_ble_eq_true rfl⟩) hK hP [2, 3] rfl rfl rfl rfl rfl hl.1 rfl (Nat.le_of_ble_eq_true rfl) ⟨Nat.le_of_ble_eq_true rfl, Nat.le_of_ble_eq_true rfl⟩ dX7_mean_7 (fun r1 hw => ?_)
  refine lv_aload_n hx hb dX7_mean_10 rfl (lv_at hl 0 rfl) ?_
  refine va_get (D := (dC, dI)) (ci := 7) (v := .ref (ad 1)) (C := RX7) (T := TX7) (N := 8) hx hb hts (fun w h => List.mem_cons_of_mem _ (List.mem_append_left _ (List.mem_append_left _ (List.mem_append_right _ h)))) hown hK hP 0 rfl rfl 0 (by decide) (hts (.fieldLink RX7 12 "BidMarket" "held" "LBidMarket$Holdings;") (List.mem_of_getElem? (i := 1) rfl)) (fun _ h9 => h9) rfl dX7_mean_11 ?_
  refine va_get (D := (dC, dI)) (ci := 1) (v := .ref (ad 2)) (C := RX1) (T := TX1) (N := 4) hx hb hts (fun w h => List.mem_cons_of_mem _ (List.mem_append_left _ (List.mem_append_right _ h))) hown hK hP 1 rfl rfl 0 (by decide) (hts (.fieldLink RX7 60 "BidMarket$Holdings" "market" "LBidMarket$Market;") (List.mem_of_getElem? (i := 2) rfl)) (fun _ h9 => h9) rfl dX7_mean_14 ?_
  refine va_get (D := (dC, dI)) (ci := 2) (v := .int gn) (C := RX2) (T := TX2) (N := 7) hx hb hts (fun w h => List.mem_cons_of_mem _ (List.mem_append_right _ h)) hown hK hP 2 rfl rfl 4 (by decide) (hts (.fieldLink RX7 63 "BidMarket$Market" "n" "I") (List.mem_of_getElem? (i := 3) rfl)) (fun _ h9 => h9) rfl dX7_mean_17 ?_
  refine lv_iload_n hx hb dX7_mean_20 rfl (lv_at hl 1 rfl) ?_
  refine bw_psl (wc := []) (As := [.int r1, .int gn, .int a1]) (rest := []) ⟨hx, hb, hml, hown, hts⟩ (mX7_lowestTerms l dC dI cI cJ cT cII cJJ r1 gn a1 _ hw) (va_cwS 3 hts gX7_mean_X7_lowestTerms rfl rfl rfl hdX7_lowestTerms ⟨Nat.le_of_ble_eq_true rfl, Nat.le_of_ble_eq_true rfl⟩) hK hP [] rfl rfl hl.1 rfl (Nat.le_of_ble_eq_true rfl) ⟨Nat.le_of_ble_eq_true rfl, Nat.le_of_ble_eq_true rfl⟩ dX7_mean_21 (fun r2 hw => ?_)
  exact W.lret (v := r2) hx hb hr (fun t ht hW => ⟨r2, rfl, hw, ht⟩) (fun _ h => by cases h) dX7_mean_24
set_option maxHeartbeats 4000000 in
set_option maxRecDepth 100000 in
theorem mX7_plan (l : Launch) (dC : Nat → ClassId) (dI : Nat → Nat → Nat) (cI cJ cT cII cJJ : ClassId) (ad : Nat → Nat) (sz : Nat) (im : Int32) (gn : Int32) (gpa : Int32) (gbr : Int32) (gplru : Int32) (gplrl : Nat → Int32) (gplrr : Nat → Int32) (a1 : Int32) (a2 : Int32) (Post : Int32 → Int32 → (Nat → Int32) → (Nat → Int32) → Prop) (hw : wpX7_plan gn gplru gplrl gplrr a1 a2 Post) : Met l yX7_plan wsX7_plan ({ frames := 1, cells := 0, slots := 0, locals := 22 } : Room) (va_Pc [.ref (ad 0), .int a1, .int a2] (fun U => U.heap.size = sz ∧ va_P (dC, dI) vwCl (wdX7_plan cI cJ cT cII cJJ ad im gn gpa gbr gplru gplrl gplrr) U.heap ∧ va_K (dC, dI) vwCl (bw_tys cI cJ cT cII cJJ) U ∧ va_D (fun _ => True) (wdX7_plan cI cJ cT cII cJJ ad im gn gpa gbr gplru gplrl gplrr))) (va_Qi (fun (r : Int32) (u : Int32 × (Nat → Int32) × (Nat → Int32)) => Post r u.1 u.2.1 u.2.2) (fun (u : Int32 × (Nat → Int32) × (Nat → Int32)) t => va_P (dC, dI) vwCl (wdX7_plan cI cJ cT cII cJJ ad im gn gpa gbr u.1 u.2.1 u.2.2) t.heap) (va_A (wdX7_plan cI cJ cT cII cJJ ad im gn gpa gbr gplru gplrl gplrr) sz)) 0 0 (va_A (wdX7_plan cI cJ cT cII cJJ ad im gn gpa gbr gplru gplrl gplrr) sz) := by
  refine Met.ofW (cc := cX7_plan) (maxL := 3) (ret := (some .int)) (by decide) rfl ?_
  intro p e s m args below meth c s₁ B hml hv
  obtain ⟨rfl, hsz, hP, hK, hD0⟩ := hv
  have hx := B.exec
  have hb := B.bytes
  have hr := B.returns
  have hts := atoms_spec (ws := wsX7_plan) B.pre
  have hown : s.vm.findClass RX7 = some m.cls := findClass_of_methodNamed B.named
  have hlocks := B.notSynchronized
  subst hsz
  have hD := hD0.self (sz := s.heap.size)
  generalize hAe : va_A (wdX7_plan cI cJ cT cII cJJ ad im gn gpa gbr gplru gplrl gplrr) s.heap.size = A at hD ⊢
  have hA : ∀ q : Nat, s.heap.size ≤ q → A q := fun q h => by rw [← hAe]; exact Or.inr h
  have hS : va_S A s.heap s.heap [] := va_S.rf
  have hl := lv_entry ([.ref (ad 0), .int a1, .int a2]) (n := 3) (Nat.le_of_ble_eq_true rfl)
  rw [lg_entry_eq]
  generalize (lg_sl ([.ref (ad 0), .int a1, .int a2]) ++ List.replicate (3 - (lg_sl ([.ref (ad 0), .int a1, .int a2])).length) Slot.unset).toArray = ls at hl ⊢
  have hl : lv_has ls 3 [(0, .ref (ad 0)), (1, .int a1), (2, .int a2)] := hl
  have kB61 : ∀ (gplru : Int32) (gplrl : Nat → Int32) (gplrr : Nat → Int32), ∀ (H : Heap) (locs : List Loc), va_P (dC, dI) vwCl (wdX7_plan cI cJ cT cII cJJ ad im gn gpa gbr gplru gplrl gplrr) H → va_D A (wdX7_plan cI cJ cT cII cJJ ad im gn gpa gbr gplru gplrl gplrr) → va_S A s.heap H locs → ∀ ls : Array Slot, lv_has ls 3 [(0, .ref (ad 0)), (1, .int a1), (2, .int a2)] → wpX7_plan_B61 gn a1 a2 Post gplru gplrl gplrr → W p l e (headSpec wsX7_plan ({ frames := 1, cells := 0, slots := 0, locals := 22 } : Room)).room s m ([.ref (ad 0), .int a1, .int a2] : List Value).toArray below meth c H locs 0 0 (MQ below (va_Qi (fun (r : Int32) (u : Int32 × (Nat → Int32) × (Nat → Int32)) => Post r u.1 u.2.1 u.2.2) (fun (u : Int32 × (Nat → Int32) × (Nat → Int32)) t => va_P (dC, dI) vwCl (wdX7_plan cI cJ cT cII cJJ ad im gn gpa gbr u.1 u.2.1 u.2.2) t.heap) A) ([.ref (ad 0), .int a1, .int a2] : List Value).toArray s 0 0 A) (F0 m 61 ls []) := by
    intro gplru gplrl gplrr H locs hP hD hS ls hl hw
    unfold wpX7_plan_B61 at hw
    refine lv_aload_n hx hb dX7_plan_61 rfl (lv_at hl 0 rfl) ?_
    refine va_get (D := (dC, dI)) (ci := 7) (v := .ref (ad 1)) (C := RX7) (T := TX7) (N := 8) hx hb hts (fun w h => List.mem_cons_of_mem _ (List.mem_append_left _ (List.mem_append_left _ (List.mem_append_left _ (List.mem_append_right _ h))))) hown hK hP 0 rfl rfl 0 (by decide) (hts (.fieldLink RX7 12 "BidMarket" "held" "LBidMarket$Holdings;") (List.mem_of_getElem? (i := 1) rfl)) (fun _ h9 => h9) rfl dX7_plan_62 ?_
    refine va_get (D := (dC, dI)) (ci := 1) (v := .ref (ad 18)) (C := RX1) (T := TX1) (N := 4) hx hb hts (fun w h => List.mem_cons_of_mem _ (List.mem_append_left _ (List.mem_append_left _ (List.mem_append_right _ h)))) hown hK hP 1 rfl rfl 2 (by decide) (hts (.fieldLink RX7 81 "BidMarket$Holdings" "plan" "LBidMarket$Rows;") (List.mem_of_getElem? (i := 2) rfl)) (fun _ h9 => h9) rfl dX7_plan_65 ?_
    refine lv_iload_n hx hb dX7_plan_68 rfl (lv_at hl 1 rfl) ?_
    refine lv_iload_n hx hb dX7_plan_69 rfl (lv_at hl 2 rfl) ?_
    refine bw_wvi (wc := (wdX4_append cI cJ cT cII cJJ (fun k => ad (k + 18)) gplru 10 gplrl gplrr)) (w1 := (fun (u : Int32 × (Nat → Int32) × (Nat → Int32)) => wdX4_append cI cJ cT cII cJJ (fun k => ad (k + 18)) u.1 10 u.2.1 u.2.2)) (As := [.int a1, .int a2]) (rest := []) ⟨hx, hb, hml, hown, hts⟩ (mX4_append l dC dI cI cJ cT cII cJJ (fun k => ad (k + 18)) _ gplru 10 gplrl gplrr a1 a2 _ hw) (cwV 2 hts gX7_plan_X4_append rfl rfl rfl hdX4_append ⟨Nat.le_of_ble_eq_true rfl, Nat.le_of_ble_eq_true rfl⟩) hK hP hD hS hA [3, 4, 5] rfl (by decide) (fun _ => rfl) rfl rfl rfl rfl hl.1 rfl (Nat.le_of_ble_eq_true rfl) ⟨Nat.le_of_ble_eq_true rfl, Nat.le_of_ble_eq_true rfl⟩ dX7_plan_70 (fun r6 u H locs hw hP hD hS => ?_)
    obtain ⟨y7, y8, y9⟩ := u
    try dsimp only at hw
    have hP : va_P (dC, dI) vwCl (wdX7_plan cI cJ cT cII cJJ ad im gn gpa gbr y7 y8 y9) H := hP
    have hD : va_D A (wdX7_plan cI cJ cT cII cJJ ad im gn gpa gbr y7 y8 y9) := hD
    exact W.iret (v := r6) hx hb hr (fun t ht hW => ⟨⟨r6, (y7, y8, y9), rfl, hw, by show va_P _ _ _ t.heap; rw [ht]; exact hP⟩, hS.F ht⟩) hS.2.2 dX7_plan_73
  have kB46 : ∀ (gplru : Int32) (gplrl : Nat → Int32) (gplrr : Nat → Int32), ∀ (H : Heap) (locs : List Loc), va_P (dC, dI) vwCl (wdX7_plan cI cJ cT cII cJJ ad im gn gpa gbr gplru gplrl gplrr) H → va_D A (wdX7_plan cI cJ cT cII cJJ ad im gn gpa gbr gplru gplrl gplrr) → va_S A s.heap H locs → ∀ ls : Array Slot, lv_has ls 3 [(0, .ref (ad 0)), (1, .int a1), (2, .int a2)] → wpX7_plan_B46 gn a1 a2 Post gplru gplrl gplrr → W p l e (headSpec wsX7_plan ({ frames := 1, cells := 0, slots := 0, locals := 22 } : Room)).room s m ([.ref (ad 0), .int a1, .int a2] : List Value).toArray below meth c H locs 0 0 (MQ below (va_Qi (fun (r : Int32) (u : Int32 × (Nat → Int32) × (Nat → Int32)) => Post r u.1 u.2.1 u.2.2) (fun (u : Int32 × (Nat → Int32) × (Nat → Int32)) t => va_P (dC, dI) vwCl (wdX7_plan cI cJ cT cII cJJ ad im gn gpa gbr u.1 u.2.1 u.2.2) t.heap) A) ([.ref (ad 0), .int a1, .int a2] : List Value).toArray s 0 0 A) (F0 m 46 ls []) := by
    intro gplru gplrl gplrr H locs hP hD hS ls hl hw
    unfold wpX7_plan_B46 at hw
    refine lv_iload_n hx hb dX7_plan_46 rfl (lv_at hl 1 rfl) ?_
    refine lv_iconst (v := 2) hx hb dX7_plan_47 (by decide) ?_
    refine lv_icmp_ne (tgt := 61) hx hb dX7_plan_48 (by decide) (fun c5 => ?_) (fun c5 => ?_)
    · have hw := hw.1 c5
      exact kB61 gplru gplrl gplrr _ _ hP hD hS ls hl hw
    · have hw := hw.2 c5
      refine lv_iload_n hx hb dX7_plan_51 rfl (lv_at hl 2 rfl) ?_
      refine bw_psi (wc := []) (As := [.int a2]) (rest := []) ⟨hx, hb, hml, hown, hts⟩ (mX7_isStep l dC dI cI cJ cT cII cJJ a2 _ hw) (va_cwS 1 hts gX7_plan_X7_isStep rfl rfl rfl hdX7_isStep ⟨Nat.le_of_ble_eq_true rfl, Nat.le_of_ble_eq_true rfl⟩) hK hP [] rfl rfl hl.1 rfl (Nat.le_of_ble_eq_true rfl) ⟨Nat.le_of_ble_eq_true rfl, Nat.le_of_ble_eq_true rfl⟩ dX7_plan_52 (fun r10 hw => ?_)
      refine lv_if_ne (tgt := 61) hx hb dX7_plan_55 (by decide) (fun c11 => ?_) (fun c11 => ?_)
      · have hw := hw.1 c11
        exact kB61 gplru gplrl gplrr _ _ hP hD hS ls hl hw
      · have hw := hw.2 c11
        refine lv_bipush (v := (-2)) hx hb dX7_plan_58 (by decide) ?_
        exact W.iret (v := (-2)) hx hb hr (fun t ht hW => ⟨⟨(-2), (gplru, gplrl, gplrr), rfl, hw, by show va_P _ _ _ t.heap; rw [ht]; exact hP⟩, hS.F ht⟩) hS.2.2 dX7_plan_60
  unfold wpX7_plan at hw
  refine lv_iload_n hx hb dX7_plan_0 rfl (lv_at hl 1 rfl) ?_
  refine lv_iconst (v := (-1)) hx hb dX7_plan_1 (by decide) ?_
  refine lv_icmp_ne (tgt := 16) hx hb dX7_plan_2 (by decide) (fun c1 => ?_) (fun c1 => ?_)
  · have hw := hw.1 c1
    refine lv_iload_n hx hb dX7_plan_16 rfl (lv_at hl 1 rfl) ?_
    refine lv_if_lt (tgt := 44) hx hb dX7_plan_17 (by decide) (fun c2 => ?_) (fun c2 => ?_)
    · have hw := hw.1 c2
      refine lv_iconst (v := (-1)) hx hb dX7_plan_44 (by decide) ?_
      exact W.iret (v := (-1)) hx hb hr (fun t ht hW => ⟨⟨(-1), (gplru, gplrl, gplrr), rfl, hw, by show va_P _ _ _ t.heap; rw [ht]; exact hP⟩, hS.F ht⟩) hS.2.2 dX7_plan_45
    · have hw := hw.2 c2
      refine lv_iload_n hx hb dX7_plan_20 rfl (lv_at hl 1 rfl) ?_
      refine lv_iconst (v := 2) hx hb dX7_plan_21 (by decide) ?_
      refine lv_icmp_gt (tgt := 44) hx hb dX7_plan_22 (by decide) (fun c3 => ?_) (fun c3 => ?_)
      · have hw := hw.1 c3
        refine lv_iconst (v := (-1)) hx hb dX7_plan_44 (by decide) ?_
        exact W.iret (v := (-1)) hx hb hr (fun t ht hW => ⟨⟨(-1), (gplru, gplrl, gplrr), rfl, hw, by show va_P _ _ _ t.heap; rw [ht]; exact hP⟩, hS.F ht⟩) hS.2.2 dX7_plan_45
      · have hw := hw.2 c3
        refine lv_iload_n hx hb dX7_plan_25 rfl (lv_at hl 1 rfl) ?_
        refine lv_iconst (v := 1) hx hb dX7_plan_26 (by decide) ?_
        refine lv_icmp_ne (tgt := 46) hx hb dX7_plan_27 (by decide) (fun c4 => ?_) (fun c4 => ?_)
        · have hw := hw.1 c4
          exact kB46 gplru gplrl gplrr _ _ hP hD hS ls hl hw
        · have hw := hw.2 c4
          refine lv_aload_n hx hb dX7_plan_30 rfl (lv_at hl 0 rfl) ?_
          refine va_get (D := (dC, dI)) (ci := 7) (v := .ref (ad 1)) (C := RX7) (T := TX7) (N := 8) hx hb hts (fun w h => List.mem_cons_of_mem _ (List.mem_append_left _ (List.mem_append_left _ (List.mem_append_left _ (List.mem_append_right _ h))))) hown hK hP 0 rfl rfl 0 (by decide) (hts (.fieldLink RX7 12 "BidMarket" "held" "LBidMarket$Holdings;") (List.mem_of_getElem? (i := 1) rfl)) (fun _ h9 => h9) rfl dX7_plan_31 ?_
          refine va_get (D := (dC, dI)) (ci := 1) (v := .ref (ad 2)) (C := RX1) (T := TX1) (N := 4) hx hb hts (fun w h => List.mem_cons_of_mem _ (List.mem_append_left _ (List.mem_append_left _ (List.mem_append_right _ h)))) hown hK hP 1 rfl rfl 0 (by decide) (hts (.fieldLink RX7 60 "BidMarket$Holdings" "market" "LBidMarket$Market;") (List.mem_of_getElem? (i := 3) rfl)) (fun _ h9 => h9) rfl dX7_plan_34 ?_
          refine lv_iload_n hx hb dX7_plan_37 rfl (lv_at hl 2 rfl) ?_
          refine bw_pvi (wc := (wdX2_has cI cJ cT cII cJJ (fun k => ad (k + 2)) gn gpa gbr)) (As := [.int a2]) (rest := []) ⟨hx, hb, hml, hown, hts⟩ (mX2_has l dC dI cI cJ cT cII cJJ (fun k => ad (k + 2)) gn gpa gbr a2 _ hw) (cwV 1 hts gX7_plan_X2_has rfl rfl rfl hdX2_has ⟨Nat.le_of_ble_eq_true rfl, Nat.le_of_ble_eq_true rfl⟩) hK hP [2] rfl rfl rfl rfl rfl hl.1 rfl (Nat.le_of_ble_eq_true rfl) ⟨Nat.le_of_ble_eq_true rfl, Nat.le_of_ble_eq_true rfl⟩ dX7_plan_38 (fun r12 hw => ?_)
          refine lv_if_ne (tgt := 46) hx hb dX7_plan_41 (by decide) (fun c13 => ?_) (fun c13 => ?_)
          · have hw := hw.1 c13
            exact kB46 gplru gplrl gplrr _ _ hP hD hS ls hl hw
          · have hw := hw.2 c13
            refine lv_iconst (v := (-1)) hx hb dX7_plan_44 (by decide) ?_
            exact W.iret (v := (-1)) hx hb hr (fun t ht hW => ⟨⟨(-1), (gplru, gplrl, gplrr), rfl, hw, by show va_P _ _ _ t.heap; rw [ht]; exact hP⟩, hS.F ht⟩) hS.2.2 dX7_plan_45
  · have hw := hw.2 c1
    refine lv_aload_n hx hb dX7_plan_5 rfl (lv_at hl 0 rfl) ?_
    refine va_get (D := (dC, dI)) (ci := 7) (v := .ref (ad 1)) (C := RX7) (T := TX7) (N := 8) hx hb hts (fun w h => List.mem_cons_of_mem _ (List.mem_append_left _ (List.mem_append_left _ (List.mem_append_left _ (List.mem_append_right _ h))))) hown hK hP 0 rfl rfl 0 (by decide) (hts (.fieldLink RX7 12 "BidMarket" "held" "LBidMarket$Holdings;") (List.mem_of_getElem? (i := 1) rfl)) (fun _ h9 => h9) rfl dX7_plan_6 ?_
    refine va_get (D := (dC, dI)) (ci := 1) (v := .ref (ad 18)) (C := RX1) (T := TX1) (N := 4) hx hb hts (fun w h => List.mem_cons_of_mem _ (List.mem_append_left _ (List.mem_append_left _ (List.mem_append_right _ h)))) hown hK hP 1 rfl rfl 2 (by decide) (hts (.fieldLink RX7 81 "BidMarket$Holdings" "plan" "LBidMarket$Rows;") (List.mem_of_getElem? (i := 2) rfl)) (fun _ h9 => h9) rfl dX7_plan_9 ?_
    refine bw_wvi (wc := (wdX4_empty cI cJ cT cII cJJ (fun k => ad (k + 18)) gplru)) (w1 := (fun (u : Int32) => wdX4_empty cI cJ cT cII cJJ (fun k => ad (k + 18)) u)) (As := []) (rest := []) ⟨hx, hb, hml, hown, hts⟩ (mX4_empty l dC dI cI cJ cT cII cJJ (fun k => ad (k + 18)) _ gplru _ hw) (cwV 0 hts gX7_plan_X4_empty rfl rfl rfl hdX4_empty ⟨Nat.le_of_ble_eq_true rfl, Nat.le_of_ble_eq_true rfl⟩) hK hP hD hS hA [3] rfl (by decide) (fun _ => rfl) rfl rfl rfl rfl hl.1 rfl (Nat.le_of_ble_eq_true rfl) ⟨Nat.le_of_ble_eq_true rfl, Nat.le_of_ble_eq_true rfl⟩ dX7_plan_12 (fun r14 u H locs hw hP hD hS => ?_)
    obtain ⟨y15, rfl⟩ : ∃ z, z = u := ⟨_, rfl⟩
    try dsimp only at hw
    have hP : va_P (dC, dI) vwCl (wdX7_plan cI cJ cT cII cJJ ad im gn gpa gbr y15 gplrl gplrr) H := hP
    have hD : va_D A (wdX7_plan cI cJ cT cII cJJ ad im gn gpa gbr y15 gplrl gplrr) := hD
    exact W.iret (v := r14) hx hb hr (fun t ht hW => ⟨⟨r14, (y15, gplrl, gplrr), rfl, hw, by show va_P _ _ _ t.heap; rw [ht]; exact hP⟩, hS.F ht⟩) hS.2.2 dX7_plan_15
set_option maxHeartbeats 4000000 in
set_option maxRecDepth 100000 in
theorem mX7_goOn (l : Launch) (dC : Nat → ClassId) (dI : Nat → Nat → Nat) (cI cJ cT cII cJJ : ClassId) (ad : Nat → Nat) (sz : Nat) (n : Int32) (pa : Int32) (br : Int32) (th : Nat → Int32) (pe : Nat → Int32) (pr : Nat → Int32) (w : Nat → Nat → Int32) (a1 : Int32) (a2 : Int32) (Post : Int32 → (Nat → Int32) → (Nat → Int32) → (Nat → Int32) → Prop) (hw : wpX7_goOn n pa th pe pr w a1 a2 Post) : Met l yX7_goOn wsX7_goOn ({ frames := 4, cells := 0, slots := 0, locals := 95 } : Room) (va_Pc [.ref (ad 0), .int a1, .int a2] (fun U => U.heap.size = sz ∧ va_P (dC, dI) vwCl (wdX7_goOn cI cJ cT cII cJJ ad n pa br th pe pr w) U.heap ∧ va_K (dC, dI) vwCl (bw_tys cI cJ cT cII cJJ) U ∧ va_D (fun _ => True) (wdX7_goOn cI cJ cT cII cJJ ad n pa br th pe pr w))) (va_Qv (fun (u : Int32 × (Nat → Int32) × (Nat → Int32) × (Nat → Int32)) => Post u.1 u.2.1 u.2.2.1 u.2.2.2) (fun (u : Int32 × (Nat → Int32) × (Nat → Int32) × (Nat → Int32)) t => va_P (dC, dI) vwCl (wdX7_goOn cI cJ cT cII cJJ ad n u.1 br u.2.1 u.2.2.1 u.2.2.2 w) t.heap) (va_A (wdX7_goOn cI cJ cT cII cJJ ad n pa br th pe pr w) sz)) 0 0 (va_A (wdX7_goOn cI cJ cT cII cJJ ad n pa br th pe pr w) sz) := by
  refine Met.ofW (cc := cX7_goOn) (maxL := 3) (ret := none) (by decide) rfl ?_
  intro p e s m args below meth c s₁ B hml hv
  obtain ⟨rfl, hsz, hP, hK, hD0⟩ := hv
  have hx := B.exec
  have hb := B.bytes
  have hr := B.returns
  have hts := atoms_spec (ws := wsX7_goOn) B.pre
  have hown : s.vm.findClass RX7 = some m.cls := findClass_of_methodNamed B.named
  have hlocks := B.notSynchronized
  subst hsz
  have hD := hD0.self (sz := s.heap.size)
  generalize hAe : va_A (wdX7_goOn cI cJ cT cII cJJ ad n pa br th pe pr w) s.heap.size = A at hD ⊢
  have hA : ∀ q : Nat, s.heap.size ≤ q → A q := fun q h => by rw [← hAe]; exact Or.inr h
  have hS : va_S A s.heap s.heap [] := va_S.rf
  have hl := lv_entry ([.ref (ad 0), .int a1, .int a2]) (n := 3) (Nat.le_of_ble_eq_true rfl)
  rw [lg_entry_eq]
  generalize (lg_sl ([.ref (ad 0), .int a1, .int a2]) ++ List.replicate (3 - (lg_sl ([.ref (ad 0), .int a1, .int a2])).length) Slot.unset).toArray = ls at hl ⊢
  have hl : lv_has ls 3 [(0, .ref (ad 0)), (1, .int a1), (2, .int a2)] := hl
  have kB33 : ∀ (pa : Int32) (th : Nat → Int32) (pe : Nat → Int32) (pr : Nat → Int32), ∀ (H : Heap) (locs : List Loc), va_P (dC, dI) vwCl (wdX7_goOn cI cJ cT cII cJJ ad n pa br th pe pr w) H → va_D A (wdX7_goOn cI cJ cT cII cJJ ad n pa br th pe pr w) → va_S A s.heap H locs → ∀ ls : Array Slot, lv_has ls 3 [(0, .ref (ad 0)), (1, .int a1), (2, .int a2)] → wpX7_goOn_B33 n w a1 a2 Post pa th pe pr → W p l e (headSpec wsX7_goOn ({ frames := 4, cells := 0, slots := 0, locals := 95 } : Room)).room s m ([.ref (ad 0), .int a1, .int a2] : List Value).toArray below meth c H locs 0 0 (MQ below (va_Qv (fun (u : Int32 × (Nat → Int32) × (Nat → Int32) × (Nat → Int32)) => Post u.1 u.2.1 u.2.2.1 u.2.2.2) (fun (u : Int32 × (Nat → Int32) × (Nat → Int32) × (Nat → Int32)) t => va_P (dC, dI) vwCl (wdX7_goOn cI cJ cT cII cJJ ad n u.1 br u.2.1 u.2.2.1 u.2.2.2 w) t.heap) A) ([.ref (ad 0), .int a1, .int a2] : List Value).toArray s 0 0 A) (F0 m 33 ls []) := by
    intro pa th pe pr H locs hP hD hS ls hl hw
    unfold wpX7_goOn_B33 at hw
    refine lv_iload_n hx hb dX7_goOn_33 rfl (lv_at hl 1 rfl) ?_
    refine lv_iconst (v := 2) hx hb dX7_goOn_34 (by decide) ?_
    refine lv_icmp_ne (tgt := 43) hx hb dX7_goOn_35 (by decide) (fun c3 => ?_) (fun c3 => ?_)
    · have hw := hw.1 c3
      exact W.vret hx hb hr (fun t ht hW => ⟨⟨(pa, th, pe, pr), rfl, hw, by show va_P _ _ _ t.heap; rw [ht]; exact hP⟩, hS.F ht⟩) hS.2.2 dX7_goOn_43
    · have hw := hw.2 c3
      refine lv_aload_n hx hb dX7_goOn_38 rfl (lv_at hl 0 rfl) ?_
      refine lv_iload_n hx hb dX7_goOn_39 rfl (lv_at hl 2 rfl) ?_
      refine va_put (D := (dC, dI)) (ci := 2) (v := .int a2) (ty := .int) (C := RX2) (T := TX2) (N := 7) hx hb hts (fun w h => List.mem_cons_of_mem _ (List.mem_append_right _ h)) tyX2 tyX2_ok nmX2 hown hK hP hD hS 0 rfl rfl 5 (by decide) (hts (.fieldLink RX7 102 "BidMarket$Market" "pace" "I") (List.mem_of_getElem? (i := 1) rfl)) (fun _ h9 => h9) rfl (by decide +kernel) rfl rfl (Nat.le_of_ble_eq_true rfl) dX7_goOn_40 (fun H locs hP hD hS => ?_)
      have hP : va_P (dC, dI) vwCl (wdX7_goOn cI cJ cT cII cJJ ad n a2 br th pe pr w) H := hP
      have hD : va_D A (wdX7_goOn cI cJ cT cII cJJ ad n a2 br th pe pr w) := hD
      exact W.vret hx hb hr (fun t ht hW => ⟨⟨(a2, th, pe, pr), rfl, hw, by show va_P _ _ _ t.heap; rw [ht]; exact hP⟩, hS.F ht⟩) hS.2.2 dX7_goOn_43
  unfold wpX7_goOn at hw
  refine lv_iload_n hx hb dX7_goOn_0 rfl (lv_at hl 1 rfl) ?_
  refine lv_if_ne (tgt := 12) hx hb dX7_goOn_1 (by decide) (fun c1 => ?_) (fun c1 => ?_)
  · have hw := hw.1 c1
    refine lv_iload_n hx hb dX7_goOn_12 rfl (lv_at hl 1 rfl) ?_
    refine lv_iconst (v := 1) hx hb dX7_goOn_13 (by decide) ?_
    refine lv_icmp_ne (tgt := 33) hx hb dX7_goOn_14 (by decide) (fun c2 => ?_) (fun c2 => ?_)
    · have hw := hw.1 c2
      exact kB33 pa th pe pr _ _ hP hD hS ls hl hw
    · have hw := hw.2 c2
      refine lv_aload_n hx hb dX7_goOn_17 rfl (lv_at hl 0 rfl) ?_
      refine lv_iload_n hx hb dX7_goOn_18 rfl (lv_at hl 2 rfl) ?_
      refine bw_pvi (wc := (wdX2_has cI cJ cT cII cJJ ad n pa br)) (As := [.int a2]) (rest := []) ⟨hx, hb, hml, hown, hts⟩ (mX2_has l dC dI cI cJ cT cII cJJ ad n pa br a2 _ hw) (cwV 1 hts gX7_goOn_X2_has rfl rfl rfl hdX2_has ⟨Nat.le_of_ble_eq_true rfl, Nat.le_of_ble_eq_true rfl⟩) hK hP [0] rfl rfl rfl rfl rfl hl.1 rfl (Nat.le_of_ble_eq_true rfl) ⟨Nat.le_of_ble_eq_true rfl, Nat.le_of_ble_eq_true rfl⟩ dX7_goOn_19 (fun r4 hw => ?_)
      refine lv_if_eq (tgt := 33) hx hb dX7_goOn_22 (by decide) (fun c5 => ?_) (fun c5 => ?_)
      · have hw := hw.1 c5
        exact kB33 pa th pe pr _ _ hP hD hS ls hl hw
      · have hw := hw.2 c5
        refine lv_aload_n hx hb dX7_goOn_25 rfl (lv_at hl 0 rfl) ?_
        refine lv_iload_n hx hb dX7_goOn_26 rfl (lv_at hl 2 rfl) ?_
        refine bw_wvv (wc := (wdX2_giveUp cI cJ cT cII cJJ ad n pa br th pe)) (w1 := (fun (u : (Nat → Int32) × (Nat → Int32)) => wdX2_giveUp cI cJ cT cII cJJ ad n pa br u.1 u.2)) (As := [.int a2]) (rest := []) ⟨hx, hb, hml, hown, hts⟩ (mX2_giveUp l dC dI cI cJ cT cII cJJ ad _ n pa br th pe a2 _ hw) (cwV 1 hts gX7_goOn_X2_giveUp rfl rfl rfl hdX2_giveUp ⟨Nat.le_of_ble_eq_true rfl, Nat.le_of_ble_eq_true rfl⟩) hK hP hD hS hA [0, 1, 2] rfl (by decide) (fun _ => rfl) rfl rfl rfl rfl hl.1 rfl (Nat.le_of_ble_eq_true rfl) ⟨Nat.le_of_ble_eq_true rfl, Nat.le_of_ble_eq_true rfl⟩ dX7_goOn_27 (fun u H locs hw hP hD hS => ?_)
        obtain ⟨y6, y7⟩ := u
        try dsimp only at hw
        have hP : va_P (dC, dI) vwCl (wdX7_goOn cI cJ cT cII cJJ ad n pa br y6 y7 pr w) H := hP
        have hD : va_D A (wdX7_goOn cI cJ cT cII cJJ ad n pa br y6 y7 pr w) := hD
        refine lv_goto (tgt := 43) hx hb dX7_goOn_30 (by decide) ?_
        exact W.vret hx hb hr (fun t ht hW => ⟨⟨(pa, y6, y7, pr), rfl, hw, by show va_P _ _ _ t.heap; rw [ht]; exact hP⟩, hS.F ht⟩) hS.2.2 dX7_goOn_43
  · have hw := hw.2 c1
    refine lv_aload_n hx hb dX7_goOn_4 rfl (lv_at hl 0 rfl) ?_
    refine bw_wvi (wc := (wdX2_letNextBid cI cJ cT cII cJJ ad n pa br th pe pr w)) (w1 := (fun (u : (Nat → Int32) × (Nat → Int32) × (Nat → Int32)) => wdX2_letNextBid cI cJ cT cII cJJ ad n pa br u.1 u.2.1 u.2.2 w)) (As := []) (rest := []) ⟨hx, hb, hml, hown, hts⟩ (mX2_letNextBid l dC dI cI cJ cT cII cJJ ad _ n pa br th pe pr w _ hw) (cwV 0 hts gX7_goOn_X2_letNextBid rfl rfl rfl hdX2_letNextBid ⟨Nat.le_of_ble_eq_true rfl, Nat.le_of_ble_eq_true rfl⟩) hK hP hD hS hA [0, 1, 2, 3, 4, 5, 6, 7, 8, 9, 10, 11, 12] rfl (by decide) (fun _ => rfl) rfl rfl rfl rfl hl.1 rfl (Nat.le_of_ble_eq_true rfl) ⟨Nat.le_of_ble_eq_true rfl, Nat.le_of_ble_eq_true rfl⟩ dX7_goOn_5 (fun r8 u H locs hw hP hD hS => ?_)
    obtain ⟨y9, y10, y11⟩ := u
    try dsimp only at hw
    have hP : va_P (dC, dI) vwCl (wdX7_goOn cI cJ cT cII cJJ ad n pa br y9 y10 y11 w) H := hP
    have hD : va_D A (wdX7_goOn cI cJ cT cII cJJ ad n pa br y9 y10 y11 w) := hD
    refine lv_pop hx hb dX7_goOn_8 rfl ?_
    refine lv_goto (tgt := 43) hx hb dX7_goOn_9 (by decide) ?_
    exact W.vret hx hb hr (fun t ht hW => ⟨⟨(pa, y9, y10, y11), rfl, hw, by show va_P _ _ _ t.heap; rw [ht]; exact hP⟩, hS.F ht⟩) hS.2.2 dX7_goOn_43
set_option maxHeartbeats 4000000 in
set_option maxRecDepth 100000 in
theorem mX7_ends (l : Launch) (dC : Nat → ClassId) (dI : Nat → Nat → Nat) (cI cJ cT cII cJJ : ClassId) (ad : Nat → Nat) (sz : Nat) (im : Int32) (gn : Int32) (gpa : Int32) (gbr : Int32) (gth : Nat → Int32) (gpe : Nat → Int32) (gpr : Nat → Int32) (gw : Nat → Nat → Int32) (gplru : Int32) (gplrl : Nat → Int32) (gplrr : Nat → Int32) (xn : Int32) (xpa : Int32) (xbr : Int32) (xth : Nat → Int32) (xpe : Nat → Int32) (xpr : Nat → Int32) (xw : Nat → Nat → Int32) (a1 : Int32) (Post : Int32 → Int32 → Int32 → (Nat → Int32) → (Nat → Int32) → (Nat → Int32) → (Nat → Nat → Int32) → Prop) (hw : wpX7_ends gn gpa gth gpe gpr gw gplru gplrl gplrr xn xpa xth xpe xpr xw a1 Post) : Met l yX7_ends wsX7_ends ({ frames := 5, cells := 0, slots := 0, locals := 117 } : Room) (va_Pc [.ref (ad 0), .int a1] (fun U => U.heap.size = sz ∧ va_P (dC, dI) vwCl (wdX7_ends cI cJ cT cII cJJ ad im gn gpa gbr gth gpe gpr gw gplru gplrl gplrr xn xpa xbr xth xpe xpr xw) U.heap ∧ va_K (dC, dI) vwCl (bw_tys cI cJ cT cII cJJ) U ∧ va_D (fun _ => True) (wdX7_ends cI cJ cT cII cJJ ad im gn gpa gbr gth gpe gpr gw gplru gplrl gplrr xn xpa xbr xth xpe xpr xw))) (va_Qi (fun (r : Int32) (u : Int32 × Int32 × (Nat → Int32) × (Nat → Int32) × (Nat → Int32) × (Nat → Nat → Int32)) => Post r u.1 u.2.1 u.2.2.1 u.2.2.2.1 u.2.2.2.2.1 u.2.2.2.2.2) (fun (u : Int32 × Int32 × (Nat → Int32) × (Nat → Int32) × (Nat → Int32) × (Nat → Nat → Int32)) t => va_P (dC, dI) vwCl (wdX7_ends cI cJ cT cII cJJ ad im gn gpa gbr gth gpe gpr gw gplru gplrl gplrr u.1 u.2.1 xbr u.2.2.1 u.2.2.2.1 u.2.2.2.2.1 u.2.2.2.2.2) t.heap) (va_A (wdX7_ends cI cJ cT cII cJJ ad im gn gpa gbr gth gpe gpr gw gplru gplrl gplrr xn xpa xbr xth xpe xpr xw) sz)) 0 0 (va_A (wdX7_ends cI cJ cT cII cJJ ad im gn gpa gbr gth gpe gpr gw gplru gplrl gplrr xn xpa xbr xth xpe xpr xw) sz) := by
  refine Met.ofW (cc := cX7_ends) (maxL := 3) (ret := (some .int)) (by decide) rfl ?_
  intro p e s m args below meth c s₁ B hml hv
  obtain ⟨rfl, hsz, hP, hK, hD0⟩ := hv
  have hx := B.exec
  have hb := B.bytes
  have hr := B.returns
  have hts := atoms_spec (ws := wsX7_ends) B.pre
  have hown : s.vm.findClass RX7 = some m.cls := findClass_of_methodNamed B.named
  have hlocks := B.notSynchronized
  subst hsz
  have hD := hD0.self (sz := s.heap.size)
  generalize hAe : va_A (wdX7_ends cI cJ cT cII cJJ ad im gn gpa gbr gth gpe gpr gw gplru gplrl gplrr xn xpa xbr xth xpe xpr xw) s.heap.size = A at hD ⊢
  have hA : ∀ q : Nat, s.heap.size ≤ q → A q := fun q h => by rw [← hAe]; exact Or.inr h
  have hS : va_S A s.heap s.heap [] := va_S.rf
  have hl := lv_entry ([.ref (ad 0), .int a1]) (n := 3) (Nat.le_of_ble_eq_true rfl)
  rw [lg_entry_eq]
  generalize (lg_sl ([.ref (ad 0), .int a1]) ++ List.replicate (3 - (lg_sl ([.ref (ad 0), .int a1])).length) Slot.unset).toArray = ls at hl ⊢
  have hl : lv_has ls 3 [(0, .ref (ad 0)), (1, .int a1)] := hl
  have kB27 : ∀ f : Nat, ∀ (v2 : Int32) (xn : Int32) (xpa : Int32) (xth : Nat → Int32) (xpe : Nat → Int32) (xpr : Nat → Int32) (xw : Nat → Nat → Int32), ∀ (H : Heap) (locs : List Loc), va_P (dC, dI) vwCl (wdX7_ends cI cJ cT cII cJJ ad im gn gpa gbr gth gpe gpr gw gplru gplrl gplrr xn xpa xbr xth xpe xpr xw) H → va_D A (wdX7_ends cI cJ cT cII cJJ ad im gn gpa gbr gth gpe gpr gw gplru gplrl gplrr xn xpa xbr xth xpe xpr xw) → va_S A s.heap H locs → ∀ ls : Array Slot, lv_has ls 3 [(0, .ref (ad 0)), (1, .int a1), (2, .int v2)] → wpX7_ends_B27 gn gpa gth gpe gpr gw gplru gplrl gplrr a1 Post f v2 xn xpa xth xpe xpr xw → W p l e (headSpec wsX7_ends ({ frames := 5, cells := 0, slots := 0, locals := 117 } : Room)).room s m ([.ref (ad 0), .int a1] : List Value).toArray below meth c H locs 0 0 (MQ below (va_Qi (fun (r : Int32) (u : Int32 × Int32 × (Nat → Int32) × (Nat → Int32) × (Nat → Int32) × (Nat → Nat → Int32)) => Post r u.1 u.2.1 u.2.2.1 u.2.2.2.1 u.2.2.2.2.1 u.2.2.2.2.2) (fun (u : Int32 × Int32 × (Nat → Int32) × (Nat → Int32) × (Nat → Int32) × (Nat → Nat → Int32)) t => va_P (dC, dI) vwCl (wdX7_ends cI cJ cT cII cJJ ad im gn gpa gbr gth gpe gpr gw gplru gplrl gplrr u.1 u.2.1 xbr u.2.2.1 u.2.2.2.1 u.2.2.2.2.1 u.2.2.2.2.2) t.heap) A) ([.ref (ad 0), .int a1] : List Value).toArray s 0 0 A) (F0 m 27 ls []) := by
    intro  f
    induction f with
    | zero => intro v2 xn xpa xth xpe xpr xw H locs hP hD hS ls hl hw; exact (show False from hw).elim
    | succ f ih =>
      intro v2 xn xpa xth xpe xpr xw H locs hP hD hS ls hl hw
      rw [wpX7_ends_B27] at hw
      refine lv_iload_n hx hb dX7_ends_27 rfl (lv_at hl 2 rfl) ?_
      refine lv_aload_n hx hb dX7_ends_28 rfl (lv_at hl 0 rfl) ?_
      refine va_get (D := (dC, dI)) (ci := 7) (v := .ref (ad 1)) (C := RX7) (T := TX7) (N := 8) hx hb hts (fun w h => List.mem_cons_of_mem _ (List.mem_append_left _ (List.mem_append_left _ (List.mem_append_left _ (List.mem_append_right _ h))))) hown hK hP 0 rfl rfl 0 (by decide) (hts (.fieldLink RX7 12 "BidMarket" "held" "LBidMarket$Holdings;") (List.mem_of_getElem? (i := 2) rfl)) (fun _ h9 => h9) rfl dX7_ends_29 ?_
      refine va_get (D := (dC, dI)) (ci := 1) (v := .ref (ad 18)) (C := RX1) (T := TX1) (N := 4) hx hb hts (fun w h => List.mem_cons_of_mem _ (List.mem_append_left _ (List.mem_append_left _ (List.mem_append_right _ h)))) hown hK hP 1 rfl rfl 2 (by decide) (hts (.fieldLink RX7 81 "BidMarket$Holdings" "plan" "LBidMarket$Rows;") (List.mem_of_getElem? (i := 4) rfl)) (fun _ h9 => h9) rfl dX7_ends_32 ?_
      refine va_get (D := (dC, dI)) (ci := 4) (v := .int gplru) (C := RX4) (T := TX4) (N := 3) hx hb hts (fun w h => List.mem_cons_of_mem _ (List.mem_append_left _ (List.mem_append_right _ h))) hown hK hP 15 rfl rfl 2 (by decide) (hts (.fieldLink RX7 239 "BidMarket$Rows" "used" "I") (List.mem_of_getElem? (i := 5) rfl)) (fun _ h9 => h9) rfl dX7_ends_35 ?_
      refine lv_icmp_ge (tgt := 78) hx hb dX7_ends_38 (by decide) (fun c9 => ?_) (fun c9 => ?_)
      · have hw := hw.1 c9
        refine lv_iload_n hx hb dX7_ends_78 rfl (lv_at hl 1 rfl) ?_
        refine lv_if_ne (tgt := 92) hx hb dX7_ends_79 (by decide) (fun c10 => ?_) (fun c10 => ?_)
        · have hw := hw.1 c10
          refine lv_aload_n hx hb dX7_ends_92 rfl (lv_at hl 0 rfl) ?_
          refine va_get (D := (dC, dI)) (ci := 7) (v := .ref (ad 47)) (C := RX7) (T := TX7) (N := 8) hx hb hts (fun w h => List.mem_cons_of_mem _ (List.mem_append_left _ (List.mem_append_left _ (List.mem_append_left _ (List.mem_append_right _ h))))) hown hK hP 0 rfl rfl 2 (by decide) (hts (.fieldLink RX7 24 "BidMarket" "trial" "LBidMarket$Market;") (List.mem_of_getElem? (i := 1) rfl)) (fun _ h9 => h9) rfl dX7_ends_93 ?_
          refine bw_pvi (wc := (wdX2_pricesTogether cI cJ cT cII cJJ (fun k => ad (k + 47)) xn xpa xbr xpr)) (As := []) (rest := []) ⟨hx, hb, hml, hown, hts⟩ (mX2_pricesTogether l dC dI cI cJ cT cII cJJ (fun k => ad (k + 47)) xn xpa xbr xpr _ hw) (cwV 0 hts gX7_ends_X2_pricesTogether rfl rfl rfl hdX2_pricesTogether ⟨Nat.le_of_ble_eq_true rfl, Nat.le_of_ble_eq_true rfl⟩) hK hP [18, 21] rfl rfl rfl rfl rfl hl.1 rfl (Nat.le_of_ble_eq_true rfl) ⟨Nat.le_of_ble_eq_true rfl, Nat.le_of_ble_eq_true rfl⟩ dX7_ends_96 (fun r11 hw => ?_)
          exact W.iret (v := r11) hx hb hr (fun t ht hW => ⟨⟨r11, (xn, xpa, xth, xpe, xpr, xw), rfl, hw, by show va_P _ _ _ t.heap; rw [ht]; exact hP⟩, hS.F ht⟩) hS.2.2 dX7_ends_99
        · have hw := hw.2 c10
          refine lv_aload_n hx hb dX7_ends_82 rfl (lv_at hl 0 rfl) ?_
          refine va_get (D := (dC, dI)) (ci := 7) (v := .ref (ad 47)) (C := RX7) (T := TX7) (N := 8) hx hb hts (fun w h => List.mem_cons_of_mem _ (List.mem_append_left _ (List.mem_append_left _ (List.mem_append_left _ (List.mem_append_right _ h))))) hown hK hP 0 rfl rfl 2 (by decide) (hts (.fieldLink RX7 24 "BidMarket" "trial" "LBidMarket$Market;") (List.mem_of_getElem? (i := 1) rfl)) (fun _ h9 => h9) rfl dX7_ends_83 ?_
          refine bw_pvi (wc := (wdX2_worthTogether cI cJ cT cII cJJ (fun k => ad (k + 47)) xn xpa xbr xth xw)) (As := []) (rest := []) ⟨hx, hb, hml, hown, hts⟩ (mX2_worthTogether l dC dI cI cJ cT cII cJJ (fun k => ad (k + 47)) xn xpa xbr xth xw _ hw) (cwV 0 hts gX7_ends_X2_worthTogether rfl rfl rfl hdX2_worthTogether ⟨Nat.le_of_ble_eq_true rfl, Nat.le_of_ble_eq_true rfl⟩) hK hP [18, 19, 22, 23, 24, 25, 26, 27, 28, 29, 30] rfl rfl rfl rfl rfl hl.1 rfl (Nat.le_of_ble_eq_true rfl) ⟨Nat.le_of_ble_eq_true rfl, Nat.le_of_ble_eq_true rfl⟩ dX7_ends_86 (fun r12 hw => ?_)
          refine lv_goto (tgt := 99) hx hb dX7_ends_89 (by decide) ?_
          exact W.iret (v := r12) hx hb hr (fun t ht hW => ⟨⟨r12, (xn, xpa, xth, xpe, xpr, xw), rfl, hw, by show va_P _ _ _ t.heap; rw [ht]; exact hP⟩, hS.F ht⟩) hS.2.2 dX7_ends_99
      · have hw := hw.2 c9
        refine lv_aload_n hx hb dX7_ends_41 rfl (lv_at hl 0 rfl) ?_
        refine va_get (D := (dC, dI)) (ci := 7) (v := .ref (ad 47)) (C := RX7) (T := TX7) (N := 8) hx hb hts (fun w h => List.mem_cons_of_mem _ (List.mem_append_left _ (List.mem_append_left _ (List.mem_append_left _ (List.mem_append_right _ h))))) hown hK hP 0 rfl rfl 2 (by decide) (hts (.fieldLink RX7 24 "BidMarket" "trial" "LBidMarket$Market;") (List.mem_of_getElem? (i := 1) rfl)) (fun _ h9 => h9) rfl dX7_ends_42 ?_
        refine lv_aload_n hx hb dX7_ends_45 rfl (lv_at hl 0 rfl) ?_
        refine va_get (D := (dC, dI)) (ci := 7) (v := .ref (ad 1)) (C := RX7) (T := TX7) (N := 8) hx hb hts (fun w h => List.mem_cons_of_mem _ (List.mem_append_left _ (List.mem_append_left _ (List.mem_append_left _ (List.mem_append_right _ h))))) hown hK hP 0 rfl rfl 0 (by decide) (hts (.fieldLink RX7 12 "BidMarket" "held" "LBidMarket$Holdings;") (List.mem_of_getElem? (i := 2) rfl)) (fun _ h9 => h9) rfl dX7_ends_46 ?_
        refine va_get (D := (dC, dI)) (ci := 1) (v := .ref (ad 18)) (C := RX1) (T := TX1) (N := 4) hx hb hts (fun w h => List.mem_cons_of_mem _ (List.mem_append_left _ (List.mem_append_left _ (List.mem_append_right _ h)))) hown hK hP 1 rfl rfl 2 (by decide) (hts (.fieldLink RX7 81 "BidMarket$Holdings" "plan" "LBidMarket$Rows;") (List.mem_of_getElem? (i := 4) rfl)) (fun _ h9 => h9) rfl dX7_ends_49 ?_
        refine va_get (D := (dC, dI)) (ci := 4) (v := .ref (ad 19)) (C := RX4) (T := TX4) (N := 3) hx hb hts (fun w h => List.mem_cons_of_mem _ (List.mem_append_left _ (List.mem_append_right _ h))) hown hK hP 15 rfl rfl 0 (by decide) (hts (.fieldLink RX7 242 "BidMarket$Rows" "left" "[I") (List.mem_of_getElem? (i := 6) rfl)) (fun _ h9 => h9) rfl dX7_ends_52 ?_
        refine lv_iload_n hx hb dX7_ends_55 rfl (lv_at hl 2 rfl) ?_
        have h13 := hw.1
        have hw := hw.2
        refine va_iald hx hb hK hP 16 0 rfl rfl h13 dX7_ends_56 ?_
        refine lv_aload_n hx hb dX7_ends_57 rfl (lv_at hl 0 rfl) ?_
        refine va_get (D := (dC, dI)) (ci := 7) (v := .ref (ad 1)) (C := RX7) (T := TX7) (N := 8) hx hb hts (fun w h => List.mem_cons_of_mem _ (List.mem_append_left _ (List.mem_append_left _ (List.mem_append_left _ (List.mem_append_right _ h))))) hown hK hP 0 rfl rfl 0 (by decide) (hts (.fieldLink RX7 12 "BidMarket" "held" "LBidMarket$Holdings;") (List.mem_of_getElem? (i := 2) rfl)) (fun _ h9 => h9) rfl dX7_ends_58 ?_
        refine va_get (D := (dC, dI)) (ci := 1) (v := .ref (ad 18)) (C := RX1) (T := TX1) (N := 4) hx hb hts (fun w h => List.mem_cons_of_mem _ (List.mem_append_left _ (List.mem_append_left _ (List.mem_append_right _ h)))) hown hK hP 1 rfl rfl 2 (by decide) (hts (.fieldLink RX7 81 "BidMarket$Holdings" "plan" "LBidMarket$Rows;") (List.mem_of_getElem? (i := 4) rfl)) (fun _ h9 => h9) rfl dX7_ends_61 ?_
        refine va_get (D := (dC, dI)) (ci := 4) (v := .ref (ad 20)) (C := RX4) (T := TX4) (N := 3) hx hb hts (fun w h => List.mem_cons_of_mem _ (List.mem_append_left _ (List.mem_append_right _ h))) hown hK hP 15 rfl rfl 1 (by decide) (hts (.fieldLink RX7 245 "BidMarket$Rows" "right" "[I") (List.mem_of_getElem? (i := 7) rfl)) (fun _ h9 => h9) rfl dX7_ends_64 ?_
        refine lv_iload_n hx hb dX7_ends_67 rfl (lv_at hl 2 rfl) ?_
        have h14 := hw.1
        have hw := hw.2
        refine va_iald hx hb hK hP 17 0 rfl rfl h14 dX7_ends_68 ?_
        refine bw_wsv (wc := (wdX7_goOn cI cJ cT cII cJJ (fun k => ad (k + 47)) xn xpa xbr xth xpe xpr xw)) (w1 := (fun (u : Int32 × (Nat → Int32) × (Nat → Int32) × (Nat → Int32)) => wdX7_goOn cI cJ cT cII cJJ (fun k => ad (k + 47)) xn u.1 xbr u.2.1 u.2.2.1 u.2.2.2 xw)) (As := [.ref (ad 47), .int (gplrl v2.toNatClampNeg), .int (gplrr v2.toNatClampNeg)]) (rest := []) ⟨hx, hb, hml, hown, hts⟩ (mX7_goOn l dC dI cI cJ cT cII cJJ (fun k => ad (k + 47)) _ xn xpa xbr xth xpe xpr xw (gplrl v2.toNatClampNeg) (gplrr v2.toNatClampNeg) _ hw) (va_cwS 3 hts gX7_ends_X7_goOn rfl rfl rfl hdX7_goOn ⟨Nat.le_of_ble_eq_true rfl, Nat.le_of_ble_eq_true rfl⟩) hK hP hD hS hA [18, 19, 20, 21, 22, 23, 24, 25, 26, 27, 28, 29, 30] rfl (by decide) (fun _ => rfl) rfl hl.1 rfl (Nat.le_of_ble_eq_true rfl) ⟨Nat.le_of_ble_eq_true rfl, Nat.le_of_ble_eq_true rfl⟩ dX7_ends_69 (fun u H locs hw hP hD hS => ?_)
        obtain ⟨y15, y16, y17, y18⟩ := u
        try dsimp only at hw
        have hP : va_P (dC, dI) vwCl (wdX7_ends cI cJ cT cII cJJ ad im gn gpa gbr gth gpe gpr gw gplru gplrl gplrr xn y15 xbr y16 y17 y18 xw) H := hP
        have hD : va_D A (wdX7_ends cI cJ cT cII cJJ ad im gn gpa gbr gth gpe gpr gw gplru gplrl gplrr xn y15 xbr y16 y17 y18 xw) := hD
        obtain ⟨x19, ex19⟩ : ∃ y : Int32, y = v2 + 1 := ⟨_, rfl⟩
        have hw := hw x19 ex19
        refine lv_iinc (v := x19) (lv' := [(2, .int x19), (0, .ref (ad 0)), (1, .int a1)]) hx hb dX7_ends_72 hl (k := 2) rfl (by rw [ex19]; rfl) (by decide) rfl (fun ls hl => ?_)
        refine lv_goto (tgt := 27) hx hb dX7_ends_75 (by decide) ?_
        exact ih x19 xn y15 y16 y17 y18 xw _ _ hP hD hS ls (lv_sub hl [1, 2, 0] rfl) hw
  unfold wpX7_ends at hw
  refine lv_iload_n hx hb dX7_ends_0 rfl (lv_at hl 1 rfl) ?_
  refine lv_if_lt (tgt := 9) hx hb dX7_ends_1 (by decide) (fun c1 => ?_) (fun c1 => ?_)
  · have hw := hw.1 c1
    refine lv_iconst (v := (-1)) hx hb dX7_ends_9 (by decide) ?_
    exact W.iret (v := (-1)) hx hb hr (fun t ht hW => ⟨⟨(-1), (xn, xpa, xth, xpe, xpr, xw), rfl, hw, by show va_P _ _ _ t.heap; rw [ht]; exact hP⟩, hS.F ht⟩) hS.2.2 dX7_ends_10
  · have hw := hw.2 c1
    refine lv_iload_n hx hb dX7_ends_4 rfl (lv_at hl 1 rfl) ?_
    refine lv_iconst (v := 1) hx hb dX7_ends_5 (by decide) ?_
    refine lv_icmp_le (tgt := 11) hx hb dX7_ends_6 (by decide) (fun c2 => ?_) (fun c2 => ?_)
    · have hw := hw.1 c2
      refine lv_aload_n hx hb dX7_ends_11 rfl (lv_at hl 0 rfl) ?_
      refine va_get (D := (dC, dI)) (ci := 7) (v := .ref (ad 47)) (C := RX7) (T := TX7) (N := 8) hx hb hts (fun w h => List.mem_cons_of_mem _ (List.mem_append_left _ (List.mem_append_left _ (List.mem_append_left _ (List.mem_append_right _ h))))) hown hK hP 0 rfl rfl 2 (by decide) (hts (.fieldLink RX7 24 "BidMarket" "trial" "LBidMarket$Market;") (List.mem_of_getElem? (i := 1) rfl)) (fun _ h9 => h9) rfl dX7_ends_12 ?_
      refine lv_aload_n hx hb dX7_ends_15 rfl (lv_at hl 0 rfl) ?_
      refine va_get (D := (dC, dI)) (ci := 7) (v := .ref (ad 1)) (C := RX7) (T := TX7) (N := 8) hx hb hts (fun w h => List.mem_cons_of_mem _ (List.mem_append_left _ (List.mem_append_left _ (List.mem_append_left _ (List.mem_append_right _ h))))) hown hK hP 0 rfl rfl 0 (by decide) (hts (.fieldLink RX7 12 "BidMarket" "held" "LBidMarket$Holdings;") (List.mem_of_getElem? (i := 2) rfl)) (fun _ h9 => h9) rfl dX7_ends_16 ?_
      refine va_get (D := (dC, dI)) (ci := 1) (v := .ref (ad 2)) (C := RX1) (T := TX1) (N := 4) hx hb hts (fun w h => List.mem_cons_of_mem _ (List.mem_append_left _ (List.mem_append_left _ (List.mem_append_right _ h)))) hown hK hP 1 rfl rfl 0 (by decide) (hts (.fieldLink RX7 60 "BidMarket$Holdings" "market" "LBidMarket$Market;") (List.mem_of_getElem? (i := 3) rfl)) (fun _ h9 => h9) rfl dX7_ends_19 ?_
      refine bw_wvv (wc := (wdX2_become cI cJ cT cII cJJ (fun k => ad (k + 47)) (fun k => ad (k + 2)) xn xpa xbr xth xpe xpr xw gn gpa gbr gth gpe gpr gw)) (w1 := (fun (u : Int32 × Int32 × (Nat → Int32) × (Nat → Int32) × (Nat → Int32) × (Nat → Nat → Int32)) => wdX2_become cI cJ cT cII cJJ (fun k => ad (k + 47)) (fun k => ad (k + 2)) u.1 u.2.1 xbr u.2.2.1 u.2.2.2.1 u.2.2.2.2.1 u.2.2.2.2.2 gn gpa gbr gth gpe gpr gw)) (As := [.ref (ad 2)]) (rest := []) ⟨hx, hb, hml, hown, hts⟩ (mX2_become l dC dI cI cJ cT cII cJJ (fun k => ad (k + 47)) (fun k => ad (k + 2)) _ xn xpa xbr xth xpe xpr xw gn gpa gbr gth gpe gpr gw _ hw) (cwV 1 hts gX7_ends_X2_become rfl rfl rfl hdX2_become ⟨Nat.le_of_ble_eq_true rfl, Nat.le_of_ble_eq_true rfl⟩) hK hP hD hS hA [18, 19, 20, 21, 22, 23, 24, 25, 26, 27, 28, 29, 30, 2, 3, 4, 5, 6, 7, 8, 9, 10, 11, 12, 13, 14] rfl (by decide) (fun _ => rfl) rfl rfl rfl rfl hl.1 rfl (Nat.le_of_ble_eq_true rfl) ⟨Nat.le_of_ble_eq_true rfl, Nat.le_of_ble_eq_true rfl⟩ dX7_ends_22 (fun u H locs hw hP hD hS => ?_)
      obtain ⟨y3, y4, y5, y6, y7, y8⟩ := u
      try dsimp only at hw
      have hP : va_P (dC, dI) vwCl (wdX7_ends cI cJ cT cII cJJ ad im gn gpa gbr gth gpe gpr gw gplru gplrl gplrr y3 y4 xbr y5 y6 y7 y8) H := hP
      have hD : va_D A (wdX7_ends cI cJ cT cII cJJ ad im gn gpa gbr gth gpe gpr gw gplru gplrl gplrr y3 y4 xbr y5 y6 y7 y8) := hD
      refine lv_iconst (v := 0) hx hb dX7_ends_25 (by decide) ?_
      refine lv_istore_n (lv' := [(2, .int 0), (0, .ref (ad 0)), (1, .int a1)]) hx hb dX7_ends_26 rfl hl (by decide) rfl (fun ls hl => ?_)
      obtain ⟨f1, hw⟩ := hw
      exact kB27 f1 0 y3 y4 y5 y6 y7 y8 _ _ hP hD hS ls (lv_sub hl [1, 2, 0] rfl) hw
    · have hw := hw.2 c2
      refine lv_iconst (v := (-1)) hx hb dX7_ends_9 (by decide) ?_
      exact W.iret (v := (-1)) hx hb hr (fun t ht hW => ⟨⟨(-1), (xn, xpa, xth, xpe, xpr, xw), rfl, hw, by show va_P _ _ _ t.heap; rw [ht]; exact hP⟩, hS.F ht⟩) hS.2.2 dX7_ends_10
set_option maxHeartbeats 4000000 in
set_option maxRecDepth 100000 in
theorem mX7_book (l : Launch) (dC : Nat → ClassId) (dI : Nat → Nat → Nat) (cI cJ cT cII cJJ : ClassId) (ad : Nat → Nat) (sz : Nat) (im : Int32) (gn : Int32) (gpa : Int32) (gbr : Int32) (gboru : Int32) (gborl : Nat → Int32) (gborr : Nat → Int32) (a1 : Int32) (a2 : Int32) (Post : Int32 → Int32 → (Nat → Int32) → (Nat → Int32) → Prop) (hw : wpX7_book gn gboru gborl gborr a1 a2 Post) : Met l yX7_book wsX7_book ({ frames := 1, cells := 0, slots := 0, locals := 22 } : Room) (va_Pc [.ref (ad 0), .int a1, .int a2] (fun U => U.heap.size = sz ∧ va_P (dC, dI) vwCl (wdX7_book cI cJ cT cII cJJ ad im gn gpa gbr gboru gborl gborr) U.heap ∧ va_K (dC, dI) vwCl (bw_tys cI cJ cT cII cJJ) U ∧ va_D (fun _ => True) (wdX7_book cI cJ cT cII cJJ ad im gn gpa gbr gboru gborl gborr))) (va_Qi (fun (r : Int32) (u : Int32 × (Nat → Int32) × (Nat → Int32)) => Post r u.1 u.2.1 u.2.2) (fun (u : Int32 × (Nat → Int32) × (Nat → Int32)) t => va_P (dC, dI) vwCl (wdX7_book cI cJ cT cII cJJ ad im gn gpa gbr u.1 u.2.1 u.2.2) t.heap) (va_A (wdX7_book cI cJ cT cII cJJ ad im gn gpa gbr gboru gborl gborr) sz)) 0 0 (va_A (wdX7_book cI cJ cT cII cJJ ad im gn gpa gbr gboru gborl gborr) sz) := by
  refine Met.ofW (cc := cX7_book) (maxL := 3) (ret := (some .int)) (by decide) rfl ?_
  intro p e s m args below meth c s₁ B hml hv
  obtain ⟨rfl, hsz, hP, hK, hD0⟩ := hv
  have hx := B.exec
  have hb := B.bytes
  have hr := B.returns
  have hts := atoms_spec (ws := wsX7_book) B.pre
  have hown : s.vm.findClass RX7 = some m.cls := findClass_of_methodNamed B.named
  have hlocks := B.notSynchronized
  subst hsz
  have hD := hD0.self (sz := s.heap.size)
  generalize hAe : va_A (wdX7_book cI cJ cT cII cJJ ad im gn gpa gbr gboru gborl gborr) s.heap.size = A at hD ⊢
  have hA : ∀ q : Nat, s.heap.size ≤ q → A q := fun q h => by rw [← hAe]; exact Or.inr h
  have hS : va_S A s.heap s.heap [] := va_S.rf
  have hl := lv_entry ([.ref (ad 0), .int a1, .int a2]) (n := 3) (Nat.le_of_ble_eq_true rfl)
  rw [lg_entry_eq]
  generalize (lg_sl ([.ref (ad 0), .int a1, .int a2]) ++ List.replicate (3 - (lg_sl ([.ref (ad 0), .int a1, .int a2])).length) Slot.unset).toArray = ls at hl ⊢
  have hl : lv_has ls 3 [(0, .ref (ad 0)), (1, .int a1), (2, .int a2)] := hl
  unfold wpX7_book at hw
  refine lv_iload_n hx hb dX7_book_0 rfl (lv_at hl 1 rfl) ?_
  refine lv_iconst (v := (-1)) hx hb dX7_book_1 (by decide) ?_
  refine lv_icmp_ne (tgt := 16) hx hb dX7_book_2 (by decide) (fun c1 => ?_) (fun c1 => ?_)
  · have hw := hw.1 c1
    refine lv_aload_n hx hb dX7_book_16 rfl (lv_at hl 0 rfl) ?_
    refine va_get (D := (dC, dI)) (ci := 7) (v := .ref (ad 1)) (C := RX7) (T := TX7) (N := 8) hx hb hts (fun w h => List.mem_cons_of_mem _ (List.mem_append_left _ (List.mem_append_left _ (List.mem_append_left _ (List.mem_append_right _ h))))) hown hK hP 0 rfl rfl 0 (by decide) (hts (.fieldLink RX7 12 "BidMarket" "held" "LBidMarket$Holdings;") (List.mem_of_getElem? (i := 1) rfl)) (fun _ h9 => h9) rfl dX7_book_17 ?_
    refine va_get (D := (dC, dI)) (ci := 1) (v := .ref (ad 2)) (C := RX1) (T := TX1) (N := 4) hx hb hts (fun w h => List.mem_cons_of_mem _ (List.mem_append_left _ (List.mem_append_left _ (List.mem_append_right _ h)))) hown hK hP 1 rfl rfl 0 (by decide) (hts (.fieldLink RX7 60 "BidMarket$Holdings" "market" "LBidMarket$Market;") (List.mem_of_getElem? (i := 3) rfl)) (fun _ h9 => h9) rfl dX7_book_20 ?_
    refine lv_iload_n hx hb dX7_book_23 rfl (lv_at hl 1 rfl) ?_
    refine bw_pvi (wc := (wdX2_has cI cJ cT cII cJJ (fun k => ad (k + 2)) gn gpa gbr)) (As := [.int a1]) (rest := []) ⟨hx, hb, hml, hown, hts⟩ (mX2_has l dC dI cI cJ cT cII cJJ (fun k => ad (k + 2)) gn gpa gbr a1 _ hw) (cwV 1 hts gX7_book_X2_has rfl rfl rfl hdX2_has ⟨Nat.le_of_ble_eq_true rfl, Nat.le_of_ble_eq_true rfl⟩) hK hP [2] rfl rfl rfl rfl rfl hl.1 rfl (Nat.le_of_ble_eq_true rfl) ⟨Nat.le_of_ble_eq_true rfl, Nat.le_of_ble_eq_true rfl⟩ dX7_book_24 (fun r2 hw => ?_)
    refine lv_if_ne (tgt := 32) hx hb dX7_book_27 (by decide) (fun c3 => ?_) (fun c3 => ?_)
    · have hw := hw.1 c3
      refine lv_iload_n hx hb dX7_book_32 rfl (lv_at hl 2 rfl) ?_
      refine lv_if_lt (tgt := 43) hx hb dX7_book_33 (by decide) (fun c4 => ?_) (fun c4 => ?_)
      · have hw := hw.1 c4
        refine lv_bipush (v := (-2)) hx hb dX7_book_43 (by decide) ?_
        exact W.iret (v := (-2)) hx hb hr (fun t ht hW => ⟨⟨(-2), (gboru, gborl, gborr), rfl, hw, by show va_P _ _ _ t.heap; rw [ht]; exact hP⟩, hS.F ht⟩) hS.2.2 dX7_book_45
      · have hw := hw.2 c4
        refine lv_iload_n hx hb dX7_book_36 rfl (lv_at hl 2 rfl) ?_
        refine lv_sipush (v := 9999) hx hb dX7_book_37 (by decide) ?_
        refine lv_icmp_le (tgt := 46) hx hb dX7_book_40 (by decide) (fun c5 => ?_) (fun c5 => ?_)
        · have hw := hw.1 c5
          refine lv_aload_n hx hb dX7_book_46 rfl (lv_at hl 0 rfl) ?_
          refine va_get (D := (dC, dI)) (ci := 7) (v := .ref (ad 1)) (C := RX7) (T := TX7) (N := 8) hx hb hts (fun w h => List.mem_cons_of_mem _ (List.mem_append_left _ (List.mem_append_left _ (List.mem_append_left _ (List.mem_append_right _ h))))) hown hK hP 0 rfl rfl 0 (by decide) (hts (.fieldLink RX7 12 "BidMarket" "held" "LBidMarket$Holdings;") (List.mem_of_getElem? (i := 1) rfl)) (fun _ h9 => h9) rfl dX7_book_47 ?_
          refine va_get (D := (dC, dI)) (ci := 1) (v := .ref (ad 21)) (C := RX1) (T := TX1) (N := 4) hx hb hts (fun w h => List.mem_cons_of_mem _ (List.mem_append_left _ (List.mem_append_left _ (List.mem_append_right _ h)))) hown hK hP 1 rfl rfl 3 (by decide) (hts (.fieldLink RX7 84 "BidMarket$Holdings" "book" "LBidMarket$Rows;") (List.mem_of_getElem? (i := 2) rfl)) (fun _ h9 => h9) rfl dX7_book_50 ?_
          refine lv_iload_n hx hb dX7_book_53 rfl (lv_at hl 1 rfl) ?_
          refine lv_iload_n hx hb dX7_book_54 rfl (lv_at hl 2 rfl) ?_
          refine bw_wvi (wc := (wdX4_append cI cJ cT cII cJJ (fun k => ad (k + 21)) gboru 8 gborl gborr)) (w1 := (fun (u : Int32 × (Nat → Int32) × (Nat → Int32)) => wdX4_append cI cJ cT cII cJJ (fun k => ad (k + 21)) u.1 8 u.2.1 u.2.2)) (As := [.int a1, .int a2]) (rest := []) ⟨hx, hb, hml, hown, hts⟩ (mX4_append l dC dI cI cJ cT cII cJJ (fun k => ad (k + 21)) _ gboru 8 gborl gborr a1 a2 _ hw) (cwV 2 hts gX7_book_X4_append rfl rfl rfl hdX4_append ⟨Nat.le_of_ble_eq_true rfl, Nat.le_of_ble_eq_true rfl⟩) hK hP hD hS hA [3, 4, 5] rfl (by decide) (fun _ => rfl) rfl rfl rfl rfl hl.1 rfl (Nat.le_of_ble_eq_true rfl) ⟨Nat.le_of_ble_eq_true rfl, Nat.le_of_ble_eq_true rfl⟩ dX7_book_55 (fun r6 u H locs hw hP hD hS => ?_)
          obtain ⟨y7, y8, y9⟩ := u
          try dsimp only at hw
          have hP : va_P (dC, dI) vwCl (wdX7_book cI cJ cT cII cJJ ad im gn gpa gbr y7 y8 y9) H := hP
          have hD : va_D A (wdX7_book cI cJ cT cII cJJ ad im gn gpa gbr y7 y8 y9) := hD
          exact W.iret (v := r6) hx hb hr (fun t ht hW => ⟨⟨r6, (y7, y8, y9), rfl, hw, by show va_P _ _ _ t.heap; rw [ht]; exact hP⟩, hS.F ht⟩) hS.2.2 dX7_book_58
        · have hw := hw.2 c5
          refine lv_bipush (v := (-2)) hx hb dX7_book_43 (by decide) ?_
          exact W.iret (v := (-2)) hx hb hr (fun t ht hW => ⟨⟨(-2), (gboru, gborl, gborr), rfl, hw, by show va_P _ _ _ t.heap; rw [ht]; exact hP⟩, hS.F ht⟩) hS.2.2 dX7_book_45
    · have hw := hw.2 c3
      refine lv_iconst (v := (-1)) hx hb dX7_book_30 (by decide) ?_
      exact W.iret (v := (-1)) hx hb hr (fun t ht hW => ⟨⟨(-1), (gboru, gborl, gborr), rfl, hw, by show va_P _ _ _ t.heap; rw [ht]; exact hP⟩, hS.F ht⟩) hS.2.2 dX7_book_31
  · have hw := hw.2 c1
    refine lv_aload_n hx hb dX7_book_5 rfl (lv_at hl 0 rfl) ?_
    refine va_get (D := (dC, dI)) (ci := 7) (v := .ref (ad 1)) (C := RX7) (T := TX7) (N := 8) hx hb hts (fun w h => List.mem_cons_of_mem _ (List.mem_append_left _ (List.mem_append_left _ (List.mem_append_left _ (List.mem_append_right _ h))))) hown hK hP 0 rfl rfl 0 (by decide) (hts (.fieldLink RX7 12 "BidMarket" "held" "LBidMarket$Holdings;") (List.mem_of_getElem? (i := 1) rfl)) (fun _ h9 => h9) rfl dX7_book_6 ?_
    refine va_get (D := (dC, dI)) (ci := 1) (v := .ref (ad 21)) (C := RX1) (T := TX1) (N := 4) hx hb hts (fun w h => List.mem_cons_of_mem _ (List.mem_append_left _ (List.mem_append_left _ (List.mem_append_right _ h)))) hown hK hP 1 rfl rfl 3 (by decide) (hts (.fieldLink RX7 84 "BidMarket$Holdings" "book" "LBidMarket$Rows;") (List.mem_of_getElem? (i := 2) rfl)) (fun _ h9 => h9) rfl dX7_book_9 ?_
    refine bw_wvi (wc := (wdX4_empty cI cJ cT cII cJJ (fun k => ad (k + 21)) gboru)) (w1 := (fun (u : Int32) => wdX4_empty cI cJ cT cII cJJ (fun k => ad (k + 21)) u)) (As := []) (rest := []) ⟨hx, hb, hml, hown, hts⟩ (mX4_empty l dC dI cI cJ cT cII cJJ (fun k => ad (k + 21)) _ gboru _ hw) (cwV 0 hts gX7_book_X4_empty rfl rfl rfl hdX4_empty ⟨Nat.le_of_ble_eq_true rfl, Nat.le_of_ble_eq_true rfl⟩) hK hP hD hS hA [3] rfl (by decide) (fun _ => rfl) rfl rfl rfl rfl hl.1 rfl (Nat.le_of_ble_eq_true rfl) ⟨Nat.le_of_ble_eq_true rfl, Nat.le_of_ble_eq_true rfl⟩ dX7_book_12 (fun r10 u H locs hw hP hD hS => ?_)
    obtain ⟨y11, rfl⟩ : ∃ z, z = u := ⟨_, rfl⟩
    try dsimp only at hw
    have hP : va_P (dC, dI) vwCl (wdX7_book cI cJ cT cII cJJ ad im gn gpa gbr y11 gborl gborr) H := hP
    have hD : va_D A (wdX7_book cI cJ cT cII cJJ ad im gn gpa gbr y11 gborl gborr) := hD
    exact W.iret (v := r10) hx hb hr (fun t ht hW => ⟨⟨r10, (y11, gborl, gborr), rfl, hw, by show va_P _ _ _ t.heap; rw [ht]; exact hP⟩, hS.F ht⟩) hS.2.2 dX7_book_15
set_option maxHeartbeats 4000000 in
set_option maxRecDepth 100000 in
theorem mX7_looked (l : Launch) (dC : Nat → ClassId) (dI : Nat → Nat → Nat) (cI cJ cT cII cJJ : ClassId) (ad : Nat → Nat) (im : Int32) (gn : Int32) (gpa : Int32) (gbr : Int32) (gpr : Nat → Int32) (gboru : Int32) (gborl : Nat → Int32) (gborr : Nat → Int32) (Post : Int32 → Prop) (hw : wpX7_looked gn gpr gboru gborl gborr Post) : Met l yX7_looked wsX7_looked ({ frames := 1, cells := 0, slots := 0, locals := 21 } : Room) (va_Pc [.ref (ad 0)] (fun U => va_P (dC, dI) vwCl (wdX7_looked cI cJ cT cII cJJ ad im gn gpa gbr gpr gboru gborl gborr) U.heap ∧ va_K (dC, dI) vwCl (bw_tys cI cJ cT cII cJJ) U)) (vp_Si Post) 0 0 (fun _ => False) := by
  refine Met.ofW (cc := cX7_looked) (maxL := 3) (ret := (some .int)) (by decide) rfl ?_
  intro p e s m args below meth c s₁ B hml hv
  obtain ⟨rfl, hP, hK⟩ := hv
  have hx := B.exec
  have hb := B.bytes
  have hr := B.returns
  have hts := atoms_spec (ws := wsX7_looked) B.pre
  have hown : s.vm.findClass RX7 = some m.cls := findClass_of_methodNamed B.named
  have hlocks := B.notSynchronized
  have hl := lv_entry ([.ref (ad 0)]) (n := 3) (Nat.le_of_ble_eq_true rfl)
  rw [lg_entry_eq]
  generalize (lg_sl ([.ref (ad 0)]) ++ List.replicate (3 - (lg_sl ([.ref (ad 0)])).length) Slot.unset).toArray = ls at hl ⊢
  have hl : lv_has ls 3 [(0, .ref (ad 0))] := hl
  have kB2 : ∀ f : Nat, ∀ (v1 : Int32), ∀ ls : Array Slot, lv_has ls 3 [(0, .ref (ad 0)), (1, .int v1)] → wpX7_looked_B2 gn gpr gboru gborl gborr Post f v1 → W p l e (headSpec wsX7_looked ({ frames := 1, cells := 0, slots := 0, locals := 21 } : Room)).room s m ([.ref (ad 0)] : List Value).toArray below meth c s.heap [] 0 0 (MQ below (vp_Si Post) ([.ref (ad 0)] : List Value).toArray s 0 0 (fun _ => False)) (F0 m 2 ls []) := by
    intro  f
    induction f with
    | zero => intro v1 ls hl hw; exact (show False from hw).elim
    | succ f ih =>
      intro v1 ls hl hw
      rw [wpX7_looked_B2] at hw
      refine lv_iload_n hx hb dX7_looked_2 rfl (lv_at hl 1 rfl) ?_
      refine lv_aload_n hx hb dX7_looked_3 rfl (lv_at hl 0 rfl) ?_
      refine va_get (D := (dC, dI)) (ci := 7) (v := .ref (ad 1)) (C := RX7) (T := TX7) (N := 8) hx hb hts (fun w h => List.mem_cons_of_mem _ (List.mem_append_left _ (List.mem_append_left _ (List.mem_append_left _ (List.mem_append_right _ h))))) hown hK hP 0 rfl rfl 0 (by decide) (hts (.fieldLink RX7 12 "BidMarket" "held" "LBidMarket$Holdings;") (List.mem_of_getElem? (i := 1) rfl)) (fun _ h9 => h9) rfl dX7_looked_4 ?_
      refine va_get (D := (dC, dI)) (ci := 1) (v := .ref (ad 21)) (C := RX1) (T := TX1) (N := 4) hx hb hts (fun w h => List.mem_cons_of_mem _ (List.mem_append_left _ (List.mem_append_left _ (List.mem_append_right _ h)))) hown hK hP 1 rfl rfl 3 (by decide) (hts (.fieldLink RX7 84 "BidMarket$Holdings" "book" "LBidMarket$Rows;") (List.mem_of_getElem? (i := 2) rfl)) (fun _ h9 => h9) rfl dX7_looked_7 ?_
      refine va_get (D := (dC, dI)) (ci := 4) (v := .int gboru) (C := RX4) (T := TX4) (N := 3) hx hb hts (fun w h => List.mem_cons_of_mem _ (List.mem_append_left _ (List.mem_append_right _ h))) hown hK hP 4 rfl rfl 2 (by decide) (hts (.fieldLink RX7 239 "BidMarket$Rows" "used" "I") (List.mem_of_getElem? (i := 3) rfl)) (fun _ h9 => h9) rfl dX7_looked_10 ?_
      refine lv_icmp_ge (tgt := 78) hx hb dX7_looked_13 (by decide) (fun c1 => ?_) (fun c1 => ?_)
      · have hw := hw.1 c1
        refine lv_bipush (v := (-5)) hx hb dX7_looked_78 (by decide) ?_
        exact W.iret (v := (-5)) hx hb hr (fun t ht hW => ⟨(-5), rfl, hw, ht⟩) (fun _ h => by cases h) dX7_looked_80
      · have hw := hw.2 c1
        refine lv_aload_n hx hb dX7_looked_16 rfl (lv_at hl 0 rfl) ?_
        refine va_get (D := (dC, dI)) (ci := 7) (v := .ref (ad 1)) (C := RX7) (T := TX7) (N := 8) hx hb hts (fun w h => List.mem_cons_of_mem _ (List.mem_append_left _ (List.mem_append_left _ (List.mem_append_left _ (List.mem_append_right _ h))))) hown hK hP 0 rfl rfl 0 (by decide) (hts (.fieldLink RX7 12 "BidMarket" "held" "LBidMarket$Holdings;") (List.mem_of_getElem? (i := 1) rfl)) (fun _ h9 => h9) rfl dX7_looked_17 ?_
        refine va_get (D := (dC, dI)) (ci := 1) (v := .ref (ad 21)) (C := RX1) (T := TX1) (N := 4) hx hb hts (fun w h => List.mem_cons_of_mem _ (List.mem_append_left _ (List.mem_append_left _ (List.mem_append_right _ h)))) hown hK hP 1 rfl rfl 3 (by decide) (hts (.fieldLink RX7 84 "BidMarket$Holdings" "book" "LBidMarket$Rows;") (List.mem_of_getElem? (i := 2) rfl)) (fun _ h9 => h9) rfl dX7_looked_20 ?_
        refine va_get (D := (dC, dI)) (ci := 4) (v := .ref (ad 22)) (C := RX4) (T := TX4) (N := 3) hx hb hts (fun w h => List.mem_cons_of_mem _ (List.mem_append_left _ (List.mem_append_right _ h))) hown hK hP 4 rfl rfl 0 (by decide) (hts (.fieldLink RX7 242 "BidMarket$Rows" "left" "[I") (List.mem_of_getElem? (i := 4) rfl)) (fun _ h9 => h9) rfl dX7_looked_23 ?_
        refine lv_iload_n hx hb dX7_looked_26 rfl (lv_at hl 1 rfl) ?_
        have h2 := hw.1
        have hw := hw.2
        refine va_iald hx hb hK hP 5 0 rfl rfl h2 dX7_looked_27 ?_
        refine lv_topi (fun x3 ex3 => ?_)
        have hw := hw x3 ex3
        refine lv_istore_n (lv' := [(2, .int x3), (0, .ref (ad 0)), (1, .int v1)]) hx hb dX7_looked_28 rfl hl (by decide) rfl (fun ls hl => ?_)
        refine lv_aload_n hx hb dX7_looked_29 rfl (lv_at hl 1 rfl) ?_
        refine va_get (D := (dC, dI)) (ci := 7) (v := .ref (ad 1)) (C := RX7) (T := TX7) (N := 8) hx hb hts (fun w h => List.mem_cons_of_mem _ (List.mem_append_left _ (List.mem_append_left _ (List.mem_append_left _ (List.mem_append_right _ h))))) hown hK hP 0 rfl rfl 0 (by decide) (hts (.fieldLink RX7 12 "BidMarket" "held" "LBidMarket$Holdings;") (List.mem_of_getElem? (i := 1) rfl)) (fun _ h9 => h9) rfl dX7_looked_30 ?_
        refine va_get (D := (dC, dI)) (ci := 1) (v := .ref (ad 2)) (C := RX1) (T := TX1) (N := 4) hx hb hts (fun w h => List.mem_cons_of_mem _ (List.mem_append_left _ (List.mem_append_left _ (List.mem_append_right _ h)))) hown hK hP 1 rfl rfl 0 (by decide) (hts (.fieldLink RX7 60 "BidMarket$Holdings" "market" "LBidMarket$Market;") (List.mem_of_getElem? (i := 5) rfl)) (fun _ h9 => h9) rfl dX7_looked_33 ?_
        refine lv_iload_n hx hb dX7_looked_36 rfl (lv_at hl 0 rfl) ?_
        refine bw_pvi (wc := (wdX2_has cI cJ cT cII cJJ (fun k => ad (k + 2)) gn gpa gbr)) (As := [.int x3]) (rest := []) ⟨hx, hb, hml, hown, hts⟩ (mX2_has l dC dI cI cJ cT cII cJJ (fun k => ad (k + 2)) gn gpa gbr x3 _ hw) (cwV 1 hts gX7_looked_X2_has rfl rfl rfl hdX2_has ⟨Nat.le_of_ble_eq_true rfl, Nat.le_of_ble_eq_true rfl⟩) hK hP [2] rfl rfl rfl rfl rfl hl.1 rfl (Nat.le_of_ble_eq_true rfl) ⟨Nat.le_of_ble_eq_true rfl, Nat.le_of_ble_eq_true rfl⟩ dX7_looked_37 (fun r4 hw => ?_)
        refine lv_if_eq (tgt := 70) hx hb dX7_looked_40 (by decide) (fun c5 => ?_) (fun c5 => ?_)
        · have hw := hw.1 c5
          refine lv_iload_n hx hb dX7_looked_70 rfl (lv_at hl 2 rfl) ?_
          exact W.iret (v := v1) hx hb hr (fun t ht hW => ⟨v1, rfl, hw, ht⟩) (fun _ h => by cases h) dX7_looked_71
        · have hw := hw.2 c5
          refine lv_aload_n hx hb dX7_looked_43 rfl (lv_at hl 1 rfl) ?_
          refine va_get (D := (dC, dI)) (ci := 7) (v := .ref (ad 1)) (C := RX7) (T := TX7) (N := 8) hx hb hts (fun w h => List.mem_cons_of_mem _ (List.mem_append_left _ (List.mem_append_left _ (List.mem_append_left _ (List.mem_append_right _ h))))) hown hK hP 0 rfl rfl 0 (by decide) (hts (.fieldLink RX7 12 "BidMarket" "held" "LBidMarket$Holdings;") (List.mem_of_getElem? (i := 1) rfl)) (fun _ h9 => h9) rfl dX7_looked_44 ?_
          refine va_get (D := (dC, dI)) (ci := 1) (v := .ref (ad 2)) (C := RX1) (T := TX1) (N := 4) hx hb hts (fun w h => List.mem_cons_of_mem _ (List.mem_append_left _ (List.mem_append_left _ (List.mem_append_right _ h)))) hown hK hP 1 rfl rfl 0 (by decide) (hts (.fieldLink RX7 60 "BidMarket$Holdings" "market" "LBidMarket$Market;") (List.mem_of_getElem? (i := 5) rfl)) (fun _ h9 => h9) rfl dX7_looked_47 ?_
          refine va_get (D := (dC, dI)) (ci := 2) (v := .ref (ad 5)) (C := RX2) (T := TX2) (N := 7) hx hb hts (fun w h => List.mem_cons_of_mem _ (List.mem_append_right _ h)) hown hK hP 2 rfl rfl 3 (by decide) (hts (.fieldLink RX7 165 "BidMarket$Market" "prices" "[I") (List.mem_of_getElem? (i := 6) rfl)) (fun _ h9 => h9) rfl dX7_looked_50 ?_
          refine lv_iload_n hx hb dX7_looked_53 rfl (lv_at hl 0 rfl) ?_
          have h6 := hw.1
          have hw := hw.2
          refine va_iald hx hb hK hP 3 0 rfl rfl h6 dX7_looked_54 ?_
          refine lv_aload_n hx hb dX7_looked_55 rfl (lv_at hl 1 rfl) ?_
          refine va_get (D := (dC, dI)) (ci := 7) (v := .ref (ad 1)) (C := RX7) (T := TX7) (N := 8) hx hb hts (fun w h => List.mem_cons_of_mem _ (List.mem_append_left _ (List.mem_append_left _ (List.mem_append_left _ (List.mem_append_right _ h))))) hown hK hP 0 rfl rfl 0 (by decide) (hts (.fieldLink RX7 12 "BidMarket" "held" "LBidMarket$Holdings;") (List.mem_of_getElem? (i := 1) rfl)) (fun _ h9 => h9) rfl dX7_looked_56 ?_
          refine va_get (D := (dC, dI)) (ci := 1) (v := .ref (ad 21)) (C := RX1) (T := TX1) (N := 4) hx hb hts (fun w h => List.mem_cons_of_mem _ (List.mem_append_left _ (List.mem_append_left _ (List.mem_append_right _ h)))) hown hK hP 1 rfl rfl 3 (by decide) (hts (.fieldLink RX7 84 "BidMarket$Holdings" "book" "LBidMarket$Rows;") (List.mem_of_getElem? (i := 2) rfl)) (fun _ h9 => h9) rfl dX7_looked_59 ?_
          refine va_get (D := (dC, dI)) (ci := 4) (v := .ref (ad 23)) (C := RX4) (T := TX4) (N := 3) hx hb hts (fun w h => List.mem_cons_of_mem _ (List.mem_append_left _ (List.mem_append_right _ h))) hown hK hP 4 rfl rfl 1 (by decide) (hts (.fieldLink RX7 245 "BidMarket$Rows" "right" "[I") (List.mem_of_getElem? (i := 7) rfl)) (fun _ h9 => h9) rfl dX7_looked_62 ?_
          refine lv_iload_n hx hb dX7_looked_65 rfl (lv_at hl 2 rfl) ?_
          have h7 := hw.1
          have hw := hw.2
          refine va_iald hx hb hK hP 6 0 rfl rfl h7 dX7_looked_66 ?_
          refine lv_icmp_eq (tgt := 72) hx hb dX7_looked_67 (by decide) (fun c8 => ?_) (fun c8 => ?_)
          · have hw := hw.1 c8
            obtain ⟨x9, ex9⟩ : ∃ y : Int32, y = v1 + 1 := ⟨_, rfl⟩
            have hw := hw x9 ex9
            refine lv_iinc (v := x9) (lv' := [(1, .int x9), (2, .int x3), (0, .ref (ad 0))]) hx hb dX7_looked_72 hl (k := 2) rfl (by rw [ex9]; rfl) (by decide) rfl (fun ls hl => ?_)
            refine lv_goto (tgt := 2) hx hb dX7_looked_75 (by decide) ?_
            exact ih x9 ls (lv_sub hl [2, 0] rfl) hw
          · have hw := hw.2 c8
            refine lv_iload_n hx hb dX7_looked_70 rfl (lv_at hl 2 rfl) ?_
            exact W.iret (v := v1) hx hb hr (fun t ht hW => ⟨v1, rfl, hw, ht⟩) (fun _ h => by cases h) dX7_looked_71
  unfold wpX7_looked at hw
  refine lv_iconst (v := 0) hx hb dX7_looked_0 (by decide) ?_
  refine lv_istore_n (lv' := [(1, .int 0), (0, .ref (ad 0))]) hx hb dX7_looked_1 rfl hl (by decide) rfl (fun ls hl => ?_)
  obtain ⟨f1, hw⟩ := hw
  exact kB2 f1 0 ls (lv_sub hl [1, 0] rfl) hw
set_option maxHeartbeats 4000000 in
set_option maxRecDepth 100000 in
theorem mX7_isTape (l : Launch) (dC : Nat → ClassId) (dI : Nat → Nat → Nat) (cI cJ cT cII cJJ : ClassId) (a0 : Int32) (Post : Int32 → Prop) (hw : wpX7_isTape a0 Post) : Met l yX7_isTape wsX7_isTape ({ frames := 0, cells := 0, slots := 0, locals := 0 } : Room) (va_Pc [.int a0] (fun U => va_P (dC, dI) vwCl [] U.heap ∧ va_K (dC, dI) vwCl (bw_tys cI cJ cT cII cJJ) U)) (vp_Si Post) 0 0 (fun _ => False) := by
  refine Met.ofW (cc := cX7_isTape) (maxL := 1) (ret := (some .boolean)) (by decide) rfl ?_
  intro p e s m args below meth c s₁ B hml hv
  obtain ⟨rfl, hP, hK⟩ := hv
  have hx := B.exec
  have hb := B.bytes
  have hr := B.returns
  have hts := atoms_spec (ws := wsX7_isTape) B.pre
  have hown : s.vm.findClass RX7 = some m.cls := findClass_of_methodNamed B.named
  have hlocks := B.notSynchronized
  have hl := lv_entry ([.int a0]) (n := 1) (Nat.le_of_ble_eq_true rfl)
  rw [lg_entry_eq]
  generalize (lg_sl ([.int a0]) ++ List.replicate (1 - (lg_sl ([.int a0])).length) Slot.unset).toArray = ls at hl ⊢
  have hl : lv_has ls 1 [(0, .int a0)] := hl
  unfold wpX7_isTape at hw
  refine lv_iload_n hx hb dX7_isTape_0 rfl (lv_at hl 0 rfl) ?_
  refine lv_if_lt (tgt := 14) hx hb dX7_isTape_1 (by decide) (fun c1 => ?_) (fun c1 => ?_)
  · have hw := hw.1 c1
    refine lv_iconst (v := 0) hx hb dX7_isTape_14 (by decide) ?_
    exact W.zret (v := 0) hx hb hr rfl (fun t ht hW => ⟨0, rfl, hw, ht⟩) (fun _ h => by cases h) dX7_isTape_15
  · have hw := hw.2 c1
    refine lv_iload_n hx hb dX7_isTape_4 rfl (lv_at hl 0 rfl) ?_
    refine lv_bipush (v := 6) hx hb dX7_isTape_5 (by decide) ?_
    refine lv_icmp_ge (tgt := 14) hx hb dX7_isTape_7 (by decide) (fun c2 => ?_) (fun c2 => ?_)
    · have hw := hw.1 c2
      refine lv_iconst (v := 0) hx hb dX7_isTape_14 (by decide) ?_
      exact W.zret (v := 0) hx hb hr rfl (fun t ht hW => ⟨0, rfl, hw, ht⟩) (fun _ h => by cases h) dX7_isTape_15
    · have hw := hw.2 c2
      refine lv_iconst (v := 1) hx hb dX7_isTape_10 (by decide) ?_
      refine lv_goto (tgt := 15) hx hb dX7_isTape_11 (by decide) ?_
      exact W.zret (v := 1) hx hb hr rfl (fun t ht hW => ⟨1, rfl, hw, ht⟩) (fun _ h => by cases h) dX7_isTape_15
set_option maxHeartbeats 4000000 in
set_option maxRecDepth 100000 in
theorem mX7_judge (l : Launch) (dC : Nat → ClassId) (dI : Nat → Nat → Nat) (cI cJ cT cII cJJ : ClassId) (ad : Nat → Nat) (im : Int32) (gn : Int32) (gpa : Int32) (gbr : Int32) (gpr : Nat → Int32) (so : Nat → Int32) (le : Nat → Int32) (it : Nat → Nat → Int64) (a1 : Int32) (a2 : Int32) (Post : Int32 → Prop) (hw : wpX7_judge gn gpr so le it a1 a2 Post) : Met l yX7_judge wsX7_judge ({ frames := 1, cells := 0, slots := 0, locals := 20 } : Room) (va_Pc [.ref (ad 0), .int a1, .int a2] (fun U => va_P (dC, dI) vwCl (wdX7_judge cI cJ cT cII cJJ ad im gn gpa gbr gpr so le it) U.heap ∧ va_K (dC, dI) vwCl (bw_tys cI cJ cT cII cJJ) U)) (vp_Si Post) 0 0 (fun _ => False) := by
  refine Met.ofW (cc := cX7_judge) (maxL := 5) (ret := (some .int)) (by decide) rfl ?_
  intro p e s m args below meth c s₁ B hml hv
  obtain ⟨rfl, hP, hK⟩ := hv
  have hx := B.exec
  have hb := B.bytes
  have hr := B.returns
  have hts := atoms_spec (ws := wsX7_judge) B.pre
  have hown : s.vm.findClass RX7 = some m.cls := findClass_of_methodNamed B.named
  have hlocks := B.notSynchronized
  have hl := lv_entry ([.ref (ad 0), .int a1, .int a2]) (n := 5) (Nat.le_of_ble_eq_true rfl)
  rw [lg_entry_eq]
  generalize (lg_sl ([.ref (ad 0), .int a1, .int a2]) ++ List.replicate (5 - (lg_sl ([.ref (ad 0), .int a1, .int a2])).length) Slot.unset).toArray = ls at hl ⊢
  have hl : lv_has ls 5 [(0, .ref (ad 0)), (1, .int a1), (2, .int a2)] := hl
  have kB68 : ∀ (v4 : Int32), ∀ ls : Array Slot, lv_has ls 5 [(4, .int v4)] → wpX7_judge_B68 gn gpr so le it a1 a2 Post v4 → W p l e (headSpec wsX7_judge ({ frames := 1, cells := 0, slots := 0, locals := 20 } : Room)).room s m ([.ref (ad 0), .int a1, .int a2] : List Value).toArray below meth c s.heap [] 0 0 (MQ below (vp_Si Post) ([.ref (ad 0), .int a1, .int a2] : List Value).toArray s 0 0 (fun _ => False)) (F0 m 68 ls []) := by
    intro v4 ls hl hw
    unfold wpX7_judge_B68 at hw
    refine lv_bipush (v := 100) hx hb dX7_judge_68 (by decide) ?_
    refine lv_iload hx hb dX7_judge_70 (lv_at hl 0 rfl) ?_
    refine lv_iadd hx hb dX7_judge_72 ?_
    exact W.iret (v := 100 + v4) hx hb hr (fun t ht hW => ⟨100 + v4, rfl, hw, ht⟩) (fun _ h => by cases h) dX7_judge_73
  have kB38 : ∀ f : Nat, ∀ (v4 : Int32), a1.toNatClampNeg < 6 → ∀ ls : Array Slot, lv_has ls 5 [(0, .ref (ad 0)), (2, .int a2), (3, .ref (ad (2 * a1.toNatClampNeg + 69))), (4, .int v4)] → wpX7_judge_B38 gn gpr so le it a1 a2 Post f v4 → W p l e (headSpec wsX7_judge ({ frames := 1, cells := 0, slots := 0, locals := 20 } : Room)).room s m ([.ref (ad 0), .int a1, .int a2] : List Value).toArray below meth c s.heap [] 0 0 (MQ below (vp_Si Post) ([.ref (ad 0), .int a1, .int a2] : List Value).toArray s 0 0 (fun _ => False)) (F0 m 38 ls []) := by
    intro  f
    induction f with
    | zero => intro v4 hlt0 ls hl hw; exact (show False from hw).elim
    | succ f ih =>
      intro v4 hlt0 ls hl hw
      rw [wpX7_judge_B38] at hw
      refine lv_iload hx hb dX7_judge_38 (lv_at hl 3 rfl) ?_
      refine lv_aload_n hx hb dX7_judge_40 rfl (lv_at hl 0 rfl) ?_
      refine va_get (D := (dC, dI)) (ci := 7) (v := .ref (ad 1)) (C := RX7) (T := TX7) (N := 8) hx hb hts (fun w h => List.mem_cons_of_mem _ (List.mem_append_left _ (List.mem_append_left _ (List.mem_append_left _ (List.mem_append_right _ h))))) hown hK hP 0 rfl rfl 0 (by decide) (hts (.fieldLink RX7 12 "BidMarket" "held" "LBidMarket$Holdings;") (List.mem_of_getElem? (i := 3) rfl)) (fun _ h9 => h9) rfl dX7_judge_41 ?_
      refine va_get (D := (dC, dI)) (ci := 1) (v := .ref (ad 2)) (C := RX1) (T := TX1) (N := 4) hx hb hts (fun w h => List.mem_cons_of_mem _ (List.mem_append_left _ (List.mem_append_right _ h))) hown hK hP 1 rfl rfl 0 (by decide) (hts (.fieldLink RX7 60 "BidMarket$Holdings" "market" "LBidMarket$Market;") (List.mem_of_getElem? (i := 4) rfl)) (fun _ h9 => h9) rfl dX7_judge_44 ?_
      refine va_get (D := (dC, dI)) (ci := 2) (v := .int gn) (C := RX2) (T := TX2) (N := 7) hx hb hts (fun w h => List.mem_cons_of_mem _ (List.mem_append_right _ h)) hown hK hP 2 rfl rfl 4 (by decide) (hts (.fieldLink RX7 63 "BidMarket$Market" "n" "I") (List.mem_of_getElem? (i := 5) rfl)) (fun _ h9 => h9) rfl dX7_judge_47 ?_
      refine lv_icmp_ge (tgt := 110) hx hb dX7_judge_50 (by decide) (fun c7 => ?_) (fun c7 => ?_)
      · have hw := hw.1 c7
        refine lv_bipush (v := (-5)) hx hb dX7_judge_110 (by decide) ?_
        exact W.iret (v := (-5)) hx hb hr (fun t ht hW => ⟨(-5), rfl, hw, ht⟩) (fun _ h => by cases h) dX7_judge_112
      · have hw := hw.2 c7
        refine lv_iload_n hx hb dX7_judge_53 rfl (lv_at hl 1 rfl) ?_
        refine lv_if_lt (tgt := 68) hx hb dX7_judge_54 (by decide) (fun c8 => ?_) (fun c8 => ?_)
        · have hw := hw.1 c8
          exact kB68 v4 ls (lv_sub hl [3] rfl) hw
        · have hw := hw.2 c8
          refine lv_iload_n hx hb dX7_judge_57 rfl (lv_at hl 1 rfl) ?_
          refine lv_aload_n hx hb dX7_judge_58 rfl (lv_at hl 2 rfl) ?_
          have g9 : ∀ k, k < 6 → ((wdX7_judge cI cJ cT cII cJJ ad im gn gpa gbr gpr so le it))[5 + 2 * k]? = some (ad (2 * k + 69), .inr (5, [.ref (ad (2 * k + 70)), .int (so k), .int (le k)])) := bw_all6 rfl rfl rfl rfl rfl rfl
          refine va_get (D := (dC, dI)) (ci := 5) (v := .int (le a1.toNatClampNeg)) (C := RX5) (T := TX5) (N := 3) hx hb hts (fun w h => List.mem_cons_of_mem _ (List.mem_append_left _ (List.mem_append_left _ (List.mem_append_right _ h)))) hown hK hP (5 + 2 * a1.toNatClampNeg) (g9 _ hlt0) rfl 2 (by decide) (hts (.fieldLink RX7 258 "BidMarket$Tape" "length" "I") (List.mem_of_getElem? (i := 6) rfl)) (fun _ h9 => h9) rfl dX7_judge_59 ?_
          refine lv_iload hx hb dX7_judge_62 (lv_at hl 3 rfl) ?_
          refine lv_isub hx hb dX7_judge_64 ?_
          refine lv_icmp_lt (tgt := 74) hx hb dX7_judge_65 (by decide) (fun c10 => ?_) (fun c10 => ?_)
          · have hw := hw.1 c10
            refine lv_aload_n hx hb dX7_judge_74 rfl (lv_at hl 2 rfl) ?_
            have g11 : ∀ k, k < 6 → ((wdX7_judge cI cJ cT cII cJJ ad im gn gpa gbr gpr so le it))[5 + 2 * k]? = some (ad (2 * k + 69), .inr (5, [.ref (ad (2 * k + 70)), .int (so k), .int (le k)])) := bw_all6 rfl rfl rfl rfl rfl rfl
            refine va_get (D := (dC, dI)) (ci := 5) (v := .ref (ad (2 * a1.toNatClampNeg + 70))) (C := RX5) (T := TX5) (N := 3) hx hb hts (fun w h => List.mem_cons_of_mem _ (List.mem_append_left _ (List.mem_append_left _ (List.mem_append_right _ h)))) hown hK hP (5 + 2 * a1.toNatClampNeg) (g11 _ hlt0) rfl 0 (by decide) (hts (.fieldLink RX7 261 "BidMarket$Tape" "items" "[J") (List.mem_of_getElem? (i := 7) rfl)) (fun _ h9 => h9) rfl dX7_judge_75 ?_
            refine lv_iload_n hx hb dX7_judge_78 rfl (lv_at hl 1 rfl) ?_
            refine lv_iload hx hb dX7_judge_79 (lv_at hl 3 rfl) ?_
            refine lv_iadd hx hb dX7_judge_81 ?_
            have h12 := hw.1
            have hw := hw.2
            have g13 : ∀ k, k < 6 → ((wdX7_judge cI cJ cT cII cJJ ad im gn gpa gbr gpr so le it))[6 + 2 * k]? = some (ad (2 * k + 70), .inl (cJ, 60, .inr (.inl (it k)))) := bw_all6 rfl rfl rfl rfl rfl rfl
            refine va_lald hx hb hK hP (6 + 2 * a1.toNatClampNeg) 1 (g13 _ hlt0) rfl h12 dX7_judge_82 ?_
            refine lv_aload_n hx hb dX7_judge_83 rfl (lv_at hl 0 rfl) ?_
            refine va_get (D := (dC, dI)) (ci := 7) (v := .ref (ad 1)) (C := RX7) (T := TX7) (N := 8) hx hb hts (fun w h => List.mem_cons_of_mem _ (List.mem_append_left _ (List.mem_append_left _ (List.mem_append_left _ (List.mem_append_right _ h))))) hown hK hP 0 rfl rfl 0 (by decide) (hts (.fieldLink RX7 12 "BidMarket" "held" "LBidMarket$Holdings;") (List.mem_of_getElem? (i := 3) rfl)) (fun _ h9 => h9) rfl dX7_judge_84 ?_
            refine va_get (D := (dC, dI)) (ci := 1) (v := .ref (ad 2)) (C := RX1) (T := TX1) (N := 4) hx hb hts (fun w h => List.mem_cons_of_mem _ (List.mem_append_left _ (List.mem_append_right _ h))) hown hK hP 1 rfl rfl 0 (by decide) (hts (.fieldLink RX7 60 "BidMarket$Holdings" "market" "LBidMarket$Market;") (List.mem_of_getElem? (i := 4) rfl)) (fun _ h9 => h9) rfl dX7_judge_87 ?_
            refine va_get (D := (dC, dI)) (ci := 2) (v := .ref (ad 5)) (C := RX2) (T := TX2) (N := 7) hx hb hts (fun w h => List.mem_cons_of_mem _ (List.mem_append_right _ h)) hown hK hP 2 rfl rfl 3 (by decide) (hts (.fieldLink RX7 165 "BidMarket$Market" "prices" "[I") (List.mem_of_getElem? (i := 8) rfl)) (fun _ h9 => h9) rfl dX7_judge_90 ?_
            refine lv_iload hx hb dX7_judge_93 (lv_at hl 3 rfl) ?_
            have h14 := hw.1
            have hw := hw.2
            refine va_iald hx hb hK hP 3 0 rfl rfl h14 dX7_judge_95 ?_
            refine lv_i2l hx hb dX7_judge_96 rfl ?_
            refine W.lcmp hx hb dX7_judge_97 ?_
            refine lv_if_eq (tgt := 104) hx hb dX7_judge_98 (by decide) (fun c15 => ?_) (fun c15 => ?_)
            · have hw := hw.1 c15
              obtain ⟨x16, ex16⟩ : ∃ y : Int32, y = v4 + 1 := ⟨_, rfl⟩
              have hw := hw x16 ex16
              refine lv_iinc (v := x16) (lv' := [(4, .int x16), (0, .ref (ad 0)), (2, .int a2), (3, .ref (ad (2 * a1.toNatClampNeg + 69)))]) hx hb dX7_judge_104 hl (k := 3) rfl (by rw [ex16]; rfl) (by decide) rfl (fun ls hl => ?_)
              refine lv_goto (tgt := 38) hx hb dX7_judge_107 (by decide) ?_
              exact ih x16 hlt0 ls (lv_sub hl [1, 2, 3, 0] rfl) hw
            · have hw := hw.2 c15
              refine lv_iload hx hb dX7_judge_101 (lv_at hl 3 rfl) ?_
              exact W.iret (v := v4) hx hb hr (fun t ht hW => ⟨v4, rfl, hw, ht⟩) (fun _ h => by cases h) dX7_judge_103
          · have hw := hw.2 c10
            exact kB68 v4 ls (lv_sub hl [3] rfl) hw
  have kB35 : a1.toNatClampNeg < 6 → ∀ ls : Array Slot, lv_has ls 5 [(0, .ref (ad 0)), (2, .int a2), (3, .ref (ad (2 * a1.toNatClampNeg + 69)))] → wpX7_judge_B35 gn gpr so le it a1 a2 Post → W p l e (headSpec wsX7_judge ({ frames := 1, cells := 0, slots := 0, locals := 20 } : Room)).room s m ([.ref (ad 0), .int a1, .int a2] : List Value).toArray below meth c s.heap [] 0 0 (MQ below (vp_Si Post) ([.ref (ad 0), .int a1, .int a2] : List Value).toArray s 0 0 (fun _ => False)) (F0 m 35 ls []) := by
    intro hlt0 ls hl hw
    unfold wpX7_judge_B35 at hw
    refine lv_iconst (v := 0) hx hb dX7_judge_35 (by decide) ?_
    refine lv_istore (lv' := [(4, .int 0), (0, .ref (ad 0)), (2, .int a2), (3, .ref (ad (2 * a1.toNatClampNeg + 69)))]) hx hb dX7_judge_36 hl (by decide) rfl (fun ls hl => ?_)
    obtain ⟨f1, hw⟩ := hw
    exact kB38 f1 0 hlt0 ls (lv_sub hl [1, 2, 3, 0] rfl) hw
  unfold wpX7_judge at hw
  refine lv_iload_n hx hb dX7_judge_0 rfl (lv_at hl 1 rfl) ?_
  refine bw_psi (wc := []) (As := [.int a1]) (rest := []) ⟨hx, hb, hml, hown, hts⟩ (mX7_isTape l dC dI cI cJ cT cII cJJ a1 _ hw) (va_cwS 1 hts gX7_judge_X7_isTape rfl rfl rfl hdX7_isTape ⟨Nat.le_of_ble_eq_true rfl, Nat.le_of_ble_eq_true rfl⟩) hK hP [] rfl rfl hl.1 rfl (Nat.le_of_ble_eq_true rfl) ⟨Nat.le_of_ble_eq_true rfl, Nat.le_of_ble_eq_true rfl⟩ dX7_judge_1 (fun r1 hw => ?_)
  refine lv_if_ne (tgt := 9) hx hb dX7_judge_4 (by decide) (fun c2 => ?_) (fun c2 => ?_)
  · have hw := hw.1 c2
    refine lv_aload_n hx hb dX7_judge_9 rfl (lv_at hl 0 rfl) ?_
    refine va_get (D := (dC, dI)) (ci := 7) (v := .ref (ad 68)) (C := RX7) (T := TX7) (N := 8) hx hb hts (fun w h => List.mem_cons_of_mem _ (List.mem_append_left _ (List.mem_append_left _ (List.mem_append_left _ (List.mem_append_right _ h))))) hown hK hP 0 rfl rfl 6 (by decide) (hts (.fieldLink RX7 51 "BidMarket" "tapes" "[LBidMarket$Tape;") (List.mem_of_getElem? (i := 1) rfl)) (fun _ h9 => h9) rfl dX7_judge_10 ?_
    refine lv_iload_n hx hb dX7_judge_13 rfl (lv_at hl 1 rfl) ?_
    have h3 := hw.1
    have hw := hw.2
    have q4 := bw_lt h3
    refine bw_aald (g := fun i => ad (2 * i + 69)) (b := ad (2 * a1.toNatClampNeg + 69)) hx hb hK hP 4 2 rfl rfl rfl (fun k h => if_pos h) h3 rfl dX7_judge_14 ?_
    refine lv_astore_n (lv' := [(3, .ref (ad (2 * a1.toNatClampNeg + 69))), (0, .ref (ad 0)), (1, .int a1), (2, .int a2)]) hx hb dX7_judge_15 rfl hl (by decide) rfl (fun ls hl => ?_)
    refine lv_aload_n hx hb dX7_judge_16 rfl (lv_at hl 0 rfl) ?_
    have g5 : ∀ k, k < 6 → ((wdX7_judge cI cJ cT cII cJJ ad im gn gpa gbr gpr so le it))[5 + 2 * k]? = some (ad (2 * k + 69), .inr (5, [.ref (ad (2 * k + 70)), .int (so k), .int (le k)])) := bw_all6 rfl rfl rfl rfl rfl rfl
    refine va_get (D := (dC, dI)) (ci := 5) (v := .int (so a1.toNatClampNeg)) (C := RX5) (T := TX5) (N := 3) hx hb hts (fun w h => List.mem_cons_of_mem _ (List.mem_append_left _ (List.mem_append_left _ (List.mem_append_right _ h)))) hown hK hP (5 + 2 * a1.toNatClampNeg) (g5 _ q4) rfl 1 (by decide) (hts (.fieldLink RX7 255 "BidMarket$Tape" "sort" "I") (List.mem_of_getElem? (i := 2) rfl)) (fun _ h9 => h9) rfl dX7_judge_17 ?_
    refine lv_iconst (v := (-1)) hx hb dX7_judge_20 (by decide) ?_
    refine lv_icmp_eq (tgt := 35) hx hb dX7_judge_21 (by decide) (fun c6 => ?_) (fun c6 => ?_)
    · have hw := hw.1 c6
      exact kB35 q4 ls (lv_sub hl [1, 3, 0] rfl) hw
    · have hw := hw.2 c6
      refine lv_aload_n hx hb dX7_judge_24 rfl (lv_at hl 0 rfl) ?_
      have g17 : ∀ k, k < 6 → ((wdX7_judge cI cJ cT cII cJJ ad im gn gpa gbr gpr so le it))[5 + 2 * k]? = some (ad (2 * k + 69), .inr (5, [.ref (ad (2 * k + 70)), .int (so k), .int (le k)])) := bw_all6 rfl rfl rfl rfl rfl rfl
      refine va_get (D := (dC, dI)) (ci := 5) (v := .int (so a1.toNatClampNeg)) (C := RX5) (T := TX5) (N := 3) hx hb hts (fun w h => List.mem_cons_of_mem _ (List.mem_append_left _ (List.mem_append_left _ (List.mem_append_right _ h)))) hown hK hP (5 + 2 * a1.toNatClampNeg) (g17 _ q4) rfl 1 (by decide) (hts (.fieldLink RX7 255 "BidMarket$Tape" "sort" "I") (List.mem_of_getElem? (i := 2) rfl)) (fun _ h9 => h9) rfl dX7_judge_25 ?_
      refine lv_iconst (v := 3) hx hb dX7_judge_28 (by decide) ?_
      refine lv_icmp_eq (tgt := 35) hx hb dX7_judge_29 (by decide) (fun c18 => ?_) (fun c18 => ?_)
      · have hw := hw.1 c18
        exact kB35 q4 ls (lv_sub hl [1, 3, 0] rfl) hw
      · have hw := hw.2 c18
        refine lv_bipush (v := (-12)) hx hb dX7_judge_32 (by decide) ?_
        exact W.iret (v := (-12)) hx hb hr (fun t ht hW => ⟨(-12), rfl, hw, ht⟩) (fun _ h => by cases h) dX7_judge_34
  · have hw := hw.2 c2
    refine lv_iconst (v := (-1)) hx hb dX7_judge_7 (by decide) ?_
    exact W.iret (v := (-1)) hx hb hr (fun t ht hW => ⟨(-1), rfl, hw, ht⟩) (fun _ h => by cases h) dX7_judge_8
set_option maxHeartbeats 4000000 in
set_option maxRecDepth 100000 in
theorem mX7_image (l : Launch) (dC : Nat → ClassId) (dI : Nat → Nat → Nat) (cI cJ cT cII cJJ : ClassId) (ad : Nat → Nat) (sz : Nat) (im : Int32) (gn : Int32) (gpa : Int32) (gbr : Int32) (gth : Nat → Int32) (gpe : Nat → Int32) (gpr : Nat → Int32) (gw : Nat → Nat → Int32) (gseru : Int32) (gserl : Nat → Int32) (gserr : Nat → Int32) (gplru : Int32) (gplrl : Nat → Int32) (gplrr : Nat → Int32) (gboru : Int32) (gborl : Nat → Int32) (gborr : Nat → Int32) (kn : Int32) (kpa : Int32) (kbr : Int32) (kth : Nat → Int32) (kpe : Nat → Int32) (kpr : Nat → Int32) (kw : Nat → Nat → Int32) (kseru : Int32) (kserl : Nat → Int32) (kserr : Nat → Int32) (kplru : Int32) (kplrl : Nat → Int32) (kplrr : Nat → Int32) (kboru : Int32) (kborl : Nat → Int32) (kborr : Nat → Int32) (Post : Int32 → Int32 → Int32 → Int32 → (Nat → Int32) → (Nat → Int32) → (Nat → Int32) → (Nat → Nat → Int32) → Int32 → (Nat → Int32) → (Nat → Int32) → Int32 → (Nat → Int32) → (Nat → Int32) → Int32 → (Nat → Int32) → (Nat → Int32) → Prop) (hw : wpX7_image im gn gpa gth gpe gpr gw gseru gserl gserr gplru gplrl gplrr gboru gborl gborr kn kpa kth kpe kpr kw kseru kserl kserr kplru kplrl kplrr kboru kborl kborr Post) : Met l yX7_image wsX7_image ({ frames := 3, cells := 0, slots := 0, locals := 107 } : Room) (va_Pc [.ref (ad 0)] (fun U => U.heap.size = sz ∧ va_P (dC, dI) vwCl (wdX7_image cI cJ cT cII cJJ ad im gn gpa gbr gth gpe gpr gw gseru gserl gserr gplru gplrl gplrr gboru gborl gborr kn kpa kbr kth kpe kpr kw kseru kserl kserr kplru kplrl kplrr kboru kborl kborr) U.heap ∧ va_K (dC, dI) vwCl (bw_tys cI cJ cT cII cJJ) U ∧ va_D (fun _ => True) (wdX7_image cI cJ cT cII cJJ ad im gn gpa gbr gth gpe gpr gw gseru gserl gserr gplru gplrl gplrr gboru gborl gborr kn kpa kbr kth kpe kpr kw kseru kserl kserr kplru kplrl kplrr kboru kborl kborr))) (va_Qi (fun (r : Int32) (u : Int32 × Int32 × Int32 × (Nat → Int32) × (Nat → Int32) × (Nat → Int32) × (Nat → Nat → Int32) × Int32 × (Nat → Int32) × (Nat → Int32) × Int32 × (Nat → Int32) × (Nat → Int32) × Int32 × (Nat → Int32) × (Nat → Int32)) => Post r u.1 u.2.1 u.2.2.1 u.2.2.2.1 u.2.2.2.2.1 u.2.2.2.2.2.1 u.2.2.2.2.2.2.1 u.2.2.2.2.2.2.2.1 u.2.2.2.2.2.2.2.2.1 u.2.2.2.2.2.2.2.2.2.1 u.2.2.2.2.2.2.2.2.2.2.1 u.2.2.2.2.2.2.2.2.2.2.2.1 u.2.2.2.2.2.2.2.2.2.2.2.2.1 u.2.2.2.2.2.2.2.2.2.2.2.2.2.1 u.2.2.2.2.2.2.2.2.2.2.2.2.2.2.1 u.2.2.2.2.2.2.2.2.2.2.2.2.2.2.2) (fun (u : Int32 × Int32 × Int32 × (Nat → Int32) × (Nat → Int32) × (Nat → Int32) × (Nat → Nat → Int32) × Int32 × (Nat → Int32) × (Nat → Int32) × Int32 × (Nat → Int32) × (Nat → Int32) × Int32 × (Nat → Int32) × (Nat → Int32)) t => va_P (dC, dI) vwCl (wdX7_image cI cJ cT cII cJJ ad u.1 gn gpa gbr gth gpe gpr gw gseru gserl gserr gplru gplrl gplrr gboru gborl gborr u.2.1 u.2.2.1 kbr u.2.2.2.1 u.2.2.2.2.1 u.2.2.2.2.2.1 u.2.2.2.2.2.2.1 u.2.2.2.2.2.2.2.1 u.2.2.2.2.2.2.2.2.1 u.2.2.2.2.2.2.2.2.2.1 u.2.2.2.2.2.2.2.2.2.2.1 u.2.2.2.2.2.2.2.2.2.2.2.1 u.2.2.2.2.2.2.2.2.2.2.2.2.1 u.2.2.2.2.2.2.2.2.2.2.2.2.2.1 u.2.2.2.2.2.2.2.2.2.2.2.2.2.2.1 u.2.2.2.2.2.2.2.2.2.2.2.2.2.2.2) t.heap) (va_A (wdX7_image cI cJ cT cII cJJ ad im gn gpa gbr gth gpe gpr gw gseru gserl gserr gplru gplrl gplrr gboru gborl gborr kn kpa kbr kth kpe kpr kw kseru kserl kserr kplru kplrl kplrr kboru kborl kborr) sz)) 0 0 (va_A (wdX7_image cI cJ cT cII cJJ ad im gn gpa gbr gth gpe gpr gw gseru gserl gserr gplru gplrl gplrr gboru gborl gborr kn kpa kbr kth kpe kpr kw kseru kserl kserr kplru kplrl kplrr kboru kborl kborr) sz) := by
  refine Met.ofW (cc := cX7_image) (maxL := 1) (ret := (some .int)) (by decide) rfl ?_
  intro p e s m args below meth c s₁ B hml hv
  obtain ⟨rfl, hsz, hP, hK, hD0⟩ := hv
  have hx := B.exec
  have hb := B.bytes
  have hr := B.returns
  have hts := atoms_spec (ws := wsX7_image) B.pre
  have hown : s.vm.findClass RX7 = some m.cls := findClass_of_methodNamed B.named
  have hlocks := B.notSynchronized
  subst hsz
  have hD := hD0.self (sz := s.heap.size)
  generalize hAe : va_A (wdX7_image cI cJ cT cII cJJ ad im gn gpa gbr gth gpe gpr gw gseru gserl gserr gplru gplrl gplrr gboru gborl gborr kn kpa kbr kth kpe kpr kw kseru kserl kserr kplru kplrl kplrr kboru kborl kborr) s.heap.size = A at hD ⊢
  have hA : ∀ q : Nat, s.heap.size ≤ q → A q := fun q h => by rw [← hAe]; exact Or.inr h
  have hS : va_S A s.heap s.heap [] := va_S.rf
  have hl := lv_entry ([.ref (ad 0)]) (n := 1) (Nat.le_of_ble_eq_true rfl)
  rw [lg_entry_eq]
  generalize (lg_sl ([.ref (ad 0)]) ++ List.replicate (1 - (lg_sl ([.ref (ad 0)])).length) Slot.unset).toArray = ls at hl ⊢
  have hl : lv_has ls 1 [(0, .ref (ad 0))] := hl
  unfold wpX7_image at hw
  refine lv_aload_n hx hb dX7_image_0 rfl (lv_at hl 0 rfl) ?_
  refine va_get (D := (dC, dI)) (ci := 7) (v := .ref (ad 24)) (C := RX7) (T := TX7) (N := 8) hx hb hts (fun w h => List.mem_cons_of_mem _ (List.mem_append_left _ (List.mem_append_left _ (List.mem_append_left _ (List.mem_append_right _ h))))) hown hK hP 0 rfl rfl 1 (by decide) (hts (.fieldLink RX7 18 "BidMarket" "kept" "LBidMarket$Holdings;") (List.mem_of_getElem? (i := 1) rfl)) (fun _ h9 => h9) rfl dX7_image_1 ?_
  refine lv_aload_n hx hb dX7_image_4 rfl (lv_at hl 0 rfl) ?_
  refine va_get (D := (dC, dI)) (ci := 7) (v := .ref (ad 1)) (C := RX7) (T := TX7) (N := 8) hx hb hts (fun w h => List.mem_cons_of_mem _ (List.mem_append_left _ (List.mem_append_left _ (List.mem_append_left _ (List.mem_append_right _ h))))) hown hK hP 0 rfl rfl 0 (by decide) (hts (.fieldLink RX7 12 "BidMarket" "held" "LBidMarket$Holdings;") (List.mem_of_getElem? (i := 2) rfl)) (fun _ h9 => h9) rfl dX7_image_5 ?_
  refine bw_wvv (wc := (wdX1_become cI cJ cT cII cJJ (fun k => ad (k + 24)) (fun k => ad (k + 1)) kn kpa kbr kth kpe kpr kw kseru kserl kserr kplru kplrl kplrr kboru kborl kborr gn gpa gbr gth gpe gpr gw gseru gserl gserr gplru gplrl gplrr gboru gborl gborr)) (w1 := (fun (u : Int32 × Int32 × (Nat → Int32) × (Nat → Int32) × (Nat → Int32) × (Nat → Nat → Int32) × Int32 × (Nat → Int32) × (Nat → Int32) × Int32 × (Nat → Int32) × (Nat → Int32) × Int32 × (Nat → Int32) × (Nat → Int32)) => wdX1_become cI cJ cT cII cJJ (fun k => ad (k + 24)) (fun k => ad (k + 1)) u.1 u.2.1 kbr u.2.2.1 u.2.2.2.1 u.2.2.2.2.1 u.2.2.2.2.2.1 u.2.2.2.2.2.2.1 u.2.2.2.2.2.2.2.1 u.2.2.2.2.2.2.2.2.1 u.2.2.2.2.2.2.2.2.2.1 u.2.2.2.2.2.2.2.2.2.2.1 u.2.2.2.2.2.2.2.2.2.2.2.1 u.2.2.2.2.2.2.2.2.2.2.2.2.1 u.2.2.2.2.2.2.2.2.2.2.2.2.2.1 u.2.2.2.2.2.2.2.2.2.2.2.2.2.2 gn gpa gbr gth gpe gpr gw gseru gserl gserr gplru gplrl gplrr gboru gborl gborr)) (As := [.ref (ad 1)]) (rest := []) ⟨hx, hb, hml, hown, hts⟩ (mX1_become l dC dI cI cJ cT cII cJJ (fun k => ad (k + 24)) (fun k => ad (k + 1)) _ kn kpa kbr kth kpe kpr kw kseru kserl kserr kplru kplrl kplrr kboru kborl kborr gn gpa gbr gth gpe gpr gw gseru gserl gserr gplru gplrl gplrr gboru gborl gborr _ hw) (cwV 1 hts gX7_image_X1_become rfl rfl rfl hdX1_become ⟨Nat.le_of_ble_eq_true rfl, Nat.le_of_ble_eq_true rfl⟩) hK hP hD hS hA [24, 25, 26, 27, 28, 29, 30, 31, 32, 33, 34, 35, 36, 37, 38, 39, 40, 41, 42, 43, 44, 45, 46, 1, 2, 3, 4, 5, 6, 7, 8, 9, 10, 11, 12, 13, 14, 15, 16, 17, 18, 19, 20, 21, 22, 23] rfl (by decide) (fun _ => rfl) rfl rfl rfl rfl hl.1 rfl (Nat.le_of_ble_eq_true rfl) ⟨Nat.le_of_ble_eq_true rfl, Nat.le_of_ble_eq_true rfl⟩ dX7_image_8 (fun u H locs hw hP hD hS => ?_)
  obtain ⟨y1, y2, y3, y4, y5, y6, y7, y8, y9, y10, y11, y12, y13, y14, y15⟩ := u
  try dsimp only at hw
  have hP : va_P (dC, dI) vwCl (wdX7_image cI cJ cT cII cJJ ad im gn gpa gbr gth gpe gpr gw gseru gserl gserr gplru gplrl gplrr gboru gborl gborr y1 y2 kbr y3 y4 y5 y6 y7 y8 y9 y10 y11 y12 y13 y14 y15) H := hP
  have hD : va_D A (wdX7_image cI cJ cT cII cJJ ad im gn gpa gbr gth gpe gpr gw gseru gserl gserr gplru gplrl gplrr gboru gborl gborr y1 y2 kbr y3 y4 y5 y6 y7 y8 y9 y10 y11 y12 y13 y14 y15) := hD
  refine lv_aload_n hx hb dX7_image_11 rfl (lv_at hl 0 rfl) ?_
  refine lv_iconst (v := 1) hx hb dX7_image_12 (by decide) ?_
  refine va_put (D := (dC, dI)) (ci := 7) (v := .int 1) (ty := .boolean) (C := RX7) (T := TX7) (N := 8) hx hb hts (fun w h => List.mem_cons_of_mem _ (List.mem_append_left _ (List.mem_append_left _ (List.mem_append_left _ (List.mem_append_right _ h))))) tyX7 tyX7_ok nmX7 hown hK hP hD hS 0 rfl rfl 7 (by decide) (hts (.fieldLink RX7 55 "BidMarket" "imaged" "Z") (List.mem_of_getElem? (i := 3) rfl)) (fun _ h9 => h9) rfl (by decide +kernel) rfl rfl (Nat.le_of_ble_eq_true rfl) dX7_image_13 (fun H locs hP hD hS => ?_)
  have hP : va_P (dC, dI) vwCl (wdX7_image cI cJ cT cII cJJ ad 1 gn gpa gbr gth gpe gpr gw gseru gserl gserr gplru gplrl gplrr gboru gborl gborr y1 y2 kbr y3 y4 y5 y6 y7 y8 y9 y10 y11 y12 y13 y14 y15) H := hP
  have hD : va_D A (wdX7_image cI cJ cT cII cJJ ad 1 gn gpa gbr gth gpe gpr gw gseru gserl gserr gplru gplrl gplrr gboru gborl gborr y1 y2 kbr y3 y4 y5 y6 y7 y8 y9 y10 y11 y12 y13 y14 y15) := hD
  refine lv_aload_n hx hb dX7_image_16 rfl (lv_at hl 0 rfl) ?_
  refine va_get (D := (dC, dI)) (ci := 7) (v := .ref (ad 1)) (C := RX7) (T := TX7) (N := 8) hx hb hts (fun w h => List.mem_cons_of_mem _ (List.mem_append_left _ (List.mem_append_left _ (List.mem_append_left _ (List.mem_append_right _ h))))) hown hK hP 0 rfl rfl 0 (by decide) (hts (.fieldLink RX7 12 "BidMarket" "held" "LBidMarket$Holdings;") (List.mem_of_getElem? (i := 2) rfl)) (fun _ h9 => h9) rfl dX7_image_17 ?_
  refine va_get (D := (dC, dI)) (ci := 1) (v := .ref (ad 2)) (C := RX1) (T := TX1) (N := 4) hx hb hts (fun w h => List.mem_cons_of_mem _ (List.mem_append_left _ (List.mem_append_left _ (List.mem_append_right _ h)))) hown hK hP 1 rfl rfl 0 (by decide) (hts (.fieldLink RX7 60 "BidMarket$Holdings" "market" "LBidMarket$Market;") (List.mem_of_getElem? (i := 4) rfl)) (fun _ h9 => h9) rfl dX7_image_20 ?_
  refine va_get (D := (dC, dI)) (ci := 2) (v := .int gn) (C := RX2) (T := TX2) (N := 7) hx hb hts (fun w h => List.mem_cons_of_mem _ (List.mem_append_left _ (List.mem_append_right _ h))) hown hK hP 2 rfl rfl 4 (by decide) (hts (.fieldLink RX7 63 "BidMarket$Market" "n" "I") (List.mem_of_getElem? (i := 5) rfl)) (fun _ h9 => h9) rfl dX7_image_23 ?_
  exact W.iret (v := gn) hx hb hr (fun t ht hW => ⟨⟨gn, (1, y1, y2, y3, y4, y5, y6, y7, y8, y9, y10, y11, y12, y13, y14, y15), rfl, hw, by show va_P _ _ _ t.heap; rw [ht]; exact hP⟩, hS.F ht⟩) hS.2.2 dX7_image_26
set_option maxHeartbeats 4000000 in
set_option maxRecDepth 100000 in
theorem mX7_undo (l : Launch) (dC : Nat → ClassId) (dI : Nat → Nat → Nat) (cI cJ cT cII cJJ : ClassId) (ad : Nat → Nat) (sz : Nat) (im : Int32) (gn : Int32) (gpa : Int32) (gbr : Int32) (gth : Nat → Int32) (gpe : Nat → Int32) (gpr : Nat → Int32) (gw : Nat → Nat → Int32) (gseru : Int32) (gserl : Nat → Int32) (gserr : Nat → Int32) (gplru : Int32) (gplrl : Nat → Int32) (gplrr : Nat → Int32) (gboru : Int32) (gborl : Nat → Int32) (gborr : Nat → Int32) (kn : Int32) (kpa : Int32) (kbr : Int32) (kth : Nat → Int32) (kpe : Nat → Int32) (kpr : Nat → Int32) (kw : Nat → Nat → Int32) (kseru : Int32) (kserl : Nat → Int32) (kserr : Nat → Int32) (kplru : Int32) (kplrl : Nat → Int32) (kplrr : Nat → Int32) (kboru : Int32) (kborl : Nat → Int32) (kborr : Nat → Int32) (Post : Int32 → Int32 → Int32 → (Nat → Int32) → (Nat → Int32) → (Nat → Int32) → (Nat → Nat → Int32) → Int32 → (Nat → Int32) → (Nat → Int32) → Int32 → (Nat → Int32) → (Nat → Int32) → Int32 → (Nat → Int32) → (Nat → Int32) → Prop) (hw : wpX7_undo im gn gpa gth gpe gpr gw gseru gserl gserr gplru gplrl gplrr gboru gborl gborr kn kpa kth kpe kpr kw kseru kserl kserr kplru kplrl kplrr kboru kborl kborr Post) : Met l yX7_undo wsX7_undo ({ frames := 3, cells := 0, slots := 0, locals := 107 } : Room) (va_Pc [.ref (ad 0)] (fun U => U.heap.size = sz ∧ va_P (dC, dI) vwCl (wdX7_undo cI cJ cT cII cJJ ad im gn gpa gbr gth gpe gpr gw gseru gserl gserr gplru gplrl gplrr gboru gborl gborr kn kpa kbr kth kpe kpr kw kseru kserl kserr kplru kplrl kplrr kboru kborl kborr) U.heap ∧ va_K (dC, dI) vwCl (bw_tys cI cJ cT cII cJJ) U ∧ va_D (fun _ => True) (wdX7_undo cI cJ cT cII cJJ ad im gn gpa gbr gth gpe gpr gw gseru gserl gserr gplru gplrl gplrr gboru gborl gborr kn kpa kbr kth kpe kpr kw kseru kserl kserr kplru kplrl kplrr kboru kborl kborr))) (va_Qi (fun (r : Int32) (u : Int32 × Int32 × (Nat → Int32) × (Nat → Int32) × (Nat → Int32) × (Nat → Nat → Int32) × Int32 × (Nat → Int32) × (Nat → Int32) × Int32 × (Nat → Int32) × (Nat → Int32) × Int32 × (Nat → Int32) × (Nat → Int32)) => Post r u.1 u.2.1 u.2.2.1 u.2.2.2.1 u.2.2.2.2.1 u.2.2.2.2.2.1 u.2.2.2.2.2.2.1 u.2.2.2.2.2.2.2.1 u.2.2.2.2.2.2.2.2.1 u.2.2.2.2.2.2.2.2.2.1 u.2.2.2.2.2.2.2.2.2.2.1 u.2.2.2.2.2.2.2.2.2.2.2.1 u.2.2.2.2.2.2.2.2.2.2.2.2.1 u.2.2.2.2.2.2.2.2.2.2.2.2.2.1 u.2.2.2.2.2.2.2.2.2.2.2.2.2.2) (fun (u : Int32 × Int32 × (Nat → Int32) × (Nat → Int32) × (Nat → Int32) × (Nat → Nat → Int32) × Int32 × (Nat → Int32) × (Nat → Int32) × Int32 × (Nat → Int32) × (Nat → Int32) × Int32 × (Nat → Int32) × (Nat → Int32)) t => va_P (dC, dI) vwCl (wdX7_undo cI cJ cT cII cJJ ad im u.1 u.2.1 gbr u.2.2.1 u.2.2.2.1 u.2.2.2.2.1 u.2.2.2.2.2.1 u.2.2.2.2.2.2.1 u.2.2.2.2.2.2.2.1 u.2.2.2.2.2.2.2.2.1 u.2.2.2.2.2.2.2.2.2.1 u.2.2.2.2.2.2.2.2.2.2.1 u.2.2.2.2.2.2.2.2.2.2.2.1 u.2.2.2.2.2.2.2.2.2.2.2.2.1 u.2.2.2.2.2.2.2.2.2.2.2.2.2.1 u.2.2.2.2.2.2.2.2.2.2.2.2.2.2 kn kpa kbr kth kpe kpr kw kseru kserl kserr kplru kplrl kplrr kboru kborl kborr) t.heap) (va_A (wdX7_undo cI cJ cT cII cJJ ad im gn gpa gbr gth gpe gpr gw gseru gserl gserr gplru gplrl gplrr gboru gborl gborr kn kpa kbr kth kpe kpr kw kseru kserl kserr kplru kplrl kplrr kboru kborl kborr) sz)) 0 0 (va_A (wdX7_undo cI cJ cT cII cJJ ad im gn gpa gbr gth gpe gpr gw gseru gserl gserr gplru gplrl gplrr gboru gborl gborr kn kpa kbr kth kpe kpr kw kseru kserl kserr kplru kplrl kplrr kboru kborl kborr) sz) := by
  refine Met.ofW (cc := cX7_undo) (maxL := 1) (ret := (some .int)) (by decide) rfl ?_
  intro p e s m args below meth c s₁ B hml hv
  obtain ⟨rfl, hsz, hP, hK, hD0⟩ := hv
  have hx := B.exec
  have hb := B.bytes
  have hr := B.returns
  have hts := atoms_spec (ws := wsX7_undo) B.pre
  have hown : s.vm.findClass RX7 = some m.cls := findClass_of_methodNamed B.named
  have hlocks := B.notSynchronized
  subst hsz
  have hD := hD0.self (sz := s.heap.size)
  generalize hAe : va_A (wdX7_undo cI cJ cT cII cJJ ad im gn gpa gbr gth gpe gpr gw gseru gserl gserr gplru gplrl gplrr gboru gborl gborr kn kpa kbr kth kpe kpr kw kseru kserl kserr kplru kplrl kplrr kboru kborl kborr) s.heap.size = A at hD ⊢
  have hA : ∀ q : Nat, s.heap.size ≤ q → A q := fun q h => by rw [← hAe]; exact Or.inr h
  have hS : va_S A s.heap s.heap [] := va_S.rf
  have hl := lv_entry ([.ref (ad 0)]) (n := 1) (Nat.le_of_ble_eq_true rfl)
  rw [lg_entry_eq]
  generalize (lg_sl ([.ref (ad 0)]) ++ List.replicate (1 - (lg_sl ([.ref (ad 0)])).length) Slot.unset).toArray = ls at hl ⊢
  have hl : lv_has ls 1 [(0, .ref (ad 0))] := hl
  unfold wpX7_undo at hw
  refine lv_aload_n hx hb dX7_undo_0 rfl (lv_at hl 0 rfl) ?_
  refine va_get (D := (dC, dI)) (ci := 7) (v := .int im) (C := RX7) (T := TX7) (N := 8) hx hb hts (fun w h => List.mem_cons_of_mem _ (List.mem_append_left _ (List.mem_append_left _ (List.mem_append_left _ (List.mem_append_right _ h))))) hown hK hP 0 rfl rfl 7 (by decide) (hts (.fieldLink RX7 55 "BidMarket" "imaged" "Z") (List.mem_of_getElem? (i := 1) rfl)) (fun _ h9 => h9) rfl dX7_undo_1 ?_
  refine lv_if_ne (tgt := 10) hx hb dX7_undo_4 (by decide) (fun c1 => ?_) (fun c1 => ?_)
  · have hw := hw.1 c1
    refine lv_aload_n hx hb dX7_undo_10 rfl (lv_at hl 0 rfl) ?_
    refine va_get (D := (dC, dI)) (ci := 7) (v := .ref (ad 1)) (C := RX7) (T := TX7) (N := 8) hx hb hts (fun w h => List.mem_cons_of_mem _ (List.mem_append_left _ (List.mem_append_left _ (List.mem_append_left _ (List.mem_append_right _ h))))) hown hK hP 0 rfl rfl 0 (by decide) (hts (.fieldLink RX7 12 "BidMarket" "held" "LBidMarket$Holdings;") (List.mem_of_getElem? (i := 2) rfl)) (fun _ h9 => h9) rfl dX7_undo_11 ?_
    refine lv_aload_n hx hb dX7_undo_14 rfl (lv_at hl 0 rfl) ?_
    refine va_get (D := (dC, dI)) (ci := 7) (v := .ref (ad 24)) (C := RX7) (T := TX7) (N := 8) hx hb hts (fun w h => List.mem_cons_of_mem _ (List.mem_append_left _ (List.mem_append_left _ (List.mem_append_left _ (List.mem_append_right _ h))))) hown hK hP 0 rfl rfl 1 (by decide) (hts (.fieldLink RX7 18 "BidMarket" "kept" "LBidMarket$Holdings;") (List.mem_of_getElem? (i := 3) rfl)) (fun _ h9 => h9) rfl dX7_undo_15 ?_
    refine bw_wvv (wc := (wdX1_become cI cJ cT cII cJJ (fun k => ad (k + 1)) (fun k => ad (k + 24)) gn gpa gbr gth gpe gpr gw gseru gserl gserr gplru gplrl gplrr gboru gborl gborr kn kpa kbr kth kpe kpr kw kseru kserl kserr kplru kplrl kplrr kboru kborl kborr)) (w1 := (fun (u : Int32 × Int32 × (Nat → Int32) × (Nat → Int32) × (Nat → Int32) × (Nat → Nat → Int32) × Int32 × (Nat → Int32) × (Nat → Int32) × Int32 × (Nat → Int32) × (Nat → Int32) × Int32 × (Nat → Int32) × (Nat → Int32)) => wdX1_become cI cJ cT cII cJJ (fun k => ad (k + 1)) (fun k => ad (k + 24)) u.1 u.2.1 gbr u.2.2.1 u.2.2.2.1 u.2.2.2.2.1 u.2.2.2.2.2.1 u.2.2.2.2.2.2.1 u.2.2.2.2.2.2.2.1 u.2.2.2.2.2.2.2.2.1 u.2.2.2.2.2.2.2.2.2.1 u.2.2.2.2.2.2.2.2.2.2.1 u.2.2.2.2.2.2.2.2.2.2.2.1 u.2.2.2.2.2.2.2.2.2.2.2.2.1 u.2.2.2.2.2.2.2.2.2.2.2.2.2.1 u.2.2.2.2.2.2.2.2.2.2.2.2.2.2 kn kpa kbr kth kpe kpr kw kseru kserl kserr kplru kplrl kplrr kboru kborl kborr)) (As := [.ref (ad 24)]) (rest := []) ⟨hx, hb, hml, hown, hts⟩ (mX1_become l dC dI cI cJ cT cII cJJ (fun k => ad (k + 1)) (fun k => ad (k + 24)) _ gn gpa gbr gth gpe gpr gw gseru gserl gserr gplru gplrl gplrr gboru gborl gborr kn kpa kbr kth kpe kpr kw kseru kserl kserr kplru kplrl kplrr kboru kborl kborr _ hw) (cwV 1 hts gX7_undo_X1_become rfl rfl rfl hdX1_become ⟨Nat.le_of_ble_eq_true rfl, Nat.le_of_ble_eq_true rfl⟩) hK hP hD hS hA [1, 2, 3, 4, 5, 6, 7, 8, 9, 10, 11, 12, 13, 14, 15, 16, 17, 18, 19, 20, 21, 22, 23, 24, 25, 26, 27, 28, 29, 30, 31, 32, 33, 34, 35, 36, 37, 38, 39, 40, 41, 42, 43, 44, 45, 46] rfl (by decide) (fun _ => rfl) rfl rfl rfl rfl hl.1 rfl (Nat.le_of_ble_eq_true rfl) ⟨Nat.le_of_ble_eq_true rfl, Nat.le_of_ble_eq_true rfl⟩ dX7_undo_18 (fun u H locs hw hP hD hS => ?_)
    obtain ⟨y2, y3, y4, y5, y6, y7, y8, y9, y10, y11, y12, y13, y14, y15, y16⟩ := u
    try dsimp only at hw
    have hP : va_P (dC, dI) vwCl (wdX7_undo cI cJ cT cII cJJ ad im y2 y3 gbr y4 y5 y6 y7 y8 y9 y10 y11 y12 y13 y14 y15 y16 kn kpa kbr kth kpe kpr kw kseru kserl kserr kplru kplrl kplrr kboru kborl kborr) H := hP
    have hD : va_D A (wdX7_undo cI cJ cT cII cJJ ad im y2 y3 gbr y4 y5 y6 y7 y8 y9 y10 y11 y12 y13 y14 y15 y16 kn kpa kbr kth kpe kpr kw kseru kserl kserr kplru kplrl kplrr kboru kborl kborr) := hD
    refine lv_aload_n hx hb dX7_undo_21 rfl (lv_at hl 0 rfl) ?_
    refine va_get (D := (dC, dI)) (ci := 7) (v := .ref (ad 1)) (C := RX7) (T := TX7) (N := 8) hx hb hts (fun w h => List.mem_cons_of_mem _ (List.mem_append_left _ (List.mem_append_left _ (List.mem_append_left _ (List.mem_append_right _ h))))) hown hK hP 0 rfl rfl 0 (by decide) (hts (.fieldLink RX7 12 "BidMarket" "held" "LBidMarket$Holdings;") (List.mem_of_getElem? (i := 2) rfl)) (fun _ h9 => h9) rfl dX7_undo_22 ?_
    refine va_get (D := (dC, dI)) (ci := 1) (v := .ref (ad 2)) (C := RX1) (T := TX1) (N := 4) hx hb hts (fun w h => List.mem_cons_of_mem _ (List.mem_append_left _ (List.mem_append_left _ (List.mem_append_right _ h)))) hown hK hP 1 rfl rfl 0 (by decide) (hts (.fieldLink RX7 60 "BidMarket$Holdings" "market" "LBidMarket$Market;") (List.mem_of_getElem? (i := 4) rfl)) (fun _ h9 => h9) rfl dX7_undo_25 ?_
    refine va_get (D := (dC, dI)) (ci := 2) (v := .int y2) (C := RX2) (T := TX2) (N := 7) hx hb hts (fun w h => List.mem_cons_of_mem _ (List.mem_append_left _ (List.mem_append_right _ h))) hown hK hP 2 rfl rfl 4 (by decide) (hts (.fieldLink RX7 63 "BidMarket$Market" "n" "I") (List.mem_of_getElem? (i := 5) rfl)) (fun _ h9 => h9) rfl dX7_undo_28 ?_
    exact W.iret (v := y2) hx hb hr (fun t ht hW => ⟨⟨y2, (y2, y3, y4, y5, y6, y7, y8, y9, y10, y11, y12, y13, y14, y15, y16), rfl, hw, by show va_P _ _ _ t.heap; rw [ht]; exact hP⟩, hS.F ht⟩) hS.2.2 dX7_undo_31
  · have hw := hw.2 c1
    refine lv_bipush (v := (-3)) hx hb dX7_undo_7 (by decide) ?_
    exact W.iret (v := (-3)) hx hb hr (fun t ht hW => ⟨⟨(-3), (gn, gpa, gth, gpe, gpr, gw, gseru, gserl, gserr, gplru, gplrl, gplrr, gboru, gborl, gborr), rfl, hw, by show va_P _ _ _ t.heap; rw [ht]; exact hP⟩, hS.F ht⟩) hS.2.2 dX7_undo_9
set_option maxHeartbeats 4000000 in
set_option maxRecDepth 100000 in
theorem mX7_count (l : Launch) (dC : Nat → ClassId) (dI : Nat → Nat → Nat) (cI cJ cT cII cJJ : ClassId) (ad : Nat → Nat) (im : Int32) (gn : Int32) (gpa : Int32) (gbr : Int32) (gw : Nat → Nat → Int32) (gseru : Int32) (gplru : Int32) (gboru : Int32) (tl : Int32) (tc : Int32) (ta : Int32) (tk : Int32) (a1 : Int32) (Post : Int32 → Prop) (hw : wpX7_count gn gw gseru gplru gboru tl a1 Post) : Met l yX7_count wsX7_count ({ frames := 3, cells := 0, slots := 0, locals := 67 } : Room) (va_Pc [.ref (ad 0), .int a1] (fun U => va_P (dC, dI) vwCl (wdX7_count cI cJ cT cII cJJ ad im gn gpa gbr gw gseru gplru gboru tl tc ta tk) U.heap ∧ va_K (dC, dI) vwCl (bw_tys cI cJ cT cII cJJ) U)) (vp_Si Post) 0 0 (fun _ => False) := by
  refine Met.ofW (cc := cX7_count) (maxL := 2) (ret := (some .int)) (by decide) rfl ?_
  intro p e s m args below meth c s₁ B hml hv
  obtain ⟨rfl, hP, hK⟩ := hv
  have hx := B.exec
  have hb := B.bytes
  have hr := B.returns
  have hts := atoms_spec (ws := wsX7_count) B.pre
  have hown : s.vm.findClass RX7 = some m.cls := findClass_of_methodNamed B.named
  have hlocks := B.notSynchronized
  have hl := lv_entry ([.ref (ad 0), .int a1]) (n := 2) (Nat.le_of_ble_eq_true rfl)
  rw [lg_entry_eq]
  generalize (lg_sl ([.ref (ad 0), .int a1]) ++ List.replicate (2 - (lg_sl ([.ref (ad 0), .int a1])).length) Slot.unset).toArray = ls at hl ⊢
  have hl : lv_has ls 2 [(0, .ref (ad 0)), (1, .int a1)] := hl
  unfold wpX7_count at hw
  refine lv_iload_n hx hb dX7_count_0 rfl (lv_at hl 1 rfl) ?_
  by_cases c1 : a1.toInt < 0 ∨ 5 < a1.toInt
  · have hw := hw.1 c1
    refine lv_tableOut (tgt := 103) hx hb dX7_count_1 c1 (by decide) ?_
    refine lv_bipush (v := (-2)) hx hb dX7_count_103 (by decide) ?_
    exact W.iret (v := (-2)) hx hb hr (fun t ht hW => ⟨(-2), rfl, hw, ht⟩) (fun _ h => by cases h) dX7_count_105
  have hw := hw.2
  by_cases c2 : a1 = 0
  · have hw := hw.1 c2
    refine lv_tableIn (tgt := 40) (off := 39) hx hb dX7_count_1 (fun h => c1 (Or.inl h)) (fun h => c1 (Or.inr h)) (by rw [c2]; rfl) (by decide) ?_
    refine lv_aload_n hx hb dX7_count_40 rfl (lv_at hl 0 rfl) ?_
    refine va_get (D := (dC, dI)) (ci := 7) (v := .ref (ad 1)) (C := RX7) (T := TX7) (N := 8) hx hb hts (fun w h => List.mem_cons_of_mem _ (List.mem_append_left _ (List.mem_append_left _ (List.mem_append_left _ (List.mem_append_left _ (List.mem_append_right _ h)))))) hown hK hP 0 rfl rfl 0 (by decide) (hts (.fieldLink RX7 12 "BidMarket" "held" "LBidMarket$Holdings;") (List.mem_of_getElem? (i := 1) rfl)) (fun _ h9 => h9) rfl dX7_count_41 ?_
    refine va_get (D := (dC, dI)) (ci := 1) (v := .ref (ad 2)) (C := RX1) (T := TX1) (N := 4) hx hb hts (fun w h => List.mem_cons_of_mem _ (List.mem_append_left _ (List.mem_append_left _ (List.mem_append_left _ (List.mem_append_right _ h))))) hown hK hP 1 rfl rfl 0 (by decide) (hts (.fieldLink RX7 60 "BidMarket$Holdings" "market" "LBidMarket$Market;") (List.mem_of_getElem? (i := 2) rfl)) (fun _ h9 => h9) rfl dX7_count_44 ?_
    refine va_get (D := (dC, dI)) (ci := 2) (v := .int gn) (C := RX2) (T := TX2) (N := 7) hx hb hts (fun w h => List.mem_cons_of_mem _ (List.mem_append_left _ (List.mem_append_left _ (List.mem_append_right _ h)))) hown hK hP 2 rfl rfl 4 (by decide) (hts (.fieldLink RX7 63 "BidMarket$Market" "n" "I") (List.mem_of_getElem? (i := 3) rfl)) (fun _ h9 => h9) rfl dX7_count_47 ?_
    exact W.iret (v := gn) hx hb hr (fun t ht hW => ⟨gn, rfl, hw, ht⟩) (fun _ h => by cases h) dX7_count_50
  have hw := hw.2
  by_cases c3 : a1 = 1
  · have hw := hw.1 c3
    refine lv_tableIn (tgt := 51) (off := 50) hx hb dX7_count_1 (fun h => c1 (Or.inl h)) (fun h => c1 (Or.inr h)) (by rw [c3]; rfl) (by decide) ?_
    refine lv_aload_n hx hb dX7_count_51 rfl (lv_at hl 0 rfl) ?_
    refine va_get (D := (dC, dI)) (ci := 7) (v := .ref (ad 1)) (C := RX7) (T := TX7) (N := 8) hx hb hts (fun w h => List.mem_cons_of_mem _ (List.mem_append_left _ (List.mem_append_left _ (List.mem_append_left _ (List.mem_append_left _ (List.mem_append_right _ h)))))) hown hK hP 0 rfl rfl 0 (by decide) (hts (.fieldLink RX7 12 "BidMarket" "held" "LBidMarket$Holdings;") (List.mem_of_getElem? (i := 1) rfl)) (fun _ h9 => h9) rfl dX7_count_52 ?_
    refine va_get (D := (dC, dI)) (ci := 1) (v := .ref (ad 15)) (C := RX1) (T := TX1) (N := 4) hx hb hts (fun w h => List.mem_cons_of_mem _ (List.mem_append_left _ (List.mem_append_left _ (List.mem_append_left _ (List.mem_append_right _ h))))) hown hK hP 1 rfl rfl 1 (by decide) (hts (.fieldLink RX7 71 "BidMarket$Holdings" "seen" "LBidMarket$Rows;") (List.mem_of_getElem? (i := 4) rfl)) (fun _ h9 => h9) rfl dX7_count_55 ?_
    refine va_get (D := (dC, dI)) (ci := 4) (v := .int gseru) (C := RX4) (T := TX4) (N := 3) hx hb hts (fun w h => List.mem_cons_of_mem _ (List.mem_append_left _ (List.mem_append_right _ h))) hown hK hP 12 rfl rfl 2 (by decide) (hts (.fieldLink RX7 239 "BidMarket$Rows" "used" "I") (List.mem_of_getElem? (i := 5) rfl)) (fun _ h9 => h9) rfl dX7_count_58 ?_
    exact W.iret (v := gseru) hx hb hr (fun t ht hW => ⟨gseru, rfl, hw, ht⟩) (fun _ h => by cases h) dX7_count_61
  have hw := hw.2
  by_cases c4 : a1 = 2
  · have hw := hw.1 c4
    refine lv_tableIn (tgt := 62) (off := 61) hx hb dX7_count_1 (fun h => c1 (Or.inl h)) (fun h => c1 (Or.inr h)) (by rw [c4]; rfl) (by decide) ?_
    refine lv_aload_n hx hb dX7_count_62 rfl (lv_at hl 0 rfl) ?_
    refine va_get (D := (dC, dI)) (ci := 7) (v := .ref (ad 1)) (C := RX7) (T := TX7) (N := 8) hx hb hts (fun w h => List.mem_cons_of_mem _ (List.mem_append_left _ (List.mem_append_left _ (List.mem_append_left _ (List.mem_append_left _ (List.mem_append_right _ h)))))) hown hK hP 0 rfl rfl 0 (by decide) (hts (.fieldLink RX7 12 "BidMarket" "held" "LBidMarket$Holdings;") (List.mem_of_getElem? (i := 1) rfl)) (fun _ h9 => h9) rfl dX7_count_63 ?_
    refine va_get (D := (dC, dI)) (ci := 1) (v := .ref (ad 18)) (C := RX1) (T := TX1) (N := 4) hx hb hts (fun w h => List.mem_cons_of_mem _ (List.mem_append_left _ (List.mem_append_left _ (List.mem_append_left _ (List.mem_append_right _ h))))) hown hK hP 1 rfl rfl 2 (by decide) (hts (.fieldLink RX7 81 "BidMarket$Holdings" "plan" "LBidMarket$Rows;") (List.mem_of_getElem? (i := 6) rfl)) (fun _ h9 => h9) rfl dX7_count_66 ?_
    refine va_get (D := (dC, dI)) (ci := 4) (v := .int gplru) (C := RX4) (T := TX4) (N := 3) hx hb hts (fun w h => List.mem_cons_of_mem _ (List.mem_append_left _ (List.mem_append_right _ h))) hown hK hP 13 rfl rfl 2 (by decide) (hts (.fieldLink RX7 239 "BidMarket$Rows" "used" "I") (List.mem_of_getElem? (i := 5) rfl)) (fun _ h9 => h9) rfl dX7_count_69 ?_
    exact W.iret (v := gplru) hx hb hr (fun t ht hW => ⟨gplru, rfl, hw, ht⟩) (fun _ h => by cases h) dX7_count_72
  have hw := hw.2
  by_cases c5 : a1 = 3
  · have hw := hw.1 c5
    refine lv_tableIn (tgt := 73) (off := 72) hx hb dX7_count_1 (fun h => c1 (Or.inl h)) (fun h => c1 (Or.inr h)) (by rw [c5]; rfl) (by decide) ?_
    refine lv_aload_n hx hb dX7_count_73 rfl (lv_at hl 0 rfl) ?_
    refine va_get (D := (dC, dI)) (ci := 7) (v := .ref (ad 1)) (C := RX7) (T := TX7) (N := 8) hx hb hts (fun w h => List.mem_cons_of_mem _ (List.mem_append_left _ (List.mem_append_left _ (List.mem_append_left _ (List.mem_append_left _ (List.mem_append_right _ h)))))) hown hK hP 0 rfl rfl 0 (by decide) (hts (.fieldLink RX7 12 "BidMarket" "held" "LBidMarket$Holdings;") (List.mem_of_getElem? (i := 1) rfl)) (fun _ h9 => h9) rfl dX7_count_74 ?_
    refine va_get (D := (dC, dI)) (ci := 1) (v := .ref (ad 21)) (C := RX1) (T := TX1) (N := 4) hx hb hts (fun w h => List.mem_cons_of_mem _ (List.mem_append_left _ (List.mem_append_left _ (List.mem_append_left _ (List.mem_append_right _ h))))) hown hK hP 1 rfl rfl 3 (by decide) (hts (.fieldLink RX7 84 "BidMarket$Holdings" "book" "LBidMarket$Rows;") (List.mem_of_getElem? (i := 7) rfl)) (fun _ h9 => h9) rfl dX7_count_77 ?_
    refine va_get (D := (dC, dI)) (ci := 4) (v := .int gboru) (C := RX4) (T := TX4) (N := 3) hx hb hts (fun w h => List.mem_cons_of_mem _ (List.mem_append_left _ (List.mem_append_right _ h))) hown hK hP 14 rfl rfl 2 (by decide) (hts (.fieldLink RX7 239 "BidMarket$Rows" "used" "I") (List.mem_of_getElem? (i := 5) rfl)) (fun _ h9 => h9) rfl dX7_count_80 ?_
    exact W.iret (v := gboru) hx hb hr (fun t ht hW => ⟨gboru, rfl, hw, ht⟩) (fun _ h => by cases h) dX7_count_83
  have hw := hw.2
  by_cases c6 : a1 = 4
  · have hw := hw.1 c6
    refine lv_tableIn (tgt := 84) (off := 83) hx hb dX7_count_1 (fun h => c1 (Or.inl h)) (fun h => c1 (Or.inr h)) (by rw [c6]; rfl) (by decide) ?_
    refine lv_aload_n hx hb dX7_count_84 rfl (lv_at hl 0 rfl) ?_
    refine va_get (D := (dC, dI)) (ci := 7) (v := .ref (ad 62)) (C := RX7) (T := TX7) (N := 8) hx hb hts (fun w h => List.mem_cons_of_mem _ (List.mem_append_left _ (List.mem_append_left _ (List.mem_append_left _ (List.mem_append_left _ (List.mem_append_right _ h)))))) hown hK hP 0 rfl rfl 4 (by decide) (hts (.fieldLink RX7 38 "BidMarket" "text" "LBidMarket$Text;") (List.mem_of_getElem? (i := 8) rfl)) (fun _ h9 => h9) rfl dX7_count_85 ?_
    refine va_get (D := (dC, dI)) (ci := 6) (v := .int tl) (C := RX6) (T := TX6) (N := 8) hx hb hts (fun w h => List.mem_cons_of_mem _ (List.mem_append_right _ h)) hown hK hP 15 rfl rfl 1 (by decide) (hts (.fieldLink RX7 268 "BidMarket$Text" "length" "I") (List.mem_of_getElem? (i := 9) rfl)) (fun _ h9 => h9) rfl dX7_count_88 ?_
    exact W.iret (v := tl) hx hb hr (fun t ht hW => ⟨tl, rfl, hw, ht⟩) (fun _ h => by cases h) dX7_count_91
  have hw := hw.2
  by_cases c7 : a1 = 5
  · have hw := hw c7
    refine lv_tableIn (tgt := 92) (off := 91) hx hb dX7_count_1 (fun h => c1 (Or.inl h)) (fun h => c1 (Or.inr h)) (by rw [c7]; rfl) (by decide) ?_
    refine lv_aload_n hx hb dX7_count_92 rfl (lv_at hl 0 rfl) ?_
    refine va_get (D := (dC, dI)) (ci := 7) (v := .ref (ad 1)) (C := RX7) (T := TX7) (N := 8) hx hb hts (fun w h => List.mem_cons_of_mem _ (List.mem_append_left _ (List.mem_append_left _ (List.mem_append_left _ (List.mem_append_left _ (List.mem_append_right _ h)))))) hown hK hP 0 rfl rfl 0 (by decide) (hts (.fieldLink RX7 12 "BidMarket" "held" "LBidMarket$Holdings;") (List.mem_of_getElem? (i := 1) rfl)) (fun _ h9 => h9) rfl dX7_count_93 ?_
    refine va_get (D := (dC, dI)) (ci := 1) (v := .ref (ad 2)) (C := RX1) (T := TX1) (N := 4) hx hb hts (fun w h => List.mem_cons_of_mem _ (List.mem_append_left _ (List.mem_append_left _ (List.mem_append_left _ (List.mem_append_right _ h))))) hown hK hP 1 rfl rfl 0 (by decide) (hts (.fieldLink RX7 60 "BidMarket$Holdings" "market" "LBidMarket$Market;") (List.mem_of_getElem? (i := 2) rfl)) (fun _ h9 => h9) rfl dX7_count_96 ?_
    refine bw_pvi (wc := (wdX2_forbiddenCounted cI cJ cT cII cJJ (fun k => ad (k + 2)) gn gpa gbr gw)) (As := []) (rest := []) ⟨hx, hb, hml, hown, hts⟩ (mX2_forbiddenCounted l dC dI cI cJ cT cII cJJ (fun k => ad (k + 2)) gn gpa gbr gw _ hw) (cwV 0 hts gX7_count_X2_forbiddenCounted rfl rfl rfl hdX2_forbiddenCounted ⟨Nat.le_of_ble_eq_true rfl, Nat.le_of_ble_eq_true rfl⟩) hK hP [2, 3, 4, 5, 6, 7, 8, 9, 10, 11] rfl rfl rfl rfl rfl hl.1 rfl (Nat.le_of_ble_eq_true rfl) ⟨Nat.le_of_ble_eq_true rfl, Nat.le_of_ble_eq_true rfl⟩ dX7_count_99 (fun r8 hw => ?_)
    exact W.iret (v := r8) hx hb hr (fun t ht hW => ⟨r8, rfl, hw, ht⟩) (fun _ h => by cases h) dX7_count_102
  exact (bw_sw 5 c1 (fun k hk => match k, hk with | 0, _ => c2 | 1, _ => c3 | 2, _ => c4 | 3, _ => c5 | 4, _ => c6 | 5, _ => c7 | k + 6, h => absurd h (by omega))).elim
set_option maxHeartbeats 4000000 in
set_option maxRecDepth 100000 in
theorem mX7_tape (l : Launch) (dC : Nat → ClassId) (dI : Nat → Nat → Nat) (cI cJ cT cII cJJ : ClassId) (ad : Nat → Nat) (sz : Nat) (im : Int32) (so : Nat → Int32) (le : Nat → Int32) (it : Nat → Nat → Int64) (a1 : Int32) (a2 : Int32) (a3 : Int32) (Post : Int32 → (Nat → Int32) → (Nat → Int32) → (Nat → Nat → Int64) → Prop) (hw : wpX7_tape so le it a1 a2 a3 Post) : Met l yX7_tape wsX7_tape ({ frames := 1, cells := 0, slots := 0, locals := 23 } : Room) (va_Pc [.ref (ad 0), .int a1, .int a2, .int a3] (fun U => U.heap.size = sz ∧ va_P (dC, dI) vwCl (wdX7_tape cI cJ cT cII cJJ ad im so le it) U.heap ∧ va_K (dC, dI) vwCl (bw_tys cI cJ cT cII cJJ) U ∧ va_D (fun _ => True) (wdX7_tape cI cJ cT cII cJJ ad im so le it))) (va_Qi (fun (r : Int32) (u : (Nat → Int32) × (Nat → Int32) × (Nat → Nat → Int64)) => Post r u.1 u.2.1 u.2.2) (fun (u : (Nat → Int32) × (Nat → Int32) × (Nat → Nat → Int64)) t => va_P (dC, dI) vwCl (wdX7_tape cI cJ cT cII cJJ ad im u.1 u.2.1 u.2.2) t.heap) (va_A (wdX7_tape cI cJ cT cII cJJ ad im so le it) sz)) 0 0 (va_A (wdX7_tape cI cJ cT cII cJJ ad im so le it) sz) := by
  refine Met.ofW (cc := cX7_tape) (maxL := 4) (ret := (some .int)) (by decide) rfl ?_
  intro p e s m args below meth c s₁ B hml hv
  obtain ⟨rfl, hsz, hP, hK, hD0⟩ := hv
  have hx := B.exec
  have hb := B.bytes
  have hr := B.returns
  have hts := atoms_spec (ws := wsX7_tape) B.pre
  have hown : s.vm.findClass RX7 = some m.cls := findClass_of_methodNamed B.named
  have hlocks := B.notSynchronized
  subst hsz
  have hD := hD0.self (sz := s.heap.size)
  generalize hAe : va_A (wdX7_tape cI cJ cT cII cJJ ad im so le it) s.heap.size = A at hD ⊢
  have hA : ∀ q : Nat, s.heap.size ≤ q → A q := fun q h => by rw [← hAe]; exact Or.inr h
  have hS : va_S A s.heap s.heap [] := va_S.rf
  have hl := lv_entry ([.ref (ad 0), .int a1, .int a2, .int a3]) (n := 4) (Nat.le_of_ble_eq_true rfl)
  rw [lg_entry_eq]
  generalize (lg_sl ([.ref (ad 0), .int a1, .int a2, .int a3]) ++ List.replicate (4 - (lg_sl ([.ref (ad 0), .int a1, .int a2, .int a3])).length) Slot.unset).toArray = ls at hl ⊢
  have hl : lv_has ls 4 [(0, .ref (ad 0)), (1, .int a1), (2, .int a2), (3, .int a3)] := hl
  unfold wpX7_tape at hw
  refine lv_iload_n hx hb dX7_tape_0 rfl (lv_at hl 1 rfl) ?_
  refine bw_psi (wc := []) (As := [.int a1]) (rest := []) ⟨hx, hb, hml, hown, hts⟩ (mX7_isTape l dC dI cI cJ cT cII cJJ a1 _ hw) (va_cwS 1 hts gX7_tape_X7_isTape rfl rfl rfl hdX7_isTape ⟨Nat.le_of_ble_eq_true rfl, Nat.le_of_ble_eq_true rfl⟩) hK hP [] rfl rfl hl.1 rfl (Nat.le_of_ble_eq_true rfl) ⟨Nat.le_of_ble_eq_true rfl, Nat.le_of_ble_eq_true rfl⟩ dX7_tape_1 (fun r1 hw => ?_)
  refine lv_if_ne (tgt := 9) hx hb dX7_tape_4 (by decide) (fun c2 => ?_) (fun c2 => ?_)
  · have hw := hw.1 c2
    refine lv_iload_n hx hb dX7_tape_9 rfl (lv_at hl 2 rfl) ?_
    refine lv_iconst (v := (-1)) hx hb dX7_tape_10 (by decide) ?_
    refine lv_icmp_ne (tgt := 27) hx hb dX7_tape_11 (by decide) (fun c3 => ?_) (fun c3 => ?_)
    · have hw := hw.1 c3
      refine lv_iload_n hx hb dX7_tape_27 rfl (lv_at hl 2 rfl) ?_
      refine lv_if_lt (tgt := 42) hx hb dX7_tape_28 (by decide) (fun c4 => ?_) (fun c4 => ?_)
      · have hw := hw.1 c4
        refine lv_bipush (v := (-2)) hx hb dX7_tape_42 (by decide) ?_
        exact W.iret (v := (-2)) hx hb hr (fun t ht hW => ⟨⟨(-2), (so, le, it), rfl, hw, by show va_P _ _ _ t.heap; rw [ht]; exact hP⟩, hS.F ht⟩) hS.2.2 dX7_tape_44
      · have hw := hw.2 c4
        refine lv_iload_n hx hb dX7_tape_31 rfl (lv_at hl 2 rfl) ?_
        refine lv_iconst (v := 4) hx hb dX7_tape_32 (by decide) ?_
        refine lv_icmp_gt (tgt := 42) hx hb dX7_tape_33 (by decide) (fun c5 => ?_) (fun c5 => ?_)
        · have hw := hw.1 c5
          refine lv_bipush (v := (-2)) hx hb dX7_tape_42 (by decide) ?_
          exact W.iret (v := (-2)) hx hb hr (fun t ht hW => ⟨⟨(-2), (so, le, it), rfl, hw, by show va_P _ _ _ t.heap; rw [ht]; exact hP⟩, hS.F ht⟩) hS.2.2 dX7_tape_44
        · have hw := hw.2 c5
          refine lv_iload_n hx hb dX7_tape_36 rfl (lv_at hl 3 rfl) ?_
          refine lv_bipush (v := 60) hx hb dX7_tape_37 (by decide) ?_
          refine lv_icmp_le (tgt := 45) hx hb dX7_tape_39 (by decide) (fun c6 => ?_) (fun c6 => ?_)
          · have hw := hw.1 c6
            refine lv_iload_n hx hb dX7_tape_45 rfl (lv_at hl 3 rfl) ?_
            refine lv_if_ge (tgt := 52) hx hb dX7_tape_46 (by decide) (fun c7 => ?_) (fun c7 => ?_)
            · have hw := hw.1 c7
              refine lv_aload_n hx hb dX7_tape_52 rfl (lv_at hl 0 rfl) ?_
              refine va_get (D := (dC, dI)) (ci := 7) (v := .ref (ad 68)) (C := RX7) (T := TX7) (N := 8) hx hb hts (fun w h => List.mem_cons_of_mem _ (List.mem_append_left _ (List.mem_append_right _ h))) hown hK hP 0 rfl rfl 6 (by decide) (hts (.fieldLink RX7 51 "BidMarket" "tapes" "[LBidMarket$Tape;") (List.mem_of_getElem? (i := 1) rfl)) (fun _ h9 => h9) rfl dX7_tape_53 ?_
              refine lv_iload_n hx hb dX7_tape_56 rfl (lv_at hl 1 rfl) ?_
              have h8 := hw.1
              have hw := hw.2
              have q9 := bw_lt h8
              refine bw_aald (g := fun i => ad (2 * i + 69)) (b := ad (2 * a1.toNatClampNeg + 69)) hx hb hK hP 1 2 rfl rfl rfl (fun k h => if_pos h) h8 rfl dX7_tape_57 ?_
              refine lv_iload_n hx hb dX7_tape_58 rfl (lv_at hl 2 rfl) ?_
              refine lv_iload_n hx hb dX7_tape_59 rfl (lv_at hl 3 rfl) ?_
              have g10 : ∀ k, k < 6 → ((wdX7_tape cI cJ cT cII cJJ ad im so le it))[2 + 2 * k]? = some (ad (2 * k + 69), .inr (5, [.ref (ad (2 * k + 70)), .int (so k), .int (le k)])) := bw_all6 rfl rfl rfl rfl rfl rfl
              have g11 : ∀ k, k < 6 → ((wdX7_tape cI cJ cT cII cJJ ad im so le it))[3 + 2 * k]? = some (ad (2 * k + 70), .inl (cJ, 60, .inr (.inl (it k)))) := bw_all6 rfl rfl rfl rfl rfl rfl
              refine bw_wvv (wc := (wdX5_becomeRow cI cJ cT cII cJJ (fun k => ad (2 * a1.toNatClampNeg + (69 + k))) (so a1.toNatClampNeg) (le a1.toNatClampNeg) (it a1.toNatClampNeg))) (w1 := (fun (u : Int32 × Int32 × (Nat → Int64)) => wdX5_becomeRow cI cJ cT cII cJJ (fun k => ad (2 * a1.toNatClampNeg + (69 + k))) u.1 u.2.1 u.2.2)) (As := [.int a2, .int a3]) (rest := []) ⟨hx, hb, hml, hown, hts⟩ (mX5_becomeRow l dC dI cI cJ cT cII cJJ (fun k => ad (2 * a1.toNatClampNeg + (69 + k))) _ (so a1.toNatClampNeg) (le a1.toNatClampNeg) (it a1.toNatClampNeg) a2 a3 _ hw) (cwV 2 hts gX7_tape_X5_becomeRow rfl rfl rfl hdX5_becomeRow ⟨Nat.le_of_ble_eq_true rfl, Nat.le_of_ble_eq_true rfl⟩) hK hP hD hS hA [(2 + 2 * a1.toNatClampNeg), (3 + 2 * a1.toNatClampNeg)] (bw_map2 (g10 _ q9) (g11 _ q9)) (by simp) (fun _ => rfl) rfl rfl rfl rfl hl.1 rfl (Nat.le_of_ble_eq_true rfl) ⟨Nat.le_of_ble_eq_true rfl, Nat.le_of_ble_eq_true rfl⟩ dX7_tape_60 (fun u H locs hw hP hD hS => ?_)
              obtain ⟨y12, y13, y14⟩ := u
              try dsimp only at hw
              have g15 : ∀ k, k < 6 → ∀ (y12 : Int32) (y13 : Int32) (y14 : Nat → Int64), bw_put [2 + 2 * k, 3 + 2 * k] [(ad (2 * k + 69), .inr (5, [.ref (ad (2 * k + 70)), .int y12, .int y13])), (ad (2 * k + 70), .inl (cJ, 60, .inr (.inl y14)))] (wdX7_tape cI cJ cT cII cJJ ad im so le it) 0 = (wdX7_tape cI cJ cT cII cJJ ad im (va_up so k y12) (va_up le k y13) (va_up it k y14)) := bw_all6 (fun _ _ _ => rfl) (fun _ _ _ => rfl) (fun _ _ _ => rfl) (fun _ _ _ => rfl) (fun _ _ _ => rfl) (fun _ _ _ => rfl)
              have hP : va_P (dC, dI) vwCl (wdX7_tape cI cJ cT cII cJJ ad im (va_up so a1.toNatClampNeg y12) (va_up le a1.toNatClampNeg y13) (va_up it a1.toNatClampNeg y14)) H := (congrArg (fun z => va_P (dC, dI) vwCl z H) (g15 _ q9 y12 y13 y14)).mp hP
              have hD : va_D A (wdX7_tape cI cJ cT cII cJJ ad im (va_up so a1.toNatClampNeg y12) (va_up le a1.toNatClampNeg y13) (va_up it a1.toNatClampNeg y14)) := (congrArg (fun z => va_D A z) (g15 _ q9 y12 y13 y14)).mp hD
              refine lv_iconst (v := 1) hx hb dX7_tape_63 (by decide) ?_
              exact W.iret (v := 1) hx hb hr (fun t ht hW => ⟨⟨1, (va_up so a1.toNatClampNeg y12, va_up le a1.toNatClampNeg y13, va_up it a1.toNatClampNeg y14), rfl, hw, by show va_P _ _ _ t.heap; rw [ht]; exact hP⟩, hS.F ht⟩) hS.2.2 dX7_tape_64
            · have hw := hw.2 c7
              refine lv_bipush (v := (-14)) hx hb dX7_tape_49 (by decide) ?_
              exact W.iret (v := (-14)) hx hb hr (fun t ht hW => ⟨⟨(-14), (so, le, it), rfl, hw, by show va_P _ _ _ t.heap; rw [ht]; exact hP⟩, hS.F ht⟩) hS.2.2 dX7_tape_51
          · have hw := hw.2 c6
            refine lv_bipush (v := (-2)) hx hb dX7_tape_42 (by decide) ?_
            exact W.iret (v := (-2)) hx hb hr (fun t ht hW => ⟨⟨(-2), (so, le, it), rfl, hw, by show va_P _ _ _ t.heap; rw [ht]; exact hP⟩, hS.F ht⟩) hS.2.2 dX7_tape_44
    · have hw := hw.2 c3
      refine lv_aload_n hx hb dX7_tape_14 rfl (lv_at hl 0 rfl) ?_
      refine va_get (D := (dC, dI)) (ci := 7) (v := .ref (ad 68)) (C := RX7) (T := TX7) (N := 8) hx hb hts (fun w h => List.mem_cons_of_mem _ (List.mem_append_left _ (List.mem_append_right _ h))) hown hK hP 0 rfl rfl 6 (by decide) (hts (.fieldLink RX7 51 "BidMarket" "tapes" "[LBidMarket$Tape;") (List.mem_of_getElem? (i := 1) rfl)) (fun _ h9 => h9) rfl dX7_tape_15 ?_
      refine lv_iload_n hx hb dX7_tape_18 rfl (lv_at hl 1 rfl) ?_
      have h16 := hw.1
      have hw := hw.2
      have q17 := bw_lt h16
      refine bw_aald (g := fun i => ad (2 * i + 69)) (b := ad (2 * a1.toNatClampNeg + 69)) hx hb hK hP 1 2 rfl rfl rfl (fun k h => if_pos h) h16 rfl dX7_tape_19 ?_
      refine lv_iload_n hx hb dX7_tape_20 rfl (lv_at hl 2 rfl) ?_
      refine lv_iconst (v := 0) hx hb dX7_tape_21 (by decide) ?_
      have g18 : ∀ k, k < 6 → ((wdX7_tape cI cJ cT cII cJJ ad im so le it))[2 + 2 * k]? = some (ad (2 * k + 69), .inr (5, [.ref (ad (2 * k + 70)), .int (so k), .int (le k)])) := bw_all6 rfl rfl rfl rfl rfl rfl
      have g19 : ∀ k, k < 6 → ((wdX7_tape cI cJ cT cII cJJ ad im so le it))[3 + 2 * k]? = some (ad (2 * k + 70), .inl (cJ, 60, .inr (.inl (it k)))) := bw_all6 rfl rfl rfl rfl rfl rfl
      refine bw_wvv (wc := (wdX5_becomeRow cI cJ cT cII cJJ (fun k => ad (2 * a1.toNatClampNeg + (69 + k))) (so a1.toNatClampNeg) (le a1.toNatClampNeg) (it a1.toNatClampNeg))) (w1 := (fun (u : Int32 × Int32 × (Nat → Int64)) => wdX5_becomeRow cI cJ cT cII cJJ (fun k => ad (2 * a1.toNatClampNeg + (69 + k))) u.1 u.2.1 u.2.2)) (As := [.int a2, .int 0]) (rest := []) ⟨hx, hb, hml, hown, hts⟩ (mX5_becomeRow l dC dI cI cJ cT cII cJJ (fun k => ad (2 * a1.toNatClampNeg + (69 + k))) _ (so a1.toNatClampNeg) (le a1.toNatClampNeg) (it a1.toNatClampNeg) a2 0 _ hw) (cwV 2 hts gX7_tape_X5_becomeRow rfl rfl rfl hdX5_becomeRow ⟨Nat.le_of_ble_eq_true rfl, Nat.le_of_ble_eq_true rfl⟩) hK hP hD hS hA [(2 + 2 * a1.toNatClampNeg), (3 + 2 * a1.toNatClampNeg)] (bw_map2 (g18 _ q17) (g19 _ q17)) (by simp) (fun _ => rfl) rfl rfl rfl rfl hl.1 rfl (Nat.le_of_ble_eq_true rfl) ⟨Nat.le_of_ble_eq_true rfl, Nat.le_of_ble_eq_true rfl⟩ dX7_tape_22 (fun u H locs hw hP hD hS => ?_)
      obtain ⟨y20, y21, y22⟩ := u
      try dsimp only at hw
      have g23 : ∀ k, k < 6 → ∀ (y20 : Int32) (y21 : Int32) (y22 : Nat → Int64), bw_put [2 + 2 * k, 3 + 2 * k] [(ad (2 * k + 69), .inr (5, [.ref (ad (2 * k + 70)), .int y20, .int y21])), (ad (2 * k + 70), .inl (cJ, 60, .inr (.inl y22)))] (wdX7_tape cI cJ cT cII cJJ ad im so le it) 0 = (wdX7_tape cI cJ cT cII cJJ ad im (va_up so k y20) (va_up le k y21) (va_up it k y22)) := bw_all6 (fun _ _ _ => rfl) (fun _ _ _ => rfl) (fun _ _ _ => rfl) (fun _ _ _ => rfl) (fun _ _ _ => rfl) (fun _ _ _ => rfl)
      have hP : va_P (dC, dI) vwCl (wdX7_tape cI cJ cT cII cJJ ad im (va_up so a1.toNatClampNeg y20) (va_up le a1.toNatClampNeg y21) (va_up it a1.toNatClampNeg y22)) H := (congrArg (fun z => va_P (dC, dI) vwCl z H) (g23 _ q17 y20 y21 y22)).mp hP
      have hD : va_D A (wdX7_tape cI cJ cT cII cJJ ad im (va_up so a1.toNatClampNeg y20) (va_up le a1.toNatClampNeg y21) (va_up it a1.toNatClampNeg y22)) := (congrArg (fun z => va_D A z) (g23 _ q17 y20 y21 y22)).mp hD
      refine lv_iconst (v := 1) hx hb dX7_tape_25 (by decide) ?_
      exact W.iret (v := 1) hx hb hr (fun t ht hW => ⟨⟨1, (va_up so a1.toNatClampNeg y20, va_up le a1.toNatClampNeg y21, va_up it a1.toNatClampNeg y22), rfl, hw, by show va_P _ _ _ t.heap; rw [ht]; exact hP⟩, hS.F ht⟩) hS.2.2 dX7_tape_26
  · have hw := hw.2 c2
    refine lv_iconst (v := (-1)) hx hb dX7_tape_7 (by decide) ?_
    exact W.iret (v := (-1)) hx hb hr (fun t ht hW => ⟨⟨(-1), (so, le, it), rfl, hw, by show va_P _ _ _ t.heap; rw [ht]; exact hP⟩, hS.F ht⟩) hS.2.2 dX7_tape_8
set_option maxHeartbeats 4000000 in
set_option maxRecDepth 100000 in
theorem mX7_item (l : Launch) (dC : Nat → ClassId) (dI : Nat → Nat → Nat) (cI cJ cT cII cJJ : ClassId) (ad : Nat → Nat) (sz : Nat) (im : Int32) (so : Nat → Int32) (le : Nat → Int32) (it : Nat → Nat → Int64) (a1 : Int32) (a2 : Int32) (a3 : Int64) (Post : Int32 → (Nat → Nat → Int64) → Prop) (hw : wpX7_item so le it a1 a2 a3 Post) : Met l yX7_item wsX7_item ({ frames := 1, cells := 0, slots := 0, locals := 22 } : Room) (va_Pc [.ref (ad 0), .int a1, .int a2, .long a3] (fun U => U.heap.size = sz ∧ va_P (dC, dI) vwCl (wdX7_item cI cJ cT cII cJJ ad im so le it) U.heap ∧ va_K (dC, dI) vwCl (bw_tys cI cJ cT cII cJJ) U ∧ va_D (fun _ => True) (wdX7_item cI cJ cT cII cJJ ad im so le it))) (va_Qi (fun (r : Int32) (u : (Nat → Nat → Int64)) => Post r u) (fun (u : (Nat → Nat → Int64)) t => va_P (dC, dI) vwCl (wdX7_item cI cJ cT cII cJJ ad im so le u) t.heap) (va_A (wdX7_item cI cJ cT cII cJJ ad im so le it) sz)) 0 0 (va_A (wdX7_item cI cJ cT cII cJJ ad im so le it) sz) := by
  refine Met.ofW (cc := cX7_item) (maxL := 5) (ret := (some .int)) (by decide) rfl ?_
  intro p e s m args below meth c s₁ B hml hv
  obtain ⟨rfl, hsz, hP, hK, hD0⟩ := hv
  have hx := B.exec
  have hb := B.bytes
  have hr := B.returns
  have hts := atoms_spec (ws := wsX7_item) B.pre
  have hown : s.vm.findClass RX7 = some m.cls := findClass_of_methodNamed B.named
  have hlocks := B.notSynchronized
  subst hsz
  have hD := hD0.self (sz := s.heap.size)
  generalize hAe : va_A (wdX7_item cI cJ cT cII cJJ ad im so le it) s.heap.size = A at hD ⊢
  have hA : ∀ q : Nat, s.heap.size ≤ q → A q := fun q h => by rw [← hAe]; exact Or.inr h
  have hS : va_S A s.heap s.heap [] := va_S.rf
  have hl := lv_entry ([.ref (ad 0), .int a1, .int a2, .long a3]) (n := 5) (Nat.le_of_ble_eq_true rfl)
  rw [lg_entry_eq]
  generalize (lg_sl ([.ref (ad 0), .int a1, .int a2, .long a3]) ++ List.replicate (5 - (lg_sl ([.ref (ad 0), .int a1, .int a2, .long a3])).length) Slot.unset).toArray = ls at hl ⊢
  have hl : lv_has ls 5 [(0, .ref (ad 0)), (1, .int a1), (2, .int a2), (3, .long a3)] := hl
  unfold wpX7_item at hw
  refine lv_iload_n hx hb dX7_item_0 rfl (lv_at hl 1 rfl) ?_
  refine bw_psi (wc := []) (As := [.int a1]) (rest := []) ⟨hx, hb, hml, hown, hts⟩ (mX7_isTape l dC dI cI cJ cT cII cJJ a1 _ hw) (va_cwS 1 hts gX7_item_X7_isTape rfl rfl rfl hdX7_isTape ⟨Nat.le_of_ble_eq_true rfl, Nat.le_of_ble_eq_true rfl⟩) hK hP [] rfl rfl hl.1 rfl (Nat.le_of_ble_eq_true rfl) ⟨Nat.le_of_ble_eq_true rfl, Nat.le_of_ble_eq_true rfl⟩ dX7_item_1 (fun r1 hw => ?_)
  refine lv_if_ne (tgt := 9) hx hb dX7_item_4 (by decide) (fun c2 => ?_) (fun c2 => ?_)
  · have hw := hw.1 c2
    refine lv_aload_n hx hb dX7_item_9 rfl (lv_at hl 0 rfl) ?_
    refine va_get (D := (dC, dI)) (ci := 7) (v := .ref (ad 68)) (C := RX7) (T := TX7) (N := 8) hx hb hts (fun w h => List.mem_cons_of_mem _ (List.mem_append_left _ (List.mem_append_right _ h))) hown hK hP 0 rfl rfl 6 (by decide) (hts (.fieldLink RX7 51 "BidMarket" "tapes" "[LBidMarket$Tape;") (List.mem_of_getElem? (i := 1) rfl)) (fun _ h9 => h9) rfl dX7_item_10 ?_
    refine lv_iload_n hx hb dX7_item_13 rfl (lv_at hl 1 rfl) ?_
    have h3 := hw.1
    have hw := hw.2
    have q4 := bw_lt h3
    refine bw_aald (g := fun i => ad (2 * i + 69)) (b := ad (2 * a1.toNatClampNeg + 69)) hx hb hK hP 1 2 rfl rfl rfl (fun k h => if_pos h) h3 rfl dX7_item_14 ?_
    have g5 : ∀ k, k < 6 → ((wdX7_item cI cJ cT cII cJJ ad im so le it))[2 + 2 * k]? = some (ad (2 * k + 69), .inr (5, [.ref (ad (2 * k + 70)), .int (so k), .int (le k)])) := bw_all6 rfl rfl rfl rfl rfl rfl
    refine va_get (D := (dC, dI)) (ci := 5) (v := .int (so a1.toNatClampNeg)) (C := RX5) (T := TX5) (N := 3) hx hb hts (fun w h => List.mem_cons_of_mem _ (List.mem_append_right _ h)) hown hK hP (2 + 2 * a1.toNatClampNeg) (g5 _ q4) rfl 1 (by decide) (hts (.fieldLink RX7 255 "BidMarket$Tape" "sort" "I") (List.mem_of_getElem? (i := 2) rfl)) (fun _ h9 => h9) rfl dX7_item_15 ?_
    refine lv_iconst (v := (-1)) hx hb dX7_item_18 (by decide) ?_
    refine lv_icmp_ne (tgt := 25) hx hb dX7_item_19 (by decide) (fun c6 => ?_) (fun c6 => ?_)
    · have hw := hw.1 c6
      refine lv_aload_n hx hb dX7_item_25 rfl (lv_at hl 0 rfl) ?_
      refine va_get (D := (dC, dI)) (ci := 7) (v := .ref (ad 68)) (C := RX7) (T := TX7) (N := 8) hx hb hts (fun w h => List.mem_cons_of_mem _ (List.mem_append_left _ (List.mem_append_right _ h))) hown hK hP 0 rfl rfl 6 (by decide) (hts (.fieldLink RX7 51 "BidMarket" "tapes" "[LBidMarket$Tape;") (List.mem_of_getElem? (i := 1) rfl)) (fun _ h9 => h9) rfl dX7_item_26 ?_
      refine lv_iload_n hx hb dX7_item_29 rfl (lv_at hl 1 rfl) ?_
      have h7 := hw.1
      have hw := hw.2
      have q8 := bw_lt h7
      refine bw_aald (g := fun i => ad (2 * i + 69)) (b := ad (2 * a1.toNatClampNeg + 69)) hx hb hK hP 1 2 rfl rfl rfl (fun k h => if_pos h) h7 rfl dX7_item_30 ?_
      refine lv_iload_n hx hb dX7_item_31 rfl (lv_at hl 2 rfl) ?_
      have g9 : ∀ k, k < 6 → ((wdX7_item cI cJ cT cII cJJ ad im so le it))[2 + 2 * k]? = some (ad (2 * k + 69), .inr (5, [.ref (ad (2 * k + 70)), .int (so k), .int (le k)])) := bw_all6 rfl rfl rfl rfl rfl rfl
      refine bw_pvi (wc := (wdX5_hasPlace cI cJ cT cII cJJ (fun k => ad (2 * a1.toNatClampNeg + (69 + k))) (so a1.toNatClampNeg) (le a1.toNatClampNeg))) (As := [.int a2]) (rest := []) ⟨hx, hb, hml, hown, hts⟩ (mX5_hasPlace l dC dI cI cJ cT cII cJJ (fun k => ad (2 * a1.toNatClampNeg + (69 + k))) (so a1.toNatClampNeg) (le a1.toNatClampNeg) a2 _ hw) (cwV 1 hts gX7_item_X5_hasPlace rfl rfl rfl hdX5_hasPlace ⟨Nat.le_of_ble_eq_true rfl, Nat.le_of_ble_eq_true rfl⟩) hK hP [(2 + 2 * a1.toNatClampNeg)] (bw_map1 (g9 _ q8)) rfl rfl rfl rfl hl.1 rfl (Nat.le_of_ble_eq_true rfl) ⟨Nat.le_of_ble_eq_true rfl, Nat.le_of_ble_eq_true rfl⟩ dX7_item_32 (fun r10 hw => ?_)
      refine lv_if_ne (tgt := 41) hx hb dX7_item_35 (by decide) (fun c11 => ?_) (fun c11 => ?_)
      · have hw := hw.1 c11
        refine lv_aload_n hx hb dX7_item_41 rfl (lv_at hl 0 rfl) ?_
        refine va_get (D := (dC, dI)) (ci := 7) (v := .ref (ad 68)) (C := RX7) (T := TX7) (N := 8) hx hb hts (fun w h => List.mem_cons_of_mem _ (List.mem_append_left _ (List.mem_append_right _ h))) hown hK hP 0 rfl rfl 6 (by decide) (hts (.fieldLink RX7 51 "BidMarket" "tapes" "[LBidMarket$Tape;") (List.mem_of_getElem? (i := 1) rfl)) (fun _ h9 => h9) rfl dX7_item_42 ?_
        refine lv_iload_n hx hb dX7_item_45 rfl (lv_at hl 1 rfl) ?_
        have h12 := hw.1
        have hw := hw.2
        have q13 := bw_lt h12
        refine bw_aald (g := fun i => ad (2 * i + 69)) (b := ad (2 * a1.toNatClampNeg + 69)) hx hb hK hP 1 2 rfl rfl rfl (fun k h => if_pos h) h12 rfl dX7_item_46 ?_
        have g14 : ∀ k, k < 6 → ((wdX7_item cI cJ cT cII cJJ ad im so le it))[2 + 2 * k]? = some (ad (2 * k + 69), .inr (5, [.ref (ad (2 * k + 70)), .int (so k), .int (le k)])) := bw_all6 rfl rfl rfl rfl rfl rfl
        refine va_get (D := (dC, dI)) (ci := 5) (v := .ref (ad (2 * a1.toNatClampNeg + 70))) (C := RX5) (T := TX5) (N := 3) hx hb hts (fun w h => List.mem_cons_of_mem _ (List.mem_append_right _ h)) hown hK hP (2 + 2 * a1.toNatClampNeg) (g14 _ q13) rfl 0 (by decide) (hts (.fieldLink RX7 261 "BidMarket$Tape" "items" "[J") (List.mem_of_getElem? (i := 3) rfl)) (fun _ h9 => h9) rfl dX7_item_47 ?_
        refine lv_iload_n hx hb dX7_item_50 rfl (lv_at hl 2 rfl) ?_
        refine lv_aload_n hx hb dX7_item_51 rfl (lv_at hl 0 rfl) ?_
        refine va_get (D := (dC, dI)) (ci := 7) (v := .ref (ad 68)) (C := RX7) (T := TX7) (N := 8) hx hb hts (fun w h => List.mem_cons_of_mem _ (List.mem_append_left _ (List.mem_append_right _ h))) hown hK hP 0 rfl rfl 6 (by decide) (hts (.fieldLink RX7 51 "BidMarket" "tapes" "[LBidMarket$Tape;") (List.mem_of_getElem? (i := 1) rfl)) (fun _ h9 => h9) rfl dX7_item_52 ?_
        refine lv_iload_n hx hb dX7_item_55 rfl (lv_at hl 1 rfl) ?_
        have h15 := hw.1
        have hw := hw.2
        have q16 := bw_lt h15
        refine bw_aald (g := fun i => ad (2 * i + 69)) (b := ad (2 * a1.toNatClampNeg + 69)) hx hb hK hP 1 2 rfl rfl rfl (fun k h => if_pos h) h15 rfl dX7_item_56 ?_
        refine lv_lload_n hx hb dX7_item_57 rfl (lv_at hl 3 rfl) ?_
        have g17 : ∀ k, k < 6 → ((wdX7_item cI cJ cT cII cJJ ad im so le it))[2 + 2 * k]? = some (ad (2 * k + 69), .inr (5, [.ref (ad (2 * k + 70)), .int (so k), .int (le k)])) := bw_all6 rfl rfl rfl rfl rfl rfl
        refine bw_pvl (wc := (wdX5_asItem cI cJ cT cII cJJ (fun k => ad (2 * a1.toNatClampNeg + (69 + k))) (so a1.toNatClampNeg) (le a1.toNatClampNeg))) (As := [.long a3]) (rest := [.int a2, .ref (ad (2 * a1.toNatClampNeg + 70))]) ⟨hx, hb, hml, hown, hts⟩ (mX5_asItem l dC dI cI cJ cT cII cJJ (fun k => ad (2 * a1.toNatClampNeg + (69 + k))) (so a1.toNatClampNeg) (le a1.toNatClampNeg) a3 _ hw) (cwV 1 hts gX7_item_X5_asItem rfl rfl rfl hdX5_asItem ⟨Nat.le_of_ble_eq_true rfl, Nat.le_of_ble_eq_true rfl⟩) hK hP [(2 + 2 * a1.toNatClampNeg)] (bw_map1 (g17 _ q16)) rfl rfl rfl rfl hl.1 rfl (Nat.le_of_ble_eq_true rfl) ⟨Nat.le_of_ble_eq_true rfl, Nat.le_of_ble_eq_true rfl⟩ dX7_item_58 (fun r18 hw => ?_)
        have h19 := hw.1
        have hw := hw.2
        have g20 : ∀ k, k < 6 → ((wdX7_item cI cJ cT cII cJJ ad im so le it))[3 + 2 * k]? = some (ad (2 * k + 70), .inl (cJ, 60, .inr (.inl (it k)))) := bw_all6 rfl rfl rfl rfl rfl rfl
        refine va_last hx hb hK hP hD hS (3 + 2 * a1.toNatClampNeg) 1 (g20 _ q16) rfl h19 dX7_item_61 (fun H locs hP hD hS => ?_)
        have g21 : ∀ k, k < 6 → ∀ f : Nat → Int64, ((wdX7_item cI cJ cT cII cJJ ad im so le it)).set (3 + 2 * k) (ad (2 * k + 70), .inl (cJ, 60, .inr (.inl f))) = (wdX7_item cI cJ cT cII cJJ ad im so le (va_up it k f)) := bw_all6 (fun _ => rfl) (fun _ => rfl) (fun _ => rfl) (fun _ => rfl) (fun _ => rfl) (fun _ => rfl)
        rw [g21 _ q16] at hP hD
        have hP : va_P (dC, dI) vwCl (wdX7_item cI cJ cT cII cJJ ad im so le (va_up it a1.toNatClampNeg (vp_updL (it a1.toNatClampNeg) a2.toNatClampNeg r18))) H := hP
        have hD : va_D A (wdX7_item cI cJ cT cII cJJ ad im so le (va_up it a1.toNatClampNeg (vp_updL (it a1.toNatClampNeg) a2.toNatClampNeg r18))) := hD
        refine lv_iconst (v := 1) hx hb dX7_item_62 (by decide) ?_
        exact W.iret (v := 1) hx hb hr (fun t ht hW => ⟨⟨1, va_up it a1.toNatClampNeg (vp_updL (it a1.toNatClampNeg) a2.toNatClampNeg r18), rfl, hw, by show va_P _ _ _ t.heap; rw [ht]; exact hP⟩, hS.F ht⟩) hS.2.2 dX7_item_63
      · have hw := hw.2 c11
        refine lv_bipush (v := (-13)) hx hb dX7_item_38 (by decide) ?_
        exact W.iret (v := (-13)) hx hb hr (fun t ht hW => ⟨⟨(-13), it, rfl, hw, by show va_P _ _ _ t.heap; rw [ht]; exact hP⟩, hS.F ht⟩) hS.2.2 dX7_item_40
    · have hw := hw.2 c6
      refine lv_bipush (v := (-11)) hx hb dX7_item_22 (by decide) ?_
      exact W.iret (v := (-11)) hx hb hr (fun t ht hW => ⟨⟨(-11), it, rfl, hw, by show va_P _ _ _ t.heap; rw [ht]; exact hP⟩, hS.F ht⟩) hS.2.2 dX7_item_24
  · have hw := hw.2 c2
    refine lv_iconst (v := (-1)) hx hb dX7_item_7 (by decide) ?_
    exact W.iret (v := (-1)) hx hb hr (fun t ht hW => ⟨⟨(-1), it, rfl, hw, by show va_P _ _ _ t.heap; rw [ht]; exact hP⟩, hS.F ht⟩) hS.2.2 dX7_item_8
set_option maxHeartbeats 4000000 in
set_option maxRecDepth 100000 in
theorem mX7_peek (l : Launch) (dC : Nat → ClassId) (dI : Nat → Nat → Nat) (cI cJ cT cII cJJ : ClassId) (ad : Nat → Nat) (im : Int32) (so : Nat → Int32) (le : Nat → Int32) (it : Nat → Nat → Int64) (a1 : Int32) (a2 : Int32) (Post : Int64 → Prop) (hw : wpX7_peek le it a1 a2 Post) : Met l yX7_peek wsX7_peek ({ frames := 1, cells := 0, slots := 0, locals := 21 } : Room) (va_Pc [.ref (ad 0), .int a1, .int a2] (fun U => va_P (dC, dI) vwCl (wdX7_peek cI cJ cT cII cJJ ad im so le it) U.heap ∧ va_K (dC, dI) vwCl (bw_tys cI cJ cT cII cJJ) U)) (vp_Sl Post) 0 0 (fun _ => False) := by
  refine Met.ofW (cc := cX7_peek) (maxL := 3) (ret := (some .long)) (by decide) rfl ?_
  intro p e s m args below meth c s₁ B hml hv
  obtain ⟨rfl, hP, hK⟩ := hv
  have hx := B.exec
  have hb := B.bytes
  have hr := B.returns
  have hts := atoms_spec (ws := wsX7_peek) B.pre
  have hown : s.vm.findClass RX7 = some m.cls := findClass_of_methodNamed B.named
  have hlocks := B.notSynchronized
  have hl := lv_entry ([.ref (ad 0), .int a1, .int a2]) (n := 3) (Nat.le_of_ble_eq_true rfl)
  rw [lg_entry_eq]
  generalize (lg_sl ([.ref (ad 0), .int a1, .int a2]) ++ List.replicate (3 - (lg_sl ([.ref (ad 0), .int a1, .int a2])).length) Slot.unset).toArray = ls at hl ⊢
  have hl : lv_has ls 3 [(0, .ref (ad 0)), (1, .int a1), (2, .int a2)] := hl
  unfold wpX7_peek at hw
  refine lv_iload_n hx hb dX7_peek_0 rfl (lv_at hl 1 rfl) ?_
  refine bw_psi (wc := []) (As := [.int a1]) (rest := []) ⟨hx, hb, hml, hown, hts⟩ (mX7_isTape l dC dI cI cJ cT cII cJJ a1 _ hw) (va_cwS 1 hts gX7_peek_X7_isTape rfl rfl rfl hdX7_isTape ⟨Nat.le_of_ble_eq_true rfl, Nat.le_of_ble_eq_true rfl⟩) hK hP [] rfl rfl hl.1 rfl (Nat.le_of_ble_eq_true rfl) ⟨Nat.le_of_ble_eq_true rfl, Nat.le_of_ble_eq_true rfl⟩ dX7_peek_1 (fun r1 hw => ?_)
  refine lv_if_eq (tgt := 20) hx hb dX7_peek_4 (by decide) (fun c2 => ?_) (fun c2 => ?_)
  · have hw := hw.1 c2
    refine lv_ldc2 hx hb hown (hts (.constantLong RX7 136 (-9223372036854775808)) (List.mem_of_getElem? (i := 2) rfl)) dX7_peek_20 ?_
    exact W.lret (v := (-9223372036854775808)) hx hb hr (fun t ht hW => ⟨(-9223372036854775808), rfl, hw, ht⟩) (fun _ h => by cases h) dX7_peek_23
  · have hw := hw.2 c2
    refine lv_aload_n hx hb dX7_peek_7 rfl (lv_at hl 0 rfl) ?_
    refine va_get (D := (dC, dI)) (ci := 7) (v := .ref (ad 68)) (C := RX7) (T := TX7) (N := 8) hx hb hts (fun w h => List.mem_cons_of_mem _ (List.mem_append_left _ (List.mem_append_right _ h))) hown hK hP 0 rfl rfl 6 (by decide) (hts (.fieldLink RX7 51 "BidMarket" "tapes" "[LBidMarket$Tape;") (List.mem_of_getElem? (i := 1) rfl)) (fun _ h9 => h9) rfl dX7_peek_8 ?_
    refine lv_iload_n hx hb dX7_peek_11 rfl (lv_at hl 1 rfl) ?_
    have h3 := hw.1
    have hw := hw.2
    have q4 := bw_lt h3
    refine bw_aald (g := fun i => ad (2 * i + 69)) (b := ad (2 * a1.toNatClampNeg + 69)) hx hb hK hP 1 2 rfl rfl rfl (fun k h => if_pos h) h3 rfl dX7_peek_12 ?_
    refine lv_iload_n hx hb dX7_peek_13 rfl (lv_at hl 2 rfl) ?_
    have g5 : ∀ k, k < 6 → ((wdX7_peek cI cJ cT cII cJJ ad im so le it))[2 + 2 * k]? = some (ad (2 * k + 69), .inr (5, [.ref (ad (2 * k + 70)), .int (so k), .int (le k)])) := bw_all6 rfl rfl rfl rfl rfl rfl
    refine bw_pvi (wc := (wdX5_hasPlace cI cJ cT cII cJJ (fun k => ad (2 * a1.toNatClampNeg + (69 + k))) (so a1.toNatClampNeg) (le a1.toNatClampNeg))) (As := [.int a2]) (rest := []) ⟨hx, hb, hml, hown, hts⟩ (mX5_hasPlace l dC dI cI cJ cT cII cJJ (fun k => ad (2 * a1.toNatClampNeg + (69 + k))) (so a1.toNatClampNeg) (le a1.toNatClampNeg) a2 _ hw) (cwV 1 hts gX7_peek_X5_hasPlace rfl rfl rfl hdX5_hasPlace ⟨Nat.le_of_ble_eq_true rfl, Nat.le_of_ble_eq_true rfl⟩) hK hP [(2 + 2 * a1.toNatClampNeg)] (bw_map1 (g5 _ q4)) rfl rfl rfl rfl hl.1 rfl (Nat.le_of_ble_eq_true rfl) ⟨Nat.le_of_ble_eq_true rfl, Nat.le_of_ble_eq_true rfl⟩ dX7_peek_14 (fun r6 hw => ?_)
    refine lv_if_ne (tgt := 24) hx hb dX7_peek_17 (by decide) (fun c7 => ?_) (fun c7 => ?_)
    · have hw := hw.1 c7
      refine lv_aload_n hx hb dX7_peek_24 rfl (lv_at hl 0 rfl) ?_
      refine va_get (D := (dC, dI)) (ci := 7) (v := .ref (ad 68)) (C := RX7) (T := TX7) (N := 8) hx hb hts (fun w h => List.mem_cons_of_mem _ (List.mem_append_left _ (List.mem_append_right _ h))) hown hK hP 0 rfl rfl 6 (by decide) (hts (.fieldLink RX7 51 "BidMarket" "tapes" "[LBidMarket$Tape;") (List.mem_of_getElem? (i := 1) rfl)) (fun _ h9 => h9) rfl dX7_peek_25 ?_
      refine lv_iload_n hx hb dX7_peek_28 rfl (lv_at hl 1 rfl) ?_
      have h8 := hw.1
      have hw := hw.2
      have q9 := bw_lt h8
      refine bw_aald (g := fun i => ad (2 * i + 69)) (b := ad (2 * a1.toNatClampNeg + 69)) hx hb hK hP 1 2 rfl rfl rfl (fun k h => if_pos h) h8 rfl dX7_peek_29 ?_
      have g10 : ∀ k, k < 6 → ((wdX7_peek cI cJ cT cII cJJ ad im so le it))[2 + 2 * k]? = some (ad (2 * k + 69), .inr (5, [.ref (ad (2 * k + 70)), .int (so k), .int (le k)])) := bw_all6 rfl rfl rfl rfl rfl rfl
      refine va_get (D := (dC, dI)) (ci := 5) (v := .ref (ad (2 * a1.toNatClampNeg + 70))) (C := RX5) (T := TX5) (N := 3) hx hb hts (fun w h => List.mem_cons_of_mem _ (List.mem_append_right _ h)) hown hK hP (2 + 2 * a1.toNatClampNeg) (g10 _ q9) rfl 0 (by decide) (hts (.fieldLink RX7 261 "BidMarket$Tape" "items" "[J") (List.mem_of_getElem? (i := 3) rfl)) (fun _ h9 => h9) rfl dX7_peek_30 ?_
      refine lv_iload_n hx hb dX7_peek_33 rfl (lv_at hl 2 rfl) ?_
      have h11 := hw.1
      have hw := hw.2
      have g12 : ∀ k, k < 6 → ((wdX7_peek cI cJ cT cII cJJ ad im so le it))[3 + 2 * k]? = some (ad (2 * k + 70), .inl (cJ, 60, .inr (.inl (it k)))) := bw_all6 rfl rfl rfl rfl rfl rfl
      refine va_lald hx hb hK hP (3 + 2 * a1.toNatClampNeg) 1 (g12 _ q9) rfl h11 dX7_peek_34 ?_
      exact W.lret (v := ((it a1.toNatClampNeg)) a2.toNatClampNeg) hx hb hr (fun t ht hW => ⟨((it a1.toNatClampNeg)) a2.toNatClampNeg, rfl, hw, ht⟩) (fun _ h => by cases h) dX7_peek_35
    · have hw := hw.2 c7
      refine lv_ldc2 hx hb hown (hts (.constantLong RX7 136 (-9223372036854775808)) (List.mem_of_getElem? (i := 2) rfl)) dX7_peek_20 ?_
      exact W.lret (v := (-9223372036854775808)) hx hb hr (fun t ht hW => ⟨(-9223372036854775808), rfl, hw, ht⟩) (fun _ h => by cases h) dX7_peek_23
set_option maxHeartbeats 4000000 in
set_option maxRecDepth 100000 in
theorem mX7_shift (l : Launch) (dC : Nat → ClassId) (dI : Nat → Nat → Nat) (cI cJ cT cII cJJ : ClassId) (ad : Nat → Nat) (sz : Nat) (im : Int32) (so : Nat → Int32) (le : Nat → Int32) (it : Nat → Nat → Int64) (a1 : Int32) (a2 : Int32) (a3 : Int32) (a4 : Int32) (a5 : Int32) (Post : Int32 → (Nat → Nat → Int64) → Prop) (hw : wpX7_shift so le it a1 a2 a3 a4 a5 Post) : Met l yX7_shift wsX7_shift ({ frames := 1, cells := 0, slots := 0, locals := 64 } : Room) (va_Pc [.ref (ad 0), .int a1, .int a2, .int a3, .int a4, .int a5] (fun U => U.heap.size = sz ∧ va_P (dC, dI) vwCl (wdX7_shift cI cJ cT cII cJJ ad im so le it) U.heap ∧ va_K (dC, dI) vwCl (bw_tys cI cJ cT cII cJJ) U ∧ va_D (fun _ => True) (wdX7_shift cI cJ cT cII cJJ ad im so le it))) (va_Qi (fun (r : Int32) (u : (Nat → Nat → Int64)) => Post r u) (fun (u : (Nat → Nat → Int64)) t => va_P (dC, dI) vwCl (wdX7_shift cI cJ cT cII cJJ ad im so le u) t.heap) (va_A (wdX7_shift cI cJ cT cII cJJ ad im so le it) sz)) 0 0 (va_A (wdX7_shift cI cJ cT cII cJJ ad im so le it) sz) := by
  refine Met.ofW (cc := cX7_shift) (maxL := 8) (ret := (some .int)) (by decide) rfl ?_
  intro p e s m args below meth c s₁ B hml hv
  obtain ⟨rfl, hsz, hP, hK, hD0⟩ := hv
  have hx := B.exec
  have hb := B.bytes
  have hr := B.returns
  have hts := atoms_spec (ws := wsX7_shift) B.pre
  have hown : s.vm.findClass RX7 = some m.cls := findClass_of_methodNamed B.named
  have hlocks := B.notSynchronized
  subst hsz
  have hD := hD0.self (sz := s.heap.size)
  generalize hAe : va_A (wdX7_shift cI cJ cT cII cJJ ad im so le it) s.heap.size = A at hD ⊢
  have hA : ∀ q : Nat, s.heap.size ≤ q → A q := fun q h => by rw [← hAe]; exact Or.inr h
  have hS : va_S A s.heap s.heap [] := va_S.rf
  have hl := lv_entry ([.ref (ad 0), .int a1, .int a2, .int a3, .int a4, .int a5]) (n := 8) (Nat.le_of_ble_eq_true rfl)
  rw [lg_entry_eq]
  generalize (lg_sl ([.ref (ad 0), .int a1, .int a2, .int a3, .int a4, .int a5]) ++ List.replicate (8 - (lg_sl ([.ref (ad 0), .int a1, .int a2, .int a3, .int a4, .int a5])).length) Slot.unset).toArray = ls at hl ⊢
  have hl : lv_has ls 8 [(0, .ref (ad 0)), (1, .int a1), (2, .int a2), (3, .int a3), (4, .int a4), (5, .int a5)] := hl
  unfold wpX7_shift at hw
  refine lv_iload_n hx hb dX7_shift_0 rfl (lv_at hl 1 rfl) ?_
  refine bw_psi (wc := []) (As := [.int a1]) (rest := []) ⟨hx, hb, hml, hown, hts⟩ (mX7_isTape l dC dI cI cJ cT cII cJJ a1 _ hw) (va_cwS 1 hts gX7_shift_X7_isTape rfl rfl rfl hdX7_isTape ⟨Nat.le_of_ble_eq_true rfl, Nat.le_of_ble_eq_true rfl⟩) hK hP [] rfl rfl hl.1 rfl (Nat.le_of_ble_eq_true rfl) ⟨Nat.le_of_ble_eq_true rfl, Nat.le_of_ble_eq_true rfl⟩ dX7_shift_1 (fun r1 hw => ?_)
  refine lv_if_eq (tgt := 14) hx hb dX7_shift_4 (by decide) (fun c2 => ?_) (fun c2 => ?_)
  · have hw := hw.1 c2
    refine lv_iconst (v := (-1)) hx hb dX7_shift_14 (by decide) ?_
    exact W.iret (v := (-1)) hx hb hr (fun t ht hW => ⟨⟨(-1), it, rfl, hw, by show va_P _ _ _ t.heap; rw [ht]; exact hP⟩, hS.F ht⟩) hS.2.2 dX7_shift_15
  · have hw := hw.2 c2
    refine lv_iload_n hx hb dX7_shift_7 rfl (lv_at hl 3 rfl) ?_
    refine bw_psi (wc := []) (As := [.int a3]) (rest := []) ⟨hx, hb, hml, hown, hts⟩ (mX7_isTape l dC dI cI cJ cT cII cJJ a3 _ hw) (va_cwS 1 hts gX7_shift_X7_isTape rfl rfl rfl hdX7_isTape ⟨Nat.le_of_ble_eq_true rfl, Nat.le_of_ble_eq_true rfl⟩) hK hP [] rfl rfl hl.1 rfl (Nat.le_of_ble_eq_true rfl) ⟨Nat.le_of_ble_eq_true rfl, Nat.le_of_ble_eq_true rfl⟩ dX7_shift_8 (fun r3 hw => ?_)
    refine lv_if_ne (tgt := 16) hx hb dX7_shift_11 (by decide) (fun c4 => ?_) (fun c4 => ?_)
    · have hw := hw.1 c4
      refine lv_aload_n hx hb dX7_shift_16 rfl (lv_at hl 0 rfl) ?_
      refine va_get (D := (dC, dI)) (ci := 7) (v := .ref (ad 68)) (C := RX7) (T := TX7) (N := 8) hx hb hts (fun w h => List.mem_cons_of_mem _ (List.mem_append_left _ (List.mem_append_right _ h))) hown hK hP 0 rfl rfl 6 (by decide) (hts (.fieldLink RX7 51 "BidMarket" "tapes" "[LBidMarket$Tape;") (List.mem_of_getElem? (i := 1) rfl)) (fun _ h9 => h9) rfl dX7_shift_17 ?_
      refine lv_iload_n hx hb dX7_shift_20 rfl (lv_at hl 1 rfl) ?_
      have h5 := hw.1
      have hw := hw.2
      have q6 := bw_lt h5
      refine bw_aald (g := fun i => ad (2 * i + 69)) (b := ad (2 * a1.toNatClampNeg + 69)) hx hb hK hP 1 2 rfl rfl rfl (fun k h => if_pos h) h5 rfl dX7_shift_21 ?_
      refine lv_astore (lv' := [(6, .ref (ad (2 * a1.toNatClampNeg + 69))), (0, .ref (ad 0)), (1, .int a1), (2, .int a2), (3, .int a3), (4, .int a4), (5, .int a5)]) hx hb dX7_shift_22 hl (by decide) rfl (fun ls hl => ?_)
      refine lv_aload_n hx hb dX7_shift_24 rfl (lv_at hl 1 rfl) ?_
      refine va_get (D := (dC, dI)) (ci := 7) (v := .ref (ad 68)) (C := RX7) (T := TX7) (N := 8) hx hb hts (fun w h => List.mem_cons_of_mem _ (List.mem_append_left _ (List.mem_append_right _ h))) hown hK hP 0 rfl rfl 6 (by decide) (hts (.fieldLink RX7 51 "BidMarket" "tapes" "[LBidMarket$Tape;") (List.mem_of_getElem? (i := 1) rfl)) (fun _ h9 => h9) rfl dX7_shift_25 ?_
      refine lv_iload_n hx hb dX7_shift_28 rfl (lv_at hl 4 rfl) ?_
      have h7 := hw.1
      have hw := hw.2
      have q8 := bw_lt h7
      refine bw_aald (g := fun i => ad (2 * i + 69)) (b := ad (2 * a3.toNatClampNeg + 69)) hx hb hK hP 1 2 rfl rfl rfl (fun k h => if_pos h) h7 rfl dX7_shift_29 ?_
      refine lv_astore (lv' := [(7, .ref (ad (2 * a3.toNatClampNeg + 69))), (6, .ref (ad (2 * a1.toNatClampNeg + 69))), (0, .ref (ad 0)), (1, .int a1), (2, .int a2), (3, .int a3), (4, .int a4), (5, .int a5)]) hx hb dX7_shift_30 hl (by decide) rfl (fun ls hl => ?_)
      refine lv_aload hx hb dX7_shift_32 (lv_at hl 1 rfl) ?_
      have g9 : ∀ k, k < 6 → ((wdX7_shift cI cJ cT cII cJJ ad im so le it))[2 + 2 * k]? = some (ad (2 * k + 69), .inr (5, [.ref (ad (2 * k + 70)), .int (so k), .int (le k)])) := bw_all6 rfl rfl rfl rfl rfl rfl
      refine va_get (D := (dC, dI)) (ci := 5) (v := .int (so a1.toNatClampNeg)) (C := RX5) (T := TX5) (N := 3) hx hb hts (fun w h => List.mem_cons_of_mem _ (List.mem_append_right _ h)) hown hK hP (2 + 2 * a1.toNatClampNeg) (g9 _ q6) rfl 1 (by decide) (hts (.fieldLink RX7 255 "BidMarket$Tape" "sort" "I") (List.mem_of_getElem? (i := 2) rfl)) (fun _ h9 => h9) rfl dX7_shift_34 ?_
      refine lv_iconst (v := (-1)) hx hb dX7_shift_37 (by decide) ?_
      refine lv_icmp_eq (tgt := 50) hx hb dX7_shift_38 (by decide) (fun c10 => ?_) (fun c10 => ?_)
      · have hw := hw.1 c10
        refine lv_bipush (v := (-11)) hx hb dX7_shift_50 (by decide) ?_
        exact W.iret (v := (-11)) hx hb hr (fun t ht hW => ⟨⟨(-11), it, rfl, hw, by show va_P _ _ _ t.heap; rw [ht]; exact hP⟩, hS.F ht⟩) hS.2.2 dX7_shift_52
      · have hw := hw.2 c10
        refine lv_aload hx hb dX7_shift_41 (lv_at hl 0 rfl) ?_
        have g11 : ∀ k, k < 6 → ((wdX7_shift cI cJ cT cII cJJ ad im so le it))[2 + 2 * k]? = some (ad (2 * k + 69), .inr (5, [.ref (ad (2 * k + 70)), .int (so k), .int (le k)])) := bw_all6 rfl rfl rfl rfl rfl rfl
        refine va_get (D := (dC, dI)) (ci := 5) (v := .int (so a3.toNatClampNeg)) (C := RX5) (T := TX5) (N := 3) hx hb hts (fun w h => List.mem_cons_of_mem _ (List.mem_append_right _ h)) hown hK hP (2 + 2 * a3.toNatClampNeg) (g11 _ q8) rfl 1 (by decide) (hts (.fieldLink RX7 255 "BidMarket$Tape" "sort" "I") (List.mem_of_getElem? (i := 2) rfl)) (fun _ h9 => h9) rfl dX7_shift_43 ?_
        refine lv_iconst (v := (-1)) hx hb dX7_shift_46 (by decide) ?_
        refine lv_icmp_ne (tgt := 53) hx hb dX7_shift_47 (by decide) (fun c12 => ?_) (fun c12 => ?_)
        · have hw := hw.1 c12
          refine lv_aload hx hb dX7_shift_53 (lv_at hl 1 rfl) ?_
          have g13 : ∀ k, k < 6 → ((wdX7_shift cI cJ cT cII cJJ ad im so le it))[2 + 2 * k]? = some (ad (2 * k + 69), .inr (5, [.ref (ad (2 * k + 70)), .int (so k), .int (le k)])) := bw_all6 rfl rfl rfl rfl rfl rfl
          refine va_get (D := (dC, dI)) (ci := 5) (v := .int (so a1.toNatClampNeg)) (C := RX5) (T := TX5) (N := 3) hx hb hts (fun w h => List.mem_cons_of_mem _ (List.mem_append_right _ h)) hown hK hP (2 + 2 * a1.toNatClampNeg) (g13 _ q6) rfl 1 (by decide) (hts (.fieldLink RX7 255 "BidMarket$Tape" "sort" "I") (List.mem_of_getElem? (i := 2) rfl)) (fun _ h9 => h9) rfl dX7_shift_55 ?_
          refine lv_aload hx hb dX7_shift_58 (lv_at hl 0 rfl) ?_
          have g14 : ∀ k, k < 6 → ((wdX7_shift cI cJ cT cII cJJ ad im so le it))[2 + 2 * k]? = some (ad (2 * k + 69), .inr (5, [.ref (ad (2 * k + 70)), .int (so k), .int (le k)])) := bw_all6 rfl rfl rfl rfl rfl rfl
          refine va_get (D := (dC, dI)) (ci := 5) (v := .int (so a3.toNatClampNeg)) (C := RX5) (T := TX5) (N := 3) hx hb hts (fun w h => List.mem_cons_of_mem _ (List.mem_append_right _ h)) hown hK hP (2 + 2 * a3.toNatClampNeg) (g14 _ q8) rfl 1 (by decide) (hts (.fieldLink RX7 255 "BidMarket$Tape" "sort" "I") (List.mem_of_getElem? (i := 2) rfl)) (fun _ h9 => h9) rfl dX7_shift_60 ?_
          refine lv_icmp_eq (tgt := 69) hx hb dX7_shift_63 (by decide) (fun c15 => ?_) (fun c15 => ?_)
          · have hw := hw.1 c15
            refine lv_aload hx hb dX7_shift_69 (lv_at hl 1 rfl) ?_
            refine lv_iload_n hx hb dX7_shift_71 rfl (lv_at hl 4 rfl) ?_
            refine lv_iload hx hb dX7_shift_72 (lv_at hl 7 rfl) ?_
            have g16 : ∀ k, k < 6 → ((wdX7_shift cI cJ cT cII cJJ ad im so le it))[2 + 2 * k]? = some (ad (2 * k + 69), .inr (5, [.ref (ad (2 * k + 70)), .int (so k), .int (le k)])) := bw_all6 rfl rfl rfl rfl rfl rfl
            refine bw_pvi (wc := (wdX5_hasRun cI cJ cT cII cJJ (fun k => ad (2 * a1.toNatClampNeg + (69 + k))) (so a1.toNatClampNeg) (le a1.toNatClampNeg))) (As := [.int a2, .int a5]) (rest := []) ⟨hx, hb, hml, hown, hts⟩ (mX5_hasRun l dC dI cI cJ cT cII cJJ (fun k => ad (2 * a1.toNatClampNeg + (69 + k))) (so a1.toNatClampNeg) (le a1.toNatClampNeg) a2 a5 _ hw) (cwV 2 hts gX7_shift_X5_hasRun rfl rfl rfl hdX5_hasRun ⟨Nat.le_of_ble_eq_true rfl, Nat.le_of_ble_eq_true rfl⟩) hK hP [(2 + 2 * a1.toNatClampNeg)] (bw_map1 (g16 _ q6)) rfl rfl rfl rfl hl.1 rfl (Nat.le_of_ble_eq_true rfl) ⟨Nat.le_of_ble_eq_true rfl, Nat.le_of_ble_eq_true rfl⟩ dX7_shift_74 (fun r17 hw => ?_)
            refine lv_if_eq (tgt := 92) hx hb dX7_shift_77 (by decide) (fun c18 => ?_) (fun c18 => ?_)
            · have hw := hw.1 c18
              refine lv_bipush (v := (-13)) hx hb dX7_shift_92 (by decide) ?_
              exact W.iret (v := (-13)) hx hb hr (fun t ht hW => ⟨⟨(-13), it, rfl, hw, by show va_P _ _ _ t.heap; rw [ht]; exact hP⟩, hS.F ht⟩) hS.2.2 dX7_shift_94
            · have hw := hw.2 c18
              refine lv_aload hx hb dX7_shift_80 (lv_at hl 0 rfl) ?_
              refine lv_iload hx hb dX7_shift_82 (lv_at hl 6 rfl) ?_
              refine lv_iload hx hb dX7_shift_84 (lv_at hl 7 rfl) ?_
              have g19 : ∀ k, k < 6 → ((wdX7_shift cI cJ cT cII cJJ ad im so le it))[2 + 2 * k]? = some (ad (2 * k + 69), .inr (5, [.ref (ad (2 * k + 70)), .int (so k), .int (le k)])) := bw_all6 rfl rfl rfl rfl rfl rfl
              refine bw_pvi (wc := (wdX5_hasRun cI cJ cT cII cJJ (fun k => ad (2 * a3.toNatClampNeg + (69 + k))) (so a3.toNatClampNeg) (le a3.toNatClampNeg))) (As := [.int a4, .int a5]) (rest := []) ⟨hx, hb, hml, hown, hts⟩ (mX5_hasRun l dC dI cI cJ cT cII cJJ (fun k => ad (2 * a3.toNatClampNeg + (69 + k))) (so a3.toNatClampNeg) (le a3.toNatClampNeg) a4 a5 _ hw) (cwV 2 hts gX7_shift_X5_hasRun rfl rfl rfl hdX5_hasRun ⟨Nat.le_of_ble_eq_true rfl, Nat.le_of_ble_eq_true rfl⟩) hK hP [(2 + 2 * a3.toNatClampNeg)] (bw_map1 (g19 _ q8)) rfl rfl rfl rfl hl.1 rfl (Nat.le_of_ble_eq_true rfl) ⟨Nat.le_of_ble_eq_true rfl, Nat.le_of_ble_eq_true rfl⟩ dX7_shift_86 (fun r20 hw => ?_)
              refine lv_if_ne (tgt := 95) hx hb dX7_shift_89 (by decide) (fun c21 => ?_) (fun c21 => ?_)
              · have hw := hw.1 c21
                refine lv_aload hx hb dX7_shift_95 (lv_at hl 1 rfl) ?_
                have g22 : ∀ k, k < 6 → ((wdX7_shift cI cJ cT cII cJJ ad im so le it))[2 + 2 * k]? = some (ad (2 * k + 69), .inr (5, [.ref (ad (2 * k + 70)), .int (so k), .int (le k)])) := bw_all6 rfl rfl rfl rfl rfl rfl
                refine va_get (D := (dC, dI)) (ci := 5) (v := .ref (ad (2 * a1.toNatClampNeg + 70))) (C := RX5) (T := TX5) (N := 3) hx hb hts (fun w h => List.mem_cons_of_mem _ (List.mem_append_right _ h)) hown hK hP (2 + 2 * a1.toNatClampNeg) (g22 _ q6) rfl 0 (by decide) (hts (.fieldLink RX7 261 "BidMarket$Tape" "items" "[J") (List.mem_of_getElem? (i := 3) rfl)) (fun _ h9 => h9) rfl dX7_shift_97 ?_
                refine lv_iload_n hx hb dX7_shift_100 rfl (lv_at hl 4 rfl) ?_
                refine lv_aload hx hb dX7_shift_101 (lv_at hl 0 rfl) ?_
                have g23 : ∀ k, k < 6 → ((wdX7_shift cI cJ cT cII cJJ ad im so le it))[2 + 2 * k]? = some (ad (2 * k + 69), .inr (5, [.ref (ad (2 * k + 70)), .int (so k), .int (le k)])) := bw_all6 rfl rfl rfl rfl rfl rfl
                refine va_get (D := (dC, dI)) (ci := 5) (v := .ref (ad (2 * a3.toNatClampNeg + 70))) (C := RX5) (T := TX5) (N := 3) hx hb hts (fun w h => List.mem_cons_of_mem _ (List.mem_append_right _ h)) hown hK hP (2 + 2 * a3.toNatClampNeg) (g23 _ q8) rfl 0 (by decide) (hts (.fieldLink RX7 261 "BidMarket$Tape" "items" "[J") (List.mem_of_getElem? (i := 3) rfl)) (fun _ h9 => h9) rfl dX7_shift_103 ?_
                refine lv_iload hx hb dX7_shift_106 (lv_at hl 6 rfl) ?_
                refine lv_iload hx hb dX7_shift_108 (lv_at hl 7 rfl) ?_
                have h24 := hw.1
                have hw := hw.2
                have h25 := hw.1
                have hw := hw.2
                have h26 := hw.1
                have hw := hw.2
                have h27 := hw.1
                have hw := hw.2
                have h28 := hw.1
                have hw := hw.2
                have g29 : ∀ k, k < 6 → ((wdX7_shift cI cJ cT cII cJJ ad im so le it))[3 + 2 * k]? = some (ad (2 * k + 70), .inl (cJ, 60, .inr (.inl (it k)))) := bw_all6 rfl rfl rfl rfl rfl rfl
                have g30 : ∀ k, k < 6 → ((wdX7_shift cI cJ cT cII cJJ ad im so le it))[3 + 2 * k]? = some (ad (2 * k + 70), .inl (cJ, 60, .inr (.inl (it k)))) := bw_all6 rfl rfl rfl rfl rfl rfl
                refine va_copyl (ty := .long) hx hb (hml.trans hl.1.symm) hown (hts (.methodLink RX7 286 arraycopyName) (List.mem_of_getElem? (i := 4) rfl)) (hts (.native arraycopyName) (List.mem_of_getElem? (i := 5) rfl)) (hts (.static arraycopyName) (List.mem_of_getElem? (i := 6) rfl)) (hts (.initialized "java/lang/System") (List.mem_of_getElem? (i := 7) rfl)) hK hP hD hS (3 + 2 * a1.toNatClampNeg) (3 + 2 * a3.toNatClampNeg) 1 1 (g29 _ q6) (g30 _ q8) rfl rfl rfl h24 h25 h26 h27 h28 (fun _ _ => rfl) (Nat.le_of_ble_eq_true rfl) (Nat.le_of_ble_eq_true rfl) dX7_shift_110 (fun H locs hP hD hS => ?_)
                have g31 : ∀ k, k < 6 → ∀ f : Nat → Int64, ((wdX7_shift cI cJ cT cII cJJ ad im so le it)).set (3 + 2 * k) (ad (2 * k + 70), .inl (cJ, 60, .inr (.inl f))) = (wdX7_shift cI cJ cT cII cJJ ad im so le (va_up it k f)) := bw_all6 (fun _ => rfl) (fun _ => rfl) (fun _ => rfl) (fun _ => rfl) (fun _ => rfl) (fun _ => rfl)
                rw [g31 _ q8] at hP hD
                have hP : va_P (dC, dI) vwCl (wdX7_shift cI cJ cT cII cJJ ad im so le (va_up it a3.toNatClampNeg (va_cpy ((it a1.toNatClampNeg)) (it a3.toNatClampNeg) a2.toNatClampNeg a4.toNatClampNeg a5.toNatClampNeg))) H := hP
                have hD : va_D A (wdX7_shift cI cJ cT cII cJJ ad im so le (va_up it a3.toNatClampNeg (va_cpy ((it a1.toNatClampNeg)) (it a3.toNatClampNeg) a2.toNatClampNeg a4.toNatClampNeg a5.toNatClampNeg))) := hD
                refine lv_iload hx hb dX7_shift_113 (lv_at hl 7 rfl) ?_
                exact W.iret (v := a5) hx hb hr (fun t ht hW => ⟨⟨a5, va_up it a3.toNatClampNeg (va_cpy ((it a1.toNatClampNeg)) (it a3.toNatClampNeg) a2.toNatClampNeg a4.toNatClampNeg a5.toNatClampNeg), rfl, hw, by show va_P _ _ _ t.heap; rw [ht]; exact hP⟩, hS.F ht⟩) hS.2.2 dX7_shift_115
              · have hw := hw.2 c21
                refine lv_bipush (v := (-13)) hx hb dX7_shift_92 (by decide) ?_
                exact W.iret (v := (-13)) hx hb hr (fun t ht hW => ⟨⟨(-13), it, rfl, hw, by show va_P _ _ _ t.heap; rw [ht]; exact hP⟩, hS.F ht⟩) hS.2.2 dX7_shift_94
          · have hw := hw.2 c15
            refine lv_bipush (v := (-12)) hx hb dX7_shift_66 (by decide) ?_
            exact W.iret (v := (-12)) hx hb hr (fun t ht hW => ⟨⟨(-12), it, rfl, hw, by show va_P _ _ _ t.heap; rw [ht]; exact hP⟩, hS.F ht⟩) hS.2.2 dX7_shift_68
        · have hw := hw.2 c12
          refine lv_bipush (v := (-11)) hx hb dX7_shift_50 (by decide) ?_
          exact W.iret (v := (-11)) hx hb hr (fun t ht hW => ⟨⟨(-11), it, rfl, hw, by show va_P _ _ _ t.heap; rw [ht]; exact hP⟩, hS.F ht⟩) hS.2.2 dX7_shift_52
    · have hw := hw.2 c4
      refine lv_iconst (v := (-1)) hx hb dX7_shift_14 (by decide) ?_
      exact W.iret (v := (-1)) hx hb hr (fun t ht hW => ⟨⟨(-1), it, rfl, hw, by show va_P _ _ _ t.heap; rw [ht]; exact hP⟩, hS.F ht⟩) hS.2.2 dX7_shift_15
