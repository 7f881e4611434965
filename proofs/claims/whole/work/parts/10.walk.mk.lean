set_option maxHeartbeats 4000000 in
set_option maxRecDepth 100000 in
theorem mX2_takeAllAway (l : Launch) (dC : Nat → ClassId) (dI : Nat → Nat → Nat) (cI cJ cT cII cJJ : ClassId) (ad : Nat → Nat) (sz : Nat) (n : Int32) (pa : Int32) (br : Int32) (th : Nat → Int32) (pe : Nat → Int32) (Post : (Nat → Int32) → (Nat → Int32) → Prop) (hw : wpX2_takeAllAway th pe Post) : Met l yX2_takeAllAway wsX2_takeAllAway ({ frames := 0, cells := 0, slots := 0, locals := 0 } : Room) (va_Pc [.ref (ad 0)] (fun U => U.heap.size = sz ∧ va_P (dC, dI) vwCl (wdX2_takeAllAway cI cJ cT cII cJJ ad n pa br th pe) U.heap ∧ va_K (dC, dI) vwCl (bw_tys cI cJ cT cII cJJ) U ∧ va_D (fun _ => True) (wdX2_takeAllAway cI cJ cT cII cJJ ad n pa br th pe))) (va_Qv (fun (u : (Nat → Int32) × (Nat → Int32)) => Post u.1 u.2) (fun (u : (Nat → Int32) × (Nat → Int32)) t => va_P (dC, dI) vwCl (wdX2_takeAllAway cI cJ cT cII cJJ ad n pa br u.1 u.2) t.heap) (va_A (wdX2_takeAllAway cI cJ cT cII cJJ ad n pa br th pe) sz)) 0 0 (va_A (wdX2_takeAllAway cI cJ cT cII cJJ ad n pa br th pe) sz) := by
  refine Met.ofW (cc := cX2_takeAllAway) (maxL := 2) (ret := none) (by decide) rfl ?_
  intro p e s m args below meth c s₁ B hml hv
  obtain ⟨rfl, hsz, hP, hK, hD0⟩ := hv
  have hx := B.exec
  have hb := B.bytes
  have hr := B.returns
  have hts := atoms_spec (ws := wsX2_takeAllAway) B.pre
  have hown : s.vm.findClass RX2 = some m.cls := findClass_of_methodNamed B.named
  have hlocks := B.notSynchronized
  subst hsz
  have hD := hD0.self (sz := s.heap.size)
  generalize hAe : va_A (wdX2_takeAllAway cI cJ cT cII cJJ ad n pa br th pe) s.heap.size = A at hD ⊢
  have hA : ∀ q : Nat, s.heap.size ≤ q → A q := fun q h => by rw [← hAe]; exact Or.inr h
  have hS : va_S A s.heap s.heap [] := va_S.rf
  have hl := lv_entry ([.ref (ad 0)]) (n := 2) (Nat.le_of_ble_eq_true rfl)
  rw [lg_entry_eq]
  generalize (lg_sl ([.ref (ad 0)]) ++ List.replicate (2 - (lg_sl ([.ref (ad 0)])).length) Slot.unset).toArray = ls at hl ⊢
  have hl : lv_has ls 2 [(0, .ref (ad 0))] := hl
  have kB2 : ∀ f : Nat, ∀ (v1 : Int32) (th : Nat → Int32) (pe : Nat → Int32), ∀ (H : Heap) (locs : List Loc), va_P (dC, dI) vwCl (wdX2_takeAllAway cI cJ cT cII cJJ ad n pa br th pe) H → va_D A (wdX2_takeAllAway cI cJ cT cII cJJ ad n pa br th pe) → va_S A s.heap H locs → ∀ ls : Array Slot, lv_has ls 2 [(0, .ref (ad 0)), (1, .int v1)] → wpX2_takeAllAway_B2 Post f v1 th pe → W p l e (headSpec wsX2_takeAllAway ({ frames := 0, cells := 0, slots := 0, locals := 0 } : Room)).room s m ([.ref (ad 0)] : List Value).toArray below meth c H locs 0 0 (MQ below (va_Qv (fun (u : (Nat → Int32) × (Nat → Int32)) => Post u.1 u.2) (fun (u : (Nat → Int32) × (Nat → Int32)) t => va_P (dC, dI) vwCl (wdX2_takeAllAway cI cJ cT cII cJJ ad n pa br u.1 u.2) t.heap) A) ([.ref (ad 0)] : List Value).toArray s 0 0 A) (F0 m 2 ls []) := by
    intro  f
    induction f with
    | zero => intro v1 th pe H locs hP hD hS ls hl hw; exact (show False from hw).elim
    | succ f ih =>
      intro v1 th pe H locs hP hD hS ls hl hw
      rw [wpX2_takeAllAway_B2] at hw
      refine lv_iload_n hx hb dX2_takeAllAway_2 rfl (lv_at hl 1 rfl) ?_
      refine lv_bipush (v := 8) hx hb dX2_takeAllAway_3 (by decide) ?_
      refine lv_icmp_ge (tgt := 28) hx hb dX2_takeAllAway_5 (by decide) (fun c1 => ?_) (fun c1 => ?_)
      · have hw := hw.1 c1
        exact W.vret hx hb hr (fun t ht hW => ⟨⟨(th, pe), rfl, hw, by show va_P _ _ _ t.heap; rw [ht]; exact hP⟩, hS.F ht⟩) hS.2.2 dX2_takeAllAway_28
      · have hw := hw.2 c1
        refine lv_aload_n hx hb dX2_takeAllAway_8 rfl (lv_at hl 0 rfl) ?_
        refine va_get (D := (dC, dI)) (ci := 2) (v := .ref (ad 1)) (C := RX2) (T := TX2) (N := 7) hx hb hts (fun w h => List.mem_cons_of_mem _ (List.mem_append_right _ h)) hown hK hP 0 rfl rfl 1 (by decide) (hts (.fieldLink RX2 16 "BidMarket$Market" "thingOf" "[I") (List.mem_of_getElem? (i := 1) rfl)) (fun _ h9 => h9) rfl dX2_takeAllAway_9 ?_
        refine lv_iload_n hx hb dX2_takeAllAway_12 rfl (lv_at hl 1 rfl) ?_
        refine lv_iconst (v := (-1)) hx hb dX2_takeAllAway_13 (by decide) ?_
        have h2 := hw.1
        have hw := hw.2
        refine va_iast hx hb hK hP hD hS 1 0 rfl rfl h2 dX2_takeAllAway_14 (fun H locs hP hD hS => ?_)
        have hP : va_P (dC, dI) vwCl (wdX2_takeAllAway cI cJ cT cII cJJ ad n pa br (upd th v1.toNatClampNeg ((-1))) pe) H := hP
        have hD : va_D A (wdX2_takeAllAway cI cJ cT cII cJJ ad n pa br (upd th v1.toNatClampNeg ((-1))) pe) := hD
        refine lv_aload_n hx hb dX2_takeAllAway_15 rfl (lv_at hl 0 rfl) ?_
        refine va_get (D := (dC, dI)) (ci := 2) (v := .ref (ad 2)) (C := RX2) (T := TX2) (N := 7) hx hb hts (fun w h => List.mem_cons_of_mem _ (List.mem_append_right _ h)) hown hK hP 0 rfl rfl 2 (by decide) (hts (.fieldLink RX2 20 "BidMarket$Market" "personOf" "[I") (List.mem_of_getElem? (i := 2) rfl)) (fun _ h9 => h9) rfl dX2_takeAllAway_16 ?_
        refine lv_iload_n hx hb dX2_takeAllAway_19 rfl (lv_at hl 1 rfl) ?_
        refine lv_iconst (v := (-1)) hx hb dX2_takeAllAway_20 (by decide) ?_
        have h3 := hw.1
        have hw := hw.2
        refine va_iast hx hb hK hP hD hS 2 0 rfl rfl h3 dX2_takeAllAway_21 (fun H locs hP hD hS => ?_)
        have hP : va_P (dC, dI) vwCl (wdX2_takeAllAway cI cJ cT cII cJJ ad n pa br (upd th v1.toNatClampNeg ((-1))) (upd pe v1.toNatClampNeg ((-1)))) H := hP
        have hD : va_D A (wdX2_takeAllAway cI cJ cT cII cJJ ad n pa br (upd th v1.toNatClampNeg ((-1))) (upd pe v1.toNatClampNeg ((-1)))) := hD
        obtain ⟨x4, ex4⟩ : ∃ y : Int32, y = v1 + 1 := ⟨_, rfl⟩
        have hw := hw x4 ex4
        refine lv_iinc (v := x4) (lv' := [(1, .int x4), (0, .ref (ad 0))]) hx hb dX2_takeAllAway_22 hl (k := 1) rfl (by rw [ex4]; rfl) (by decide) rfl (fun ls hl => ?_)
        refine lv_goto (tgt := 2) hx hb dX2_takeAllAway_25 (by decide) ?_
        exact ih x4 (upd th v1.toNatClampNeg ((-1))) (upd pe v1.toNatClampNeg ((-1))) _ _ hP hD hS ls (lv_sub hl [1, 0] rfl) hw
  unfold wpX2_takeAllAway at hw
  refine lv_iconst (v := 0) hx hb dX2_takeAllAway_0 (by decide) ?_
  refine lv_istore_n (lv' := [(1, .int 0), (0, .ref (ad 0))]) hx hb dX2_takeAllAway_1 rfl hl (by decide) rfl (fun ls hl => ?_)
  obtain ⟨f1, hw⟩ := hw
  exact kB2 f1 0 th pe _ _ hP hD hS ls (lv_sub hl [1, 0] rfl) hw
set_option maxHeartbeats 4000000 in
set_option maxRecDepth 100000 in
theorem mX2_startAnew (l : Launch) (dC : Nat → ClassId) (dI : Nat → Nat → Nat) (cI cJ cT cII cJJ : ClassId) (ad : Nat → Nat) (sz : Nat) (n : Int32) (pa : Int32) (br : Int32) (th : Nat → Int32) (pe : Nat → Int32) (pr : Nat → Int32) (Post : (Nat → Int32) → (Nat → Int32) → (Nat → Int32) → Prop) (hw : wpX2_startAnew th pe pr Post) : Met l yX2_startAnew wsX2_startAnew ({ frames := 1, cells := 0, slots := 0, locals := 21 } : Room) (va_Pc [.ref (ad 0)] (fun U => U.heap.size = sz ∧ va_P (dC, dI) vwCl (wdX2_startAnew cI cJ cT cII cJJ ad n pa br th pe pr) U.heap ∧ va_K (dC, dI) vwCl (bw_tys cI cJ cT cII cJJ) U ∧ va_D (fun _ => True) (wdX2_startAnew cI cJ cT cII cJJ ad n pa br th pe pr))) (va_Qv (fun (u : (Nat → Int32) × (Nat → Int32) × (Nat → Int32)) => Post u.1 u.2.1 u.2.2) (fun (u : (Nat → Int32) × (Nat → Int32) × (Nat → Int32)) t => va_P (dC, dI) vwCl (wdX2_startAnew cI cJ cT cII cJJ ad n pa br u.1 u.2.1 u.2.2) t.heap) (va_A (wdX2_startAnew cI cJ cT cII cJJ ad n pa br th pe pr) sz)) 0 0 (va_A (wdX2_startAnew cI cJ cT cII cJJ ad n pa br th pe pr) sz) := by
  refine Met.ofW (cc := cX2_startAnew) (maxL := 2) (ret := none) (by decide) rfl ?_
  intro p e s m args below meth c s₁ B hml hv
  obtain ⟨rfl, hsz, hP, hK, hD0⟩ := hv
  have hx := B.exec
  have hb := B.bytes
  have hr := B.returns
  have hts := atoms_spec (ws := wsX2_startAnew) B.pre
  have hown : s.vm.findClass RX2 = some m.cls := findClass_of_methodNamed B.named
  have hlocks := B.notSynchronized
  subst hsz
  have hD := hD0.self (sz := s.heap.size)
  generalize hAe : va_A (wdX2_startAnew cI cJ cT cII cJJ ad n pa br th pe pr) s.heap.size = A at hD ⊢
  have hA : ∀ q : Nat, s.heap.size ≤ q → A q := fun q h => by rw [← hAe]; exact Or.inr h
  have hS : va_S A s.heap s.heap [] := va_S.rf
  have hl := lv_entry ([.ref (ad 0)]) (n := 2) (Nat.le_of_ble_eq_true rfl)
  rw [lg_entry_eq]
  generalize (lg_sl ([.ref (ad 0)]) ++ List.replicate (2 - (lg_sl ([.ref (ad 0)])).length) Slot.unset).toArray = ls at hl ⊢
  have hl : lv_has ls 2 [(0, .ref (ad 0))] := hl
  have kB6 : ∀ f : Nat, ∀ (v1 : Int32) (th : Nat → Int32) (pe : Nat → Int32) (pr : Nat → Int32), ∀ (H : Heap) (locs : List Loc), va_P (dC, dI) vwCl (wdX2_startAnew cI cJ cT cII cJJ ad n pa br th pe pr) H → va_D A (wdX2_startAnew cI cJ cT cII cJJ ad n pa br th pe pr) → va_S A s.heap H locs → ∀ ls : Array Slot, lv_has ls 2 [(0, .ref (ad 0)), (1, .int v1)] → wpX2_startAnew_B6 Post f v1 th pe pr → W p l e (headSpec wsX2_startAnew ({ frames := 1, cells := 0, slots := 0, locals := 21 } : Room)).room s m ([.ref (ad 0)] : List Value).toArray below meth c H locs 0 0 (MQ below (va_Qv (fun (u : (Nat → Int32) × (Nat → Int32) × (Nat → Int32)) => Post u.1 u.2.1 u.2.2) (fun (u : (Nat → Int32) × (Nat → Int32) × (Nat → Int32)) t => va_P (dC, dI) vwCl (wdX2_startAnew cI cJ cT cII cJJ ad n pa br u.1 u.2.1 u.2.2) t.heap) A) ([.ref (ad 0)] : List Value).toArray s 0 0 A) (F0 m 6 ls []) := by
    intro  f
    induction f with
    | zero => intro v1 th pe pr H locs hP hD hS ls hl hw; exact (show False from hw).elim
    | succ f ih =>
      intro v1 th pe pr H locs hP hD hS ls hl hw
      rw [wpX2_startAnew_B6] at hw
      refine lv_iload_n hx hb dX2_startAnew_6 rfl (lv_at hl 1 rfl) ?_
      refine lv_bipush (v := 8) hx hb dX2_startAnew_7 (by decide) ?_
      refine lv_icmp_ge (tgt := 25) hx hb dX2_startAnew_9 (by decide) (fun c3 => ?_) (fun c3 => ?_)
      · have hw := hw.1 c3
        exact W.vret hx hb hr (fun t ht hW => ⟨⟨(th, pe, pr), rfl, hw, by show va_P _ _ _ t.heap; rw [ht]; exact hP⟩, hS.F ht⟩) hS.2.2 dX2_startAnew_25
      · have hw := hw.2 c3
        refine lv_aload_n hx hb dX2_startAnew_12 rfl (lv_at hl 0 rfl) ?_
        refine va_get (D := (dC, dI)) (ci := 2) (v := .ref (ad 3)) (C := RX2) (T := TX2) (N := 7) hx hb hts (fun w h => List.mem_cons_of_mem _ (List.mem_append_right _ h)) hown hK hP 0 rfl rfl 3 (by decide) (hts (.fieldLink RX2 23 "BidMarket$Market" "prices" "[I") (List.mem_of_getElem? (i := 1) rfl)) (fun _ h9 => h9) rfl dX2_startAnew_13 ?_
        refine lv_iload_n hx hb dX2_startAnew_16 rfl (lv_at hl 1 rfl) ?_
        refine lv_iconst (v := 0) hx hb dX2_startAnew_17 (by decide) ?_
        have h4 := hw.1
        have hw := hw.2
        refine va_iast hx hb hK hP hD hS 3 0 rfl rfl h4 dX2_startAnew_18 (fun H locs hP hD hS => ?_)
        have hP : va_P (dC, dI) vwCl (wdX2_startAnew cI cJ cT cII cJJ ad n pa br th pe (upd pr v1.toNatClampNeg 0)) H := hP
        have hD : va_D A (wdX2_startAnew cI cJ cT cII cJJ ad n pa br th pe (upd pr v1.toNatClampNeg 0)) := hD
        obtain ⟨x5, ex5⟩ : ∃ y : Int32, y = v1 + 1 := ⟨_, rfl⟩
        have hw := hw x5 ex5
        refine lv_iinc (v := x5) (lv' := [(1, .int x5), (0, .ref (ad 0))]) hx hb dX2_startAnew_19 hl (k := 1) rfl (by rw [ex5]; rfl) (by decide) rfl (fun ls hl => ?_)
        refine lv_goto (tgt := 6) hx hb dX2_startAnew_22 (by decide) ?_
        exact ih x5 th pe (upd pr v1.toNatClampNeg 0) _ _ hP hD hS ls (lv_sub hl [1, 0] rfl) hw
  unfold wpX2_startAnew at hw
  refine lv_aload_n hx hb dX2_startAnew_0 rfl (lv_at hl 0 rfl) ?_
  refine bw_wvv (wc := (wdX2_takeAllAway cI cJ cT cII cJJ ad n pa br th pe)) (w1 := (fun (u : (Nat → Int32) × (Nat → Int32)) => wdX2_takeAllAway cI cJ cT cII cJJ ad n pa br u.1 u.2)) (As := []) (rest := []) ⟨hx, hb, hml, hown, hts⟩ (mX2_takeAllAway l dC dI cI cJ cT cII cJJ ad _ n pa br th pe _ hw) (cwV 0 hts gX2_startAnew_X2_takeAllAway rfl rfl rfl hdX2_takeAllAway ⟨Nat.le_of_ble_eq_true rfl, Nat.le_of_ble_eq_true rfl⟩) hK hP hD hS hA [0, 1, 2] rfl (by decide) (fun _ => rfl) rfl rfl rfl rfl hl.1 rfl (Nat.le_of_ble_eq_true rfl) ⟨Nat.le_of_ble_eq_true rfl, Nat.le_of_ble_eq_true rfl⟩ dX2_startAnew_1 (fun u H locs hw hP hD hS => ?_)
  obtain ⟨y1, y2⟩ := u
  try dsimp only at hw
  have hP : va_P (dC, dI) vwCl (wdX2_startAnew cI cJ cT cII cJJ ad n pa br y1 y2 pr) H := hP
  have hD : va_D A (wdX2_startAnew cI cJ cT cII cJJ ad n pa br y1 y2 pr) := hD
  refine lv_iconst (v := 0) hx hb dX2_startAnew_4 (by decide) ?_
  refine lv_istore_n (lv' := [(1, .int 0), (0, .ref (ad 0))]) hx hb dX2_startAnew_5 rfl hl (by decide) rfl (fun ls hl => ?_)
  obtain ⟨f1, hw⟩ := hw
  exact kB6 f1 0 y1 y2 pr _ _ hP hD hS ls (lv_sub hl [1, 0] rfl) hw
set_option maxHeartbeats 4000000 in
set_option maxRecDepth 100000 in
theorem mX2_becomeEmpty (l : Launch) (dC : Nat → ClassId) (dI : Nat → Nat → Nat) (cI cJ cT cII cJJ : ClassId) (ad : Nat → Nat) (sz : Nat) (n : Int32) (pa : Int32) (br : Int32) (th : Nat → Int32) (pe : Nat → Int32) (pr : Nat → Int32) (w : Nat → Nat → Int32) (a1 : Int32) (Post : Int32 → (Nat → Int32) → (Nat → Int32) → (Nat → Int32) → (Nat → Nat → Int32) → Prop) (hw : wpX2_becomeEmpty n th pe pr w a1 Post) : Met l yX2_becomeEmpty wsX2_becomeEmpty ({ frames := 2, cells := 0, slots := 0, locals := 42 } : Room) (va_Pc [.ref (ad 0), .int a1] (fun U => U.heap.size = sz ∧ va_P (dC, dI) vwCl (wdX2_becomeEmpty cI cJ cT cII cJJ ad n pa br th pe pr w) U.heap ∧ va_K (dC, dI) vwCl (bw_tys cI cJ cT cII cJJ) U ∧ va_D (fun _ => True) (wdX2_becomeEmpty cI cJ cT cII cJJ ad n pa br th pe pr w))) (va_Qv (fun (u : Int32 × (Nat → Int32) × (Nat → Int32) × (Nat → Int32) × (Nat → Nat → Int32)) => Post u.1 u.2.1 u.2.2.1 u.2.2.2.1 u.2.2.2.2) (fun (u : Int32 × (Nat → Int32) × (Nat → Int32) × (Nat → Int32) × (Nat → Nat → Int32)) t => va_P (dC, dI) vwCl (wdX2_becomeEmpty cI cJ cT cII cJJ ad u.1 pa br u.2.1 u.2.2.1 u.2.2.2.1 u.2.2.2.2) t.heap) (va_A (wdX2_becomeEmpty cI cJ cT cII cJJ ad n pa br th pe pr w) sz)) 0 0 (va_A (wdX2_becomeEmpty cI cJ cT cII cJJ ad n pa br th pe pr w) sz) := by
  refine Met.ofW (cc := cX2_becomeEmpty) (maxL := 4) (ret := none) (by decide) rfl ?_
  intro p e s m args below meth c s₁ B hml hv
  obtain ⟨rfl, hsz, hP, hK, hD0⟩ := hv
  have hx := B.exec
  have hb := B.bytes
  have hr := B.returns
  have hts := atoms_spec (ws := wsX2_becomeEmpty) B.pre
  have hown : s.vm.findClass RX2 = some m.cls := findClass_of_methodNamed B.named
  have hlocks := B.notSynchronized
  subst hsz
  have hD := hD0.self (sz := s.heap.size)
  generalize hAe : va_A (wdX2_becomeEmpty cI cJ cT cII cJJ ad n pa br th pe pr w) s.heap.size = A at hD ⊢
  have hA : ∀ q : Nat, s.heap.size ≤ q → A q := fun q h => by rw [← hAe]; exact Or.inr h
  have hS : va_S A s.heap s.heap [] := va_S.rf
  have hl := lv_entry ([.ref (ad 0), .int a1]) (n := 4) (Nat.le_of_ble_eq_true rfl)
  rw [lg_entry_eq]
  generalize (lg_sl ([.ref (ad 0), .int a1]) ++ List.replicate (4 - (lg_sl ([.ref (ad 0), .int a1])).length) Slot.unset).toArray = ls at hl ⊢
  have hl : lv_has ls 4 [(0, .ref (ad 0)), (1, .int a1)] := hl
  have kB15 : ∀ (K7 : Int32 → Int32 → (Nat → Int32) → (Nat → Int32) → (Nat → Int32) → (Nat → Nat → Int32) → Prop), (∀ (v2 : Int32) (n : Int32) (th : Nat → Int32) (pe : Nat → Int32) (pr : Nat → Int32) (w : Nat → Nat → Int32), ∀ (H : Heap) (locs : List Loc), va_P (dC, dI) vwCl (wdX2_becomeEmpty cI cJ cT cII cJJ ad n pa br th pe pr w) H → va_D A (wdX2_becomeEmpty cI cJ cT cII cJJ ad n pa br th pe pr w) → va_S A s.heap H locs → ∀ ls : Array Slot, lv_has ls 4 [(0, .ref (ad 0)), (2, .int v2)] → K7 v2 n th pe pr w → W p l e (headSpec wsX2_becomeEmpty ({ frames := 2, cells := 0, slots := 0, locals := 42 } : Room)).room s m ([.ref (ad 0), .int a1] : List Value).toArray below meth c H locs 0 0 (MQ below (va_Qv (fun (u : Int32 × (Nat → Int32) × (Nat → Int32) × (Nat → Int32) × (Nat → Nat → Int32)) => Post u.1 u.2.1 u.2.2.1 u.2.2.2.1 u.2.2.2.2) (fun (u : Int32 × (Nat → Int32) × (Nat → Int32) × (Nat → Int32) × (Nat → Nat → Int32)) t => va_P (dC, dI) vwCl (wdX2_becomeEmpty cI cJ cT cII cJJ ad u.1 pa br u.2.1 u.2.2.1 u.2.2.2.1 u.2.2.2.2) t.heap) A) ([.ref (ad 0), .int a1] : List Value).toArray s 0 0 A) (F0 m 7 ls [])) → ∀ f : Nat, ∀ (v2 : Int32) (v3 : Int32) (n : Int32) (th : Nat → Int32) (pe : Nat → Int32) (pr : Nat → Int32) (w : Nat → Nat → Int32), ∀ (H : Heap) (locs : List Loc), va_P (dC, dI) vwCl (wdX2_becomeEmpty cI cJ cT cII cJJ ad n pa br th pe pr w) H → va_D A (wdX2_becomeEmpty cI cJ cT cII cJJ ad n pa br th pe pr w) → va_S A s.heap H locs → ∀ ls : Array Slot, lv_has ls 4 [(0, .ref (ad 0)), (2, .int v2), (3, .int v3)] → wpX2_becomeEmpty_B15 a1 K7 Post f v2 v3 n th pe pr w → W p l e (headSpec wsX2_becomeEmpty ({ frames := 2, cells := 0, slots := 0, locals := 42 } : Room)).room s m ([.ref (ad 0), .int a1] : List Value).toArray below meth c H locs 0 0 (MQ below (va_Qv (fun (u : Int32 × (Nat → Int32) × (Nat → Int32) × (Nat → Int32) × (Nat → Nat → Int32)) => Post u.1 u.2.1 u.2.2.1 u.2.2.2.1 u.2.2.2.2) (fun (u : Int32 × (Nat → Int32) × (Nat → Int32) × (Nat → Int32) × (Nat → Nat → Int32)) t => va_P (dC, dI) vwCl (wdX2_becomeEmpty cI cJ cT cII cJJ ad u.1 pa br u.2.1 u.2.2.1 u.2.2.2.1 u.2.2.2.2) t.heap) A) ([.ref (ad 0), .int a1] : List Value).toArray s 0 0 A) (F0 m 15 ls []) := by
    intro K7 hK7 f
    induction f with
    | zero => intro v2 v3 n th pe pr w H locs hP hD hS ls hl hw; exact (show False from hw).elim
    | succ f ih =>
      intro v2 v3 n th pe pr w H locs hP hD hS ls hl hw
      rw [wpX2_becomeEmpty_B15] at hw
      refine lv_iload_n hx hb dX2_becomeEmpty_15 rfl (lv_at hl 2 rfl) ?_
      refine lv_bipush (v := 8) hx hb dX2_becomeEmpty_16 (by decide) ?_
      refine lv_icmp_ge (tgt := 36) hx hb dX2_becomeEmpty_18 (by decide) (fun c5 => ?_) (fun c5 => ?_)
      · have hw := hw.1 c5
        obtain ⟨x6, ex6⟩ : ∃ y : Int32, y = v2 + 1 := ⟨_, rfl⟩
        have hw := hw x6 ex6
        refine lv_iinc (v := x6) (lv' := [(2, .int x6), (0, .ref (ad 0)), (3, .int v3)]) hx hb dX2_becomeEmpty_36 hl (k := 1) rfl (by rw [ex6]; rfl) (by decide) rfl (fun ls hl => ?_)
        refine lv_goto (tgt := 7) hx hb dX2_becomeEmpty_39 (by decide) ?_
        exact hK7 x6 n th pe pr w _ _ hP hD hS ls (lv_sub hl [1, 0] rfl) hw
      · have hw := hw.2 c5
        refine lv_aload_n hx hb dX2_becomeEmpty_21 rfl (lv_at hl 0 rfl) ?_
        refine va_get (D := (dC, dI)) (ci := 2) (v := .ref (ad 4)) (C := RX2) (T := TX2) (N := 7) hx hb hts (fun w h => List.mem_cons_of_mem _ (List.mem_append_right _ h)) hown hK hP 0 rfl rfl 0 (by decide) (hts (.fieldLink RX2 11 "BidMarket$Market" "worths" "[[I") (List.mem_of_getElem? (i := 2) rfl)) (fun _ h9 => h9) rfl dX2_becomeEmpty_22 ?_
        refine lv_iload_n hx hb dX2_becomeEmpty_25 rfl (lv_at hl 1 rfl) ?_
        have h7 := hw.1
        have hw := hw.2
        have q8 := bw_lt h7
        refine bw_aald (g := fun i => ad (i + 5)) (b := ad (v2.toNatClampNeg + 5)) hx hb hK hP 4 3 rfl rfl rfl (fun k h => if_pos h) h7 rfl dX2_becomeEmpty_26 ?_
        refine lv_iload_n hx hb dX2_becomeEmpty_27 rfl (lv_at hl 2 rfl) ?_
        refine lv_iconst (v := 0) hx hb dX2_becomeEmpty_28 (by decide) ?_
        have h9 := hw.1
        have hw := hw.2
        have g10 : ∀ k, k < 8 → ((wdX2_becomeEmpty cI cJ cT cII cJJ ad n pa br th pe pr w))[5 + k]? = some (ad (k + 5), .inl (cI, 8, .inl (w k))) := bw_all8 rfl rfl rfl rfl rfl rfl rfl rfl
        refine va_iast hx hb hK hP hD hS (5 + v2.toNatClampNeg) 0 (g10 _ q8) rfl h9 dX2_becomeEmpty_29 (fun H locs hP hD hS => ?_)
        have g11 : ∀ k, k < 8 → ∀ f : Nat → Int32, ((wdX2_becomeEmpty cI cJ cT cII cJJ ad n pa br th pe pr w)).set (5 + k) (ad (k + 5), .inl (cI, 8, .inl f)) = (wdX2_becomeEmpty cI cJ cT cII cJJ ad n pa br th pe pr (va_up w k f)) := bw_all8 (fun _ => rfl) (fun _ => rfl) (fun _ => rfl) (fun _ => rfl) (fun _ => rfl) (fun _ => rfl) (fun _ => rfl) (fun _ => rfl)
        rw [g11 _ q8] at hP hD
        have hP : va_P (dC, dI) vwCl (wdX2_becomeEmpty cI cJ cT cII cJJ ad n pa br th pe pr (va_up w v2.toNatClampNeg (upd (w v2.toNatClampNeg) v3.toNatClampNeg 0))) H := hP
        have hD : va_D A (wdX2_becomeEmpty cI cJ cT cII cJJ ad n pa br th pe pr (va_up w v2.toNatClampNeg (upd (w v2.toNatClampNeg) v3.toNatClampNeg 0))) := hD
        obtain ⟨x12, ex12⟩ : ∃ y : Int32, y = v3 + 1 := ⟨_, rfl⟩
        have hw := hw x12 ex12
        refine lv_iinc (v := x12) (lv' := [(3, .int x12), (0, .ref (ad 0)), (2, .int v2)]) hx hb dX2_becomeEmpty_30 hl (k := 2) rfl (by rw [ex12]; rfl) (by decide) rfl (fun ls hl => ?_)
        refine lv_goto (tgt := 15) hx hb dX2_becomeEmpty_33 (by decide) ?_
        exact ih v2 x12 n th pe pr (va_up w v2.toNatClampNeg (upd (w v2.toNatClampNeg) v3.toNatClampNeg 0)) _ _ hP hD hS ls (lv_sub hl [1, 2, 0] rfl) hw
  have kB7 : ∀ f : Nat, ∀ (v2 : Int32) (n : Int32) (th : Nat → Int32) (pe : Nat → Int32) (pr : Nat → Int32) (w : Nat → Nat → Int32), ∀ (H : Heap) (locs : List Loc), va_P (dC, dI) vwCl (wdX2_becomeEmpty cI cJ cT cII cJJ ad n pa br th pe pr w) H → va_D A (wdX2_becomeEmpty cI cJ cT cII cJJ ad n pa br th pe pr w) → va_S A s.heap H locs → ∀ ls : Array Slot, lv_has ls 4 [(0, .ref (ad 0)), (2, .int v2)] → wpX2_becomeEmpty_B7 a1 Post f v2 n th pe pr w → W p l e (headSpec wsX2_becomeEmpty ({ frames := 2, cells := 0, slots := 0, locals := 42 } : Room)).room s m ([.ref (ad 0), .int a1] : List Value).toArray below meth c H locs 0 0 (MQ below (va_Qv (fun (u : Int32 × (Nat → Int32) × (Nat → Int32) × (Nat → Int32) × (Nat → Nat → Int32)) => Post u.1 u.2.1 u.2.2.1 u.2.2.2.1 u.2.2.2.2) (fun (u : Int32 × (Nat → Int32) × (Nat → Int32) × (Nat → Int32) × (Nat → Nat → Int32)) t => va_P (dC, dI) vwCl (wdX2_becomeEmpty cI cJ cT cII cJJ ad u.1 pa br u.2.1 u.2.2.1 u.2.2.2.1 u.2.2.2.2) t.heap) A) ([.ref (ad 0), .int a1] : List Value).toArray s 0 0 A) (F0 m 7 ls []) := by
    intro  f
    induction f with
    | zero => intro v2 n th pe pr w H locs hP hD hS ls hl hw; exact (show False from hw).elim
    | succ f ih =>
      intro v2 n th pe pr w H locs hP hD hS ls hl hw
      rw [wpX2_becomeEmpty_B7] at hw
      refine lv_iload_n hx hb dX2_becomeEmpty_7 rfl (lv_at hl 1 rfl) ?_
      refine lv_bipush (v := 8) hx hb dX2_becomeEmpty_8 (by decide) ?_
      refine lv_icmp_ge (tgt := 42) hx hb dX2_becomeEmpty_10 (by decide) (fun c1 => ?_) (fun c1 => ?_)
      · have hw := hw.1 c1
        refine lv_aload_n hx hb dX2_becomeEmpty_42 rfl (lv_at hl 0 rfl) ?_
        refine bw_wvv (wc := (wdX2_startAnew cI cJ cT cII cJJ ad n pa br th pe pr)) (w1 := (fun (u : (Nat → Int32) × (Nat → Int32) × (Nat → Int32)) => wdX2_startAnew cI cJ cT cII cJJ ad n pa br u.1 u.2.1 u.2.2)) (As := []) (rest := []) ⟨hx, hb, hml, hown, hts⟩ (mX2_startAnew l dC dI cI cJ cT cII cJJ ad _ n pa br th pe pr _ hw) (cwV 0 hts gX2_becomeEmpty_X2_startAnew rfl rfl rfl hdX2_startAnew ⟨Nat.le_of_ble_eq_true rfl, Nat.le_of_ble_eq_true rfl⟩) hK hP hD hS hA [0, 1, 2, 3] rfl (by decide) (fun _ => rfl) rfl rfl rfl rfl hl.1 rfl (Nat.le_of_ble_eq_true rfl) ⟨Nat.le_of_ble_eq_true rfl, Nat.le_of_ble_eq_true rfl⟩ dX2_becomeEmpty_43 (fun u H locs hw hP hD hS => ?_)
        obtain ⟨y2, y3, y4⟩ := u
        try dsimp only at hw
        have hP : va_P (dC, dI) vwCl (wdX2_becomeEmpty cI cJ cT cII cJJ ad n pa br y2 y3 y4 w) H := hP
        have hD : va_D A (wdX2_becomeEmpty cI cJ cT cII cJJ ad n pa br y2 y3 y4 w) := hD
        exact W.vret hx hb hr (fun t ht hW => ⟨⟨(n, y2, y3, y4, w), rfl, hw, by show va_P _ _ _ t.heap; rw [ht]; exact hP⟩, hS.F ht⟩) hS.2.2 dX2_becomeEmpty_46
      · have hw := hw.2 c1
        refine lv_iconst (v := 0) hx hb dX2_becomeEmpty_13 (by decide) ?_
        refine lv_istore_n (lv' := [(3, .int 0), (0, .ref (ad 0)), (2, .int v2)]) hx hb dX2_becomeEmpty_14 rfl hl (by decide) rfl (fun ls hl => ?_)
        obtain ⟨f1, hw⟩ := hw
        exact kB15 (wpX2_becomeEmpty_B7 a1 Post f) ih f1 v2 0 n th pe pr w _ _ hP hD hS ls (lv_sub hl [1, 2, 0] rfl) hw
  unfold wpX2_becomeEmpty at hw
  refine lv_aload_n hx hb dX2_becomeEmpty_0 rfl (lv_at hl 0 rfl) ?_
  refine lv_iload_n hx hb dX2_becomeEmpty_1 rfl (lv_at hl 1 rfl) ?_
  refine va_put (D := (dC, dI)) (ci := 2) (v := .int a1) (ty := .int) (C := RX2) (T := TX2) (N := 7) hx hb hts (fun w h => List.mem_cons_of_mem _ (List.mem_append_right _ h)) tyX2 tyX2_ok nmX2 hown hK hP hD hS 0 rfl rfl 4 (by decide) (hts (.fieldLink RX2 26 "BidMarket$Market" "n" "I") (List.mem_of_getElem? (i := 1) rfl)) (fun _ h9 => h9) rfl (by decide +kernel) rfl rfl (Nat.le_of_ble_eq_true rfl) dX2_becomeEmpty_2 (fun H locs hP hD hS => ?_)
  have hP : va_P (dC, dI) vwCl (wdX2_becomeEmpty cI cJ cT cII cJJ ad a1 pa br th pe pr w) H := hP
  have hD : va_D A (wdX2_becomeEmpty cI cJ cT cII cJJ ad a1 pa br th pe pr w) := hD
  refine lv_iconst (v := 0) hx hb dX2_becomeEmpty_5 (by decide) ?_
  refine lv_istore_n (lv' := [(2, .int 0), (0, .ref (ad 0)), (1, .int a1)]) hx hb dX2_becomeEmpty_6 rfl hl (by decide) rfl (fun ls hl => ?_)
  obtain ⟨f1, hw⟩ := hw
  exact kB7 f1 0 a1 th pe pr w _ _ hP hD hS ls (lv_sub hl [1, 0] rfl) hw
set_option maxHeartbeats 4000000 in
set_option maxRecDepth 100000 in
theorem mX2_become (l : Launch) (dC : Nat → ClassId) (dI : Nat → Nat → Nat) (cI cJ cT cII cJJ : ClassId) (ad : Nat → Nat) (ad2 : Nat → Nat) (sz : Nat) (n : Int32) (pa : Int32) (br : Int32) (th : Nat → Int32) (pe : Nat → Int32) (pr : Nat → Int32) (w : Nat → Nat → Int32) (n2 : Int32) (pa2 : Int32) (br2 : Int32) (th2 : Nat → Int32) (pe2 : Nat → Int32) (pr2 : Nat → Int32) (w2 : Nat → Nat → Int32) (Post : Int32 → Int32 → (Nat → Int32) → (Nat → Int32) → (Nat → Int32) → (Nat → Nat → Int32) → Prop) (hw : wpX2_become n pa th pe pr w n2 pa2 th2 pe2 pr2 w2 Post) : Met l yX2_become wsX2_become ({ frames := 1, cells := 0, slots := 0, locals := 64 } : Room) (va_Pc [.ref (ad 0), .ref (ad2 0)] (fun U => U.heap.size = sz ∧ va_P (dC, dI) vwCl (wdX2_become cI cJ cT cII cJJ ad ad2 n pa br th pe pr w n2 pa2 br2 th2 pe2 pr2 w2) U.heap ∧ va_K (dC, dI) vwCl (bw_tys cI cJ cT cII cJJ) U ∧ va_D (fun _ => True) (wdX2_become cI cJ cT cII cJJ ad ad2 n pa br th pe pr w n2 pa2 br2 th2 pe2 pr2 w2))) (va_Qv (fun (u : Int32 × Int32 × (Nat → Int32) × (Nat → Int32) × (Nat → Int32) × (Nat → Nat → Int32)) => Post u.1 u.2.1 u.2.2.1 u.2.2.2.1 u.2.2.2.2.1 u.2.2.2.2.2) (fun (u : Int32 × Int32 × (Nat → Int32) × (Nat → Int32) × (Nat → Int32) × (Nat → Nat → Int32)) t => va_P (dC, dI) vwCl (wdX2_become cI cJ cT cII cJJ ad ad2 u.1 u.2.1 br u.2.2.1 u.2.2.2.1 u.2.2.2.2.1 u.2.2.2.2.2 n2 pa2 br2 th2 pe2 pr2 w2) t.heap) (va_A (wdX2_become cI cJ cT cII cJJ ad ad2 n pa br th pe pr w n2 pa2 br2 th2 pe2 pr2 w2) sz)) 0 0 (va_A (wdX2_become cI cJ cT cII cJJ ad ad2 n pa br th pe pr w n2 pa2 br2 th2 pe2 pr2 w2) sz) := by
  refine Met.ofW (cc := cX2_become) (maxL := 3) (ret := none) (by decide) rfl ?_
  intro p e s m args below meth c s₁ B hml hv
  obtain ⟨rfl, hsz, hP, hK, hD0⟩ := hv
  have hx := B.exec
  have hb := B.bytes
  have hr := B.returns
  have hts := atoms_spec (ws := wsX2_become) B.pre
  have hown : s.vm.findClass RX2 = some m.cls := findClass_of_methodNamed B.named
  have hlocks := B.notSynchronized
  subst hsz
  have hD := hD0.self (sz := s.heap.size)
  generalize hAe : va_A (wdX2_become cI cJ cT cII cJJ ad ad2 n pa br th pe pr w n2 pa2 br2 th2 pe2 pr2 w2) s.heap.size = A at hD ⊢
  have hA : ∀ q : Nat, s.heap.size ≤ q → A q := fun q h => by rw [← hAe]; exact Or.inr h
  have hS : va_S A s.heap s.heap [] := va_S.rf
  have hl := lv_entry ([.ref (ad 0), .ref (ad2 0)]) (n := 3) (Nat.le_of_ble_eq_true rfl)
  rw [lg_entry_eq]
  generalize (lg_sl ([.ref (ad 0), .ref (ad2 0)]) ++ List.replicate (3 - (lg_sl ([.ref (ad 0), .ref (ad2 0)])).length) Slot.unset).toArray = ls at hl ⊢
  have hl : lv_has ls 3 [(0, .ref (ad 0)), (1, .ref (ad2 0))] := hl
  have kB18 : ∀ f : Nat, ∀ (v2 : Int32) (n : Int32) (pa : Int32) (th : Nat → Int32) (pe : Nat → Int32) (pr : Nat → Int32) (w : Nat → Nat → Int32), ∀ (H : Heap) (locs : List Loc), va_P (dC, dI) vwCl (wdX2_become cI cJ cT cII cJJ ad ad2 n pa br th pe pr w n2 pa2 br2 th2 pe2 pr2 w2) H → va_D A (wdX2_become cI cJ cT cII cJJ ad ad2 n pa br th pe pr w n2 pa2 br2 th2 pe2 pr2 w2) → va_S A s.heap H locs → ∀ ls : Array Slot, lv_has ls 3 [(0, .ref (ad 0)), (1, .ref (ad2 0)), (2, .int v2)] → wpX2_become_B18 n2 pa2 th2 pe2 pr2 w2 Post f v2 n pa th pe pr w → W p l e (headSpec wsX2_become ({ frames := 1, cells := 0, slots := 0, locals := 64 } : Room)).room s m ([.ref (ad 0), .ref (ad2 0)] : List Value).toArray below meth c H locs 0 0 (MQ below (va_Qv (fun (u : Int32 × Int32 × (Nat → Int32) × (Nat → Int32) × (Nat → Int32) × (Nat → Nat → Int32)) => Post u.1 u.2.1 u.2.2.1 u.2.2.2.1 u.2.2.2.2.1 u.2.2.2.2.2) (fun (u : Int32 × Int32 × (Nat → Int32) × (Nat → Int32) × (Nat → Int32) × (Nat → Nat → Int32)) t => va_P (dC, dI) vwCl (wdX2_become cI cJ cT cII cJJ ad ad2 u.1 u.2.1 br u.2.2.1 u.2.2.2.1 u.2.2.2.2.1 u.2.2.2.2.2 n2 pa2 br2 th2 pe2 pr2 w2) t.heap) A) ([.ref (ad 0), .ref (ad2 0)] : List Value).toArray s 0 0 A) (F0 m 18 ls []) := by
    intro  f
    induction f with
    | zero => intro v2 n pa th pe pr w H locs hP hD hS ls hl hw; exact (show False from hw).elim
    | succ f ih =>
      intro v2 n pa th pe pr w H locs hP hD hS ls hl hw
      rw [wpX2_become_B18] at hw
      refine lv_iload_n hx hb dX2_become_18 rfl (lv_at hl 2 rfl) ?_
      refine lv_bipush (v := 8) hx hb dX2_become_19 (by decide) ?_
      refine lv_icmp_ge (tgt := 49) hx hb dX2_become_21 (by decide) (fun c1 => ?_) (fun c1 => ?_)
      · have hw := hw.1 c1
        refine lv_aload_n hx hb dX2_become_49 rfl (lv_at hl 1 rfl) ?_
        refine va_get (D := (dC, dI)) (ci := 2) (v := .ref (ad2 1)) (C := RX2) (T := TX2) (N := 7) hx hb hts (fun w h => List.mem_cons_of_mem _ (List.mem_append_right _ h)) hown hK hP 13 rfl rfl 1 (by decide) (hts (.fieldLink RX2 16 "BidMarket$Market" "thingOf" "[I") (List.mem_of_getElem? (i := 8) rfl)) (fun _ h9 => h9) rfl dX2_become_50 ?_
        refine lv_iconst (v := 0) hx hb dX2_become_53 (by decide) ?_
        refine lv_aload_n hx hb dX2_become_54 rfl (lv_at hl 0 rfl) ?_
        refine va_get (D := (dC, dI)) (ci := 2) (v := .ref (ad 1)) (C := RX2) (T := TX2) (N := 7) hx hb hts (fun w h => List.mem_cons_of_mem _ (List.mem_append_right _ h)) hown hK hP 0 rfl rfl 1 (by decide) (hts (.fieldLink RX2 16 "BidMarket$Market" "thingOf" "[I") (List.mem_of_getElem? (i := 8) rfl)) (fun _ h9 => h9) rfl dX2_become_55 ?_
        refine lv_iconst (v := 0) hx hb dX2_become_58 (by decide) ?_
        refine lv_bipush (v := 8) hx hb dX2_become_59 (by decide) ?_
        have h2 := hw.1
        have hw := hw.2
        have h3 := hw.1
        have hw := hw.2
        have h4 := hw.1
        have hw := hw.2
        have h5 := hw.1
        have hw := hw.2
        have h6 := hw.1
        have hw := hw.2
        refine va_copyi (ty := .int) hx hb (hml.trans hl.1.symm) hown (hts (.methodLink RX2 43 arraycopyName) (List.mem_of_getElem? (i := 4) rfl)) (hts (.native arraycopyName) (List.mem_of_getElem? (i := 5) rfl)) (hts (.static arraycopyName) (List.mem_of_getElem? (i := 6) rfl)) (hts (.initialized "java/lang/System") (List.mem_of_getElem? (i := 7) rfl)) hK hP hD hS 14 1 0 0 rfl rfl rfl rfl rfl h2 h3 h4 h5 h6 (fun _ _ => rfl) (Nat.le_of_ble_eq_true rfl) (Nat.le_of_ble_eq_true rfl) dX2_become_61 (fun H locs hP hD hS => ?_)
        have hP : va_P (dC, dI) vwCl (wdX2_become cI cJ cT cII cJJ ad ad2 n pa br (va_cpy th2 th (0 : Int32).toNatClampNeg (0 : Int32).toNatClampNeg (8 : Int32).toNatClampNeg) pe pr w n2 pa2 br2 th2 pe2 pr2 w2) H := hP
        have hD : va_D A (wdX2_become cI cJ cT cII cJJ ad ad2 n pa br (va_cpy th2 th (0 : Int32).toNatClampNeg (0 : Int32).toNatClampNeg (8 : Int32).toNatClampNeg) pe pr w n2 pa2 br2 th2 pe2 pr2 w2) := hD
        refine lv_aload_n hx hb dX2_become_64 rfl (lv_at hl 1 rfl) ?_
        refine va_get (D := (dC, dI)) (ci := 2) (v := .ref (ad2 2)) (C := RX2) (T := TX2) (N := 7) hx hb hts (fun w h => List.mem_cons_of_mem _ (List.mem_append_right _ h)) hown hK hP 13 rfl rfl 2 (by decide) (hts (.fieldLink RX2 20 "BidMarket$Market" "personOf" "[I") (List.mem_of_getElem? (i := 9) rfl)) (fun _ h9 => h9) rfl dX2_become_65 ?_
        refine lv_iconst (v := 0) hx hb dX2_become_68 (by decide) ?_
        refine lv_aload_n hx hb dX2_become_69 rfl (lv_at hl 0 rfl) ?_
        refine va_get (D := (dC, dI)) (ci := 2) (v := .ref (ad 2)) (C := RX2) (T := TX2) (N := 7) hx hb hts (fun w h => List.mem_cons_of_mem _ (List.mem_append_right _ h)) hown hK hP 0 rfl rfl 2 (by decide) (hts (.fieldLink RX2 20 "BidMarket$Market" "personOf" "[I") (List.mem_of_getElem? (i := 9) rfl)) (fun _ h9 => h9) rfl dX2_become_70 ?_
        refine lv_iconst (v := 0) hx hb dX2_become_73 (by decide) ?_
        refine lv_bipush (v := 8) hx hb dX2_become_74 (by decide) ?_
        have h7 := hw.1
        have hw := hw.2
        have h8 := hw.1
        have hw := hw.2
        have h9 := hw.1
        have hw := hw.2
        have h10 := hw.1
        have hw := hw.2
        have h11 := hw.1
        have hw := hw.2
        refine va_copyi (ty := .int) hx hb (hml.trans hl.1.symm) hown (hts (.methodLink RX2 43 arraycopyName) (List.mem_of_getElem? (i := 4) rfl)) (hts (.native arraycopyName) (List.mem_of_getElem? (i := 5) rfl)) (hts (.static arraycopyName) (List.mem_of_getElem? (i := 6) rfl)) (hts (.initialized "java/lang/System") (List.mem_of_getElem? (i := 7) rfl)) hK hP hD hS 15 2 0 0 rfl rfl rfl rfl rfl h7 h8 h9 h10 h11 (fun _ _ => rfl) (Nat.le_of_ble_eq_true rfl) (Nat.le_of_ble_eq_true rfl) dX2_become_76 (fun H locs hP hD hS => ?_)
        have hP : va_P (dC, dI) vwCl (wdX2_become cI cJ cT cII cJJ ad ad2 n pa br (va_cpy th2 th (0 : Int32).toNatClampNeg (0 : Int32).toNatClampNeg (8 : Int32).toNatClampNeg) (va_cpy pe2 pe (0 : Int32).toNatClampNeg (0 : Int32).toNatClampNeg (8 : Int32).toNatClampNeg) pr w n2 pa2 br2 th2 pe2 pr2 w2) H := hP
        have hD : va_D A (wdX2_become cI cJ cT cII cJJ ad ad2 n pa br (va_cpy th2 th (0 : Int32).toNatClampNeg (0 : Int32).toNatClampNeg (8 : Int32).toNatClampNeg) (va_cpy pe2 pe (0 : Int32).toNatClampNeg (0 : Int32).toNatClampNeg (8 : Int32).toNatClampNeg) pr w n2 pa2 br2 th2 pe2 pr2 w2) := hD
        refine lv_aload_n hx hb dX2_become_79 rfl (lv_at hl 1 rfl) ?_
        refine va_get (D := (dC, dI)) (ci := 2) (v := .ref (ad2 3)) (C := RX2) (T := TX2) (N := 7) hx hb hts (fun w h => List.mem_cons_of_mem _ (List.mem_append_right _ h)) hown hK hP 13 rfl rfl 3 (by decide) (hts (.fieldLink RX2 23 "BidMarket$Market" "prices" "[I") (List.mem_of_getElem? (i := 10) rfl)) (fun _ h9 => h9) rfl dX2_become_80 ?_
        refine lv_iconst (v := 0) hx hb dX2_become_83 (by decide) ?_
        refine lv_aload_n hx hb dX2_become_84 rfl (lv_at hl 0 rfl) ?_
        refine va_get (D := (dC, dI)) (ci := 2) (v := .ref (ad 3)) (C := RX2) (T := TX2) (N := 7) hx hb hts (fun w h => List.mem_cons_of_mem _ (List.mem_append_right _ h)) hown hK hP 0 rfl rfl 3 (by decide) (hts (.fieldLink RX2 23 "BidMarket$Market" "prices" "[I") (List.mem_of_getElem? (i := 10) rfl)) (fun _ h9 => h9) rfl dX2_become_85 ?_
        refine lv_iconst (v := 0) hx hb dX2_become_88 (by decide) ?_
        refine lv_bipush (v := 8) hx hb dX2_become_89 (by decide) ?_
        have h12 := hw.1
        have hw := hw.2
        have h13 := hw.1
        have hw := hw.2
        have h14 := hw.1
        have hw := hw.2
        have h15 := hw.1
        have hw := hw.2
        have h16 := hw.1
        have hw := hw.2
        refine va_copyi (ty := .int) hx hb (hml.trans hl.1.symm) hown (hts (.methodLink RX2 43 arraycopyName) (List.mem_of_getElem? (i := 4) rfl)) (hts (.native arraycopyName) (List.mem_of_getElem? (i := 5) rfl)) (hts (.static arraycopyName) (List.mem_of_getElem? (i := 6) rfl)) (hts (.initialized "java/lang/System") (List.mem_of_getElem? (i := 7) rfl)) hK hP hD hS 16 3 0 0 rfl rfl rfl rfl rfl h12 h13 h14 h15 h16 (fun _ _ => rfl) (Nat.le_of_ble_eq_true rfl) (Nat.le_of_ble_eq_true rfl) dX2_become_91 (fun H locs hP hD hS => ?_)
        have hP : va_P (dC, dI) vwCl (wdX2_become cI cJ cT cII cJJ ad ad2 n pa br (va_cpy th2 th (0 : Int32).toNatClampNeg (0 : Int32).toNatClampNeg (8 : Int32).toNatClampNeg) (va_cpy pe2 pe (0 : Int32).toNatClampNeg (0 : Int32).toNatClampNeg (8 : Int32).toNatClampNeg) (va_cpy pr2 pr (0 : Int32).toNatClampNeg (0 : Int32).toNatClampNeg (8 : Int32).toNatClampNeg) w n2 pa2 br2 th2 pe2 pr2 w2) H := hP
        have hD : va_D A (wdX2_become cI cJ cT cII cJJ ad ad2 n pa br (va_cpy th2 th (0 : Int32).toNatClampNeg (0 : Int32).toNatClampNeg (8 : Int32).toNatClampNeg) (va_cpy pe2 pe (0 : Int32).toNatClampNeg (0 : Int32).toNatClampNeg (8 : Int32).toNatClampNeg) (va_cpy pr2 pr (0 : Int32).toNatClampNeg (0 : Int32).toNatClampNeg (8 : Int32).toNatClampNeg) w n2 pa2 br2 th2 pe2 pr2 w2) := hD
        exact W.vret hx hb hr (fun t ht hW => ⟨⟨(n, pa, va_cpy th2 th (0 : Int32).toNatClampNeg (0 : Int32).toNatClampNeg (8 : Int32).toNatClampNeg, va_cpy pe2 pe (0 : Int32).toNatClampNeg (0 : Int32).toNatClampNeg (8 : Int32).toNatClampNeg, va_cpy pr2 pr (0 : Int32).toNatClampNeg (0 : Int32).toNatClampNeg (8 : Int32).toNatClampNeg, w), rfl, hw, by show va_P _ _ _ t.heap; rw [ht]; exact hP⟩, hS.F ht⟩) hS.2.2 dX2_become_94
      · have hw := hw.2 c1
        refine lv_aload_n hx hb dX2_become_24 rfl (lv_at hl 1 rfl) ?_
        refine va_get (D := (dC, dI)) (ci := 2) (v := .ref (ad2 4)) (C := RX2) (T := TX2) (N := 7) hx hb hts (fun w h => List.mem_cons_of_mem _ (List.mem_append_right _ h)) hown hK hP 13 rfl rfl 0 (by decide) (hts (.fieldLink RX2 11 "BidMarket$Market" "worths" "[[I") (List.mem_of_getElem? (i := 3) rfl)) (fun _ h9 => h9) rfl dX2_become_25 ?_
        refine lv_iload_n hx hb dX2_become_28 rfl (lv_at hl 2 rfl) ?_
        have h17 := hw.1
        have hw := hw.2
        have q18 := bw_lt h17
        refine bw_aald (g := fun i => ad2 (i + 5)) (b := ad2 (v2.toNatClampNeg + 5)) hx hb hK hP 17 3 rfl rfl rfl (fun k h => if_pos h) h17 rfl dX2_become_29 ?_
        refine lv_iconst (v := 0) hx hb dX2_become_30 (by decide) ?_
        refine lv_aload_n hx hb dX2_become_31 rfl (lv_at hl 0 rfl) ?_
        refine va_get (D := (dC, dI)) (ci := 2) (v := .ref (ad 4)) (C := RX2) (T := TX2) (N := 7) hx hb hts (fun w h => List.mem_cons_of_mem _ (List.mem_append_right _ h)) hown hK hP 0 rfl rfl 0 (by decide) (hts (.fieldLink RX2 11 "BidMarket$Market" "worths" "[[I") (List.mem_of_getElem? (i := 3) rfl)) (fun _ h9 => h9) rfl dX2_become_32 ?_
        refine lv_iload_n hx hb dX2_become_35 rfl (lv_at hl 2 rfl) ?_
        have h19 := hw.1
        have hw := hw.2
        have q20 := bw_lt h19
        refine bw_aald (g := fun i => ad (i + 5)) (b := ad (v2.toNatClampNeg + 5)) hx hb hK hP 4 3 rfl rfl rfl (fun k h => if_pos h) h19 rfl dX2_become_36 ?_
        refine lv_iconst (v := 0) hx hb dX2_become_37 (by decide) ?_
        refine lv_bipush (v := 8) hx hb dX2_become_38 (by decide) ?_
        have h21 := hw.1
        have hw := hw.2
        have h22 := hw.1
        have hw := hw.2
        have h23 := hw.1
        have hw := hw.2
        have h24 := hw.1
        have hw := hw.2
        have h25 := hw.1
        have hw := hw.2
        have g26 : ∀ k, k < 8 → ((wdX2_become cI cJ cT cII cJJ ad ad2 n pa br th pe pr w n2 pa2 br2 th2 pe2 pr2 w2))[18 + k]? = some (ad2 (k + 5), .inl (cI, 8, .inl (w2 k))) := bw_all8 rfl rfl rfl rfl rfl rfl rfl rfl
        have g27 : ∀ k, k < 8 → ((wdX2_become cI cJ cT cII cJJ ad ad2 n pa br th pe pr w n2 pa2 br2 th2 pe2 pr2 w2))[5 + k]? = some (ad (k + 5), .inl (cI, 8, .inl (w k))) := bw_all8 rfl rfl rfl rfl rfl rfl rfl rfl
        refine va_copyi (ty := .int) hx hb (hml.trans hl.1.symm) hown (hts (.methodLink RX2 43 arraycopyName) (List.mem_of_getElem? (i := 4) rfl)) (hts (.native arraycopyName) (List.mem_of_getElem? (i := 5) rfl)) (hts (.static arraycopyName) (List.mem_of_getElem? (i := 6) rfl)) (hts (.initialized "java/lang/System") (List.mem_of_getElem? (i := 7) rfl)) hK hP hD hS (18 + v2.toNatClampNeg) (5 + v2.toNatClampNeg) 0 0 (g26 _ q20) (g27 _ q20) rfl rfl rfl h21 h22 h23 h24 h25 (fun _ _ => rfl) (Nat.le_of_ble_eq_true rfl) (Nat.le_of_ble_eq_true rfl) dX2_become_40 (fun H locs hP hD hS => ?_)
        have g28 : ∀ k, k < 8 → ∀ f : Nat → Int32, ((wdX2_become cI cJ cT cII cJJ ad ad2 n pa br th pe pr w n2 pa2 br2 th2 pe2 pr2 w2)).set (5 + k) (ad (k + 5), .inl (cI, 8, .inl f)) = (wdX2_become cI cJ cT cII cJJ ad ad2 n pa br th pe pr (va_up w k f) n2 pa2 br2 th2 pe2 pr2 w2) := bw_all8 (fun _ => rfl) (fun _ => rfl) (fun _ => rfl) (fun _ => rfl) (fun _ => rfl) (fun _ => rfl) (fun _ => rfl) (fun _ => rfl)
        rw [g28 _ q20] at hP hD
        have hP : va_P (dC, dI) vwCl (wdX2_become cI cJ cT cII cJJ ad ad2 n pa br th pe pr (va_up w v2.toNatClampNeg (va_cpy ((w2 v2.toNatClampNeg)) (w v2.toNatClampNeg) (0 : Int32).toNatClampNeg (0 : Int32).toNatClampNeg (8 : Int32).toNatClampNeg)) n2 pa2 br2 th2 pe2 pr2 w2) H := hP
        have hD : va_D A (wdX2_become cI cJ cT cII cJJ ad ad2 n pa br th pe pr (va_up w v2.toNatClampNeg (va_cpy ((w2 v2.toNatClampNeg)) (w v2.toNatClampNeg) (0 : Int32).toNatClampNeg (0 : Int32).toNatClampNeg (8 : Int32).toNatClampNeg)) n2 pa2 br2 th2 pe2 pr2 w2) := hD
        obtain ⟨x29, ex29⟩ : ∃ y : Int32, y = v2 + 1 := ⟨_, rfl⟩
        have hw := hw x29 ex29
        refine lv_iinc (v := x29) (lv' := [(2, .int x29), (0, .ref (ad 0)), (1, .ref (ad2 0))]) hx hb dX2_become_43 hl (k := 2) rfl (by rw [ex29]; rfl) (by decide) rfl (fun ls hl => ?_)
        refine lv_goto (tgt := 18) hx hb dX2_become_46 (by decide) ?_
        exact ih x29 n pa th pe pr (va_up w v2.toNatClampNeg (va_cpy ((w2 v2.toNatClampNeg)) (w v2.toNatClampNeg) (0 : Int32).toNatClampNeg (0 : Int32).toNatClampNeg (8 : Int32).toNatClampNeg)) _ _ hP hD hS ls (lv_sub hl [1, 2, 0] rfl) hw
  unfold wpX2_become at hw
  refine lv_aload_n hx hb dX2_become_0 rfl (lv_at hl 0 rfl) ?_
  refine lv_aload_n hx hb dX2_become_1 rfl (lv_at hl 1 rfl) ?_
  refine va_get (D := (dC, dI)) (ci := 2) (v := .int n2) (C := RX2) (T := TX2) (N := 7) hx hb hts (fun w h => List.mem_cons_of_mem _ (List.mem_append_right _ h)) hown hK hP 13 rfl rfl 4 (by decide) (hts (.fieldLink RX2 26 "BidMarket$Market" "n" "I") (List.mem_of_getElem? (i := 1) rfl)) (fun _ h9 => h9) rfl dX2_become_2 ?_
  refine va_put (D := (dC, dI)) (ci := 2) (v := .int n2) (ty := .int) (C := RX2) (T := TX2) (N := 7) hx hb hts (fun w h => List.mem_cons_of_mem _ (List.mem_append_right _ h)) tyX2 tyX2_ok nmX2 hown hK hP hD hS 0 rfl rfl 4 (by decide) (hts (.fieldLink RX2 26 "BidMarket$Market" "n" "I") (List.mem_of_getElem? (i := 1) rfl)) (fun _ h9 => h9) rfl (by decide +kernel) rfl rfl (Nat.le_of_ble_eq_true rfl) dX2_become_5 (fun H locs hP hD hS => ?_)
  have hP : va_P (dC, dI) vwCl (wdX2_become cI cJ cT cII cJJ ad ad2 n2 pa br th pe pr w n2 pa2 br2 th2 pe2 pr2 w2) H := hP
  have hD : va_D A (wdX2_become cI cJ cT cII cJJ ad ad2 n2 pa br th pe pr w n2 pa2 br2 th2 pe2 pr2 w2) := hD
  refine lv_aload_n hx hb dX2_become_8 rfl (lv_at hl 0 rfl) ?_
  refine lv_aload_n hx hb dX2_become_9 rfl (lv_at hl 1 rfl) ?_
  refine va_get (D := (dC, dI)) (ci := 2) (v := .int pa2) (C := RX2) (T := TX2) (N := 7) hx hb hts (fun w h => List.mem_cons_of_mem _ (List.mem_append_right _ h)) hown hK hP 13 rfl rfl 5 (by decide) (hts (.fieldLink RX2 30 "BidMarket$Market" "pace" "I") (List.mem_of_getElem? (i := 2) rfl)) (fun _ h9 => h9) rfl dX2_become_10 ?_
  refine va_put (D := (dC, dI)) (ci := 2) (v := .int pa2) (ty := .int) (C := RX2) (T := TX2) (N := 7) hx hb hts (fun w h => List.mem_cons_of_mem _ (List.mem_append_right _ h)) tyX2 tyX2_ok nmX2 hown hK hP hD hS 0 rfl rfl 5 (by decide) (hts (.fieldLink RX2 30 "BidMarket$Market" "pace" "I") (List.mem_of_getElem? (i := 2) rfl)) (fun _ h9 => h9) rfl (by decide +kernel) rfl rfl (Nat.le_of_ble_eq_true rfl) dX2_become_13 (fun H locs hP hD hS => ?_)
  have hP : va_P (dC, dI) vwCl (wdX2_become cI cJ cT cII cJJ ad ad2 n2 pa2 br th pe pr w n2 pa2 br2 th2 pe2 pr2 w2) H := hP
  have hD : va_D A (wdX2_become cI cJ cT cII cJJ ad ad2 n2 pa2 br th pe pr w n2 pa2 br2 th2 pe2 pr2 w2) := hD
  refine lv_iconst (v := 0) hx hb dX2_become_16 (by decide) ?_
  refine lv_istore_n (lv' := [(2, .int 0), (0, .ref (ad 0)), (1, .ref (ad2 0))]) hx hb dX2_become_17 rfl hl (by decide) rfl (fun ls hl => ?_)
  obtain ⟨f1, hw⟩ := hw
  exact kB18 f1 0 n2 pa2 th pe pr w _ _ hP hD hS ls (lv_sub hl [1, 2, 0] rfl) hw
set_option maxHeartbeats 4000000 in
set_option maxRecDepth 100000 in
theorem mX2_giveUp (l : Launch) (dC : Nat → ClassId) (dI : Nat → Nat → Nat) (cI cJ cT cII cJJ : ClassId) (ad : Nat → Nat) (sz : Nat) (n : Int32) (pa : Int32) (br : Int32) (th : Nat → Int32) (pe : Nat → Int32) (a1 : Int32) (Post : (Nat → Int32) → (Nat → Int32) → Prop) (hw : wpX2_giveUp th pe a1 Post) : Met l yX2_giveUp wsX2_giveUp ({ frames := 0, cells := 0, slots := 0, locals := 0 } : Room) (va_Pc [.ref (ad 0), .int a1] (fun U => U.heap.size = sz ∧ va_P (dC, dI) vwCl (wdX2_giveUp cI cJ cT cII cJJ ad n pa br th pe) U.heap ∧ va_K (dC, dI) vwCl (bw_tys cI cJ cT cII cJJ) U ∧ va_D (fun _ => True) (wdX2_giveUp cI cJ cT cII cJJ ad n pa br th pe))) (va_Qv (fun (u : (Nat → Int32) × (Nat → Int32)) => Post u.1 u.2) (fun (u : (Nat → Int32) × (Nat → Int32)) t => va_P (dC, dI) vwCl (wdX2_giveUp cI cJ cT cII cJJ ad n pa br u.1 u.2) t.heap) (va_A (wdX2_giveUp cI cJ cT cII cJJ ad n pa br th pe) sz)) 0 0 (va_A (wdX2_giveUp cI cJ cT cII cJJ ad n pa br th pe) sz) := by
  refine Met.ofW (cc := cX2_giveUp) (maxL := 3) (ret := none) (by decide) rfl ?_
  intro p e s m args below meth c s₁ B hml hv
  obtain ⟨rfl, hsz, hP, hK, hD0⟩ := hv
  have hx := B.exec
  have hb := B.bytes
  have hr := B.returns
  have hts := atoms_spec (ws := wsX2_giveUp) B.pre
  have hown : s.vm.findClass RX2 = some m.cls := findClass_of_methodNamed B.named
  have hlocks := B.notSynchronized
  subst hsz
  have hD := hD0.self (sz := s.heap.size)
  generalize hAe : va_A (wdX2_giveUp cI cJ cT cII cJJ ad n pa br th pe) s.heap.size = A at hD ⊢
  have hA : ∀ q : Nat, s.heap.size ≤ q → A q := fun q h => by rw [← hAe]; exact Or.inr h
  have hS : va_S A s.heap s.heap [] := va_S.rf
  have hl := lv_entry ([.ref (ad 0), .int a1]) (n := 3) (Nat.le_of_ble_eq_true rfl)
  rw [lg_entry_eq]
  generalize (lg_sl ([.ref (ad 0), .int a1]) ++ List.replicate (3 - (lg_sl ([.ref (ad 0), .int a1])).length) Slot.unset).toArray = ls at hl ⊢
  have hl : lv_has ls 3 [(0, .ref (ad 0)), (1, .int a1)] := hl
  have kB18 : ∀ (th : Nat → Int32) (pe : Nat → Int32), ∀ (H : Heap) (locs : List Loc), va_P (dC, dI) vwCl (wdX2_giveUp cI cJ cT cII cJJ ad n pa br th pe) H → va_D A (wdX2_giveUp cI cJ cT cII cJJ ad n pa br th pe) → va_S A s.heap H locs → ∀ ls : Array Slot, lv_has ls 3 [(0, .ref (ad 0)), (1, .int a1)] → wpX2_giveUp_B18 a1 Post th pe → W p l e (headSpec wsX2_giveUp ({ frames := 0, cells := 0, slots := 0, locals := 0 } : Room)).room s m ([.ref (ad 0), .int a1] : List Value).toArray below meth c H locs 0 0 (MQ below (va_Qv (fun (u : (Nat → Int32) × (Nat → Int32)) => Post u.1 u.2) (fun (u : (Nat → Int32) × (Nat → Int32)) t => va_P (dC, dI) vwCl (wdX2_giveUp cI cJ cT cII cJJ ad n pa br u.1 u.2) t.heap) A) ([.ref (ad 0), .int a1] : List Value).toArray s 0 0 A) (F0 m 18 ls []) := by
    intro th pe H locs hP hD hS ls hl hw
    unfold wpX2_giveUp_B18 at hw
    refine lv_aload_n hx hb dX2_giveUp_18 rfl (lv_at hl 0 rfl) ?_
    refine va_get (D := (dC, dI)) (ci := 2) (v := .ref (ad 1)) (C := RX2) (T := TX2) (N := 7) hx hb hts (fun w h => List.mem_cons_of_mem _ (List.mem_append_right _ h)) hown hK hP 0 rfl rfl 1 (by decide) (hts (.fieldLink RX2 16 "BidMarket$Market" "thingOf" "[I") (List.mem_of_getElem? (i := 1) rfl)) (fun _ h9 => h9) rfl dX2_giveUp_19 ?_
    refine lv_iload_n hx hb dX2_giveUp_22 rfl (lv_at hl 1 rfl) ?_
    refine lv_iconst (v := (-1)) hx hb dX2_giveUp_23 (by decide) ?_
    have h4 := hw.1
    have hw := hw.2
    refine va_iast hx hb hK hP hD hS 1 0 rfl rfl h4 dX2_giveUp_24 (fun H locs hP hD hS => ?_)
    have hP : va_P (dC, dI) vwCl (wdX2_giveUp cI cJ cT cII cJJ ad n pa br (upd th a1.toNatClampNeg ((-1))) pe) H := hP
    have hD : va_D A (wdX2_giveUp cI cJ cT cII cJJ ad n pa br (upd th a1.toNatClampNeg ((-1))) pe) := hD
    exact W.vret hx hb hr (fun t ht hW => ⟨⟨(upd th a1.toNatClampNeg ((-1)), pe), rfl, hw, by show va_P _ _ _ t.heap; rw [ht]; exact hP⟩, hS.F ht⟩) hS.2.2 dX2_giveUp_25
  unfold wpX2_giveUp at hw
  refine lv_aload_n hx hb dX2_giveUp_0 rfl (lv_at hl 0 rfl) ?_
  refine va_get (D := (dC, dI)) (ci := 2) (v := .ref (ad 1)) (C := RX2) (T := TX2) (N := 7) hx hb hts (fun w h => List.mem_cons_of_mem _ (List.mem_append_right _ h)) hown hK hP 0 rfl rfl 1 (by decide) (hts (.fieldLink RX2 16 "BidMarket$Market" "thingOf" "[I") (List.mem_of_getElem? (i := 1) rfl)) (fun _ h9 => h9) rfl dX2_giveUp_1 ?_
  refine lv_iload_n hx hb dX2_giveUp_4 rfl (lv_at hl 1 rfl) ?_
  have h1 := hw.1
  have hw := hw.2
  refine va_iald hx hb hK hP 1 0 rfl rfl h1 dX2_giveUp_5 ?_
  refine lv_topi (fun x2 ex2 => ?_)
  have hw := hw x2 ex2
  refine lv_istore_n (lv' := [(2, .int x2), (0, .ref (ad 0)), (1, .int a1)]) hx hb dX2_giveUp_6 rfl hl (by decide) rfl (fun ls hl => ?_)
  refine lv_iload_n hx hb dX2_giveUp_7 rfl (lv_at hl 0 rfl) ?_
  refine lv_if_lt (tgt := 18) hx hb dX2_giveUp_8 (by decide) (fun c3 => ?_) (fun c3 => ?_)
  · have hw := hw.1 c3
    exact kB18 th pe _ _ hP hD hS ls (lv_sub hl [1, 2] rfl) hw
  · have hw := hw.2 c3
    refine lv_aload_n hx hb dX2_giveUp_11 rfl (lv_at hl 1 rfl) ?_
    refine va_get (D := (dC, dI)) (ci := 2) (v := .ref (ad 2)) (C := RX2) (T := TX2) (N := 7) hx hb hts (fun w h => List.mem_cons_of_mem _ (List.mem_append_right _ h)) hown hK hP 0 rfl rfl 2 (by decide) (hts (.fieldLink RX2 20 "BidMarket$Market" "personOf" "[I") (List.mem_of_getElem? (i := 2) rfl)) (fun _ h9 => h9) rfl dX2_giveUp_12 ?_
    refine lv_iload_n hx hb dX2_giveUp_15 rfl (lv_at hl 0 rfl) ?_
    refine lv_iconst (v := (-1)) hx hb dX2_giveUp_16 (by decide) ?_
    have h5 := hw.1
    have hw := hw.2
    refine va_iast hx hb hK hP hD hS 2 0 rfl rfl h5 dX2_giveUp_17 (fun H locs hP hD hS => ?_)
    have hP : va_P (dC, dI) vwCl (wdX2_giveUp cI cJ cT cII cJJ ad n pa br th (upd pe x2.toNatClampNeg ((-1)))) H := hP
    have hD : va_D A (wdX2_giveUp cI cJ cT cII cJJ ad n pa br th (upd pe x2.toNatClampNeg ((-1)))) := hD
    exact kB18 th (upd pe x2.toNatClampNeg ((-1))) _ _ hP hD hS ls (lv_sub hl [1, 2] rfl) hw
set_option maxHeartbeats 4000000 in
set_option maxRecDepth 100000 in
theorem mX2_becomeWorth (l : Launch) (dC : Nat → ClassId) (dI : Nat → Nat → Nat) (cI cJ cT cII cJJ : ClassId) (ad : Nat → Nat) (sz : Nat) (n : Int32) (pa : Int32) (br : Int32) (th : Nat → Int32) (pe : Nat → Int32) (w : Nat → Nat → Int32) (a1 : Int32) (a2 : Int32) (a3 : Int32) (Post : (Nat → Int32) → (Nat → Int32) → (Nat → Nat → Int32) → Prop) (hw : wpX2_becomeWorth th pe w a1 a2 a3 Post) : Met l yX2_becomeWorth wsX2_becomeWorth ({ frames := 1, cells := 0, slots := 0, locals := 22 } : Room) (va_Pc [.ref (ad 0), .int a1, .int a2, .int a3] (fun U => U.heap.size = sz ∧ va_P (dC, dI) vwCl (wdX2_becomeWorth cI cJ cT cII cJJ ad n pa br th pe w) U.heap ∧ va_K (dC, dI) vwCl (bw_tys cI cJ cT cII cJJ) U ∧ va_D (fun _ => True) (wdX2_becomeWorth cI cJ cT cII cJJ ad n pa br th pe w))) (va_Qv (fun (u : (Nat → Int32) × (Nat → Int32) × (Nat → Nat → Int32)) => Post u.1 u.2.1 u.2.2) (fun (u : (Nat → Int32) × (Nat → Int32) × (Nat → Nat → Int32)) t => va_P (dC, dI) vwCl (wdX2_becomeWorth cI cJ cT cII cJJ ad n pa br u.1 u.2.1 u.2.2) t.heap) (va_A (wdX2_becomeWorth cI cJ cT cII cJJ ad n pa br th pe w) sz)) 0 0 (va_A (wdX2_becomeWorth cI cJ cT cII cJJ ad n pa br th pe w) sz) := by
  refine Met.ofW (cc := cX2_becomeWorth) (maxL := 4) (ret := none) (by decide) rfl ?_
  intro p e s m args below meth c s₁ B hml hv
  obtain ⟨rfl, hsz, hP, hK, hD0⟩ := hv
  have hx := B.exec
  have hb := B.bytes
  have hr := B.returns
  have hts := atoms_spec (ws := wsX2_becomeWorth) B.pre
  have hown : s.vm.findClass RX2 = some m.cls := findClass_of_methodNamed B.named
  have hlocks := B.notSynchronized
  subst hsz
  have hD := hD0.self (sz := s.heap.size)
  generalize hAe : va_A (wdX2_becomeWorth cI cJ cT cII cJJ ad n pa br th pe w) s.heap.size = A at hD ⊢
  have hA : ∀ q : Nat, s.heap.size ≤ q → A q := fun q h => by rw [← hAe]; exact Or.inr h
  have hS : va_S A s.heap s.heap [] := va_S.rf
  have hl := lv_entry ([.ref (ad 0), .int a1, .int a2, .int a3]) (n := 4) (Nat.le_of_ble_eq_true rfl)
  rw [lg_entry_eq]
  generalize (lg_sl ([.ref (ad 0), .int a1, .int a2, .int a3]) ++ List.replicate (4 - (lg_sl ([.ref (ad 0), .int a1, .int a2, .int a3])).length) Slot.unset).toArray = ls at hl ⊢
  have hl : lv_has ls 4 [(0, .ref (ad 0)), (1, .int a1), (2, .int a2), (3, .int a3)] := hl
  unfold wpX2_becomeWorth at hw
  refine lv_aload_n hx hb dX2_becomeWorth_0 rfl (lv_at hl 0 rfl) ?_
  refine va_get (D := (dC, dI)) (ci := 2) (v := .ref (ad 4)) (C := RX2) (T := TX2) (N := 7) hx hb hts (fun w h => List.mem_cons_of_mem _ (List.mem_append_right _ h)) hown hK hP 0 rfl rfl 0 (by decide) (hts (.fieldLink RX2 11 "BidMarket$Market" "worths" "[[I") (List.mem_of_getElem? (i := 1) rfl)) (fun _ h9 => h9) rfl dX2_becomeWorth_1 ?_
  refine lv_iload_n hx hb dX2_becomeWorth_4 rfl (lv_at hl 1 rfl) ?_
  have h1 := hw.1
  have hw := hw.2
  have q2 := bw_lt h1
  refine bw_aald (g := fun i => ad (i + 5)) (b := ad (a1.toNatClampNeg + 5)) hx hb hK hP 3 3 rfl rfl rfl (fun k h => if_pos h) h1 rfl dX2_becomeWorth_5 ?_
  refine lv_iload_n hx hb dX2_becomeWorth_6 rfl (lv_at hl 2 rfl) ?_
  refine lv_iload_n hx hb dX2_becomeWorth_7 rfl (lv_at hl 3 rfl) ?_
  have h3 := hw.1
  have hw := hw.2
  have g4 : ∀ k, k < 8 → ((wdX2_becomeWorth cI cJ cT cII cJJ ad n pa br th pe w))[4 + k]? = some (ad (k + 5), .inl (cI, 8, .inl (w k))) := bw_all8 rfl rfl rfl rfl rfl rfl rfl rfl
  refine va_iast hx hb hK hP hD hS (4 + a1.toNatClampNeg) 0 (g4 _ q2) rfl h3 dX2_becomeWorth_8 (fun H locs hP hD hS => ?_)
  have g5 : ∀ k, k < 8 → ∀ f : Nat → Int32, ((wdX2_becomeWorth cI cJ cT cII cJJ ad n pa br th pe w)).set (4 + k) (ad (k + 5), .inl (cI, 8, .inl f)) = (wdX2_becomeWorth cI cJ cT cII cJJ ad n pa br th pe (va_up w k f)) := bw_all8 (fun _ => rfl) (fun _ => rfl) (fun _ => rfl) (fun _ => rfl) (fun _ => rfl) (fun _ => rfl) (fun _ => rfl) (fun _ => rfl)
  rw [g5 _ q2] at hP hD
  have hP : va_P (dC, dI) vwCl (wdX2_becomeWorth cI cJ cT cII cJJ ad n pa br th pe (va_up w a1.toNatClampNeg (upd (w a1.toNatClampNeg) a2.toNatClampNeg a3))) H := hP
  have hD : va_D A (wdX2_becomeWorth cI cJ cT cII cJJ ad n pa br th pe (va_up w a1.toNatClampNeg (upd (w a1.toNatClampNeg) a2.toNatClampNeg a3))) := hD
  refine lv_aload_n hx hb dX2_becomeWorth_9 rfl (lv_at hl 0 rfl) ?_
  refine lv_iload_n hx hb dX2_becomeWorth_10 rfl (lv_at hl 1 rfl) ?_
  refine bw_wvv (wc := (wdX2_giveUp cI cJ cT cII cJJ ad n pa br th pe)) (w1 := (fun (u : (Nat → Int32) × (Nat → Int32)) => wdX2_giveUp cI cJ cT cII cJJ ad n pa br u.1 u.2)) (As := [.int a1]) (rest := []) ⟨hx, hb, hml, hown, hts⟩ (mX2_giveUp l dC dI cI cJ cT cII cJJ ad _ n pa br th pe a1 _ hw) (cwV 1 hts gX2_becomeWorth_X2_giveUp rfl rfl rfl hdX2_giveUp ⟨Nat.le_of_ble_eq_true rfl, Nat.le_of_ble_eq_true rfl⟩) hK hP hD hS hA [0, 1, 2] rfl (by decide) (fun _ => rfl) rfl rfl rfl rfl hl.1 rfl (Nat.le_of_ble_eq_true rfl) ⟨Nat.le_of_ble_eq_true rfl, Nat.le_of_ble_eq_true rfl⟩ dX2_becomeWorth_11 (fun u H locs hw hP hD hS => ?_)
  obtain ⟨y6, y7⟩ := u
  try dsimp only at hw
  have hP : va_P (dC, dI) vwCl (wdX2_becomeWorth cI cJ cT cII cJJ ad n pa br y6 y7 (va_up w a1.toNatClampNeg (upd (w a1.toNatClampNeg) a2.toNatClampNeg a3))) H := hP
  have hD : va_D A (wdX2_becomeWorth cI cJ cT cII cJJ ad n pa br y6 y7 (va_up w a1.toNatClampNeg (upd (w a1.toNatClampNeg) a2.toNatClampNeg a3))) := hD
  exact W.vret hx hb hr (fun t ht hW => ⟨⟨(y6, y7, va_up w a1.toNatClampNeg (upd (w a1.toNatClampNeg) a2.toNatClampNeg a3)), rfl, hw, by show va_P _ _ _ t.heap; rw [ht]; exact hP⟩, hS.F ht⟩) hS.2.2 dX2_becomeWorth_14
set_option maxHeartbeats 4000000 in
set_option maxRecDepth 100000 in
theorem mX2_has (l : Launch) (dC : Nat → ClassId) (dI : Nat → Nat → Nat) (cI cJ cT cII cJJ : ClassId) (ad : Nat → Nat) (n : Int32) (pa : Int32) (br : Int32) (a1 : Int32) (Post : Int32 → Prop) (hw : wpX2_has n a1 Post) : Met l yX2_has wsX2_has ({ frames := 0, cells := 0, slots := 0, locals := 0 } : Room) (va_Pc [.ref (ad 0), .int a1] (fun U => va_P (dC, dI) vwCl (wdX2_has cI cJ cT cII cJJ ad n pa br) U.heap ∧ va_K (dC, dI) vwCl (bw_tys cI cJ cT cII cJJ) U)) (vp_Si Post) 0 0 (fun _ => False) := by
  refine Met.ofW (cc := cX2_has) (maxL := 2) (ret := (some .boolean)) (by decide) rfl ?_
  intro p e s m args below meth c s₁ B hml hv
  obtain ⟨rfl, hP, hK⟩ := hv
  have hx := B.exec
  have hb := B.bytes
  have hr := B.returns
  have hts := atoms_spec (ws := wsX2_has) B.pre
  have hown : s.vm.findClass RX2 = some m.cls := findClass_of_methodNamed B.named
  have hlocks := B.notSynchronized
  have hl := lv_entry ([.ref (ad 0), .int a1]) (n := 2) (Nat.le_of_ble_eq_true rfl)
  rw [lg_entry_eq]
  generalize (lg_sl ([.ref (ad 0), .int a1]) ++ List.replicate (2 - (lg_sl ([.ref (ad 0), .int a1])).length) Slot.unset).toArray = ls at hl ⊢
  have hl : lv_has ls 2 [(0, .ref (ad 0)), (1, .int a1)] := hl
  unfold wpX2_has at hw
  refine lv_iload_n hx hb dX2_has_0 rfl (lv_at hl 1 rfl) ?_
  refine lv_if_lt (tgt := 16) hx hb dX2_has_1 (by decide) (fun c1 => ?_) (fun c1 => ?_)
  · have hw := hw.1 c1
    refine lv_iconst (v := 0) hx hb dX2_has_16 (by decide) ?_
    exact W.zret (v := 0) hx hb hr rfl (fun t ht hW => ⟨0, rfl, hw, ht⟩) (fun _ h => by cases h) dX2_has_17
  · have hw := hw.2 c1
    refine lv_iload_n hx hb dX2_has_4 rfl (lv_at hl 1 rfl) ?_
    refine lv_aload_n hx hb dX2_has_5 rfl (lv_at hl 0 rfl) ?_
    refine va_get (D := (dC, dI)) (ci := 2) (v := .int n) (C := RX2) (T := TX2) (N := 7) hx hb hts (fun w h => List.mem_cons_of_mem _ (List.mem_append_right _ h)) hown hK hP 0 rfl rfl 4 (by decide) (hts (.fieldLink RX2 26 "BidMarket$Market" "n" "I") (List.mem_of_getElem? (i := 1) rfl)) (fun _ h9 => h9) rfl dX2_has_6 ?_
    refine lv_icmp_ge (tgt := 16) hx hb dX2_has_9 (by decide) (fun c2 => ?_) (fun c2 => ?_)
    · have hw := hw.1 c2
      refine lv_iconst (v := 0) hx hb dX2_has_16 (by decide) ?_
      exact W.zret (v := 0) hx hb hr rfl (fun t ht hW => ⟨0, rfl, hw, ht⟩) (fun _ h => by cases h) dX2_has_17
    · have hw := hw.2 c2
      refine lv_iconst (v := 1) hx hb dX2_has_12 (by decide) ?_
      refine lv_goto (tgt := 17) hx hb dX2_has_13 (by decide) ?_
      exact W.zret (v := 1) hx hb hr rfl (fun t ht hW => ⟨1, rfl, hw, ht⟩) (fun _ h => by cases h) dX2_has_17
set_option maxHeartbeats 4000000 in
set_option maxRecDepth 100000 in
theorem mX2_allows (l : Launch) (dC : Nat → ClassId) (dI : Nat → Nat → Nat) (cI cJ cT cII cJJ : ClassId) (ad : Nat → Nat) (n : Int32) (pa : Int32) (br : Int32) (w : Nat → Nat → Int32) (a1 : Int32) (a2 : Int32) (Post : Int32 → Prop) (hw : wpX2_allows w a1 a2 Post) : Met l yX2_allows wsX2_allows ({ frames := 0, cells := 0, slots := 0, locals := 0 } : Room) (va_Pc [.ref (ad 0), .int a1, .int a2] (fun U => va_P (dC, dI) vwCl (wdX2_allows cI cJ cT cII cJJ ad n pa br w) U.heap ∧ va_K (dC, dI) vwCl (bw_tys cI cJ cT cII cJJ) U)) (vp_Si Post) 0 0 (fun _ => False) := by
  refine Met.ofW (cc := cX2_allows) (maxL := 3) (ret := (some .boolean)) (by decide) rfl ?_
  intro p e s m args below meth c s₁ B hml hv
  obtain ⟨rfl, hP, hK⟩ := hv
  have hx := B.exec
  have hb := B.bytes
  have hr := B.returns
  have hts := atoms_spec (ws := wsX2_allows) B.pre
  have hown : s.vm.findClass RX2 = some m.cls := findClass_of_methodNamed B.named
  have hlocks := B.notSynchronized
  have hl := lv_entry ([.ref (ad 0), .int a1, .int a2]) (n := 3) (Nat.le_of_ble_eq_true rfl)
  rw [lg_entry_eq]
  generalize (lg_sl ([.ref (ad 0), .int a1, .int a2]) ++ List.replicate (3 - (lg_sl ([.ref (ad 0), .int a1, .int a2])).length) Slot.unset).toArray = ls at hl ⊢
  have hl : lv_has ls 3 [(0, .ref (ad 0)), (1, .int a1), (2, .int a2)] := hl
  unfold wpX2_allows at hw
  refine lv_aload_n hx hb dX2_allows_0 rfl (lv_at hl 0 rfl) ?_
  refine va_get (D := (dC, dI)) (ci := 2) (v := .ref (ad 4)) (C := RX2) (T := TX2) (N := 7) hx hb hts (fun w h => List.mem_cons_of_mem _ (List.mem_append_right _ h)) hown hK hP 0 rfl rfl 0 (by decide) (hts (.fieldLink RX2 11 "BidMarket$Market" "worths" "[[I") (List.mem_of_getElem? (i := 1) rfl)) (fun _ h9 => h9) rfl dX2_allows_1 ?_
  refine lv_iload_n hx hb dX2_allows_4 rfl (lv_at hl 1 rfl) ?_
  have h1 := hw.1
  have hw := hw.2
  have q2 := bw_lt h1
  refine bw_aald (g := fun i => ad (i + 5)) (b := ad (a1.toNatClampNeg + 5)) hx hb hK hP 1 3 rfl rfl rfl (fun k h => if_pos h) h1 rfl dX2_allows_5 ?_
  refine lv_iload_n hx hb dX2_allows_6 rfl (lv_at hl 2 rfl) ?_
  have h3 := hw.1
  have hw := hw.2
  have g4 : ∀ k, k < 8 → ((wdX2_allows cI cJ cT cII cJJ ad n pa br w))[2 + k]? = some (ad (k + 5), .inl (cI, 8, .inl (w k))) := bw_all8 rfl rfl rfl rfl rfl rfl rfl rfl
  refine va_iald hx hb hK hP (2 + a1.toNatClampNeg) 0 (g4 _ q2) rfl h3 dX2_allows_7 ?_
  refine lv_iconst (v := (-1)) hx hb dX2_allows_8 (by decide) ?_
  refine lv_icmp_eq (tgt := 16) hx hb dX2_allows_9 (by decide) (fun c5 => ?_) (fun c5 => ?_)
  · have hw := hw.1 c5
    refine lv_iconst (v := 0) hx hb dX2_allows_16 (by decide) ?_
    exact W.zret (v := 0) hx hb hr rfl (fun t ht hW => ⟨0, rfl, hw, ht⟩) (fun _ h => by cases h) dX2_allows_17
  · have hw := hw.2 c5
    refine lv_iconst (v := 1) hx hb dX2_allows_12 (by decide) ?_
    refine lv_goto (tgt := 17) hx hb dX2_allows_13 (by decide) ?_
    exact W.zret (v := 1) hx hb hr rfl (fun t ht hW => ⟨1, rfl, hw, ht⟩) (fun _ h => by cases h) dX2_allows_17
set_option maxHeartbeats 4000000 in
set_option maxRecDepth 100000 in
theorem mX2_gainOf (l : Launch) (dC : Nat → ClassId) (dI : Nat → Nat → Nat) (cI cJ cT cII cJJ : ClassId) (ad : Nat → Nat) (n : Int32) (pa : Int32) (br : Int32) (pr : Nat → Int32) (w : Nat → Nat → Int32) (a1 : Int32) (a2 : Int32) (Post : Int32 → Prop) (hw : wpX2_gainOf n pr w a1 a2 Post) : Met l yX2_gainOf wsX2_gainOf ({ frames := 0, cells := 0, slots := 0, locals := 0 } : Room) (va_Pc [.ref (ad 0), .int a1, .int a2] (fun U => va_P (dC, dI) vwCl (wdX2_gainOf cI cJ cT cII cJJ ad n pa br pr w) U.heap ∧ va_K (dC, dI) vwCl (bw_tys cI cJ cT cII cJJ) U)) (vp_Si Post) 0 0 (fun _ => False) := by
  refine Met.ofW (cc := cX2_gainOf) (maxL := 3) (ret := (some .int)) (by decide) rfl ?_
  intro p e s m args below meth c s₁ B hml hv
  obtain ⟨rfl, hP, hK⟩ := hv
  have hx := B.exec
  have hb := B.bytes
  have hr := B.returns
  have hts := atoms_spec (ws := wsX2_gainOf) B.pre
  have hown : s.vm.findClass RX2 = some m.cls := findClass_of_methodNamed B.named
  have hlocks := B.notSynchronized
  have hl := lv_entry ([.ref (ad 0), .int a1, .int a2]) (n := 3) (Nat.le_of_ble_eq_true rfl)
  rw [lg_entry_eq]
  generalize (lg_sl ([.ref (ad 0), .int a1, .int a2]) ++ List.replicate (3 - (lg_sl ([.ref (ad 0), .int a1, .int a2])).length) Slot.unset).toArray = ls at hl ⊢
  have hl : lv_has ls 3 [(0, .ref (ad 0)), (1, .int a1), (2, .int a2)] := hl
  unfold wpX2_gainOf at hw
  refine lv_aload_n hx hb dX2_gainOf_0 rfl (lv_at hl 0 rfl) ?_
  refine va_get (D := (dC, dI)) (ci := 2) (v := .int n) (C := RX2) (T := TX2) (N := 7) hx hb hts (fun w h => List.mem_cons_of_mem _ (List.mem_append_right _ h)) hown hK hP 0 rfl rfl 4 (by decide) (hts (.fieldLink RX2 26 "BidMarket$Market" "n" "I") (List.mem_of_getElem? (i := 1) rfl)) (fun _ h9 => h9) rfl dX2_gainOf_1 ?_
  refine lv_iconst (v := 1) hx hb dX2_gainOf_4 (by decide) ?_
  refine lv_iadd hx hb dX2_gainOf_5 ?_
  refine lv_aload_n hx hb dX2_gainOf_6 rfl (lv_at hl 0 rfl) ?_
  refine va_get (D := (dC, dI)) (ci := 2) (v := .ref (ad 4)) (C := RX2) (T := TX2) (N := 7) hx hb hts (fun w h => List.mem_cons_of_mem _ (List.mem_append_right _ h)) hown hK hP 0 rfl rfl 0 (by decide) (hts (.fieldLink RX2 11 "BidMarket$Market" "worths" "[[I") (List.mem_of_getElem? (i := 2) rfl)) (fun _ h9 => h9) rfl dX2_gainOf_7 ?_
  refine lv_iload_n hx hb dX2_gainOf_10 rfl (lv_at hl 1 rfl) ?_
  have h1 := hw.1
  have hw := hw.2
  have q2 := bw_lt h1
  refine bw_aald (g := fun i => ad (i + 5)) (b := ad (a1.toNatClampNeg + 5)) hx hb hK hP 2 3 rfl rfl rfl (fun k h => if_pos h) h1 rfl dX2_gainOf_11 ?_
  refine lv_iload_n hx hb dX2_gainOf_12 rfl (lv_at hl 2 rfl) ?_
  have h3 := hw.1
  have hw := hw.2
  have g4 : ∀ k, k < 8 → ((wdX2_gainOf cI cJ cT cII cJJ ad n pa br pr w))[3 + k]? = some (ad (k + 5), .inl (cI, 8, .inl (w k))) := bw_all8 rfl rfl rfl rfl rfl rfl rfl rfl
  refine va_iald hx hb hK hP (3 + a1.toNatClampNeg) 0 (g4 _ q2) rfl h3 dX2_gainOf_13 ?_
  refine lv_imul hx hb dX2_gainOf_14 ?_
  refine lv_aload_n hx hb dX2_gainOf_15 rfl (lv_at hl 0 rfl) ?_
  refine va_get (D := (dC, dI)) (ci := 2) (v := .ref (ad 3)) (C := RX2) (T := TX2) (N := 7) hx hb hts (fun w h => List.mem_cons_of_mem _ (List.mem_append_right _ h)) hown hK hP 0 rfl rfl 3 (by decide) (hts (.fieldLink RX2 23 "BidMarket$Market" "prices" "[I") (List.mem_of_getElem? (i := 3) rfl)) (fun _ h9 => h9) rfl dX2_gainOf_16 ?_
  refine lv_iload_n hx hb dX2_gainOf_19 rfl (lv_at hl 2 rfl) ?_
  have h5 := hw.1
  have hw := hw.2
  refine va_iald hx hb hK hP 1 0 rfl rfl h5 dX2_gainOf_20 ?_
  refine lv_isub hx hb dX2_gainOf_21 ?_
  exact W.iret (v := ((n + 1) * (((w a1.toNatClampNeg)) a2.toNatClampNeg)) - (pr a2.toNatClampNeg)) hx hb hr (fun t ht hW => ⟨((n + 1) * (((w a1.toNatClampNeg)) a2.toNatClampNeg)) - (pr a2.toNatClampNeg), rfl, hw, ht⟩) (fun _ h => by cases h) dX2_gainOf_22
set_option maxHeartbeats 4000000 in
set_option maxRecDepth 100000 in
theorem mX2_bestBut (l : Launch) (dC : Nat → ClassId) (dI : Nat → Nat → Nat) (cI cJ cT cII cJJ : ClassId) (ad : Nat → Nat) (n : Int32) (pa : Int32) (br : Int32) (pr : Nat → Int32) (w : Nat → Nat → Int32) (a1 : Int32) (a2 : Int32) (Post : Int32 → Prop) (hw : wpX2_bestBut n pr w a1 a2 Post) : Met l yX2_bestBut wsX2_bestBut ({ frames := 1, cells := 0, slots := 0, locals := 22 } : Room) (va_Pc [.ref (ad 0), .int a1, .int a2] (fun U => va_P (dC, dI) vwCl (wdX2_bestBut cI cJ cT cII cJJ ad n pa br pr w) U.heap ∧ va_K (dC, dI) vwCl (bw_tys cI cJ cT cII cJJ) U)) (vp_Si Post) 0 0 (fun _ => False) := by
  refine Met.ofW (cc := cX2_bestBut) (maxL := 7) (ret := (some .int)) (by decide) rfl ?_
  intro p e s m args below meth c s₁ B hml hv
  obtain ⟨rfl, hP, hK⟩ := hv
  have hx := B.exec
  have hb := B.bytes
  have hr := B.returns
  have hts := atoms_spec (ws := wsX2_bestBut) B.pre
  have hown : s.vm.findClass RX2 = some m.cls := findClass_of_methodNamed B.named
  have hlocks := B.notSynchronized
  have hl := lv_entry ([.ref (ad 0), .int a1, .int a2]) (n := 7) (Nat.le_of_ble_eq_true rfl)
  rw [lg_entry_eq]
  generalize (lg_sl ([.ref (ad 0), .int a1, .int a2]) ++ List.replicate (7 - (lg_sl ([.ref (ad 0), .int a1, .int a2])).length) Slot.unset).toArray = ls at hl ⊢
  have hl : lv_has ls 7 [(0, .ref (ad 0)), (1, .int a1), (2, .int a2)] := hl
  have kB60 : ∀ (K8 : Int32 → Int32 → Int32 → Prop), (∀ (v3 : Int32) (v4 : Int32) (v5 : Int32), ∀ ls : Array Slot, lv_has ls 7 [(0, .ref (ad 0)), (1, .int a1), (2, .int a2), (3, .int v3), (4, .int v4), (5, .int v5)] → K8 v3 v4 v5 → W p l e (headSpec wsX2_bestBut ({ frames := 1, cells := 0, slots := 0, locals := 22 } : Room)).room s m ([.ref (ad 0), .int a1, .int a2] : List Value).toArray below meth c s.heap [] 0 0 (MQ below (vp_Si Post) ([.ref (ad 0), .int a1, .int a2] : List Value).toArray s 0 0 (fun _ => False)) (F0 m 8 ls [])) → ∀ (v3 : Int32) (v4 : Int32) (v5 : Int32), ∀ ls : Array Slot, lv_has ls 7 [(0, .ref (ad 0)), (1, .int a1), (2, .int a2), (3, .int v3), (4, .int v4), (5, .int v5)] → wpX2_bestBut_B60 n pr w a1 a2 K8 Post v3 v4 v5 → W p l e (headSpec wsX2_bestBut ({ frames := 1, cells := 0, slots := 0, locals := 22 } : Room)).room s m ([.ref (ad 0), .int a1, .int a2] : List Value).toArray below meth c s.heap [] 0 0 (MQ below (vp_Si Post) ([.ref (ad 0), .int a1, .int a2] : List Value).toArray s 0 0 (fun _ => False)) (F0 m 60 ls []) := by
    intro K8 hK8 v3 v4 v5 ls hl hw
    unfold wpX2_bestBut_B60 at hw
    obtain ⟨x4, ex4⟩ : ∃ y : Int32, y = v5 + 1 := ⟨_, rfl⟩
    have hw := hw x4 ex4
    refine lv_iinc (v := x4) (lv' := [(5, .int x4), (0, .ref (ad 0)), (1, .int a1), (2, .int a2), (3, .int v3), (4, .int v4)]) hx hb dX2_bestBut_60 hl (k := 5) rfl (by rw [ex4]; rfl) (by decide) rfl (fun ls hl => ?_)
    refine lv_goto (tgt := 8) hx hb dX2_bestBut_63 (by decide) ?_
    exact hK8 v3 v4 x4 ls (lv_sub hl [1, 2, 3, 4, 5, 0] rfl) hw
  have kB53 : ∀ (K8 : Int32 → Int32 → Int32 → Prop), (∀ (v3 : Int32) (v4 : Int32) (v5 : Int32), ∀ ls : Array Slot, lv_has ls 7 [(0, .ref (ad 0)), (1, .int a1), (2, .int a2), (3, .int v3), (4, .int v4), (5, .int v5)] → K8 v3 v4 v5 → W p l e (headSpec wsX2_bestBut ({ frames := 1, cells := 0, slots := 0, locals := 22 } : Room)).room s m ([.ref (ad 0), .int a1, .int a2] : List Value).toArray below meth c s.heap [] 0 0 (MQ below (vp_Si Post) ([.ref (ad 0), .int a1, .int a2] : List Value).toArray s 0 0 (fun _ => False)) (F0 m 8 ls [])) → ∀ (v5 : Int32) (v6 : Int32), ∀ ls : Array Slot, lv_has ls 7 [(0, .ref (ad 0)), (1, .int a1), (2, .int a2), (5, .int v5), (6, .int v6)] → wpX2_bestBut_B53 n pr w a1 a2 K8 Post v5 v6 → W p l e (headSpec wsX2_bestBut ({ frames := 1, cells := 0, slots := 0, locals := 22 } : Room)).room s m ([.ref (ad 0), .int a1, .int a2] : List Value).toArray below meth c s.heap [] 0 0 (MQ below (vp_Si Post) ([.ref (ad 0), .int a1, .int a2] : List Value).toArray s 0 0 (fun _ => False)) (F0 m 53 ls []) := by
    intro K8 hK8 v5 v6 ls hl hw
    unfold wpX2_bestBut_B53 at hw
    refine lv_iload hx hb dX2_bestBut_53 (lv_at hl 3 rfl) ?_
    refine lv_istore_n (lv' := [(3, .int v5), (0, .ref (ad 0)), (1, .int a1), (2, .int a2), (5, .int v5), (6, .int v6)]) hx hb dX2_bestBut_55 rfl hl (by decide) rfl (fun ls hl => ?_)
    refine lv_iload hx hb dX2_bestBut_56 (lv_at hl 5 rfl) ?_
    refine lv_istore (lv' := [(4, .int v6), (3, .int v5), (0, .ref (ad 0)), (1, .int a1), (2, .int a2), (5, .int v5), (6, .int v6)]) hx hb dX2_bestBut_58 hl (by decide) rfl (fun ls hl => ?_)
    exact kB60 K8 hK8 v5 v6 v5 ls (lv_sub hl [2, 3, 4, 1, 0, 5] rfl) hw
  have kB8 : ∀ f : Nat, ∀ (v3 : Int32) (v4 : Int32) (v5 : Int32), ∀ ls : Array Slot, lv_has ls 7 [(0, .ref (ad 0)), (1, .int a1), (2, .int a2), (3, .int v3), (4, .int v4), (5, .int v5)] → wpX2_bestBut_B8 n pr w a1 a2 Post f v3 v4 v5 → W p l e (headSpec wsX2_bestBut ({ frames := 1, cells := 0, slots := 0, locals := 22 } : Room)).room s m ([.ref (ad 0), .int a1, .int a2] : List Value).toArray below meth c s.heap [] 0 0 (MQ below (vp_Si Post) ([.ref (ad 0), .int a1, .int a2] : List Value).toArray s 0 0 (fun _ => False)) (F0 m 8 ls []) := by
    intro  f
    induction f with
    | zero => intro v3 v4 v5 ls hl hw; exact (show False from hw).elim
    | succ f ih =>
      intro v3 v4 v5 ls hl hw
      rw [wpX2_bestBut_B8] at hw
      refine lv_iload hx hb dX2_bestBut_8 (lv_at hl 5 rfl) ?_
      refine lv_aload_n hx hb dX2_bestBut_10 rfl (lv_at hl 0 rfl) ?_
      refine va_get (D := (dC, dI)) (ci := 2) (v := .int n) (C := RX2) (T := TX2) (N := 7) hx hb hts (fun w h => List.mem_cons_of_mem _ (List.mem_append_right _ h)) hown hK hP 0 rfl rfl 4 (by decide) (hts (.fieldLink RX2 26 "BidMarket$Market" "n" "I") (List.mem_of_getElem? (i := 1) rfl)) (fun _ h9 => h9) rfl dX2_bestBut_11 ?_
      refine lv_icmp_ge (tgt := 66) hx hb dX2_bestBut_14 (by decide) (fun c2 => ?_) (fun c2 => ?_)
      · have hw := hw.1 c2
        refine lv_iload_n hx hb dX2_bestBut_66 rfl (lv_at hl 3 rfl) ?_
        exact W.iret (v := v3) hx hb hr (fun t ht hW => ⟨v3, rfl, hw, ht⟩) (fun _ h => by cases h) dX2_bestBut_67
      · have hw := hw.2 c2
        refine lv_iload hx hb dX2_bestBut_17 (lv_at hl 5 rfl) ?_
        refine lv_iload_n hx hb dX2_bestBut_19 rfl (lv_at hl 2 rfl) ?_
        refine lv_icmp_eq (tgt := 60) hx hb dX2_bestBut_20 (by decide) (fun c3 => ?_) (fun c3 => ?_)
        · have hw := hw.1 c3
          exact kB60 (wpX2_bestBut_B8 n pr w a1 a2 Post f) ih v3 v4 v5 ls hl hw
        · have hw := hw.2 c3
          refine lv_aload_n hx hb dX2_bestBut_23 rfl (lv_at hl 0 rfl) ?_
          refine lv_iload_n hx hb dX2_bestBut_24 rfl (lv_at hl 1 rfl) ?_
          refine lv_iload hx hb dX2_bestBut_25 (lv_at hl 5 rfl) ?_
          refine bw_pvi (wc := (wdX2_allows cI cJ cT cII cJJ ad n pa br w)) (As := [.int a1, .int v5]) (rest := []) ⟨hx, hb, hml, hown, hts⟩ (mX2_allows l dC dI cI cJ cT cII cJJ ad n pa br w a1 v5 _ hw) (cwV 2 hts gX2_bestBut_X2_allows rfl rfl rfl hdX2_allows ⟨Nat.le_of_ble_eq_true rfl, Nat.le_of_ble_eq_true rfl⟩) hK hP [0, 2, 3, 4, 5, 6, 7, 8, 9, 10] rfl rfl rfl rfl rfl hl.1 rfl (Nat.le_of_ble_eq_true rfl) ⟨Nat.le_of_ble_eq_true rfl, Nat.le_of_ble_eq_true rfl⟩ dX2_bestBut_27 (fun r5 hw => ?_)
          refine lv_if_eq (tgt := 60) hx hb dX2_bestBut_30 (by decide) (fun c6 => ?_) (fun c6 => ?_)
          · have hw := hw.1 c6
            exact kB60 (wpX2_bestBut_B8 n pr w a1 a2 Post f) ih v3 v4 v5 ls hl hw
          · have hw := hw.2 c6
            refine lv_aload_n hx hb dX2_bestBut_33 rfl (lv_at hl 0 rfl) ?_
            refine lv_iload_n hx hb dX2_bestBut_34 rfl (lv_at hl 1 rfl) ?_
            refine lv_iload hx hb dX2_bestBut_35 (lv_at hl 5 rfl) ?_
            refine bw_pvi (wc := (wdX2_gainOf cI cJ cT cII cJJ ad n pa br pr w)) (As := [.int a1, .int v5]) (rest := []) ⟨hx, hb, hml, hown, hts⟩ (mX2_gainOf l dC dI cI cJ cT cII cJJ ad n pa br pr w a1 v5 _ hw) (cwV 2 hts gX2_bestBut_X2_gainOf rfl rfl rfl hdX2_gainOf ⟨Nat.le_of_ble_eq_true rfl, Nat.le_of_ble_eq_true rfl⟩) hK hP [0, 1, 2, 3, 4, 5, 6, 7, 8, 9, 10] rfl rfl rfl rfl rfl hl.1 rfl (Nat.le_of_ble_eq_true rfl) ⟨Nat.le_of_ble_eq_true rfl, Nat.le_of_ble_eq_true rfl⟩ dX2_bestBut_37 (fun r7 hw => ?_)
            refine lv_istore (lv' := [(6, .int r7), (0, .ref (ad 0)), (1, .int a1), (2, .int a2), (3, .int v3), (4, .int v4), (5, .int v5)]) hx hb dX2_bestBut_40 hl (by decide) rfl (fun ls hl => ?_)
            refine lv_iload_n hx hb dX2_bestBut_42 rfl (lv_at hl 4 rfl) ?_
            refine lv_if_lt (tgt := 53) hx hb dX2_bestBut_43 (by decide) (fun c8 => ?_) (fun c8 => ?_)
            · have hw := hw.1 c8
              exact kB53 (wpX2_bestBut_B8 n pr w a1 a2 Post f) ih v5 r7 ls (lv_sub hl [1, 2, 3, 6, 0] rfl) hw
            · have hw := hw.2 c8
              refine lv_iload hx hb dX2_bestBut_46 (lv_at hl 0 rfl) ?_
              refine lv_iload hx hb dX2_bestBut_48 (lv_at hl 5 rfl) ?_
              refine lv_icmp_le (tgt := 60) hx hb dX2_bestBut_50 (by decide) (fun c9 => ?_) (fun c9 => ?_)
              · have hw := hw.1 c9
                exact kB60 (wpX2_bestBut_B8 n pr w a1 a2 Post f) ih v3 v4 v5 ls (lv_sub hl [1, 2, 3, 4, 5, 6] rfl) hw
              · have hw := hw.2 c9
                exact kB53 (wpX2_bestBut_B8 n pr w a1 a2 Post f) ih v5 r7 ls (lv_sub hl [1, 2, 3, 6, 0] rfl) hw
  unfold wpX2_bestBut at hw
  refine lv_iconst (v := (-1)) hx hb dX2_bestBut_0 (by decide) ?_
  refine lv_topi (fun x1 ex1 => ?_)
  have hw := hw x1 ex1
  refine lv_istore_n (lv' := [(3, .int x1), (0, .ref (ad 0)), (1, .int a1), (2, .int a2)]) hx hb dX2_bestBut_1 rfl hl (by decide) rfl (fun ls hl => ?_)
  refine lv_iconst (v := 0) hx hb dX2_bestBut_2 (by decide) ?_
  refine lv_istore (lv' := [(4, .int 0), (3, .int x1), (0, .ref (ad 0)), (1, .int a1), (2, .int a2)]) hx hb dX2_bestBut_3 hl (by decide) rfl (fun ls hl => ?_)
  refine lv_iconst (v := 0) hx hb dX2_bestBut_5 (by decide) ?_
  refine lv_istore (lv' := [(5, .int 0), (4, .int 0), (3, .int x1), (0, .ref (ad 0)), (1, .int a1), (2, .int a2)]) hx hb dX2_bestBut_6 hl (by decide) rfl (fun ls hl => ?_)
  obtain ⟨f1, hw⟩ := hw
  exact kB8 f1 x1 0 0 ls (lv_sub hl [3, 4, 5, 2, 1, 0] rfl) hw
set_option maxHeartbeats 4000000 in
set_option maxRecDepth 100000 in
theorem mX2_bestOf (l : Launch) (dC : Nat → ClassId) (dI : Nat → Nat → Nat) (cI cJ cT cII cJJ : ClassId) (ad : Nat → Nat) (n : Int32) (pa : Int32) (br : Int32) (pr : Nat → Int32) (w : Nat → Nat → Int32) (a1 : Int32) (Post : Int32 → Prop) (hw : wpX2_bestOf n pr w a1 Post) : Met l yX2_bestOf wsX2_bestOf ({ frames := 2, cells := 0, slots := 0, locals := 48 } : Room) (va_Pc [.ref (ad 0), .int a1] (fun U => va_P (dC, dI) vwCl (wdX2_bestOf cI cJ cT cII cJJ ad n pa br pr w) U.heap ∧ va_K (dC, dI) vwCl (bw_tys cI cJ cT cII cJJ) U)) (vp_Si Post) 0 0 (fun _ => False) := by
  refine Met.ofW (cc := cX2_bestOf) (maxL := 2) (ret := (some .int)) (by decide) rfl ?_
  intro p e s m args below meth c s₁ B hml hv
  obtain ⟨rfl, hP, hK⟩ := hv
  have hx := B.exec
  have hb := B.bytes
  have hr := B.returns
  have hts := atoms_spec (ws := wsX2_bestOf) B.pre
  have hown : s.vm.findClass RX2 = some m.cls := findClass_of_methodNamed B.named
  have hlocks := B.notSynchronized
  have hl := lv_entry ([.ref (ad 0), .int a1]) (n := 2) (Nat.le_of_ble_eq_true rfl)
  rw [lg_entry_eq]
  generalize (lg_sl ([.ref (ad 0), .int a1]) ++ List.replicate (2 - (lg_sl ([.ref (ad 0), .int a1])).length) Slot.unset).toArray = ls at hl ⊢
  have hl : lv_has ls 2 [(0, .ref (ad 0)), (1, .int a1)] := hl
  unfold wpX2_bestOf at hw
  refine lv_aload_n hx hb dX2_bestOf_0 rfl (lv_at hl 0 rfl) ?_
  refine lv_iload_n hx hb dX2_bestOf_1 rfl (lv_at hl 1 rfl) ?_
  refine lv_iconst (v := (-1)) hx hb dX2_bestOf_2 (by decide) ?_
  refine bw_pvi (wc := (wdX2_bestBut cI cJ cT cII cJJ ad n pa br pr w)) (As := [.int a1, .int ((-1))]) (rest := []) ⟨hx, hb, hml, hown, hts⟩ (mX2_bestBut l dC dI cI cJ cT cII cJJ ad n pa br pr w a1 ((-1)) _ hw) (cwV 2 hts gX2_bestOf_X2_bestBut rfl rfl rfl hdX2_bestBut ⟨Nat.le_of_ble_eq_true rfl, Nat.le_of_ble_eq_true rfl⟩) hK hP [0, 1, 2, 3, 4, 5, 6, 7, 8, 9, 10] rfl rfl rfl rfl rfl hl.1 rfl (Nat.le_of_ble_eq_true rfl) ⟨Nat.le_of_ble_eq_true rfl, Nat.le_of_ble_eq_true rfl⟩ dX2_bestOf_3 (fun r1 hw => ?_)
  exact W.iret (v := r1) hx hb hr (fun t ht hW => ⟨r1, rfl, hw, ht⟩) (fun _ h => by cases h) dX2_bestOf_6
set_option maxHeartbeats 4000000 in
set_option maxRecDepth 100000 in
theorem mX2_offerFor (l : Launch) (dC : Nat → ClassId) (dI : Nat → Nat → Nat) (cI cJ cT cII cJJ : ClassId) (ad : Nat → Nat) (n : Int32) (pa : Int32) (br : Int32) (pr : Nat → Int32) (w : Nat → Nat → Int32) (a1 : Int32) (a2 : Int32) (Post : Int32 → Prop) (hw : wpX2_offerFor n pa pr w a1 a2 Post) : Met l yX2_offerFor wsX2_offerFor ({ frames := 2, cells := 0, slots := 0, locals := 48 } : Room) (va_Pc [.ref (ad 0), .int a1, .int a2] (fun U => va_P (dC, dI) vwCl (wdX2_offerFor cI cJ cT cII cJJ ad n pa br pr w) U.heap ∧ va_K (dC, dI) vwCl (bw_tys cI cJ cT cII cJJ) U)) (vp_Si Post) 0 0 (fun _ => False) := by
  refine Met.ofW (cc := cX2_offerFor) (maxL := 5) (ret := (some .int)) (by decide) rfl ?_
  intro p e s m args below meth c s₁ B hml hv
  obtain ⟨rfl, hP, hK⟩ := hv
  have hx := B.exec
  have hb := B.bytes
  have hr := B.returns
  have hts := atoms_spec (ws := wsX2_offerFor) B.pre
  have hown : s.vm.findClass RX2 = some m.cls := findClass_of_methodNamed B.named
  have hlocks := B.notSynchronized
  have hl := lv_entry ([.ref (ad 0), .int a1, .int a2]) (n := 5) (Nat.le_of_ble_eq_true rfl)
  rw [lg_entry_eq]
  generalize (lg_sl ([.ref (ad 0), .int a1, .int a2]) ++ List.replicate (5 - (lg_sl ([.ref (ad 0), .int a1, .int a2])).length) Slot.unset).toArray = ls at hl ⊢
  have hl : lv_has ls 5 [(0, .ref (ad 0)), (1, .int a1), (2, .int a2)] := hl
  have kB29 : ∀ (s0 : Int32), ∀ ls : Array Slot, lv_has ls 5 [(0, .ref (ad 0)), (2, .int a2)] → wpX2_offerFor_B29 n pa pr w a1 a2 Post s0 → W p l e (headSpec wsX2_offerFor ({ frames := 2, cells := 0, slots := 0, locals := 48 } : Room)).room s m ([.ref (ad 0), .int a1, .int a2] : List Value).toArray below meth c s.heap [] 0 0 (MQ below (vp_Si Post) ([.ref (ad 0), .int a1, .int a2] : List Value).toArray s 0 0 (fun _ => False)) (F0 m 29 ls [.int s0]) := by
    intro s0 ls hl hw
    unfold wpX2_offerFor_B29 at hw
    refine lv_istore (lv' := [(4, .int s0), (0, .ref (ad 0)), (2, .int a2)]) hx hb dX2_offerFor_29 hl (by decide) rfl (fun ls hl => ?_)
    refine lv_aload_n hx hb dX2_offerFor_31 rfl (lv_at hl 1 rfl) ?_
    refine va_get (D := (dC, dI)) (ci := 2) (v := .ref (ad 3)) (C := RX2) (T := TX2) (N := 7) hx hb hts (fun w h => List.mem_cons_of_mem _ (List.mem_append_right _ h)) hown hK hP 0 rfl rfl 3 (by decide) (hts (.fieldLink RX2 23 "BidMarket$Market" "prices" "[I") (List.mem_of_getElem? (i := 1) rfl)) (fun _ h9 => h9) rfl dX2_offerFor_32 ?_
    refine lv_iload_n hx hb dX2_offerFor_35 rfl (lv_at hl 2 rfl) ?_
    have h5 := hw.1
    have hw := hw.2
    refine va_iald hx hb hK hP 1 0 rfl rfl h5 dX2_offerFor_36 ?_
    refine lv_iload hx hb dX2_offerFor_37 (lv_at hl 0 rfl) ?_
    refine lv_iadd hx hb dX2_offerFor_39 ?_
    refine lv_aload_n hx hb dX2_offerFor_40 rfl (lv_at hl 1 rfl) ?_
    refine va_get (D := (dC, dI)) (ci := 2) (v := .int pa) (C := RX2) (T := TX2) (N := 7) hx hb hts (fun w h => List.mem_cons_of_mem _ (List.mem_append_right _ h)) hown hK hP 0 rfl rfl 5 (by decide) (hts (.fieldLink RX2 30 "BidMarket$Market" "pace" "I") (List.mem_of_getElem? (i := 2) rfl)) (fun _ h9 => h9) rfl dX2_offerFor_41 ?_
    refine lv_iadd hx hb dX2_offerFor_44 ?_
    exact W.iret (v := ((pr a2.toNatClampNeg) + s0) + pa) hx hb hr (fun t ht hW => ⟨((pr a2.toNatClampNeg) + s0) + pa, rfl, hw, ht⟩) (fun _ h => by cases h) dX2_offerFor_45
  unfold wpX2_offerFor at hw
  refine lv_aload_n hx hb dX2_offerFor_0 rfl (lv_at hl 0 rfl) ?_
  refine lv_iload_n hx hb dX2_offerFor_1 rfl (lv_at hl 1 rfl) ?_
  refine lv_iload_n hx hb dX2_offerFor_2 rfl (lv_at hl 2 rfl) ?_
  refine bw_pvi (wc := (wdX2_bestBut cI cJ cT cII cJJ ad n pa br pr w)) (As := [.int a1, .int a2]) (rest := []) ⟨hx, hb, hml, hown, hts⟩ (mX2_bestBut l dC dI cI cJ cT cII cJJ ad n pa br pr w a1 a2 _ hw) (cwV 2 hts gX2_offerFor_X2_bestBut rfl rfl rfl hdX2_bestBut ⟨Nat.le_of_ble_eq_true rfl, Nat.le_of_ble_eq_true rfl⟩) hK hP [0, 1, 2, 3, 4, 5, 6, 7, 8, 9, 10] rfl rfl rfl rfl rfl hl.1 rfl (Nat.le_of_ble_eq_true rfl) ⟨Nat.le_of_ble_eq_true rfl, Nat.le_of_ble_eq_true rfl⟩ dX2_offerFor_3 (fun r1 hw => ?_)
  refine lv_istore_n (lv' := [(3, .int r1), (0, .ref (ad 0)), (1, .int a1), (2, .int a2)]) hx hb dX2_offerFor_6 rfl hl (by decide) rfl (fun ls hl => ?_)
  refine lv_iload_n hx hb dX2_offerFor_7 rfl (lv_at hl 0 rfl) ?_
  refine lv_if_ge (tgt := 16) hx hb dX2_offerFor_8 (by decide) (fun c2 => ?_) (fun c2 => ?_)
  · have hw := hw.1 c2
    refine lv_aload_n hx hb dX2_offerFor_16 rfl (lv_at hl 1 rfl) ?_
    refine lv_iload_n hx hb dX2_offerFor_17 rfl (lv_at hl 2 rfl) ?_
    refine lv_iload_n hx hb dX2_offerFor_18 rfl (lv_at hl 3 rfl) ?_
    refine bw_pvi (wc := (wdX2_gainOf cI cJ cT cII cJJ ad n pa br pr w)) (As := [.int a1, .int a2]) (rest := []) ⟨hx, hb, hml, hown, hts⟩ (mX2_gainOf l dC dI cI cJ cT cII cJJ ad n pa br pr w a1 a2 _ hw) (cwV 2 hts gX2_offerFor_X2_gainOf rfl rfl rfl hdX2_gainOf ⟨Nat.le_of_ble_eq_true rfl, Nat.le_of_ble_eq_true rfl⟩) hK hP [0, 1, 2, 3, 4, 5, 6, 7, 8, 9, 10] rfl rfl rfl rfl rfl hl.1 rfl (Nat.le_of_ble_eq_true rfl) ⟨Nat.le_of_ble_eq_true rfl, Nat.le_of_ble_eq_true rfl⟩ dX2_offerFor_19 (fun r3 hw => ?_)
    refine lv_aload_n hx hb dX2_offerFor_22 rfl (lv_at hl 1 rfl) ?_
    refine lv_iload_n hx hb dX2_offerFor_23 rfl (lv_at hl 2 rfl) ?_
    refine lv_iload_n hx hb dX2_offerFor_24 rfl (lv_at hl 0 rfl) ?_
    refine bw_pvi (wc := (wdX2_gainOf cI cJ cT cII cJJ ad n pa br pr w)) (As := [.int a1, .int r1]) (rest := [.int r3]) ⟨hx, hb, hml, hown, hts⟩ (mX2_gainOf l dC dI cI cJ cT cII cJJ ad n pa br pr w a1 r1 _ hw) (cwV 2 hts gX2_offerFor_X2_gainOf rfl rfl rfl hdX2_gainOf ⟨Nat.le_of_ble_eq_true rfl, Nat.le_of_ble_eq_true rfl⟩) hK hP [0, 1, 2, 3, 4, 5, 6, 7, 8, 9, 10] rfl rfl rfl rfl rfl hl.1 rfl (Nat.le_of_ble_eq_true rfl) ⟨Nat.le_of_ble_eq_true rfl, Nat.le_of_ble_eq_true rfl⟩ dX2_offerFor_25 (fun r4 hw => ?_)
    refine lv_isub hx hb dX2_offerFor_28 ?_
    exact kB29 (r3 - r4) ls (lv_sub hl [1, 3] rfl) hw
  · have hw := hw.2 c2
    refine lv_bipush (v := 100) hx hb dX2_offerFor_11 (by decide) ?_
    refine lv_goto (tgt := 29) hx hb dX2_offerFor_13 (by decide) ?_
    exact kB29 100 ls (lv_sub hl [1, 3] rfl) hw
set_option maxHeartbeats 4000000 in
set_option maxRecDepth 100000 in
theorem mX2_hasBest (l : Launch) (dC : Nat → ClassId) (dI : Nat → Nat → Nat) (cI cJ cT cII cJJ : ClassId) (ad : Nat → Nat) (n : Int32) (pa : Int32) (br : Int32) (w : Nat → Nat → Int32) (a1 : Int32) (Post : Int32 → Prop) (hw : wpX2_hasBest n w a1 Post) : Met l yX2_hasBest wsX2_hasBest ({ frames := 1, cells := 0, slots := 0, locals := 22 } : Room) (va_Pc [.ref (ad 0), .int a1] (fun U => va_P (dC, dI) vwCl (wdX2_hasBest cI cJ cT cII cJJ ad n pa br w) U.heap ∧ va_K (dC, dI) vwCl (bw_tys cI cJ cT cII cJJ) U)) (vp_Si Post) 0 0 (fun _ => False) := by
  refine Met.ofW (cc := cX2_hasBest) (maxL := 3) (ret := (some .boolean)) (by decide) rfl ?_
  intro p e s m args below meth c s₁ B hml hv
  obtain ⟨rfl, hP, hK⟩ := hv
  have hx := B.exec
  have hb := B.bytes
  have hr := B.returns
  have hts := atoms_spec (ws := wsX2_hasBest) B.pre
  have hown : s.vm.findClass RX2 = some m.cls := findClass_of_methodNamed B.named
  have hlocks := B.notSynchronized
  have hl := lv_entry ([.ref (ad 0), .int a1]) (n := 3) (Nat.le_of_ble_eq_true rfl)
  rw [lg_entry_eq]
  generalize (lg_sl ([.ref (ad 0), .int a1]) ++ List.replicate (3 - (lg_sl ([.ref (ad 0), .int a1])).length) Slot.unset).toArray = ls at hl ⊢
  have hl : lv_has ls 3 [(0, .ref (ad 0)), (1, .int a1)] := hl
  have kB2 : ∀ f : Nat, ∀ (v2 : Int32), ∀ ls : Array Slot, lv_has ls 3 [(0, .ref (ad 0)), (1, .int a1), (2, .int v2)] → wpX2_hasBest_B2 n w a1 Post f v2 → W p l e (headSpec wsX2_hasBest ({ frames := 1, cells := 0, slots := 0, locals := 22 } : Room)).room s m ([.ref (ad 0), .int a1] : List Value).toArray below meth c s.heap [] 0 0 (MQ below (vp_Si Post) ([.ref (ad 0), .int a1] : List Value).toArray s 0 0 (fun _ => False)) (F0 m 2 ls []) := by
    intro  f
    induction f with
    | zero => intro v2 ls hl hw; exact (show False from hw).elim
    | succ f ih =>
      intro v2 ls hl hw
      rw [wpX2_hasBest_B2] at hw
      refine lv_iload_n hx hb dX2_hasBest_2 rfl (lv_at hl 2 rfl) ?_
      refine lv_aload_n hx hb dX2_hasBest_3 rfl (lv_at hl 0 rfl) ?_
      refine va_get (D := (dC, dI)) (ci := 2) (v := .int n) (C := RX2) (T := TX2) (N := 7) hx hb hts (fun w h => List.mem_cons_of_mem _ (List.mem_append_right _ h)) hown hK hP 0 rfl rfl 4 (by decide) (hts (.fieldLink RX2 26 "BidMarket$Market" "n" "I") (List.mem_of_getElem? (i := 1) rfl)) (fun _ h9 => h9) rfl dX2_hasBest_4 ?_
      refine lv_icmp_ge (tgt := 27) hx hb dX2_hasBest_7 (by decide) (fun c1 => ?_) (fun c1 => ?_)
      · have hw := hw.1 c1
        refine lv_iconst (v := 0) hx hb dX2_hasBest_27 (by decide) ?_
        exact W.zret (v := 0) hx hb hr rfl (fun t ht hW => ⟨0, rfl, hw, ht⟩) (fun _ h => by cases h) dX2_hasBest_28
      · have hw := hw.2 c1
        refine lv_aload_n hx hb dX2_hasBest_10 rfl (lv_at hl 0 rfl) ?_
        refine lv_iload_n hx hb dX2_hasBest_11 rfl (lv_at hl 1 rfl) ?_
        refine lv_iload_n hx hb dX2_hasBest_12 rfl (lv_at hl 2 rfl) ?_
        refine bw_pvi (wc := (wdX2_allows cI cJ cT cII cJJ ad n pa br w)) (As := [.int a1, .int v2]) (rest := []) ⟨hx, hb, hml, hown, hts⟩ (mX2_allows l dC dI cI cJ cT cII cJJ ad n pa br w a1 v2 _ hw) (cwV 2 hts gX2_hasBest_X2_allows rfl rfl rfl hdX2_allows ⟨Nat.le_of_ble_eq_true rfl, Nat.le_of_ble_eq_true rfl⟩) hK hP [0, 1, 2, 3, 4, 5, 6, 7, 8, 9] rfl rfl rfl rfl rfl hl.1 rfl (Nat.le_of_ble_eq_true rfl) ⟨Nat.le_of_ble_eq_true rfl, Nat.le_of_ble_eq_true rfl⟩ dX2_hasBest_13 (fun r2 hw => ?_)
        refine lv_if_eq (tgt := 21) hx hb dX2_hasBest_16 (by decide) (fun c3 => ?_) (fun c3 => ?_)
        · have hw := hw.1 c3
          obtain ⟨x4, ex4⟩ : ∃ y : Int32, y = v2 + 1 := ⟨_, rfl⟩
          have hw := hw x4 ex4
          refine lv_iinc (v := x4) (lv' := [(2, .int x4), (0, .ref (ad 0)), (1, .int a1)]) hx hb dX2_hasBest_21 hl (k := 2) rfl (by rw [ex4]; rfl) (by decide) rfl (fun ls hl => ?_)
          refine lv_goto (tgt := 2) hx hb dX2_hasBest_24 (by decide) ?_
          exact ih x4 ls (lv_sub hl [1, 2, 0] rfl) hw
        · have hw := hw.2 c3
          refine lv_iconst (v := 1) hx hb dX2_hasBest_19 (by decide) ?_
          exact W.zret (v := 1) hx hb hr rfl (fun t ht hW => ⟨1, rfl, hw, ht⟩) (fun _ h => by cases h) dX2_hasBest_20
  unfold wpX2_hasBest at hw
  refine lv_iconst (v := 0) hx hb dX2_hasBest_0 (by decide) ?_
  refine lv_istore_n (lv' := [(2, .int 0), (0, .ref (ad 0)), (1, .int a1)]) hx hb dX2_hasBest_1 rfl hl (by decide) rfl (fun ls hl => ?_)
  obtain ⟨f1, hw⟩ := hw
  exact kB2 f1 0 ls (lv_sub hl [1, 2, 0] rfl) hw
set_option maxHeartbeats 4000000 in
set_option maxRecDepth 100000 in
theorem mX2_nextBidder (l : Launch) (dC : Nat → ClassId) (dI : Nat → Nat → Nat) (cI cJ cT cII cJJ : ClassId) (ad : Nat → Nat) (n : Int32) (pa : Int32) (br : Int32) (th : Nat → Int32) (w : Nat → Nat → Int32) (Post : Int32 → Prop) (hw : wpX2_nextBidder n th w Post) : Met l yX2_nextBidder wsX2_nextBidder ({ frames := 2, cells := 0, slots := 0, locals := 44 } : Room) (va_Pc [.ref (ad 0)] (fun U => va_P (dC, dI) vwCl (wdX2_nextBidder cI cJ cT cII cJJ ad n pa br th w) U.heap ∧ va_K (dC, dI) vwCl (bw_tys cI cJ cT cII cJJ) U)) (vp_Si Post) 0 0 (fun _ => False) := by
  refine Met.ofW (cc := cX2_nextBidder) (maxL := 2) (ret := (some .int)) (by decide) rfl ?_
  intro p e s m args below meth c s₁ B hml hv
  obtain ⟨rfl, hP, hK⟩ := hv
  have hx := B.exec
  have hb := B.bytes
  have hr := B.returns
  have hts := atoms_spec (ws := wsX2_nextBidder) B.pre
  have hown : s.vm.findClass RX2 = some m.cls := findClass_of_methodNamed B.named
  have hlocks := B.notSynchronized
  have hl := lv_entry ([.ref (ad 0)]) (n := 2) (Nat.le_of_ble_eq_true rfl)
  rw [lg_entry_eq]
  generalize (lg_sl ([.ref (ad 0)]) ++ List.replicate (2 - (lg_sl ([.ref (ad 0)])).length) Slot.unset).toArray = ls at hl ⊢
  have hl : lv_has ls 2 [(0, .ref (ad 0))] := hl
  have kB29 : ∀ (K2 : Int32 → Prop), (∀ (v1 : Int32), ∀ ls : Array Slot, lv_has ls 2 [(0, .ref (ad 0)), (1, .int v1)] → K2 v1 → W p l e (headSpec wsX2_nextBidder ({ frames := 2, cells := 0, slots := 0, locals := 44 } : Room)).room s m ([.ref (ad 0)] : List Value).toArray below meth c s.heap [] 0 0 (MQ below (vp_Si Post) ([.ref (ad 0)] : List Value).toArray s 0 0 (fun _ => False)) (F0 m 2 ls [])) → ∀ (v1 : Int32), ∀ ls : Array Slot, lv_has ls 2 [(0, .ref (ad 0)), (1, .int v1)] → wpX2_nextBidder_B29 n th w K2 Post v1 → W p l e (headSpec wsX2_nextBidder ({ frames := 2, cells := 0, slots := 0, locals := 44 } : Room)).room s m ([.ref (ad 0)] : List Value).toArray below meth c s.heap [] 0 0 (MQ below (vp_Si Post) ([.ref (ad 0)] : List Value).toArray s 0 0 (fun _ => False)) (F0 m 29 ls []) := by
    intro K2 hK2 v1 ls hl hw
    unfold wpX2_nextBidder_B29 at hw
    obtain ⟨x4, ex4⟩ : ∃ y : Int32, y = v1 + 1 := ⟨_, rfl⟩
    have hw := hw x4 ex4
    refine lv_iinc (v := x4) (lv' := [(1, .int x4), (0, .ref (ad 0))]) hx hb dX2_nextBidder_29 hl (k := 1) rfl (by rw [ex4]; rfl) (by decide) rfl (fun ls hl => ?_)
    refine lv_goto (tgt := 2) hx hb dX2_nextBidder_32 (by decide) ?_
    exact hK2 x4 ls (lv_sub hl [1, 0] rfl) hw
  have kB2 : ∀ f : Nat, ∀ (v1 : Int32), ∀ ls : Array Slot, lv_has ls 2 [(0, .ref (ad 0)), (1, .int v1)] → wpX2_nextBidder_B2 n th w Post f v1 → W p l e (headSpec wsX2_nextBidder ({ frames := 2, cells := 0, slots := 0, locals := 44 } : Room)).room s m ([.ref (ad 0)] : List Value).toArray below meth c s.heap [] 0 0 (MQ below (vp_Si Post) ([.ref (ad 0)] : List Value).toArray s 0 0 (fun _ => False)) (F0 m 2 ls []) := by
    intro  f
    induction f with
    | zero => intro v1 ls hl hw; exact (show False from hw).elim
    | succ f ih =>
      intro v1 ls hl hw
      rw [wpX2_nextBidder_B2] at hw
      refine lv_iload_n hx hb dX2_nextBidder_2 rfl (lv_at hl 1 rfl) ?_
      refine lv_aload_n hx hb dX2_nextBidder_3 rfl (lv_at hl 0 rfl) ?_
      refine va_get (D := (dC, dI)) (ci := 2) (v := .int n) (C := RX2) (T := TX2) (N := 7) hx hb hts (fun w h => List.mem_cons_of_mem _ (List.mem_append_right _ h)) hown hK hP 0 rfl rfl 4 (by decide) (hts (.fieldLink RX2 26 "BidMarket$Market" "n" "I") (List.mem_of_getElem? (i := 1) rfl)) (fun _ h9 => h9) rfl dX2_nextBidder_4 ?_
      refine lv_icmp_ge (tgt := 35) hx hb dX2_nextBidder_7 (by decide) (fun c1 => ?_) (fun c1 => ?_)
      · have hw := hw.1 c1
        refine lv_iconst (v := (-1)) hx hb dX2_nextBidder_35 (by decide) ?_
        exact W.iret (v := (-1)) hx hb hr (fun t ht hW => ⟨(-1), rfl, hw, ht⟩) (fun _ h => by cases h) dX2_nextBidder_36
      · have hw := hw.2 c1
        refine lv_aload_n hx hb dX2_nextBidder_10 rfl (lv_at hl 0 rfl) ?_
        refine va_get (D := (dC, dI)) (ci := 2) (v := .ref (ad 1)) (C := RX2) (T := TX2) (N := 7) hx hb hts (fun w h => List.mem_cons_of_mem _ (List.mem_append_right _ h)) hown hK hP 0 rfl rfl 1 (by decide) (hts (.fieldLink RX2 16 "BidMarket$Market" "thingOf" "[I") (List.mem_of_getElem? (i := 2) rfl)) (fun _ h9 => h9) rfl dX2_nextBidder_11 ?_
        refine lv_iload_n hx hb dX2_nextBidder_14 rfl (lv_at hl 1 rfl) ?_
        have h2 := hw.1
        have hw := hw.2
        refine va_iald hx hb hK hP 1 0 rfl rfl h2 dX2_nextBidder_15 ?_
        refine lv_if_ge (tgt := 29) hx hb dX2_nextBidder_16 (by decide) (fun c3 => ?_) (fun c3 => ?_)
        · have hw := hw.1 c3
          exact kB29 (wpX2_nextBidder_B2 n th w Post f) ih v1 ls hl hw
        · have hw := hw.2 c3
          refine lv_aload_n hx hb dX2_nextBidder_19 rfl (lv_at hl 0 rfl) ?_
          refine lv_iload_n hx hb dX2_nextBidder_20 rfl (lv_at hl 1 rfl) ?_
          refine bw_pvi (wc := (wdX2_hasBest cI cJ cT cII cJJ ad n pa br w)) (As := [.int v1]) (rest := []) ⟨hx, hb, hml, hown, hts⟩ (mX2_hasBest l dC dI cI cJ cT cII cJJ ad n pa br w v1 _ hw) (cwV 1 hts gX2_nextBidder_X2_hasBest rfl rfl rfl hdX2_hasBest ⟨Nat.le_of_ble_eq_true rfl, Nat.le_of_ble_eq_true rfl⟩) hK hP [0, 2, 3, 4, 5, 6, 7, 8, 9, 10] rfl rfl rfl rfl rfl hl.1 rfl (Nat.le_of_ble_eq_true rfl) ⟨Nat.le_of_ble_eq_true rfl, Nat.le_of_ble_eq_true rfl⟩ dX2_nextBidder_21 (fun r5 hw => ?_)
          refine lv_if_eq (tgt := 29) hx hb dX2_nextBidder_24 (by decide) (fun c6 => ?_) (fun c6 => ?_)
          · have hw := hw.1 c6
            exact kB29 (wpX2_nextBidder_B2 n th w Post f) ih v1 ls hl hw
          · have hw := hw.2 c6
            refine lv_iload_n hx hb dX2_nextBidder_27 rfl (lv_at hl 1 rfl) ?_
            exact W.iret (v := v1) hx hb hr (fun t ht hW => ⟨v1, rfl, hw, ht⟩) (fun _ h => by cases h) dX2_nextBidder_28
  unfold wpX2_nextBidder at hw
  refine lv_iconst (v := 0) hx hb dX2_nextBidder_0 (by decide) ?_
  refine lv_istore_n (lv' := [(1, .int 0), (0, .ref (ad 0))]) hx hb dX2_nextBidder_1 rfl hl (by decide) rfl (fun ls hl => ?_)
  obtain ⟨f1, hw⟩ := hw
  exact kB2 f1 0 ls (lv_sub hl [1, 0] rfl) hw
set_option maxHeartbeats 4000000 in
set_option maxRecDepth 100000 in
theorem mX2_nextOffer (l : Launch) (dC : Nat → ClassId) (dI : Nat → Nat → Nat) (cI cJ cT cII cJJ : ClassId) (ad : Nat → Nat) (n : Int32) (pa : Int32) (br : Int32) (th : Nat → Int32) (pr : Nat → Int32) (w : Nat → Nat → Int32) (Post : Int32 → Prop) (hw : wpX2_nextOffer n pa th pr w Post) : Met l yX2_nextOffer wsX2_nextOffer ({ frames := 3, cells := 0, slots := 0, locals := 72 } : Room) (va_Pc [.ref (ad 0)] (fun U => va_P (dC, dI) vwCl (wdX2_nextOffer cI cJ cT cII cJJ ad n pa br th pr w) U.heap ∧ va_K (dC, dI) vwCl (bw_tys cI cJ cT cII cJJ) U)) (vp_Si Post) 0 0 (fun _ => False) := by
  refine Met.ofW (cc := cX2_nextOffer) (maxL := 3) (ret := (some .int)) (by decide) rfl ?_
  intro p e s m args below meth c s₁ B hml hv
  obtain ⟨rfl, hP, hK⟩ := hv
  have hx := B.exec
  have hb := B.bytes
  have hr := B.returns
  have hts := atoms_spec (ws := wsX2_nextOffer) B.pre
  have hown : s.vm.findClass RX2 = some m.cls := findClass_of_methodNamed B.named
  have hlocks := B.notSynchronized
  have hl := lv_entry ([.ref (ad 0)]) (n := 3) (Nat.le_of_ble_eq_true rfl)
  rw [lg_entry_eq]
  generalize (lg_sl ([.ref (ad 0)]) ++ List.replicate (3 - (lg_sl ([.ref (ad 0)])).length) Slot.unset).toArray = ls at hl ⊢
  have hl : lv_has ls 3 [(0, .ref (ad 0))] := hl
  unfold wpX2_nextOffer at hw
  refine lv_aload_n hx hb dX2_nextOffer_0 rfl (lv_at hl 0 rfl) ?_
  refine bw_pvi (wc := (wdX2_nextBidder cI cJ cT cII cJJ ad n pa br th w)) (As := []) (rest := []) ⟨hx, hb, hml, hown, hts⟩ (mX2_nextBidder l dC dI cI cJ cT cII cJJ ad n pa br th w _ hw) (cwV 0 hts gX2_nextOffer_X2_nextBidder rfl rfl rfl hdX2_nextBidder ⟨Nat.le_of_ble_eq_true rfl, Nat.le_of_ble_eq_true rfl⟩) hK hP [0, 1, 3, 4, 5, 6, 7, 8, 9, 10, 11] rfl rfl rfl rfl rfl hl.1 rfl (Nat.le_of_ble_eq_true rfl) ⟨Nat.le_of_ble_eq_true rfl, Nat.le_of_ble_eq_true rfl⟩ dX2_nextOffer_1 (fun r1 hw => ?_)
  refine lv_istore_n (lv' := [(1, .int r1), (0, .ref (ad 0))]) hx hb dX2_nextOffer_4 rfl hl (by decide) rfl (fun ls hl => ?_)
  refine lv_iload_n hx hb dX2_nextOffer_5 rfl (lv_at hl 0 rfl) ?_
  refine lv_if_ge (tgt := 12) hx hb dX2_nextOffer_6 (by decide) (fun c2 => ?_) (fun c2 => ?_)
  · have hw := hw.1 c2
    refine lv_aload_n hx hb dX2_nextOffer_12 rfl (lv_at hl 1 rfl) ?_
    refine lv_iload_n hx hb dX2_nextOffer_13 rfl (lv_at hl 0 rfl) ?_
    refine bw_pvi (wc := (wdX2_bestOf cI cJ cT cII cJJ ad n pa br pr w)) (As := [.int r1]) (rest := []) ⟨hx, hb, hml, hown, hts⟩ (mX2_bestOf l dC dI cI cJ cT cII cJJ ad n pa br pr w r1 _ hw) (cwV 1 hts gX2_nextOffer_X2_bestOf rfl rfl rfl hdX2_bestOf ⟨Nat.le_of_ble_eq_true rfl, Nat.le_of_ble_eq_true rfl⟩) hK hP [0, 2, 3, 4, 5, 6, 7, 8, 9, 10, 11] rfl rfl rfl rfl rfl hl.1 rfl (Nat.le_of_ble_eq_true rfl) ⟨Nat.le_of_ble_eq_true rfl, Nat.le_of_ble_eq_true rfl⟩ dX2_nextOffer_14 (fun r3 hw => ?_)
    refine lv_istore_n (lv' := [(2, .int r3), (1, .int r1), (0, .ref (ad 0))]) hx hb dX2_nextOffer_17 rfl hl (by decide) rfl (fun ls hl => ?_)
    refine lv_iload_n hx hb dX2_nextOffer_18 rfl (lv_at hl 0 rfl) ?_
    refine lv_if_ge (tgt := 27) hx hb dX2_nextOffer_19 (by decide) (fun c4 => ?_) (fun c4 => ?_)
    · have hw := hw.1 c4
      refine lv_aload_n hx hb dX2_nextOffer_27 rfl (lv_at hl 2 rfl) ?_
      refine lv_iload_n hx hb dX2_nextOffer_28 rfl (lv_at hl 1 rfl) ?_
      refine lv_iload_n hx hb dX2_nextOffer_29 rfl (lv_at hl 0 rfl) ?_
      refine bw_pvi (wc := (wdX2_offerFor cI cJ cT cII cJJ ad n pa br pr w)) (As := [.int r1, .int r3]) (rest := []) ⟨hx, hb, hml, hown, hts⟩ (mX2_offerFor l dC dI cI cJ cT cII cJJ ad n pa br pr w r1 r3 _ hw) (cwV 2 hts gX2_nextOffer_X2_offerFor rfl rfl rfl hdX2_offerFor ⟨Nat.le_of_ble_eq_true rfl, Nat.le_of_ble_eq_true rfl⟩) hK hP [0, 2, 3, 4, 5, 6, 7, 8, 9, 10, 11] rfl rfl rfl rfl rfl hl.1 rfl (Nat.le_of_ble_eq_true rfl) ⟨Nat.le_of_ble_eq_true rfl, Nat.le_of_ble_eq_true rfl⟩ dX2_nextOffer_30 (fun r5 hw => ?_)
      exact W.iret (v := r5) hx hb hr (fun t ht hW => ⟨r5, rfl, hw, ht⟩) (fun _ h => by cases h) dX2_nextOffer_33
    · have hw := hw.2 c4
      refine lv_bipush (v := (-5)) hx hb dX2_nextOffer_22 (by decide) ?_
      refine lv_goto (tgt := 33) hx hb dX2_nextOffer_24 (by decide) ?_
      exact W.iret (v := (-5)) hx hb hr (fun t ht hW => ⟨(-5), rfl, hw, ht⟩) (fun _ h => by cases h) dX2_nextOffer_33
  · have hw := hw.2 c2
    refine lv_bipush (v := (-5)) hx hb dX2_nextOffer_9 (by decide) ?_
    exact W.iret (v := (-5)) hx hb hr (fun t ht hW => ⟨(-5), rfl, hw, ht⟩) (fun _ h => by cases h) dX2_nextOffer_11
set_option maxHeartbeats 4000000 in
set_option maxRecDepth 100000 in
theorem mX2_letNextBid (l : Launch) (dC : Nat → ClassId) (dI : Nat → Nat → Nat) (cI cJ cT cII cJJ : ClassId) (ad : Nat → Nat) (sz : Nat) (n : Int32) (pa : Int32) (br : Int32) (th : Nat → Int32) (pe : Nat → Int32) (pr : Nat → Int32) (w : Nat → Nat → Int32) (Post : Int32 → (Nat → Int32) → (Nat → Int32) → (Nat → Int32) → Prop) (hw : wpX2_letNextBid n pa th pe pr w Post) : Met l yX2_letNextBid wsX2_letNextBid ({ frames := 3, cells := 0, slots := 0, locals := 72 } : Room) (va_Pc [.ref (ad 0)] (fun U => U.heap.size = sz ∧ va_P (dC, dI) vwCl (wdX2_letNextBid cI cJ cT cII cJJ ad n pa br th pe pr w) U.heap ∧ va_K (dC, dI) vwCl (bw_tys cI cJ cT cII cJJ) U ∧ va_D (fun _ => True) (wdX2_letNextBid cI cJ cT cII cJJ ad n pa br th pe pr w))) (va_Qi (fun (r : Int32) (u : (Nat → Int32) × (Nat → Int32) × (Nat → Int32)) => Post r u.1 u.2.1 u.2.2) (fun (u : (Nat → Int32) × (Nat → Int32) × (Nat → Int32)) t => va_P (dC, dI) vwCl (wdX2_letNextBid cI cJ cT cII cJJ ad n pa br u.1 u.2.1 u.2.2 w) t.heap) (va_A (wdX2_letNextBid cI cJ cT cII cJJ ad n pa br th pe pr w) sz)) 0 0 (va_A (wdX2_letNextBid cI cJ cT cII cJJ ad n pa br th pe pr w) sz) := by
  refine Met.ofW (cc := cX2_letNextBid) (maxL := 4) (ret := (some .int)) (by decide) rfl ?_
  intro p e s m args below meth c s₁ B hml hv
  obtain ⟨rfl, hsz, hP, hK, hD0⟩ := hv
  have hx := B.exec
  have hb := B.bytes
  have hr := B.returns
  have hts := atoms_spec (ws := wsX2_letNextBid) B.pre
  have hown : s.vm.findClass RX2 = some m.cls := findClass_of_methodNamed B.named
  have hlocks := B.notSynchronized
  subst hsz
  have hD := hD0.self (sz := s.heap.size)
  generalize hAe : va_A (wdX2_letNextBid cI cJ cT cII cJJ ad n pa br th pe pr w) s.heap.size = A at hD ⊢
  have hA : ∀ q : Nat, s.heap.size ≤ q → A q := fun q h => by rw [← hAe]; exact Or.inr h
  have hS : va_S A s.heap s.heap [] := va_S.rf
  have hl := lv_entry ([.ref (ad 0)]) (n := 4) (Nat.le_of_ble_eq_true rfl)
  rw [lg_entry_eq]
  generalize (lg_sl ([.ref (ad 0)]) ++ List.replicate (4 - (lg_sl ([.ref (ad 0)])).length) Slot.unset).toArray = ls at hl ⊢
  have hl : lv_has ls 4 [(0, .ref (ad 0))] := hl
  have kB53 : ∀ (v1 : Int32) (v2 : Int32) (th : Nat → Int32) (pe : Nat → Int32) (pr : Nat → Int32), ∀ (H : Heap) (locs : List Loc), va_P (dC, dI) vwCl (wdX2_letNextBid cI cJ cT cII cJJ ad n pa br th pe pr w) H → va_D A (wdX2_letNextBid cI cJ cT cII cJJ ad n pa br th pe pr w) → va_S A s.heap H locs → ∀ ls : Array Slot, lv_has ls 4 [(0, .ref (ad 0)), (1, .int v1), (2, .int v2)] → wpX2_letNextBid_B53 n pa w Post v1 v2 th pe pr → W p l e (headSpec wsX2_letNextBid ({ frames := 3, cells := 0, slots := 0, locals := 72 } : Room)).room s m ([.ref (ad 0)] : List Value).toArray below meth c H locs 0 0 (MQ below (va_Qi (fun (r : Int32) (u : (Nat → Int32) × (Nat → Int32) × (Nat → Int32)) => Post r u.1 u.2.1 u.2.2) (fun (u : (Nat → Int32) × (Nat → Int32) × (Nat → Int32)) t => va_P (dC, dI) vwCl (wdX2_letNextBid cI cJ cT cII cJJ ad n pa br u.1 u.2.1 u.2.2 w) t.heap) A) ([.ref (ad 0)] : List Value).toArray s 0 0 A) (F0 m 53 ls []) := by
    intro v1 v2 th pe pr H locs hP hD hS ls hl hw
    unfold wpX2_letNextBid_B53 at hw
    refine lv_aload_n hx hb dX2_letNextBid_53 rfl (lv_at hl 0 rfl) ?_
    refine va_get (D := (dC, dI)) (ci := 2) (v := .ref (ad 2)) (C := RX2) (T := TX2) (N := 7) hx hb hts (fun w h => List.mem_cons_of_mem _ (List.mem_append_right _ h)) hown hK hP 0 rfl rfl 2 (by decide) (hts (.fieldLink RX2 20 "BidMarket$Market" "personOf" "[I") (List.mem_of_getElem? (i := 2) rfl)) (fun _ h9 => h9) rfl dX2_letNextBid_54 ?_
    refine lv_iload_n hx hb dX2_letNextBid_57 rfl (lv_at hl 2 rfl) ?_
    refine lv_iload_n hx hb dX2_letNextBid_58 rfl (lv_at hl 1 rfl) ?_
    have h10 := hw.1
    have hw := hw.2
    refine va_iast hx hb hK hP hD hS 2 0 rfl rfl h10 dX2_letNextBid_59 (fun H locs hP hD hS => ?_)
    have hP : va_P (dC, dI) vwCl (wdX2_letNextBid cI cJ cT cII cJJ ad n pa br th (upd pe v2.toNatClampNeg v1) pr w) H := hP
    have hD : va_D A (wdX2_letNextBid cI cJ cT cII cJJ ad n pa br th (upd pe v2.toNatClampNeg v1) pr w) := hD
    refine lv_aload_n hx hb dX2_letNextBid_60 rfl (lv_at hl 0 rfl) ?_
    refine va_get (D := (dC, dI)) (ci := 2) (v := .ref (ad 1)) (C := RX2) (T := TX2) (N := 7) hx hb hts (fun w h => List.mem_cons_of_mem _ (List.mem_append_right _ h)) hown hK hP 0 rfl rfl 1 (by decide) (hts (.fieldLink RX2 16 "BidMarket$Market" "thingOf" "[I") (List.mem_of_getElem? (i := 3) rfl)) (fun _ h9 => h9) rfl dX2_letNextBid_61 ?_
    refine lv_iload_n hx hb dX2_letNextBid_64 rfl (lv_at hl 1 rfl) ?_
    refine lv_iload_n hx hb dX2_letNextBid_65 rfl (lv_at hl 2 rfl) ?_
    have h11 := hw.1
    have hw := hw.2
    refine va_iast hx hb hK hP hD hS 1 0 rfl rfl h11 dX2_letNextBid_66 (fun H locs hP hD hS => ?_)
    have hP : va_P (dC, dI) vwCl (wdX2_letNextBid cI cJ cT cII cJJ ad n pa br (upd th v1.toNatClampNeg v2) (upd pe v2.toNatClampNeg v1) pr w) H := hP
    have hD : va_D A (wdX2_letNextBid cI cJ cT cII cJJ ad n pa br (upd th v1.toNatClampNeg v2) (upd pe v2.toNatClampNeg v1) pr w) := hD
    refine lv_iload_n hx hb dX2_letNextBid_67 rfl (lv_at hl 2 rfl) ?_
    exact W.iret (v := v2) hx hb hr (fun t ht hW => ⟨⟨v2, (upd th v1.toNatClampNeg v2, upd pe v2.toNatClampNeg v1, pr), rfl, hw, by show va_P _ _ _ t.heap; rw [ht]; exact hP⟩, hS.F ht⟩) hS.2.2 dX2_letNextBid_68
  unfold wpX2_letNextBid at hw
  refine lv_aload_n hx hb dX2_letNextBid_0 rfl (lv_at hl 0 rfl) ?_
  refine bw_pvi (wc := (wdX2_nextBidder cI cJ cT cII cJJ ad n pa br th w)) (As := []) (rest := []) ⟨hx, hb, hml, hown, hts⟩ (mX2_nextBidder l dC dI cI cJ cT cII cJJ ad n pa br th w _ hw) (cwV 0 hts gX2_letNextBid_X2_nextBidder rfl rfl rfl hdX2_nextBidder ⟨Nat.le_of_ble_eq_true rfl, Nat.le_of_ble_eq_true rfl⟩) hK hP [0, 1, 4, 5, 6, 7, 8, 9, 10, 11, 12] rfl rfl rfl rfl rfl hl.1 rfl (Nat.le_of_ble_eq_true rfl) ⟨Nat.le_of_ble_eq_true rfl, Nat.le_of_ble_eq_true rfl⟩ dX2_letNextBid_1 (fun r1 hw => ?_)
  refine lv_istore_n (lv' := [(1, .int r1), (0, .ref (ad 0))]) hx hb dX2_letNextBid_4 rfl hl (by decide) rfl (fun ls hl => ?_)
  refine lv_iload_n hx hb dX2_letNextBid_5 rfl (lv_at hl 0 rfl) ?_
  refine lv_if_ge (tgt := 11) hx hb dX2_letNextBid_6 (by decide) (fun c2 => ?_) (fun c2 => ?_)
  · have hw := hw.1 c2
    refine lv_aload_n hx hb dX2_letNextBid_11 rfl (lv_at hl 1 rfl) ?_
    refine lv_iload_n hx hb dX2_letNextBid_12 rfl (lv_at hl 0 rfl) ?_
    refine bw_pvi (wc := (wdX2_bestOf cI cJ cT cII cJJ ad n pa br pr w)) (As := [.int r1]) (rest := []) ⟨hx, hb, hml, hown, hts⟩ (mX2_bestOf l dC dI cI cJ cT cII cJJ ad n pa br pr w r1 _ hw) (cwV 1 hts gX2_letNextBid_X2_bestOf rfl rfl rfl hdX2_bestOf ⟨Nat.le_of_ble_eq_true rfl, Nat.le_of_ble_eq_true rfl⟩) hK hP [0, 3, 4, 5, 6, 7, 8, 9, 10, 11, 12] rfl rfl rfl rfl rfl hl.1 rfl (Nat.le_of_ble_eq_true rfl) ⟨Nat.le_of_ble_eq_true rfl, Nat.le_of_ble_eq_true rfl⟩ dX2_letNextBid_13 (fun r3 hw => ?_)
    refine lv_istore_n (lv' := [(2, .int r3), (1, .int r1), (0, .ref (ad 0))]) hx hb dX2_letNextBid_16 rfl hl (by decide) rfl (fun ls hl => ?_)
    refine lv_iload_n hx hb dX2_letNextBid_17 rfl (lv_at hl 0 rfl) ?_
    refine lv_if_ge (tgt := 23) hx hb dX2_letNextBid_18 (by decide) (fun c4 => ?_) (fun c4 => ?_)
    · have hw := hw.1 c4
      refine lv_aload_n hx hb dX2_letNextBid_23 rfl (lv_at hl 2 rfl) ?_
      refine va_get (D := (dC, dI)) (ci := 2) (v := .ref (ad 3)) (C := RX2) (T := TX2) (N := 7) hx hb hts (fun w h => List.mem_cons_of_mem _ (List.mem_append_right _ h)) hown hK hP 0 rfl rfl 3 (by decide) (hts (.fieldLink RX2 23 "BidMarket$Market" "prices" "[I") (List.mem_of_getElem? (i := 1) rfl)) (fun _ h9 => h9) rfl dX2_letNextBid_24 ?_
      refine lv_iload_n hx hb dX2_letNextBid_27 rfl (lv_at hl 0 rfl) ?_
      refine lv_aload_n hx hb dX2_letNextBid_28 rfl (lv_at hl 2 rfl) ?_
      refine lv_iload_n hx hb dX2_letNextBid_29 rfl (lv_at hl 1 rfl) ?_
      refine lv_iload_n hx hb dX2_letNextBid_30 rfl (lv_at hl 0 rfl) ?_
      refine bw_pvi (wc := (wdX2_offerFor cI cJ cT cII cJJ ad n pa br pr w)) (As := [.int r1, .int r3]) (rest := [.int r3, .ref (ad 3)]) ⟨hx, hb, hml, hown, hts⟩ (mX2_offerFor l dC dI cI cJ cT cII cJJ ad n pa br pr w r1 r3 _ hw) (cwV 2 hts gX2_letNextBid_X2_offerFor rfl rfl rfl hdX2_offerFor ⟨Nat.le_of_ble_eq_true rfl, Nat.le_of_ble_eq_true rfl⟩) hK hP [0, 3, 4, 5, 6, 7, 8, 9, 10, 11, 12] rfl rfl rfl rfl rfl hl.1 rfl (Nat.le_of_ble_eq_true rfl) ⟨Nat.le_of_ble_eq_true rfl, Nat.le_of_ble_eq_true rfl⟩ dX2_letNextBid_31 (fun r5 hw => ?_)
      have h6 := hw.1
      have hw := hw.2
      refine va_iast hx hb hK hP hD hS 3 0 rfl rfl h6 dX2_letNextBid_34 (fun H locs hP hD hS => ?_)
      have hP : va_P (dC, dI) vwCl (wdX2_letNextBid cI cJ cT cII cJJ ad n pa br th pe (upd pr r3.toNatClampNeg r5) w) H := hP
      have hD : va_D A (wdX2_letNextBid cI cJ cT cII cJJ ad n pa br th pe (upd pr r3.toNatClampNeg r5) w) := hD
      refine lv_aload_n hx hb dX2_letNextBid_35 rfl (lv_at hl 2 rfl) ?_
      refine va_get (D := (dC, dI)) (ci := 2) (v := .ref (ad 2)) (C := RX2) (T := TX2) (N := 7) hx hb hts (fun w h => List.mem_cons_of_mem _ (List.mem_append_right _ h)) hown hK hP 0 rfl rfl 2 (by decide) (hts (.fieldLink RX2 20 "BidMarket$Market" "personOf" "[I") (List.mem_of_getElem? (i := 2) rfl)) (fun _ h9 => h9) rfl dX2_letNextBid_36 ?_
      refine lv_iload_n hx hb dX2_letNextBid_39 rfl (lv_at hl 0 rfl) ?_
      have h7 := hw.1
      have hw := hw.2
      refine va_iald hx hb hK hP 2 0 rfl rfl h7 dX2_letNextBid_40 ?_
      refine lv_topi (fun x8 ex8 => ?_)
      have hw := hw x8 ex8
      refine lv_istore_n (lv' := [(3, .int x8), (2, .int r3), (1, .int r1), (0, .ref (ad 0))]) hx hb dX2_letNextBid_41 rfl hl (by decide) rfl (fun ls hl => ?_)
      refine lv_iload_n hx hb dX2_letNextBid_42 rfl (lv_at hl 0 rfl) ?_
      refine lv_if_lt (tgt := 53) hx hb dX2_letNextBid_43 (by decide) (fun c9 => ?_) (fun c9 => ?_)
      · have hw := hw.1 c9
        exact kB53 r1 r3 th pe (upd pr r3.toNatClampNeg r5) _ _ hP hD hS ls (lv_sub hl [3, 2, 1] rfl) hw
      · have hw := hw.2 c9
        refine lv_aload_n hx hb dX2_letNextBid_46 rfl (lv_at hl 3 rfl) ?_
        refine va_get (D := (dC, dI)) (ci := 2) (v := .ref (ad 1)) (C := RX2) (T := TX2) (N := 7) hx hb hts (fun w h => List.mem_cons_of_mem _ (List.mem_append_right _ h)) hown hK hP 0 rfl rfl 1 (by decide) (hts (.fieldLink RX2 16 "BidMarket$Market" "thingOf" "[I") (List.mem_of_getElem? (i := 3) rfl)) (fun _ h9 => h9) rfl dX2_letNextBid_47 ?_
        refine lv_iload_n hx hb dX2_letNextBid_50 rfl (lv_at hl 0 rfl) ?_
        refine lv_iconst (v := (-1)) hx hb dX2_letNextBid_51 (by decide) ?_
        have h12 := hw.1
        have hw := hw.2
        refine va_iast hx hb hK hP hD hS 1 0 rfl rfl h12 dX2_letNextBid_52 (fun H locs hP hD hS => ?_)
        have hP : va_P (dC, dI) vwCl (wdX2_letNextBid cI cJ cT cII cJJ ad n pa br (upd th x8.toNatClampNeg ((-1))) pe (upd pr r3.toNatClampNeg r5) w) H := hP
        have hD : va_D A (wdX2_letNextBid cI cJ cT cII cJJ ad n pa br (upd th x8.toNatClampNeg ((-1))) pe (upd pr r3.toNatClampNeg r5) w) := hD
        exact kB53 r1 r3 (upd th x8.toNatClampNeg ((-1))) pe (upd pr r3.toNatClampNeg r5) _ _ hP hD hS ls (lv_sub hl [3, 2, 1] rfl) hw
    · have hw := hw.2 c4
      refine lv_iconst (v := (-1)) hx hb dX2_letNextBid_21 (by decide) ?_
      exact W.iret (v := (-1)) hx hb hr (fun t ht hW => ⟨⟨(-1), (th, pe, pr), rfl, hw, by show va_P _ _ _ t.heap; rw [ht]; exact hP⟩, hS.F ht⟩) hS.2.2 dX2_letNextBid_22
  · have hw := hw.2 c2
    refine lv_iconst (v := (-1)) hx hb dX2_letNextBid_9 (by decide) ?_
    exact W.iret (v := (-1)) hx hb hr (fun t ht hW => ⟨⟨(-1), (th, pe, pr), rfl, hw, by show va_P _ _ _ t.heap; rw [ht]; exact hP⟩, hS.F ht⟩) hS.2.2 dX2_letNextBid_10
set_option maxHeartbeats 4000000 in
set_option maxRecDepth 100000 in
theorem mX2_runAuction (l : Launch) (dC : Nat → ClassId) (dI : Nat → Nat → Nat) (cI cJ cT cII cJJ : ClassId) (ad : Nat → Nat) (sz : Nat) (n : Int32) (pa : Int32) (br : Int32) (th : Nat → Int32) (pe : Nat → Int32) (pr : Nat → Int32) (w : Nat → Nat → Int32) (Post : Int32 → Int32 → (Nat → Int32) → (Nat → Int32) → (Nat → Int32) → Prop) (hw : wpX2_runAuction n pa br th pe pr w Post) : Met l yX2_runAuction wsX2_runAuction ({ frames := 4, cells := 0, slots := 0, locals := 95 } : Room) (va_Pc [.ref (ad 0)] (fun U => U.heap.size = sz ∧ va_P (dC, dI) vwCl (wdX2_runAuction cI cJ cT cII cJJ ad n pa br th pe pr w) U.heap ∧ va_K (dC, dI) vwCl (bw_tys cI cJ cT cII cJJ) U ∧ va_D (fun _ => True) (wdX2_runAuction cI cJ cT cII cJJ ad n pa br th pe pr w))) (va_Qi (fun (r : Int32) (u : Int32 × (Nat → Int32) × (Nat → Int32) × (Nat → Int32)) => Post r u.1 u.2.1 u.2.2.1 u.2.2.2) (fun (u : Int32 × (Nat → Int32) × (Nat → Int32) × (Nat → Int32)) t => va_P (dC, dI) vwCl (wdX2_runAuction cI cJ cT cII cJJ ad n pa u.1 u.2.1 u.2.2.1 u.2.2.2 w) t.heap) (va_A (wdX2_runAuction cI cJ cT cII cJJ ad n pa br th pe pr w) sz)) 0 0 (va_A (wdX2_runAuction cI cJ cT cII cJJ ad n pa br th pe pr w) sz) := by
  refine Met.ofW (cc := cX2_runAuction) (maxL := 3) (ret := (some .int)) (by decide) rfl ?_
  intro p e s m args below meth c s₁ B hml hv
  obtain ⟨rfl, hsz, hP, hK, hD0⟩ := hv
  have hx := B.exec
  have hb := B.bytes
  have hr := B.returns
  have hts := atoms_spec (ws := wsX2_runAuction) B.pre
  have hown : s.vm.findClass RX2 = some m.cls := findClass_of_methodNamed B.named
  have hlocks := B.notSynchronized
  subst hsz
  have hD := hD0.self (sz := s.heap.size)
  generalize hAe : va_A (wdX2_runAuction cI cJ cT cII cJJ ad n pa br th pe pr w) s.heap.size = A at hD ⊢
  have hA : ∀ q : Nat, s.heap.size ≤ q → A q := fun q h => by rw [← hAe]; exact Or.inr h
  have hS : va_S A s.heap s.heap [] := va_S.rf
  have hl := lv_entry ([.ref (ad 0)]) (n := 3) (Nat.le_of_ble_eq_true rfl)
  rw [lg_entry_eq]
  generalize (lg_sl ([.ref (ad 0)]) ++ List.replicate (3 - (lg_sl ([.ref (ad 0)])).length) Slot.unset).toArray = ls at hl ⊢
  have hl : lv_has ls 3 [(0, .ref (ad 0))] := hl
  have kB12 : ∀ f : Nat, ∀ (v1 : Int32) (v2 : Int32) (br : Int32) (th : Nat → Int32) (pe : Nat → Int32) (pr : Nat → Int32), ∀ (H : Heap) (locs : List Loc), va_P (dC, dI) vwCl (wdX2_runAuction cI cJ cT cII cJJ ad n pa br th pe pr w) H → va_D A (wdX2_runAuction cI cJ cT cII cJJ ad n pa br th pe pr w) → va_S A s.heap H locs → ∀ ls : Array Slot, lv_has ls 3 [(0, .ref (ad 0)), (1, .int v1), (2, .int v2)] → wpX2_runAuction_B12 n pa w Post f v1 v2 br th pe pr → W p l e (headSpec wsX2_runAuction ({ frames := 4, cells := 0, slots := 0, locals := 95 } : Room)).room s m ([.ref (ad 0)] : List Value).toArray below meth c H locs 0 0 (MQ below (va_Qi (fun (r : Int32) (u : Int32 × (Nat → Int32) × (Nat → Int32) × (Nat → Int32)) => Post r u.1 u.2.1 u.2.2.1 u.2.2.2) (fun (u : Int32 × (Nat → Int32) × (Nat → Int32) × (Nat → Int32)) t => va_P (dC, dI) vwCl (wdX2_runAuction cI cJ cT cII cJJ ad n pa u.1 u.2.1 u.2.2.1 u.2.2.2 w) t.heap) A) ([.ref (ad 0)] : List Value).toArray s 0 0 A) (F0 m 12 ls []) := by
    intro  f
    induction f with
    | zero => intro v1 v2 br th pe pr H locs hP hD hS ls hl hw; exact (show False from hw).elim
    | succ f ih =>
      intro v1 v2 br th pe pr H locs hP hD hS ls hl hw
      rw [wpX2_runAuction_B12] at hw
      refine lv_iload_n hx hb dX2_runAuction_12 rfl (lv_at hl 2 rfl) ?_
      refine lv_if_lt (tgt := 57) hx hb dX2_runAuction_13 (by decide) (fun c5 => ?_) (fun c5 => ?_)
      · have hw := hw.1 c5
        refine lv_iload_n hx hb dX2_runAuction_57 rfl (lv_at hl 1 rfl) ?_
        exact W.iret (v := v1) hx hb hr (fun t ht hW => ⟨⟨v1, (br, th, pe, pr), rfl, hw, by show va_P _ _ _ t.heap; rw [ht]; exact hP⟩, hS.F ht⟩) hS.2.2 dX2_runAuction_58
      · have hw := hw.2 c5
        refine lv_iload_n hx hb dX2_runAuction_16 rfl (lv_at hl 1 rfl) ?_
        refine lv_ldc hx hb hown (hts (.constant RX2 84 (1000000)) (List.mem_of_getElem? (i := 2) rfl)) dX2_runAuction_17 ?_
        refine lv_icmp_ge (tgt := 57) hx hb dX2_runAuction_19 (by decide) (fun c6 => ?_) (fun c6 => ?_)
        · have hw := hw.1 c6
          refine lv_iload_n hx hb dX2_runAuction_57 rfl (lv_at hl 1 rfl) ?_
          exact W.iret (v := v1) hx hb hr (fun t ht hW => ⟨⟨v1, (br, th, pe, pr), rfl, hw, by show va_P _ _ _ t.heap; rw [ht]; exact hP⟩, hS.F ht⟩) hS.2.2 dX2_runAuction_58
        · have hw := hw.2 c6
          obtain ⟨x7, ex7⟩ : ∃ y : Int32, y = v1 + 1 := ⟨_, rfl⟩
          have hw := hw x7 ex7
          refine lv_iinc (v := x7) (lv' := [(1, .int x7), (0, .ref (ad 0)), (2, .int v2)]) hx hb dX2_runAuction_22 hl (k := 1) rfl (by rw [ex7]; rfl) (by decide) rfl (fun ls hl => ?_)
          refine lv_aload_n hx hb dX2_runAuction_25 rfl (lv_at hl 1 rfl) ?_
          refine va_get (D := (dC, dI)) (ci := 2) (v := .ref (ad 3)) (C := RX2) (T := TX2) (N := 7) hx hb hts (fun w h => List.mem_cons_of_mem _ (List.mem_append_right _ h)) hown hK hP 0 rfl rfl 3 (by decide) (hts (.fieldLink RX2 23 "BidMarket$Market" "prices" "[I") (List.mem_of_getElem? (i := 3) rfl)) (fun _ h9 => h9) rfl dX2_runAuction_26 ?_
          refine lv_iload_n hx hb dX2_runAuction_29 rfl (lv_at hl 2 rfl) ?_
          have h8 := hw.1
          have hw := hw.2
          refine va_iald hx hb hK hP 3 0 rfl rfl h8 dX2_runAuction_30 ?_
          refine lv_sipush (v := 2000) hx hb dX2_runAuction_31 (by decide) ?_
          refine lv_icmp_le (tgt := 49) hx hb dX2_runAuction_34 (by decide) (fun c9 => ?_) (fun c9 => ?_)
          · have hw := hw.1 c9
            refine lv_aload_n hx hb dX2_runAuction_49 rfl (lv_at hl 1 rfl) ?_
            refine bw_wvi (wc := (wdX2_letNextBid cI cJ cT cII cJJ ad n pa br th pe pr w)) (w1 := (fun (u : (Nat → Int32) × (Nat → Int32) × (Nat → Int32)) => wdX2_letNextBid cI cJ cT cII cJJ ad n pa br u.1 u.2.1 u.2.2 w)) (As := []) (rest := []) ⟨hx, hb, hml, hown, hts⟩ (mX2_letNextBid l dC dI cI cJ cT cII cJJ ad _ n pa br th pe pr w _ hw) (cwV 0 hts gX2_runAuction_X2_letNextBid rfl rfl rfl hdX2_letNextBid ⟨Nat.le_of_ble_eq_true rfl, Nat.le_of_ble_eq_true rfl⟩) hK hP hD hS hA [0, 1, 2, 3, 4, 5, 6, 7, 8, 9, 10, 11, 12] rfl (by decide) (fun _ => rfl) rfl rfl rfl rfl hl.1 rfl (Nat.le_of_ble_eq_true rfl) ⟨Nat.le_of_ble_eq_true rfl, Nat.le_of_ble_eq_true rfl⟩ dX2_runAuction_50 (fun r10 u H locs hw hP hD hS => ?_)
            obtain ⟨y11, y12, y13⟩ := u
            try dsimp only at hw
            have hP : va_P (dC, dI) vwCl (wdX2_runAuction cI cJ cT cII cJJ ad n pa br y11 y12 y13 w) H := hP
            have hD : va_D A (wdX2_runAuction cI cJ cT cII cJJ ad n pa br y11 y12 y13 w) := hD
            refine lv_istore_n (lv' := [(2, .int r10), (1, .int x7), (0, .ref (ad 0))]) hx hb dX2_runAuction_53 rfl hl (by decide) rfl (fun ls hl => ?_)
            refine lv_goto (tgt := 12) hx hb dX2_runAuction_54 (by decide) ?_
            exact ih x7 r10 br y11 y12 y13 _ _ hP hD hS ls (lv_sub hl [2, 1, 0] rfl) hw
          · have hw := hw.2 c9
            refine lv_aload_n hx hb dX2_runAuction_37 rfl (lv_at hl 1 rfl) ?_
            refine lv_aload_n hx hb dX2_runAuction_38 rfl (lv_at hl 1 rfl) ?_
            refine va_get (D := (dC, dI)) (ci := 2) (v := .ref (ad 2)) (C := RX2) (T := TX2) (N := 7) hx hb hts (fun w h => List.mem_cons_of_mem _ (List.mem_append_right _ h)) hown hK hP 0 rfl rfl 2 (by decide) (hts (.fieldLink RX2 20 "BidMarket$Market" "personOf" "[I") (List.mem_of_getElem? (i := 4) rfl)) (fun _ h9 => h9) rfl dX2_runAuction_39 ?_
            refine lv_iload_n hx hb dX2_runAuction_42 rfl (lv_at hl 2 rfl) ?_
            have h14 := hw.1
            have hw := hw.2
            refine va_iald hx hb hK hP 2 0 rfl rfl h14 dX2_runAuction_43 ?_
            refine va_put (D := (dC, dI)) (ci := 2) (v := .int (pe v2.toNatClampNeg)) (ty := .int) (C := RX2) (T := TX2) (N := 7) hx hb hts (fun w h => List.mem_cons_of_mem _ (List.mem_append_right _ h)) tyX2 tyX2_ok nmX2 hown hK hP hD hS 0 rfl rfl 6 (by decide) (hts (.fieldLink RX2 33 "BidMarket$Market" "breaker" "I") (List.mem_of_getElem? (i := 1) rfl)) (fun _ h9 => h9) rfl (by decide +kernel) rfl rfl (Nat.le_of_ble_eq_true rfl) dX2_runAuction_44 (fun H locs hP hD hS => ?_)
            have hP : va_P (dC, dI) vwCl (wdX2_runAuction cI cJ cT cII cJJ ad n pa (pe v2.toNatClampNeg) th pe pr w) H := hP
            have hD : va_D A (wdX2_runAuction cI cJ cT cII cJJ ad n pa (pe v2.toNatClampNeg) th pe pr w) := hD
            refine lv_iload_n hx hb dX2_runAuction_47 rfl (lv_at hl 0 rfl) ?_
            exact W.iret (v := x7) hx hb hr (fun t ht hW => ⟨⟨x7, (pe v2.toNatClampNeg, th, pe, pr), rfl, hw, by show va_P _ _ _ t.heap; rw [ht]; exact hP⟩, hS.F ht⟩) hS.2.2 dX2_runAuction_48
  unfold wpX2_runAuction at hw
  refine lv_aload_n hx hb dX2_runAuction_0 rfl (lv_at hl 0 rfl) ?_
  refine lv_iconst (v := (-1)) hx hb dX2_runAuction_1 (by decide) ?_
  refine va_put (D := (dC, dI)) (ci := 2) (v := .int ((-1))) (ty := .int) (C := RX2) (T := TX2) (N := 7) hx hb hts (fun w h => List.mem_cons_of_mem _ (List.mem_append_right _ h)) tyX2 tyX2_ok nmX2 hown hK hP hD hS 0 rfl rfl 6 (by decide) (hts (.fieldLink RX2 33 "BidMarket$Market" "breaker" "I") (List.mem_of_getElem? (i := 1) rfl)) (fun _ h9 => h9) rfl (by decide +kernel) rfl rfl (Nat.le_of_ble_eq_true rfl) dX2_runAuction_2 (fun H locs hP hD hS => ?_)
  have hP : va_P (dC, dI) vwCl (wdX2_runAuction cI cJ cT cII cJJ ad n pa ((-1)) th pe pr w) H := hP
  have hD : va_D A (wdX2_runAuction cI cJ cT cII cJJ ad n pa ((-1)) th pe pr w) := hD
  refine lv_iconst (v := 0) hx hb dX2_runAuction_5 (by decide) ?_
  refine lv_istore_n (lv' := [(1, .int 0), (0, .ref (ad 0))]) hx hb dX2_runAuction_6 rfl hl (by decide) rfl (fun ls hl => ?_)
  refine lv_aload_n hx hb dX2_runAuction_7 rfl (lv_at hl 1 rfl) ?_
  refine bw_wvi (wc := (wdX2_letNextBid cI cJ cT cII cJJ ad n pa ((-1)) th pe pr w)) (w1 := (fun (u : (Nat → Int32) × (Nat → Int32) × (Nat → Int32)) => wdX2_letNextBid cI cJ cT cII cJJ ad n pa ((-1)) u.1 u.2.1 u.2.2 w)) (As := []) (rest := []) ⟨hx, hb, hml, hown, hts⟩ (mX2_letNextBid l dC dI cI cJ cT cII cJJ ad _ n pa ((-1)) th pe pr w _ hw) (cwV 0 hts gX2_runAuction_X2_letNextBid rfl rfl rfl hdX2_letNextBid ⟨Nat.le_of_ble_eq_true rfl, Nat.le_of_ble_eq_true rfl⟩) hK hP hD hS hA [0, 1, 2, 3, 4, 5, 6, 7, 8, 9, 10, 11, 12] rfl (by decide) (fun _ => rfl) rfl rfl rfl rfl hl.1 rfl (Nat.le_of_ble_eq_true rfl) ⟨Nat.le_of_ble_eq_true rfl, Nat.le_of_ble_eq_true rfl⟩ dX2_runAuction_8 (fun r1 u H locs hw hP hD hS => ?_)
  obtain ⟨y2, y3, y4⟩ := u
  try dsimp only at hw
  have hP : va_P (dC, dI) vwCl (wdX2_runAuction cI cJ cT cII cJJ ad n pa ((-1)) y2 y3 y4 w) H := hP
  have hD : va_D A (wdX2_runAuction cI cJ cT cII cJJ ad n pa ((-1)) y2 y3 y4 w) := hD
  refine lv_istore_n (lv' := [(2, .int r1), (1, .int 0), (0, .ref (ad 0))]) hx hb dX2_runAuction_11 rfl hl (by decide) rfl (fun ls hl => ?_)
  obtain ⟨f1, hw⟩ := hw
  exact kB12 f1 0 r1 ((-1)) y2 y3 y4 _ _ hP hD hS ls (lv_sub hl [2, 1, 0] rfl) hw
set_option maxHeartbeats 4000000 in
set_option maxRecDepth 100000 in
theorem mX2_allowedTo (l : Launch) (dC : Nat → ClassId) (dI : Nat → Nat → Nat) (cI cJ cT cII cJJ : ClassId) (ad : Nat → Nat) (n : Int32) (pa : Int32) (br : Int32) (w : Nat → Nat → Int32) (a1 : Int32) (Post : Int32 → Prop) (hw : wpX2_allowedTo n w a1 Post) : Met l yX2_allowedTo wsX2_allowedTo ({ frames := 1, cells := 0, slots := 0, locals := 22 } : Room) (va_Pc [.ref (ad 0), .int a1] (fun U => va_P (dC, dI) vwCl (wdX2_allowedTo cI cJ cT cII cJJ ad n pa br w) U.heap ∧ va_K (dC, dI) vwCl (bw_tys cI cJ cT cII cJJ) U)) (vp_Si Post) 0 0 (fun _ => False) := by
  refine Met.ofW (cc := cX2_allowedTo) (maxL := 4) (ret := (some .int)) (by decide) rfl ?_
  intro p e s m args below meth c s₁ B hml hv
  obtain ⟨rfl, hP, hK⟩ := hv
  have hx := B.exec
  have hb := B.bytes
  have hr := B.returns
  have hts := atoms_spec (ws := wsX2_allowedTo) B.pre
  have hown : s.vm.findClass RX2 = some m.cls := findClass_of_methodNamed B.named
  have hlocks := B.notSynchronized
  have hl := lv_entry ([.ref (ad 0), .int a1]) (n := 4) (Nat.le_of_ble_eq_true rfl)
  rw [lg_entry_eq]
  generalize (lg_sl ([.ref (ad 0), .int a1]) ++ List.replicate (4 - (lg_sl ([.ref (ad 0), .int a1])).length) Slot.unset).toArray = ls at hl ⊢
  have hl : lv_has ls 4 [(0, .ref (ad 0)), (1, .int a1)] := hl
  have kB27 : ∀ (K4 : Int32 → Int32 → Prop), (∀ (v2 : Int32) (v3 : Int32), ∀ ls : Array Slot, lv_has ls 4 [(0, .ref (ad 0)), (1, .int a1), (2, .int v2), (3, .int v3)] → K4 v2 v3 → W p l e (headSpec wsX2_allowedTo ({ frames := 1, cells := 0, slots := 0, locals := 22 } : Room)).room s m ([.ref (ad 0), .int a1] : List Value).toArray below meth c s.heap [] 0 0 (MQ below (vp_Si Post) ([.ref (ad 0), .int a1] : List Value).toArray s 0 0 (fun _ => False)) (F0 m 4 ls [])) → ∀ (v2 : Int32) (v3 : Int32), ∀ ls : Array Slot, lv_has ls 4 [(0, .ref (ad 0)), (1, .int a1), (2, .int v2), (3, .int v3)] → wpX2_allowedTo_B27 n w a1 K4 Post v2 v3 → W p l e (headSpec wsX2_allowedTo ({ frames := 1, cells := 0, slots := 0, locals := 22 } : Room)).room s m ([.ref (ad 0), .int a1] : List Value).toArray below meth c s.heap [] 0 0 (MQ below (vp_Si Post) ([.ref (ad 0), .int a1] : List Value).toArray s 0 0 (fun _ => False)) (F0 m 27 ls []) := by
    intro K4 hK4 v2 v3 ls hl hw
    unfold wpX2_allowedTo_B27 at hw
    obtain ⟨x4, ex4⟩ : ∃ y : Int32, y = v3 + 1 := ⟨_, rfl⟩
    have hw := hw x4 ex4
    refine lv_iinc (v := x4) (lv' := [(3, .int x4), (0, .ref (ad 0)), (1, .int a1), (2, .int v2)]) hx hb dX2_allowedTo_27 hl (k := 3) rfl (by rw [ex4]; rfl) (by decide) rfl (fun ls hl => ?_)
    refine lv_goto (tgt := 4) hx hb dX2_allowedTo_30 (by decide) ?_
    exact hK4 v2 x4 ls (lv_sub hl [1, 2, 3, 0] rfl) hw
  have kB4 : ∀ f : Nat, ∀ (v2 : Int32) (v3 : Int32), ∀ ls : Array Slot, lv_has ls 4 [(0, .ref (ad 0)), (1, .int a1), (2, .int v2), (3, .int v3)] → wpX2_allowedTo_B4 n w a1 Post f v2 v3 → W p l e (headSpec wsX2_allowedTo ({ frames := 1, cells := 0, slots := 0, locals := 22 } : Room)).room s m ([.ref (ad 0), .int a1] : List Value).toArray below meth c s.heap [] 0 0 (MQ below (vp_Si Post) ([.ref (ad 0), .int a1] : List Value).toArray s 0 0 (fun _ => False)) (F0 m 4 ls []) := by
    intro  f
    induction f with
    | zero => intro v2 v3 ls hl hw; exact (show False from hw).elim
    | succ f ih =>
      intro v2 v3 ls hl hw
      rw [wpX2_allowedTo_B4] at hw
      refine lv_iload_n hx hb dX2_allowedTo_4 rfl (lv_at hl 3 rfl) ?_
      refine lv_aload_n hx hb dX2_allowedTo_5 rfl (lv_at hl 0 rfl) ?_
      refine va_get (D := (dC, dI)) (ci := 2) (v := .int n) (C := RX2) (T := TX2) (N := 7) hx hb hts (fun w h => List.mem_cons_of_mem _ (List.mem_append_right _ h)) hown hK hP 0 rfl rfl 4 (by decide) (hts (.fieldLink RX2 26 "BidMarket$Market" "n" "I") (List.mem_of_getElem? (i := 1) rfl)) (fun _ h9 => h9) rfl dX2_allowedTo_6 ?_
      refine lv_icmp_ge (tgt := 33) hx hb dX2_allowedTo_9 (by decide) (fun c1 => ?_) (fun c1 => ?_)
      · have hw := hw.1 c1
        refine lv_iload_n hx hb dX2_allowedTo_33 rfl (lv_at hl 2 rfl) ?_
        exact W.iret (v := v2) hx hb hr (fun t ht hW => ⟨v2, rfl, hw, ht⟩) (fun _ h => by cases h) dX2_allowedTo_34
      · have hw := hw.2 c1
        refine lv_aload_n hx hb dX2_allowedTo_12 rfl (lv_at hl 0 rfl) ?_
        refine lv_iload_n hx hb dX2_allowedTo_13 rfl (lv_at hl 1 rfl) ?_
        refine lv_iload_n hx hb dX2_allowedTo_14 rfl (lv_at hl 3 rfl) ?_
        refine bw_pvi (wc := (wdX2_allows cI cJ cT cII cJJ ad n pa br w)) (As := [.int a1, .int v3]) (rest := []) ⟨hx, hb, hml, hown, hts⟩ (mX2_allows l dC dI cI cJ cT cII cJJ ad n pa br w a1 v3 _ hw) (cwV 2 hts gX2_allowedTo_X2_allows rfl rfl rfl hdX2_allows ⟨Nat.le_of_ble_eq_true rfl, Nat.le_of_ble_eq_true rfl⟩) hK hP [0, 1, 2, 3, 4, 5, 6, 7, 8, 9] rfl rfl rfl rfl rfl hl.1 rfl (Nat.le_of_ble_eq_true rfl) ⟨Nat.le_of_ble_eq_true rfl, Nat.le_of_ble_eq_true rfl⟩ dX2_allowedTo_15 (fun r2 hw => ?_)
        refine lv_if_eq (tgt := 27) hx hb dX2_allowedTo_18 (by decide) (fun c3 => ?_) (fun c3 => ?_)
        · have hw := hw.1 c3
          exact kB27 (wpX2_allowedTo_B4 n w a1 Post f) ih v2 v3 ls hl hw
        · have hw := hw.2 c3
          refine lv_iload_n hx hb dX2_allowedTo_21 rfl (lv_at hl 2 rfl) ?_
          refine lv_iconst (v := 1) hx hb dX2_allowedTo_22 (by decide) ?_
          refine lv_iload_n hx hb dX2_allowedTo_23 rfl (lv_at hl 3 rfl) ?_
          refine lv_ishl hx hb dX2_allowedTo_24 ?_
          refine lv_ior hx hb dX2_allowedTo_25 ?_
          refine lv_topi (fun x5 ex5 => ?_)
          have hw := hw x5 ex5
          refine lv_istore_n (lv' := [(2, .int x5), (0, .ref (ad 0)), (1, .int a1), (3, .int v3)]) hx hb dX2_allowedTo_26 rfl hl (by decide) rfl (fun ls hl => ?_)
          exact kB27 (wpX2_allowedTo_B4 n w a1 Post f) ih x5 v3 ls (lv_sub hl [1, 2, 0, 3] rfl) hw
  unfold wpX2_allowedTo at hw
  refine lv_iconst (v := 0) hx hb dX2_allowedTo_0 (by decide) ?_
  refine lv_istore_n (lv' := [(2, .int 0), (0, .ref (ad 0)), (1, .int a1)]) hx hb dX2_allowedTo_1 rfl hl (by decide) rfl (fun ls hl => ?_)
  refine lv_iconst (v := 0) hx hb dX2_allowedTo_2 (by decide) ?_
  refine lv_istore_n (lv' := [(3, .int 0), (2, .int 0), (0, .ref (ad 0)), (1, .int a1)]) hx hb dX2_allowedTo_3 rfl hl (by decide) rfl (fun ls hl => ?_)
  obtain ⟨f1, hw⟩ := hw
  exact kB4 f1 0 0 ls (lv_sub hl [2, 3, 1, 0] rfl) hw
set_option maxHeartbeats 4000000 in
set_option maxRecDepth 100000 in
theorem mX2_wantersOf (l : Launch) (dC : Nat → ClassId) (dI : Nat → Nat → Nat) (cI cJ cT cII cJJ : ClassId) (ad : Nat → Nat) (n : Int32) (pa : Int32) (br : Int32) (pr : Nat → Int32) (w : Nat → Nat → Int32) (a1 : Int32) (Post : Int32 → Prop) (hw : wpX2_wantersOf n pr w a1 Post) : Met l yX2_wantersOf wsX2_wantersOf ({ frames := 3, cells := 0, slots := 0, locals := 69 } : Room) (va_Pc [.ref (ad 0), .int a1] (fun U => va_P (dC, dI) vwCl (wdX2_wantersOf cI cJ cT cII cJJ ad n pa br pr w) U.heap ∧ va_K (dC, dI) vwCl (bw_tys cI cJ cT cII cJJ) U)) (vp_Si Post) 0 0 (fun _ => False) := by
  refine Met.ofW (cc := cX2_wantersOf) (maxL := 4) (ret := (some .int)) (by decide) rfl ?_
  intro p e s m args below meth c s₁ B hml hv
  obtain ⟨rfl, hP, hK⟩ := hv
  have hx := B.exec
  have hb := B.bytes
  have hr := B.returns
  have hts := atoms_spec (ws := wsX2_wantersOf) B.pre
  have hown : s.vm.findClass RX2 = some m.cls := findClass_of_methodNamed B.named
  have hlocks := B.notSynchronized
  have hl := lv_entry ([.ref (ad 0), .int a1]) (n := 4) (Nat.le_of_ble_eq_true rfl)
  rw [lg_entry_eq]
  generalize (lg_sl ([.ref (ad 0), .int a1]) ++ List.replicate (4 - (lg_sl ([.ref (ad 0), .int a1])).length) Slot.unset).toArray = ls at hl ⊢
  have hl : lv_has ls 4 [(0, .ref (ad 0)), (1, .int a1)] := hl
  have kB27 : ∀ (K4 : Int32 → Int32 → Prop), (∀ (v2 : Int32) (v3 : Int32), ∀ ls : Array Slot, lv_has ls 4 [(0, .ref (ad 0)), (1, .int a1), (2, .int v2), (3, .int v3)] → K4 v2 v3 → W p l e (headSpec wsX2_wantersOf ({ frames := 3, cells := 0, slots := 0, locals := 69 } : Room)).room s m ([.ref (ad 0), .int a1] : List Value).toArray below meth c s.heap [] 0 0 (MQ below (vp_Si Post) ([.ref (ad 0), .int a1] : List Value).toArray s 0 0 (fun _ => False)) (F0 m 4 ls [])) → ∀ (v2 : Int32) (v3 : Int32), ∀ ls : Array Slot, lv_has ls 4 [(0, .ref (ad 0)), (1, .int a1), (2, .int v2), (3, .int v3)] → wpX2_wantersOf_B27 n pr w a1 K4 Post v2 v3 → W p l e (headSpec wsX2_wantersOf ({ frames := 3, cells := 0, slots := 0, locals := 69 } : Room)).room s m ([.ref (ad 0), .int a1] : List Value).toArray below meth c s.heap [] 0 0 (MQ below (vp_Si Post) ([.ref (ad 0), .int a1] : List Value).toArray s 0 0 (fun _ => False)) (F0 m 27 ls []) := by
    intro K4 hK4 v2 v3 ls hl hw
    unfold wpX2_wantersOf_B27 at hw
    obtain ⟨x4, ex4⟩ : ∃ y : Int32, y = v3 + 1 := ⟨_, rfl⟩
    have hw := hw x4 ex4
    refine lv_iinc (v := x4) (lv' := [(3, .int x4), (0, .ref (ad 0)), (1, .int a1), (2, .int v2)]) hx hb dX2_wantersOf_27 hl (k := 3) rfl (by rw [ex4]; rfl) (by decide) rfl (fun ls hl => ?_)
    refine lv_goto (tgt := 4) hx hb dX2_wantersOf_30 (by decide) ?_
    exact hK4 v2 x4 ls (lv_sub hl [1, 2, 3, 0] rfl) hw
  have kB4 : ∀ f : Nat, ∀ (v2 : Int32) (v3 : Int32), ∀ ls : Array Slot, lv_has ls 4 [(0, .ref (ad 0)), (1, .int a1), (2, .int v2), (3, .int v3)] → wpX2_wantersOf_B4 n pr w a1 Post f v2 v3 → W p l e (headSpec wsX2_wantersOf ({ frames := 3, cells := 0, slots := 0, locals := 69 } : Room)).room s m ([.ref (ad 0), .int a1] : List Value).toArray below meth c s.heap [] 0 0 (MQ below (vp_Si Post) ([.ref (ad 0), .int a1] : List Value).toArray s 0 0 (fun _ => False)) (F0 m 4 ls []) := by
    intro  f
    induction f with
    | zero => intro v2 v3 ls hl hw; exact (show False from hw).elim
    | succ f ih =>
      intro v2 v3 ls hl hw
      rw [wpX2_wantersOf_B4] at hw
      refine lv_iload_n hx hb dX2_wantersOf_4 rfl (lv_at hl 3 rfl) ?_
      refine lv_aload_n hx hb dX2_wantersOf_5 rfl (lv_at hl 0 rfl) ?_
      refine va_get (D := (dC, dI)) (ci := 2) (v := .int n) (C := RX2) (T := TX2) (N := 7) hx hb hts (fun w h => List.mem_cons_of_mem _ (List.mem_append_right _ h)) hown hK hP 0 rfl rfl 4 (by decide) (hts (.fieldLink RX2 26 "BidMarket$Market" "n" "I") (List.mem_of_getElem? (i := 1) rfl)) (fun _ h9 => h9) rfl dX2_wantersOf_6 ?_
      refine lv_icmp_ge (tgt := 33) hx hb dX2_wantersOf_9 (by decide) (fun c1 => ?_) (fun c1 => ?_)
      · have hw := hw.1 c1
        refine lv_iload_n hx hb dX2_wantersOf_33 rfl (lv_at hl 2 rfl) ?_
        exact W.iret (v := v2) hx hb hr (fun t ht hW => ⟨v2, rfl, hw, ht⟩) (fun _ h => by cases h) dX2_wantersOf_34
      · have hw := hw.2 c1
        refine lv_aload_n hx hb dX2_wantersOf_12 rfl (lv_at hl 0 rfl) ?_
        refine lv_iload_n hx hb dX2_wantersOf_13 rfl (lv_at hl 3 rfl) ?_
        refine bw_pvi (wc := (wdX2_bestOf cI cJ cT cII cJJ ad n pa br pr w)) (As := [.int v3]) (rest := []) ⟨hx, hb, hml, hown, hts⟩ (mX2_bestOf l dC dI cI cJ cT cII cJJ ad n pa br pr w v3 _ hw) (cwV 1 hts gX2_wantersOf_X2_bestOf rfl rfl rfl hdX2_bestOf ⟨Nat.le_of_ble_eq_true rfl, Nat.le_of_ble_eq_true rfl⟩) hK hP [0, 1, 2, 3, 4, 5, 6, 7, 8, 9, 10] rfl rfl rfl rfl rfl hl.1 rfl (Nat.le_of_ble_eq_true rfl) ⟨Nat.le_of_ble_eq_true rfl, Nat.le_of_ble_eq_true rfl⟩ dX2_wantersOf_14 (fun r2 hw => ?_)
        refine lv_iload_n hx hb dX2_wantersOf_17 rfl (lv_at hl 1 rfl) ?_
        refine lv_icmp_ne (tgt := 27) hx hb dX2_wantersOf_18 (by decide) (fun c3 => ?_) (fun c3 => ?_)
        · have hw := hw.1 c3
          exact kB27 (wpX2_wantersOf_B4 n pr w a1 Post f) ih v2 v3 ls hl hw
        · have hw := hw.2 c3
          refine lv_iload_n hx hb dX2_wantersOf_21 rfl (lv_at hl 2 rfl) ?_
          refine lv_iconst (v := 1) hx hb dX2_wantersOf_22 (by decide) ?_
          refine lv_iload_n hx hb dX2_wantersOf_23 rfl (lv_at hl 3 rfl) ?_
          refine lv_ishl hx hb dX2_wantersOf_24 ?_
          refine lv_ior hx hb dX2_wantersOf_25 ?_
          refine lv_topi (fun x5 ex5 => ?_)
          have hw := hw x5 ex5
          refine lv_istore_n (lv' := [(2, .int x5), (0, .ref (ad 0)), (1, .int a1), (3, .int v3)]) hx hb dX2_wantersOf_26 rfl hl (by decide) rfl (fun ls hl => ?_)
          exact kB27 (wpX2_wantersOf_B4 n pr w a1 Post f) ih x5 v3 ls (lv_sub hl [1, 2, 0, 3] rfl) hw
  unfold wpX2_wantersOf at hw
  refine lv_iconst (v := 0) hx hb dX2_wantersOf_0 (by decide) ?_
  refine lv_istore_n (lv' := [(2, .int 0), (0, .ref (ad 0)), (1, .int a1)]) hx hb dX2_wantersOf_1 rfl hl (by decide) rfl (fun ls hl => ?_)
  refine lv_iconst (v := 0) hx hb dX2_wantersOf_2 (by decide) ?_
  refine lv_istore_n (lv' := [(3, .int 0), (2, .int 0), (0, .ref (ad 0)), (1, .int a1)]) hx hb dX2_wantersOf_3 rfl hl (by decide) rfl (fun ls hl => ?_)
  obtain ⟨f1, hw⟩ := hw
  exact kB4 f1 0 0 ls (lv_sub hl [2, 3, 1, 0] rfl) hw
set_option maxHeartbeats 4000000 in
set_option maxRecDepth 100000 in
theorem mX2_ownGain (l : Launch) (dC : Nat → ClassId) (dI : Nat → Nat → Nat) (cI cJ cT cII cJJ : ClassId) (ad : Nat → Nat) (n : Int32) (pa : Int32) (br : Int32) (th : Nat → Int32) (pr : Nat → Int32) (w : Nat → Nat → Int32) (a1 : Int32) (Post : Int32 → Prop) (hw : wpX2_ownGain n th pr w a1 Post) : Met l yX2_ownGain wsX2_ownGain ({ frames := 1, cells := 0, slots := 0, locals := 22 } : Room) (va_Pc [.ref (ad 0), .int a1] (fun U => va_P (dC, dI) vwCl (wdX2_ownGain cI cJ cT cII cJJ ad n pa br th pr w) U.heap ∧ va_K (dC, dI) vwCl (bw_tys cI cJ cT cII cJJ) U)) (vp_Si Post) 0 0 (fun _ => False) := by
  refine Met.ofW (cc := cX2_ownGain) (maxL := 3) (ret := (some .int)) (by decide) rfl ?_
  intro p e s m args below meth c s₁ B hml hv
  obtain ⟨rfl, hP, hK⟩ := hv
  have hx := B.exec
  have hb := B.bytes
  have hr := B.returns
  have hts := atoms_spec (ws := wsX2_ownGain) B.pre
  have hown : s.vm.findClass RX2 = some m.cls := findClass_of_methodNamed B.named
  have hlocks := B.notSynchronized
  have hl := lv_entry ([.ref (ad 0), .int a1]) (n := 3) (Nat.le_of_ble_eq_true rfl)
  rw [lg_entry_eq]
  generalize (lg_sl ([.ref (ad 0), .int a1]) ++ List.replicate (3 - (lg_sl ([.ref (ad 0), .int a1])).length) Slot.unset).toArray = ls at hl ⊢
  have hl : lv_has ls 3 [(0, .ref (ad 0)), (1, .int a1)] := hl
  unfold wpX2_ownGain at hw
  refine lv_aload_n hx hb dX2_ownGain_0 rfl (lv_at hl 0 rfl) ?_
  refine va_get (D := (dC, dI)) (ci := 2) (v := .ref (ad 1)) (C := RX2) (T := TX2) (N := 7) hx hb hts (fun w h => List.mem_cons_of_mem _ (List.mem_append_right _ h)) hown hK hP 0 rfl rfl 1 (by decide) (hts (.fieldLink RX2 16 "BidMarket$Market" "thingOf" "[I") (List.mem_of_getElem? (i := 1) rfl)) (fun _ h9 => h9) rfl dX2_ownGain_1 ?_
  refine lv_iload_n hx hb dX2_ownGain_4 rfl (lv_at hl 1 rfl) ?_
  have h1 := hw.1
  have hw := hw.2
  refine va_iald hx hb hK hP 1 0 rfl rfl h1 dX2_ownGain_5 ?_
  refine lv_topi (fun x2 ex2 => ?_)
  have hw := hw x2 ex2
  refine lv_istore_n (lv' := [(2, .int x2), (0, .ref (ad 0)), (1, .int a1)]) hx hb dX2_ownGain_6 rfl hl (by decide) rfl (fun ls hl => ?_)
  refine lv_iload_n hx hb dX2_ownGain_7 rfl (lv_at hl 0 rfl) ?_
  refine lv_if_ge (tgt := 15) hx hb dX2_ownGain_8 (by decide) (fun c3 => ?_) (fun c3 => ?_)
  · have hw := hw.1 c3
    refine lv_aload_n hx hb dX2_ownGain_15 rfl (lv_at hl 1 rfl) ?_
    refine lv_iload_n hx hb dX2_ownGain_16 rfl (lv_at hl 2 rfl) ?_
    refine lv_iload_n hx hb dX2_ownGain_17 rfl (lv_at hl 0 rfl) ?_
    refine bw_pvi (wc := (wdX2_gainOf cI cJ cT cII cJJ ad n pa br pr w)) (As := [.int a1, .int x2]) (rest := []) ⟨hx, hb, hml, hown, hts⟩ (mX2_gainOf l dC dI cI cJ cT cII cJJ ad n pa br pr w a1 x2 _ hw) (cwV 2 hts gX2_ownGain_X2_gainOf rfl rfl rfl hdX2_gainOf ⟨Nat.le_of_ble_eq_true rfl, Nat.le_of_ble_eq_true rfl⟩) hK hP [0, 2, 3, 4, 5, 6, 7, 8, 9, 10, 11] rfl rfl rfl rfl rfl hl.1 rfl (Nat.le_of_ble_eq_true rfl) ⟨Nat.le_of_ble_eq_true rfl, Nat.le_of_ble_eq_true rfl⟩ dX2_ownGain_18 (fun r4 hw => ?_)
    exact W.iret (v := r4) hx hb hr (fun t ht hW => ⟨r4, rfl, hw, ht⟩) (fun _ h => by cases h) dX2_ownGain_21
  · have hw := hw.2 c3
    refine lv_iconst (v := 0) hx hb dX2_ownGain_11 (by decide) ?_
    refine lv_goto (tgt := 21) hx hb dX2_ownGain_12 (by decide) ?_
    exact W.iret (v := 0) hx hb hr (fun t ht hW => ⟨0, rfl, hw, ht⟩) (fun _ h => by cases h) dX2_ownGain_21
set_option maxHeartbeats 4000000 in
set_option maxRecDepth 100000 in
theorem mX2_envyOf (l : Launch) (dC : Nat → ClassId) (dI : Nat → Nat → Nat) (cI cJ cT cII cJJ : ClassId) (ad : Nat → Nat) (n : Int32) (pa : Int32) (br : Int32) (th : Nat → Int32) (pr : Nat → Int32) (w : Nat → Nat → Int32) (a1 : Int32) (Post : Int32 → Prop) (hw : wpX2_envyOf n th pr w a1 Post) : Met l yX2_envyOf wsX2_envyOf ({ frames := 2, cells := 0, slots := 0, locals := 44 } : Room) (va_Pc [.ref (ad 0), .int a1] (fun U => va_P (dC, dI) vwCl (wdX2_envyOf cI cJ cT cII cJJ ad n pa br th pr w) U.heap ∧ va_K (dC, dI) vwCl (bw_tys cI cJ cT cII cJJ) U)) (vp_Si Post) 0 0 (fun _ => False) := by
  refine Met.ofW (cc := cX2_envyOf) (maxL := 4) (ret := (some .int)) (by decide) rfl ?_
  intro p e s m args below meth c s₁ B hml hv
  obtain ⟨rfl, hP, hK⟩ := hv
  have hx := B.exec
  have hb := B.bytes
  have hr := B.returns
  have hts := atoms_spec (ws := wsX2_envyOf) B.pre
  have hown : s.vm.findClass RX2 = some m.cls := findClass_of_methodNamed B.named
  have hlocks := B.notSynchronized
  have hl := lv_entry ([.ref (ad 0), .int a1]) (n := 4) (Nat.le_of_ble_eq_true rfl)
  rw [lg_entry_eq]
  generalize (lg_sl ([.ref (ad 0), .int a1]) ++ List.replicate (4 - (lg_sl ([.ref (ad 0), .int a1])).length) Slot.unset).toArray = ls at hl ⊢
  have hl : lv_has ls 4 [(0, .ref (ad 0)), (1, .int a1)] := hl
  have kB38 : ∀ (K4 : Int32 → Int32 → Prop), (∀ (v2 : Int32) (v3 : Int32), ∀ ls : Array Slot, lv_has ls 4 [(0, .ref (ad 0)), (1, .int a1), (2, .int v2), (3, .int v3)] → K4 v2 v3 → W p l e (headSpec wsX2_envyOf ({ frames := 2, cells := 0, slots := 0, locals := 44 } : Room)).room s m ([.ref (ad 0), .int a1] : List Value).toArray below meth c s.heap [] 0 0 (MQ below (vp_Si Post) ([.ref (ad 0), .int a1] : List Value).toArray s 0 0 (fun _ => False)) (F0 m 4 ls [])) → ∀ (v2 : Int32) (v3 : Int32), ∀ ls : Array Slot, lv_has ls 4 [(0, .ref (ad 0)), (1, .int a1), (2, .int v2), (3, .int v3)] → wpX2_envyOf_B38 n th pr w a1 K4 Post v2 v3 → W p l e (headSpec wsX2_envyOf ({ frames := 2, cells := 0, slots := 0, locals := 44 } : Room)).room s m ([.ref (ad 0), .int a1] : List Value).toArray below meth c s.heap [] 0 0 (MQ below (vp_Si Post) ([.ref (ad 0), .int a1] : List Value).toArray s 0 0 (fun _ => False)) (F0 m 38 ls []) := by
    intro K4 hK4 v2 v3 ls hl hw
    unfold wpX2_envyOf_B38 at hw
    obtain ⟨x4, ex4⟩ : ∃ y : Int32, y = v3 + 1 := ⟨_, rfl⟩
    have hw := hw x4 ex4
    refine lv_iinc (v := x4) (lv' := [(3, .int x4), (0, .ref (ad 0)), (1, .int a1), (2, .int v2)]) hx hb dX2_envyOf_38 hl (k := 3) rfl (by rw [ex4]; rfl) (by decide) rfl (fun ls hl => ?_)
    refine lv_goto (tgt := 4) hx hb dX2_envyOf_41 (by decide) ?_
    exact hK4 v2 x4 ls (lv_sub hl [1, 2, 3, 0] rfl) hw
  have kB4 : ∀ f : Nat, ∀ (v2 : Int32) (v3 : Int32), ∀ ls : Array Slot, lv_has ls 4 [(0, .ref (ad 0)), (1, .int a1), (2, .int v2), (3, .int v3)] → wpX2_envyOf_B4 n th pr w a1 Post f v2 v3 → W p l e (headSpec wsX2_envyOf ({ frames := 2, cells := 0, slots := 0, locals := 44 } : Room)).room s m ([.ref (ad 0), .int a1] : List Value).toArray below meth c s.heap [] 0 0 (MQ below (vp_Si Post) ([.ref (ad 0), .int a1] : List Value).toArray s 0 0 (fun _ => False)) (F0 m 4 ls []) := by
    intro  f
    induction f with
    | zero => intro v2 v3 ls hl hw; exact (show False from hw).elim
    | succ f ih =>
      intro v2 v3 ls hl hw
      rw [wpX2_envyOf_B4] at hw
      refine lv_iload_n hx hb dX2_envyOf_4 rfl (lv_at hl 3 rfl) ?_
      refine lv_aload_n hx hb dX2_envyOf_5 rfl (lv_at hl 0 rfl) ?_
      refine va_get (D := (dC, dI)) (ci := 2) (v := .int n) (C := RX2) (T := TX2) (N := 7) hx hb hts (fun w h => List.mem_cons_of_mem _ (List.mem_append_right _ h)) hown hK hP 0 rfl rfl 4 (by decide) (hts (.fieldLink RX2 26 "BidMarket$Market" "n" "I") (List.mem_of_getElem? (i := 1) rfl)) (fun _ h9 => h9) rfl dX2_envyOf_6 ?_
      refine lv_icmp_ge (tgt := 44) hx hb dX2_envyOf_9 (by decide) (fun c1 => ?_) (fun c1 => ?_)
      · have hw := hw.1 c1
        refine lv_iload_n hx hb dX2_envyOf_44 rfl (lv_at hl 2 rfl) ?_
        exact W.iret (v := v2) hx hb hr (fun t ht hW => ⟨v2, rfl, hw, ht⟩) (fun _ h => by cases h) dX2_envyOf_45
      · have hw := hw.2 c1
        refine lv_aload_n hx hb dX2_envyOf_12 rfl (lv_at hl 0 rfl) ?_
        refine lv_iload_n hx hb dX2_envyOf_13 rfl (lv_at hl 1 rfl) ?_
        refine lv_iload_n hx hb dX2_envyOf_14 rfl (lv_at hl 3 rfl) ?_
        refine bw_pvi (wc := (wdX2_allows cI cJ cT cII cJJ ad n pa br w)) (As := [.int a1, .int v3]) (rest := []) ⟨hx, hb, hml, hown, hts⟩ (mX2_allows l dC dI cI cJ cT cII cJJ ad n pa br w a1 v3 _ hw) (cwV 2 hts gX2_envyOf_X2_allows rfl rfl rfl hdX2_allows ⟨Nat.le_of_ble_eq_true rfl, Nat.le_of_ble_eq_true rfl⟩) hK hP [0, 3, 4, 5, 6, 7, 8, 9, 10, 11] rfl rfl rfl rfl rfl hl.1 rfl (Nat.le_of_ble_eq_true rfl) ⟨Nat.le_of_ble_eq_true rfl, Nat.le_of_ble_eq_true rfl⟩ dX2_envyOf_15 (fun r2 hw => ?_)
        refine lv_if_eq (tgt := 38) hx hb dX2_envyOf_18 (by decide) (fun c3 => ?_) (fun c3 => ?_)
        · have hw := hw.1 c3
          exact kB38 (wpX2_envyOf_B4 n th pr w a1 Post f) ih v2 v3 ls hl hw
        · have hw := hw.2 c3
          refine lv_aload_n hx hb dX2_envyOf_21 rfl (lv_at hl 0 rfl) ?_
          refine lv_iload_n hx hb dX2_envyOf_22 rfl (lv_at hl 1 rfl) ?_
          refine lv_iload_n hx hb dX2_envyOf_23 rfl (lv_at hl 3 rfl) ?_
          refine bw_pvi (wc := (wdX2_gainOf cI cJ cT cII cJJ ad n pa br pr w)) (As := [.int a1, .int v3]) (rest := []) ⟨hx, hb, hml, hown, hts⟩ (mX2_gainOf l dC dI cI cJ cT cII cJJ ad n pa br pr w a1 v3 _ hw) (cwV 2 hts gX2_envyOf_X2_gainOf rfl rfl rfl hdX2_gainOf ⟨Nat.le_of_ble_eq_true rfl, Nat.le_of_ble_eq_true rfl⟩) hK hP [0, 2, 3, 4, 5, 6, 7, 8, 9, 10, 11] rfl rfl rfl rfl rfl hl.1 rfl (Nat.le_of_ble_eq_true rfl) ⟨Nat.le_of_ble_eq_true rfl, Nat.le_of_ble_eq_true rfl⟩ dX2_envyOf_24 (fun r5 hw => ?_)
          refine lv_aload_n hx hb dX2_envyOf_27 rfl (lv_at hl 0 rfl) ?_
          refine lv_iload_n hx hb dX2_envyOf_28 rfl (lv_at hl 1 rfl) ?_
          refine bw_pvi (wc := (wdX2_ownGain cI cJ cT cII cJJ ad n pa br th pr w)) (As := [.int a1]) (rest := [.int r5]) ⟨hx, hb, hml, hown, hts⟩ (mX2_ownGain l dC dI cI cJ cT cII cJJ ad n pa br th pr w a1 _ hw) (cwV 1 hts gX2_envyOf_X2_ownGain rfl rfl rfl hdX2_ownGain ⟨Nat.le_of_ble_eq_true rfl, Nat.le_of_ble_eq_true rfl⟩) hK hP [0, 1, 2, 3, 4, 5, 6, 7, 8, 9, 10, 11] rfl rfl rfl rfl rfl hl.1 rfl (Nat.le_of_ble_eq_true rfl) ⟨Nat.le_of_ble_eq_true rfl, Nat.le_of_ble_eq_true rfl⟩ dX2_envyOf_29 (fun r6 hw => ?_)
          refine lv_icmp_le (tgt := 38) hx hb dX2_envyOf_32 (by decide) (fun c7 => ?_) (fun c7 => ?_)
          · have hw := hw.1 c7
            exact kB38 (wpX2_envyOf_B4 n th pr w a1 Post f) ih v2 v3 ls hl hw
          · have hw := hw.2 c7
            obtain ⟨x8, ex8⟩ : ∃ y : Int32, y = v2 + 1 := ⟨_, rfl⟩
            have hw := hw x8 ex8
            refine lv_iinc (v := x8) (lv' := [(2, .int x8), (0, .ref (ad 0)), (1, .int a1), (3, .int v3)]) hx hb dX2_envyOf_35 hl (k := 2) rfl (by rw [ex8]; rfl) (by decide) rfl (fun ls hl => ?_)
            exact kB38 (wpX2_envyOf_B4 n th pr w a1 Post f) ih x8 v3 ls (lv_sub hl [1, 2, 0, 3] rfl) hw
  unfold wpX2_envyOf at hw
  refine lv_iconst (v := 0) hx hb dX2_envyOf_0 (by decide) ?_
  refine lv_istore_n (lv' := [(2, .int 0), (0, .ref (ad 0)), (1, .int a1)]) hx hb dX2_envyOf_1 rfl hl (by decide) rfl (fun ls hl => ?_)
  refine lv_iconst (v := 0) hx hb dX2_envyOf_2 (by decide) ?_
  refine lv_istore_n (lv' := [(3, .int 0), (2, .int 0), (0, .ref (ad 0)), (1, .int a1)]) hx hb dX2_envyOf_3 rfl hl (by decide) rfl (fun ls hl => ?_)
  obtain ⟨f1, hw⟩ := hw
  exact kB4 f1 0 0 ls (lv_sub hl [2, 3, 1, 0] rfl) hw
set_option maxHeartbeats 4000000 in
set_option maxRecDepth 100000 in
theorem mX2_isSure (l : Launch) (dC : Nat → ClassId) (dI : Nat → Nat → Nat) (cI cJ cT cII cJJ : ClassId) (ad : Nat → Nat) (n : Int32) (pa : Int32) (br : Int32) (th : Nat → Int32) (pr : Nat → Int32) (w : Nat → Nat → Int32) (Post : Int32 → Prop) (hw : wpX2_isSure n pa th pr w Post) : Met l yX2_isSure wsX2_isSure ({ frames := 3, cells := 0, slots := 0, locals := 69 } : Room) (va_Pc [.ref (ad 0)] (fun U => va_P (dC, dI) vwCl (wdX2_isSure cI cJ cT cII cJJ ad n pa br th pr w) U.heap ∧ va_K (dC, dI) vwCl (bw_tys cI cJ cT cII cJJ) U)) (vp_Si Post) 0 0 (fun _ => False) := by
  refine Met.ofW (cc := cX2_isSure) (maxL := 3) (ret := (some .boolean)) (by decide) rfl ?_
  intro p e s m args below meth c s₁ B hml hv
  obtain ⟨rfl, hP, hK⟩ := hv
  have hx := B.exec
  have hb := B.bytes
  have hr := B.returns
  have hts := atoms_spec (ws := wsX2_isSure) B.pre
  have hown : s.vm.findClass RX2 = some m.cls := findClass_of_methodNamed B.named
  have hlocks := B.notSynchronized
  have hl := lv_entry ([.ref (ad 0)]) (n := 3) (Nat.le_of_ble_eq_true rfl)
  rw [lg_entry_eq]
  generalize (lg_sl ([.ref (ad 0)]) ++ List.replicate (3 - (lg_sl ([.ref (ad 0)])).length) Slot.unset).toArray = ls at hl ⊢
  have hl : lv_has ls 3 [(0, .ref (ad 0))] := hl
  have kB2 : ∀ f : Nat, ∀ (v1 : Int32), ∀ ls : Array Slot, lv_has ls 3 [(0, .ref (ad 0)), (1, .int v1)] → wpX2_isSure_B2 n pa th pr w Post f v1 → W p l e (headSpec wsX2_isSure ({ frames := 3, cells := 0, slots := 0, locals := 69 } : Room)).room s m ([.ref (ad 0)] : List Value).toArray below meth c s.heap [] 0 0 (MQ below (vp_Si Post) ([.ref (ad 0)] : List Value).toArray s 0 0 (fun _ => False)) (F0 m 2 ls []) := by
    intro  f
    induction f with
    | zero => intro v1 ls hl hw; exact (show False from hw).elim
    | succ f ih =>
      intro v1 ls hl hw
      rw [wpX2_isSure_B2] at hw
      refine lv_iload_n hx hb dX2_isSure_2 rfl (lv_at hl 1 rfl) ?_
      refine lv_aload_n hx hb dX2_isSure_3 rfl (lv_at hl 0 rfl) ?_
      refine va_get (D := (dC, dI)) (ci := 2) (v := .int n) (C := RX2) (T := TX2) (N := 7) hx hb hts (fun w h => List.mem_cons_of_mem _ (List.mem_append_right _ h)) hown hK hP 0 rfl rfl 4 (by decide) (hts (.fieldLink RX2 26 "BidMarket$Market" "n" "I") (List.mem_of_getElem? (i := 1) rfl)) (fun _ h9 => h9) rfl dX2_isSure_4 ?_
      refine lv_icmp_ge (tgt := 56) hx hb dX2_isSure_7 (by decide) (fun c1 => ?_) (fun c1 => ?_)
      · have hw := hw.1 c1
        refine lv_iconst (v := 1) hx hb dX2_isSure_56 (by decide) ?_
        exact W.zret (v := 1) hx hb hr rfl (fun t ht hW => ⟨1, rfl, hw, ht⟩) (fun _ h => by cases h) dX2_isSure_57
      · have hw := hw.2 c1
        refine lv_aload_n hx hb dX2_isSure_10 rfl (lv_at hl 0 rfl) ?_
        refine lv_iload_n hx hb dX2_isSure_11 rfl (lv_at hl 1 rfl) ?_
        refine bw_pvi (wc := (wdX2_bestOf cI cJ cT cII cJJ ad n pa br pr w)) (As := [.int v1]) (rest := []) ⟨hx, hb, hml, hown, hts⟩ (mX2_bestOf l dC dI cI cJ cT cII cJJ ad n pa br pr w v1 _ hw) (cwV 1 hts gX2_isSure_X2_bestOf rfl rfl rfl hdX2_bestOf ⟨Nat.le_of_ble_eq_true rfl, Nat.le_of_ble_eq_true rfl⟩) hK hP [0, 2, 3, 4, 5, 6, 7, 8, 9, 10, 11] rfl rfl rfl rfl rfl hl.1 rfl (Nat.le_of_ble_eq_true rfl) ⟨Nat.le_of_ble_eq_true rfl, Nat.le_of_ble_eq_true rfl⟩ dX2_isSure_12 (fun r2 hw => ?_)
        refine lv_istore_n (lv' := [(2, .int r2), (0, .ref (ad 0)), (1, .int v1)]) hx hb dX2_isSure_15 rfl hl (by decide) rfl (fun ls hl => ?_)
        refine lv_aload_n hx hb dX2_isSure_16 rfl (lv_at hl 1 rfl) ?_
        refine va_get (D := (dC, dI)) (ci := 2) (v := .ref (ad 1)) (C := RX2) (T := TX2) (N := 7) hx hb hts (fun w h => List.mem_cons_of_mem _ (List.mem_append_right _ h)) hown hK hP 0 rfl rfl 1 (by decide) (hts (.fieldLink RX2 16 "BidMarket$Market" "thingOf" "[I") (List.mem_of_getElem? (i := 2) rfl)) (fun _ h9 => h9) rfl dX2_isSure_17 ?_
        refine lv_iload_n hx hb dX2_isSure_20 rfl (lv_at hl 2 rfl) ?_
        have h3 := hw.1
        have hw := hw.2
        refine va_iald hx hb hK hP 1 0 rfl rfl h3 dX2_isSure_21 ?_
        refine lv_if_lt (tgt := 48) hx hb dX2_isSure_22 (by decide) (fun c4 => ?_) (fun c4 => ?_)
        · have hw := hw.1 c4
          refine lv_iconst (v := 0) hx hb dX2_isSure_48 (by decide) ?_
          exact W.zret (v := 0) hx hb hr rfl (fun t ht hW => ⟨0, rfl, hw, ht⟩) (fun _ h => by cases h) dX2_isSure_49
        · have hw := hw.2 c4
          refine lv_iload_n hx hb dX2_isSure_25 rfl (lv_at hl 0 rfl) ?_
          refine lv_if_lt (tgt := 48) hx hb dX2_isSure_26 (by decide) (fun c5 => ?_) (fun c5 => ?_)
          · have hw := hw.1 c5
            refine lv_iconst (v := 0) hx hb dX2_isSure_48 (by decide) ?_
            exact W.zret (v := 0) hx hb hr rfl (fun t ht hW => ⟨0, rfl, hw, ht⟩) (fun _ h => by cases h) dX2_isSure_49
          · have hw := hw.2 c5
            refine lv_aload_n hx hb dX2_isSure_29 rfl (lv_at hl 1 rfl) ?_
            refine lv_iload_n hx hb dX2_isSure_30 rfl (lv_at hl 2 rfl) ?_
            refine lv_iload_n hx hb dX2_isSure_31 rfl (lv_at hl 0 rfl) ?_
            refine bw_pvi (wc := (wdX2_gainOf cI cJ cT cII cJJ ad n pa br pr w)) (As := [.int v1, .int r2]) (rest := []) ⟨hx, hb, hml, hown, hts⟩ (mX2_gainOf l dC dI cI cJ cT cII cJJ ad n pa br pr w v1 r2 _ hw) (cwV 2 hts gX2_isSure_X2_gainOf rfl rfl rfl hdX2_gainOf ⟨Nat.le_of_ble_eq_true rfl, Nat.le_of_ble_eq_true rfl⟩) hK hP [0, 2, 3, 4, 5, 6, 7, 8, 9, 10, 11] rfl rfl rfl rfl rfl hl.1 rfl (Nat.le_of_ble_eq_true rfl) ⟨Nat.le_of_ble_eq_true rfl, Nat.le_of_ble_eq_true rfl⟩ dX2_isSure_32 (fun r6 hw => ?_)
            refine lv_aload_n hx hb dX2_isSure_35 rfl (lv_at hl 1 rfl) ?_
            refine lv_iload_n hx hb dX2_isSure_36 rfl (lv_at hl 2 rfl) ?_
            refine bw_pvi (wc := (wdX2_ownGain cI cJ cT cII cJJ ad n pa br th pr w)) (As := [.int v1]) (rest := [.int r6]) ⟨hx, hb, hml, hown, hts⟩ (mX2_ownGain l dC dI cI cJ cT cII cJJ ad n pa br th pr w v1 _ hw) (cwV 1 hts gX2_isSure_X2_ownGain rfl rfl rfl hdX2_ownGain ⟨Nat.le_of_ble_eq_true rfl, Nat.le_of_ble_eq_true rfl⟩) hK hP [0, 1, 2, 3, 4, 5, 6, 7, 8, 9, 10, 11] rfl rfl rfl rfl rfl hl.1 rfl (Nat.le_of_ble_eq_true rfl) ⟨Nat.le_of_ble_eq_true rfl, Nat.le_of_ble_eq_true rfl⟩ dX2_isSure_37 (fun r7 hw => ?_)
            refine lv_aload_n hx hb dX2_isSure_40 rfl (lv_at hl 1 rfl) ?_
            refine va_get (D := (dC, dI)) (ci := 2) (v := .int pa) (C := RX2) (T := TX2) (N := 7) hx hb hts (fun w h => List.mem_cons_of_mem _ (List.mem_append_right _ h)) hown hK hP 0 rfl rfl 5 (by decide) (hts (.fieldLink RX2 30 "BidMarket$Market" "pace" "I") (List.mem_of_getElem? (i := 3) rfl)) (fun _ h9 => h9) rfl dX2_isSure_41 ?_
            refine lv_iadd hx hb dX2_isSure_44 ?_
            refine lv_icmp_le (tgt := 50) hx hb dX2_isSure_45 (by decide) (fun c8 => ?_) (fun c8 => ?_)
            · have hw := hw.1 c8
              obtain ⟨x9, ex9⟩ : ∃ y : Int32, y = v1 + 1 := ⟨_, rfl⟩
              have hw := hw x9 ex9
              refine lv_iinc (v := x9) (lv' := [(1, .int x9), (2, .int r2), (0, .ref (ad 0))]) hx hb dX2_isSure_50 hl (k := 2) rfl (by rw [ex9]; rfl) (by decide) rfl (fun ls hl => ?_)
              refine lv_goto (tgt := 2) hx hb dX2_isSure_53 (by decide) ?_
              exact ih x9 ls (lv_sub hl [2, 0] rfl) hw
            · have hw := hw.2 c8
              refine lv_iconst (v := 0) hx hb dX2_isSure_48 (by decide) ?_
              exact W.zret (v := 0) hx hb hr rfl (fun t ht hW => ⟨0, rfl, hw, ht⟩) (fun _ h => by cases h) dX2_isSure_49
  unfold wpX2_isSure at hw
  refine lv_iconst (v := 0) hx hb dX2_isSure_0 (by decide) ?_
  refine lv_istore_n (lv' := [(1, .int 0), (0, .ref (ad 0))]) hx hb dX2_isSure_1 rfl hl (by decide) rfl (fun ls hl => ?_)
  obtain ⟨f1, hw⟩ := hw
  exact kB2 f1 0 ls (lv_sub hl [1, 0] rfl) hw
set_option maxHeartbeats 4000000 in
set_option maxRecDepth 100000 in
theorem mX2_leastWithout (l : Launch) (dC : Nat → ClassId) (dI : Nat → Nat → Nat) (cI cJ cT cII cJJ : ClassId) (ad : Nat → Nat) (n : Int32) (pa : Int32) (br : Int32) (th : Nat → Int32) (Post : Int32 → Prop) (hw : wpX2_leastWithout n th Post) : Met l yX2_leastWithout wsX2_leastWithout ({ frames := 0, cells := 0, slots := 0, locals := 0 } : Room) (va_Pc [.ref (ad 0)] (fun U => va_P (dC, dI) vwCl (wdX2_leastWithout cI cJ cT cII cJJ ad n pa br th) U.heap ∧ va_K (dC, dI) vwCl (bw_tys cI cJ cT cII cJJ) U)) (vp_Si Post) 0 0 (fun _ => False) := by
  refine Met.ofW (cc := cX2_leastWithout) (maxL := 2) (ret := (some .int)) (by decide) rfl ?_
  intro p e s m args below meth c s₁ B hml hv
  obtain ⟨rfl, hP, hK⟩ := hv
  have hx := B.exec
  have hb := B.bytes
  have hr := B.returns
  have hts := atoms_spec (ws := wsX2_leastWithout) B.pre
  have hown : s.vm.findClass RX2 = some m.cls := findClass_of_methodNamed B.named
  have hlocks := B.notSynchronized
  have hl := lv_entry ([.ref (ad 0)]) (n := 2) (Nat.le_of_ble_eq_true rfl)
  rw [lg_entry_eq]
  generalize (lg_sl ([.ref (ad 0)]) ++ List.replicate (2 - (lg_sl ([.ref (ad 0)])).length) Slot.unset).toArray = ls at hl ⊢
  have hl : lv_has ls 2 [(0, .ref (ad 0))] := hl
  have kB2 : ∀ f : Nat, ∀ (v1 : Int32), ∀ ls : Array Slot, lv_has ls 2 [(0, .ref (ad 0)), (1, .int v1)] → wpX2_leastWithout_B2 n th Post f v1 → W p l e (headSpec wsX2_leastWithout ({ frames := 0, cells := 0, slots := 0, locals := 0 } : Room)).room s m ([.ref (ad 0)] : List Value).toArray below meth c s.heap [] 0 0 (MQ below (vp_Si Post) ([.ref (ad 0)] : List Value).toArray s 0 0 (fun _ => False)) (F0 m 2 ls []) := by
    intro  f
    induction f with
    | zero => intro v1 ls hl hw; exact (show False from hw).elim
    | succ f ih =>
      intro v1 ls hl hw
      rw [wpX2_leastWithout_B2] at hw
      refine lv_iload_n hx hb dX2_leastWithout_2 rfl (lv_at hl 1 rfl) ?_
      refine lv_aload_n hx hb dX2_leastWithout_3 rfl (lv_at hl 0 rfl) ?_
      refine va_get (D := (dC, dI)) (ci := 2) (v := .int n) (C := RX2) (T := TX2) (N := 7) hx hb hts (fun w h => List.mem_cons_of_mem _ (List.mem_append_right _ h)) hown hK hP 0 rfl rfl 4 (by decide) (hts (.fieldLink RX2 26 "BidMarket$Market" "n" "I") (List.mem_of_getElem? (i := 1) rfl)) (fun _ h9 => h9) rfl dX2_leastWithout_4 ?_
      refine lv_icmp_ge (tgt := 27) hx hb dX2_leastWithout_7 (by decide) (fun c1 => ?_) (fun c1 => ?_)
      · have hw := hw.1 c1
        refine lv_iconst (v := (-1)) hx hb dX2_leastWithout_27 (by decide) ?_
        exact W.iret (v := (-1)) hx hb hr (fun t ht hW => ⟨(-1), rfl, hw, ht⟩) (fun _ h => by cases h) dX2_leastWithout_28
      · have hw := hw.2 c1
        refine lv_aload_n hx hb dX2_leastWithout_10 rfl (lv_at hl 0 rfl) ?_
        refine va_get (D := (dC, dI)) (ci := 2) (v := .ref (ad 1)) (C := RX2) (T := TX2) (N := 7) hx hb hts (fun w h => List.mem_cons_of_mem _ (List.mem_append_right _ h)) hown hK hP 0 rfl rfl 1 (by decide) (hts (.fieldLink RX2 16 "BidMarket$Market" "thingOf" "[I") (List.mem_of_getElem? (i := 2) rfl)) (fun _ h9 => h9) rfl dX2_leastWithout_11 ?_
        refine lv_iload_n hx hb dX2_leastWithout_14 rfl (lv_at hl 1 rfl) ?_
        have h2 := hw.1
        have hw := hw.2
        refine va_iald hx hb hK hP 1 0 rfl rfl h2 dX2_leastWithout_15 ?_
        refine lv_if_ge (tgt := 21) hx hb dX2_leastWithout_16 (by decide) (fun c3 => ?_) (fun c3 => ?_)
        · have hw := hw.1 c3
          obtain ⟨x4, ex4⟩ : ∃ y : Int32, y = v1 + 1 := ⟨_, rfl⟩
          have hw := hw x4 ex4
          refine lv_iinc (v := x4) (lv' := [(1, .int x4), (0, .ref (ad 0))]) hx hb dX2_leastWithout_21 hl (k := 1) rfl (by rw [ex4]; rfl) (by decide) rfl (fun ls hl => ?_)
          refine lv_goto (tgt := 2) hx hb dX2_leastWithout_24 (by decide) ?_
          exact ih x4 ls (lv_sub hl [1, 0] rfl) hw
        · have hw := hw.2 c3
          refine lv_iload_n hx hb dX2_leastWithout_19 rfl (lv_at hl 1 rfl) ?_
          exact W.iret (v := v1) hx hb hr (fun t ht hW => ⟨v1, rfl, hw, ht⟩) (fun _ h => by cases h) dX2_leastWithout_20
  unfold wpX2_leastWithout at hw
  refine lv_iconst (v := 0) hx hb dX2_leastWithout_0 (by decide) ?_
  refine lv_istore_n (lv' := [(1, .int 0), (0, .ref (ad 0))]) hx hb dX2_leastWithout_1 rfl hl (by decide) rfl (fun ls hl => ?_)
  obtain ⟨f1, hw⟩ := hw
  exact kB2 f1 0 ls (lv_sub hl [1, 0] rfl) hw
set_option maxHeartbeats 4000000 in
set_option maxRecDepth 100000 in
theorem mX2_ownersCounted (l : Launch) (dC : Nat → ClassId) (dI : Nat → Nat → Nat) (cI cJ cT cII cJJ : ClassId) (ad : Nat → Nat) (n : Int32) (pa : Int32) (br : Int32) (th : Nat → Int32) (Post : Int32 → Prop) (hw : wpX2_ownersCounted n th Post) : Met l yX2_ownersCounted wsX2_ownersCounted ({ frames := 0, cells := 0, slots := 0, locals := 0 } : Room) (va_Pc [.ref (ad 0)] (fun U => va_P (dC, dI) vwCl (wdX2_ownersCounted cI cJ cT cII cJJ ad n pa br th) U.heap ∧ va_K (dC, dI) vwCl (bw_tys cI cJ cT cII cJJ) U)) (vp_Si Post) 0 0 (fun _ => False) := by
  refine Met.ofW (cc := cX2_ownersCounted) (maxL := 3) (ret := (some .int)) (by decide) rfl ?_
  intro p e s m args below meth c s₁ B hml hv
  obtain ⟨rfl, hP, hK⟩ := hv
  have hx := B.exec
  have hb := B.bytes
  have hr := B.returns
  have hts := atoms_spec (ws := wsX2_ownersCounted) B.pre
  have hown : s.vm.findClass RX2 = some m.cls := findClass_of_methodNamed B.named
  have hlocks := B.notSynchronized
  have hl := lv_entry ([.ref (ad 0)]) (n := 3) (Nat.le_of_ble_eq_true rfl)
  rw [lg_entry_eq]
  generalize (lg_sl ([.ref (ad 0)]) ++ List.replicate (3 - (lg_sl ([.ref (ad 0)])).length) Slot.unset).toArray = ls at hl ⊢
  have hl : lv_has ls 3 [(0, .ref (ad 0))] := hl
  have kB24 : ∀ (K4 : Int32 → Int32 → Prop), (∀ (v1 : Int32) (v2 : Int32), ∀ ls : Array Slot, lv_has ls 3 [(0, .ref (ad 0)), (1, .int v1), (2, .int v2)] → K4 v1 v2 → W p l e (headSpec wsX2_ownersCounted ({ frames := 0, cells := 0, slots := 0, locals := 0 } : Room)).room s m ([.ref (ad 0)] : List Value).toArray below meth c s.heap [] 0 0 (MQ below (vp_Si Post) ([.ref (ad 0)] : List Value).toArray s 0 0 (fun _ => False)) (F0 m 4 ls [])) → ∀ (v1 : Int32) (v2 : Int32), ∀ ls : Array Slot, lv_has ls 3 [(0, .ref (ad 0)), (1, .int v1), (2, .int v2)] → wpX2_ownersCounted_B24 n th K4 Post v1 v2 → W p l e (headSpec wsX2_ownersCounted ({ frames := 0, cells := 0, slots := 0, locals := 0 } : Room)).room s m ([.ref (ad 0)] : List Value).toArray below meth c s.heap [] 0 0 (MQ below (vp_Si Post) ([.ref (ad 0)] : List Value).toArray s 0 0 (fun _ => False)) (F0 m 24 ls []) := by
    intro K4 hK4 v1 v2 ls hl hw
    unfold wpX2_ownersCounted_B24 at hw
    obtain ⟨x4, ex4⟩ : ∃ y : Int32, y = v2 + 1 := ⟨_, rfl⟩
    have hw := hw x4 ex4
    refine lv_iinc (v := x4) (lv' := [(2, .int x4), (0, .ref (ad 0)), (1, .int v1)]) hx hb dX2_ownersCounted_24 hl (k := 2) rfl (by rw [ex4]; rfl) (by decide) rfl (fun ls hl => ?_)
    refine lv_goto (tgt := 4) hx hb dX2_ownersCounted_27 (by decide) ?_
    exact hK4 v1 x4 ls (lv_sub hl [1, 2, 0] rfl) hw
  have kB4 : ∀ f : Nat, ∀ (v1 : Int32) (v2 : Int32), ∀ ls : Array Slot, lv_has ls 3 [(0, .ref (ad 0)), (1, .int v1), (2, .int v2)] → wpX2_ownersCounted_B4 n th Post f v1 v2 → W p l e (headSpec wsX2_ownersCounted ({ frames := 0, cells := 0, slots := 0, locals := 0 } : Room)).room s m ([.ref (ad 0)] : List Value).toArray below meth c s.heap [] 0 0 (MQ below (vp_Si Post) ([.ref (ad 0)] : List Value).toArray s 0 0 (fun _ => False)) (F0 m 4 ls []) := by
    intro  f
    induction f with
    | zero => intro v1 v2 ls hl hw; exact (show False from hw).elim
    | succ f ih =>
      intro v1 v2 ls hl hw
      rw [wpX2_ownersCounted_B4] at hw
      refine lv_iload_n hx hb dX2_ownersCounted_4 rfl (lv_at hl 2 rfl) ?_
      refine lv_aload_n hx hb dX2_ownersCounted_5 rfl (lv_at hl 0 rfl) ?_
      refine va_get (D := (dC, dI)) (ci := 2) (v := .int n) (C := RX2) (T := TX2) (N := 7) hx hb hts (fun w h => List.mem_cons_of_mem _ (List.mem_append_right _ h)) hown hK hP 0 rfl rfl 4 (by decide) (hts (.fieldLink RX2 26 "BidMarket$Market" "n" "I") (List.mem_of_getElem? (i := 1) rfl)) (fun _ h9 => h9) rfl dX2_ownersCounted_6 ?_
      refine lv_icmp_ge (tgt := 30) hx hb dX2_ownersCounted_9 (by decide) (fun c1 => ?_) (fun c1 => ?_)
      · have hw := hw.1 c1
        refine lv_iload_n hx hb dX2_ownersCounted_30 rfl (lv_at hl 1 rfl) ?_
        exact W.iret (v := v1) hx hb hr (fun t ht hW => ⟨v1, rfl, hw, ht⟩) (fun _ h => by cases h) dX2_ownersCounted_31
      · have hw := hw.2 c1
        refine lv_aload_n hx hb dX2_ownersCounted_12 rfl (lv_at hl 0 rfl) ?_
        refine va_get (D := (dC, dI)) (ci := 2) (v := .ref (ad 1)) (C := RX2) (T := TX2) (N := 7) hx hb hts (fun w h => List.mem_cons_of_mem _ (List.mem_append_right _ h)) hown hK hP 0 rfl rfl 1 (by decide) (hts (.fieldLink RX2 16 "BidMarket$Market" "thingOf" "[I") (List.mem_of_getElem? (i := 2) rfl)) (fun _ h9 => h9) rfl dX2_ownersCounted_13 ?_
        refine lv_iload_n hx hb dX2_ownersCounted_16 rfl (lv_at hl 2 rfl) ?_
        have h2 := hw.1
        have hw := hw.2
        refine va_iald hx hb hK hP 1 0 rfl rfl h2 dX2_ownersCounted_17 ?_
        refine lv_if_lt (tgt := 24) hx hb dX2_ownersCounted_18 (by decide) (fun c3 => ?_) (fun c3 => ?_)
        · have hw := hw.1 c3
          exact kB24 (wpX2_ownersCounted_B4 n th Post f) ih v1 v2 ls hl hw
        · have hw := hw.2 c3
          obtain ⟨x5, ex5⟩ : ∃ y : Int32, y = v1 + 1 := ⟨_, rfl⟩
          have hw := hw x5 ex5
          refine lv_iinc (v := x5) (lv' := [(1, .int x5), (0, .ref (ad 0)), (2, .int v2)]) hx hb dX2_ownersCounted_21 hl (k := 1) rfl (by rw [ex5]; rfl) (by decide) rfl (fun ls hl => ?_)
          exact kB24 (wpX2_ownersCounted_B4 n th Post f) ih x5 v2 ls (lv_sub hl [1, 0, 2] rfl) hw
  unfold wpX2_ownersCounted at hw
  refine lv_iconst (v := 0) hx hb dX2_ownersCounted_0 (by decide) ?_
  refine lv_istore_n (lv' := [(1, .int 0), (0, .ref (ad 0))]) hx hb dX2_ownersCounted_1 rfl hl (by decide) rfl (fun ls hl => ?_)
  refine lv_iconst (v := 0) hx hb dX2_ownersCounted_2 (by decide) ?_
  refine lv_istore_n (lv' := [(2, .int 0), (1, .int 0), (0, .ref (ad 0))]) hx hb dX2_ownersCounted_3 rfl hl (by decide) rfl (fun ls hl => ?_)
  obtain ⟨f1, hw⟩ := hw
  exact kB4 f1 0 0 ls (lv_sub hl [2, 1, 0] rfl) hw
set_option maxHeartbeats 4000000 in
set_option maxRecDepth 100000 in
theorem mX2_worthTogether (l : Launch) (dC : Nat → ClassId) (dI : Nat → Nat → Nat) (cI cJ cT cII cJJ : ClassId) (ad : Nat → Nat) (n : Int32) (pa : Int32) (br : Int32) (th : Nat → Int32) (w : Nat → Nat → Int32) (Post : Int32 → Prop) (hw : wpX2_worthTogether n th w Post) : Met l yX2_worthTogether wsX2_worthTogether ({ frames := 0, cells := 0, slots := 0, locals := 0 } : Room) (va_Pc [.ref (ad 0)] (fun U => va_P (dC, dI) vwCl (wdX2_worthTogether cI cJ cT cII cJJ ad n pa br th w) U.heap ∧ va_K (dC, dI) vwCl (bw_tys cI cJ cT cII cJJ) U)) (vp_Si Post) 0 0 (fun _ => False) := by
  refine Met.ofW (cc := cX2_worthTogether) (maxL := 3) (ret := (some .int)) (by decide) rfl ?_
  intro p e s m args below meth c s₁ B hml hv
  obtain ⟨rfl, hP, hK⟩ := hv
  have hx := B.exec
  have hb := B.bytes
  have hr := B.returns
  have hts := atoms_spec (ws := wsX2_worthTogether) B.pre
  have hown : s.vm.findClass RX2 = some m.cls := findClass_of_methodNamed B.named
  have hlocks := B.notSynchronized
  have hl := lv_entry ([.ref (ad 0)]) (n := 3) (Nat.le_of_ble_eq_true rfl)
  rw [lg_entry_eq]
  generalize (lg_sl ([.ref (ad 0)]) ++ List.replicate (3 - (lg_sl ([.ref (ad 0)])).length) Slot.unset).toArray = ls at hl ⊢
  have hl : lv_has ls 3 [(0, .ref (ad 0))] := hl
  have kB37 : ∀ (K4 : Int32 → Int32 → Prop), (∀ (v1 : Int32) (v2 : Int32), ∀ ls : Array Slot, lv_has ls 3 [(0, .ref (ad 0)), (1, .int v1), (2, .int v2)] → K4 v1 v2 → W p l e (headSpec wsX2_worthTogether ({ frames := 0, cells := 0, slots := 0, locals := 0 } : Room)).room s m ([.ref (ad 0)] : List Value).toArray below meth c s.heap [] 0 0 (MQ below (vp_Si Post) ([.ref (ad 0)] : List Value).toArray s 0 0 (fun _ => False)) (F0 m 4 ls [])) → ∀ (v1 : Int32) (v2 : Int32), ∀ ls : Array Slot, lv_has ls 3 [(0, .ref (ad 0)), (1, .int v1), (2, .int v2)] → wpX2_worthTogether_B37 n th w K4 Post v1 v2 → W p l e (headSpec wsX2_worthTogether ({ frames := 0, cells := 0, slots := 0, locals := 0 } : Room)).room s m ([.ref (ad 0)] : List Value).toArray below meth c s.heap [] 0 0 (MQ below (vp_Si Post) ([.ref (ad 0)] : List Value).toArray s 0 0 (fun _ => False)) (F0 m 37 ls []) := by
    intro K4 hK4 v1 v2 ls hl hw
    unfold wpX2_worthTogether_B37 at hw
    obtain ⟨x4, ex4⟩ : ∃ y : Int32, y = v2 + 1 := ⟨_, rfl⟩
    have hw := hw x4 ex4
    refine lv_iinc (v := x4) (lv' := [(2, .int x4), (0, .ref (ad 0)), (1, .int v1)]) hx hb dX2_worthTogether_37 hl (k := 2) rfl (by rw [ex4]; rfl) (by decide) rfl (fun ls hl => ?_)
    refine lv_goto (tgt := 4) hx hb dX2_worthTogether_40 (by decide) ?_
    exact hK4 v1 x4 ls (lv_sub hl [1, 2, 0] rfl) hw
  have kB4 : ∀ f : Nat, ∀ (v1 : Int32) (v2 : Int32), ∀ ls : Array Slot, lv_has ls 3 [(0, .ref (ad 0)), (1, .int v1), (2, .int v2)] → wpX2_worthTogether_B4 n th w Post f v1 v2 → W p l e (headSpec wsX2_worthTogether ({ frames := 0, cells := 0, slots := 0, locals := 0 } : Room)).room s m ([.ref (ad 0)] : List Value).toArray below meth c s.heap [] 0 0 (MQ below (vp_Si Post) ([.ref (ad 0)] : List Value).toArray s 0 0 (fun _ => False)) (F0 m 4 ls []) := by
    intro  f
    induction f with
    | zero => intro v1 v2 ls hl hw; exact (show False from hw).elim
    | succ f ih =>
      intro v1 v2 ls hl hw
      rw [wpX2_worthTogether_B4] at hw
      refine lv_iload_n hx hb dX2_worthTogether_4 rfl (lv_at hl 2 rfl) ?_
      refine lv_aload_n hx hb dX2_worthTogether_5 rfl (lv_at hl 0 rfl) ?_
      refine va_get (D := (dC, dI)) (ci := 2) (v := .int n) (C := RX2) (T := TX2) (N := 7) hx hb hts (fun w h => List.mem_cons_of_mem _ (List.mem_append_right _ h)) hown hK hP 0 rfl rfl 4 (by decide) (hts (.fieldLink RX2 26 "BidMarket$Market" "n" "I") (List.mem_of_getElem? (i := 1) rfl)) (fun _ h9 => h9) rfl dX2_worthTogether_6 ?_
      refine lv_icmp_ge (tgt := 43) hx hb dX2_worthTogether_9 (by decide) (fun c1 => ?_) (fun c1 => ?_)
      · have hw := hw.1 c1
        refine lv_iload_n hx hb dX2_worthTogether_43 rfl (lv_at hl 1 rfl) ?_
        exact W.iret (v := v1) hx hb hr (fun t ht hW => ⟨v1, rfl, hw, ht⟩) (fun _ h => by cases h) dX2_worthTogether_44
      · have hw := hw.2 c1
        refine lv_aload_n hx hb dX2_worthTogether_12 rfl (lv_at hl 0 rfl) ?_
        refine va_get (D := (dC, dI)) (ci := 2) (v := .ref (ad 1)) (C := RX2) (T := TX2) (N := 7) hx hb hts (fun w h => List.mem_cons_of_mem _ (List.mem_append_right _ h)) hown hK hP 0 rfl rfl 1 (by decide) (hts (.fieldLink RX2 16 "BidMarket$Market" "thingOf" "[I") (List.mem_of_getElem? (i := 2) rfl)) (fun _ h9 => h9) rfl dX2_worthTogether_13 ?_
        refine lv_iload_n hx hb dX2_worthTogether_16 rfl (lv_at hl 2 rfl) ?_
        have h2 := hw.1
        have hw := hw.2
        refine va_iald hx hb hK hP 1 0 rfl rfl h2 dX2_worthTogether_17 ?_
        refine lv_if_lt (tgt := 37) hx hb dX2_worthTogether_18 (by decide) (fun c3 => ?_) (fun c3 => ?_)
        · have hw := hw.1 c3
          exact kB37 (wpX2_worthTogether_B4 n th w Post f) ih v1 v2 ls hl hw
        · have hw := hw.2 c3
          refine lv_iload_n hx hb dX2_worthTogether_21 rfl (lv_at hl 1 rfl) ?_
          refine lv_aload_n hx hb dX2_worthTogether_22 rfl (lv_at hl 0 rfl) ?_
          refine va_get (D := (dC, dI)) (ci := 2) (v := .ref (ad 4)) (C := RX2) (T := TX2) (N := 7) hx hb hts (fun w h => List.mem_cons_of_mem _ (List.mem_append_right _ h)) hown hK hP 0 rfl rfl 0 (by decide) (hts (.fieldLink RX2 11 "BidMarket$Market" "worths" "[[I") (List.mem_of_getElem? (i := 3) rfl)) (fun _ h9 => h9) rfl dX2_worthTogether_23 ?_
          refine lv_iload_n hx hb dX2_worthTogether_26 rfl (lv_at hl 2 rfl) ?_
          have h5 := hw.1
          have hw := hw.2
          have q6 := bw_lt h5
          refine bw_aald (g := fun i => ad (i + 5)) (b := ad (v2.toNatClampNeg + 5)) hx hb hK hP 2 3 rfl rfl rfl (fun k h => if_pos h) h5 rfl dX2_worthTogether_27 ?_
          refine lv_aload_n hx hb dX2_worthTogether_28 rfl (lv_at hl 0 rfl) ?_
          refine va_get (D := (dC, dI)) (ci := 2) (v := .ref (ad 1)) (C := RX2) (T := TX2) (N := 7) hx hb hts (fun w h => List.mem_cons_of_mem _ (List.mem_append_right _ h)) hown hK hP 0 rfl rfl 1 (by decide) (hts (.fieldLink RX2 16 "BidMarket$Market" "thingOf" "[I") (List.mem_of_getElem? (i := 2) rfl)) (fun _ h9 => h9) rfl dX2_worthTogether_29 ?_
          refine lv_iload_n hx hb dX2_worthTogether_32 rfl (lv_at hl 2 rfl) ?_
          have h7 := hw.1
          have hw := hw.2
          refine va_iald hx hb hK hP 1 0 rfl rfl h7 dX2_worthTogether_33 ?_
          have h8 := hw.1
          have hw := hw.2
          have g9 : ∀ k, k < 8 → ((wdX2_worthTogether cI cJ cT cII cJJ ad n pa br th w))[3 + k]? = some (ad (k + 5), .inl (cI, 8, .inl (w k))) := bw_all8 rfl rfl rfl rfl rfl rfl rfl rfl
          refine va_iald hx hb hK hP (3 + v2.toNatClampNeg) 0 (g9 _ q6) rfl h8 dX2_worthTogether_34 ?_
          refine lv_iadd hx hb dX2_worthTogether_35 ?_
          refine lv_topi (fun x10 ex10 => ?_)
          have hw := hw x10 ex10
          refine lv_istore_n (lv' := [(1, .int x10), (0, .ref (ad 0)), (2, .int v2)]) hx hb dX2_worthTogether_36 rfl hl (by decide) rfl (fun ls hl => ?_)
          exact kB37 (wpX2_worthTogether_B4 n th w Post f) ih x10 v2 ls (lv_sub hl [1, 0, 2] rfl) hw
  unfold wpX2_worthTogether at hw
  refine lv_iconst (v := 0) hx hb dX2_worthTogether_0 (by decide) ?_
  refine lv_istore_n (lv' := [(1, .int 0), (0, .ref (ad 0))]) hx hb dX2_worthTogether_1 rfl hl (by decide) rfl (fun ls hl => ?_)
  refine lv_iconst (v := 0) hx hb dX2_worthTogether_2 (by decide) ?_
  refine lv_istore_n (lv' := [(2, .int 0), (1, .int 0), (0, .ref (ad 0))]) hx hb dX2_worthTogether_3 rfl hl (by decide) rfl (fun ls hl => ?_)
  obtain ⟨f1, hw⟩ := hw
  exact kB4 f1 0 0 ls (lv_sub hl [2, 1, 0] rfl) hw
set_option maxHeartbeats 4000000 in
set_option maxRecDepth 100000 in
theorem mX2_pricesTogether (l : Launch) (dC : Nat → ClassId) (dI : Nat → Nat → Nat) (cI cJ cT cII cJJ : ClassId) (ad : Nat → Nat) (n : Int32) (pa : Int32) (br : Int32) (pr : Nat → Int32) (Post : Int32 → Prop) (hw : wpX2_pricesTogether n pr Post) : Met l yX2_pricesTogether wsX2_pricesTogether ({ frames := 0, cells := 0, slots := 0, locals := 0 } : Room) (va_Pc [.ref (ad 0)] (fun U => va_P (dC, dI) vwCl (wdX2_pricesTogether cI cJ cT cII cJJ ad n pa br pr) U.heap ∧ va_K (dC, dI) vwCl (bw_tys cI cJ cT cII cJJ) U)) (vp_Si Post) 0 0 (fun _ => False) := by
  refine Met.ofW (cc := cX2_pricesTogether) (maxL := 3) (ret := (some .int)) (by decide) rfl ?_
  intro p e s m args below meth c s₁ B hml hv
  obtain ⟨rfl, hP, hK⟩ := hv
  have hx := B.exec
  have hb := B.bytes
  have hr := B.returns
  have hts := atoms_spec (ws := wsX2_pricesTogether) B.pre
  have hown : s.vm.findClass RX2 = some m.cls := findClass_of_methodNamed B.named
  have hlocks := B.notSynchronized
  have hl := lv_entry ([.ref (ad 0)]) (n := 3) (Nat.le_of_ble_eq_true rfl)
  rw [lg_entry_eq]
  generalize (lg_sl ([.ref (ad 0)]) ++ List.replicate (3 - (lg_sl ([.ref (ad 0)])).length) Slot.unset).toArray = ls at hl ⊢
  have hl : lv_has ls 3 [(0, .ref (ad 0))] := hl
  have kB4 : ∀ f : Nat, ∀ (v1 : Int32) (v2 : Int32), ∀ ls : Array Slot, lv_has ls 3 [(0, .ref (ad 0)), (1, .int v1), (2, .int v2)] → wpX2_pricesTogether_B4 n pr Post f v1 v2 → W p l e (headSpec wsX2_pricesTogether ({ frames := 0, cells := 0, slots := 0, locals := 0 } : Room)).room s m ([.ref (ad 0)] : List Value).toArray below meth c s.heap [] 0 0 (MQ below (vp_Si Post) ([.ref (ad 0)] : List Value).toArray s 0 0 (fun _ => False)) (F0 m 4 ls []) := by
    intro  f
    induction f with
    | zero => intro v1 v2 ls hl hw; exact (show False from hw).elim
    | succ f ih =>
      intro v1 v2 ls hl hw
      rw [wpX2_pricesTogether_B4] at hw
      refine lv_iload_n hx hb dX2_pricesTogether_4 rfl (lv_at hl 2 rfl) ?_
      refine lv_aload_n hx hb dX2_pricesTogether_5 rfl (lv_at hl 0 rfl) ?_
      refine va_get (D := (dC, dI)) (ci := 2) (v := .int n) (C := RX2) (T := TX2) (N := 7) hx hb hts (fun w h => List.mem_cons_of_mem _ (List.mem_append_right _ h)) hown hK hP 0 rfl rfl 4 (by decide) (hts (.fieldLink RX2 26 "BidMarket$Market" "n" "I") (List.mem_of_getElem? (i := 1) rfl)) (fun _ h9 => h9) rfl dX2_pricesTogether_6 ?_
      refine lv_icmp_ge (tgt := 27) hx hb dX2_pricesTogether_9 (by decide) (fun c1 => ?_) (fun c1 => ?_)
      · have hw := hw.1 c1
        refine lv_iload_n hx hb dX2_pricesTogether_27 rfl (lv_at hl 1 rfl) ?_
        exact W.iret (v := v1) hx hb hr (fun t ht hW => ⟨v1, rfl, hw, ht⟩) (fun _ h => by cases h) dX2_pricesTogether_28
      · have hw := hw.2 c1
        refine lv_iload_n hx hb dX2_pricesTogether_12 rfl (lv_at hl 1 rfl) ?_
        refine lv_aload_n hx hb dX2_pricesTogether_13 rfl (lv_at hl 0 rfl) ?_
        refine va_get (D := (dC, dI)) (ci := 2) (v := .ref (ad 3)) (C := RX2) (T := TX2) (N := 7) hx hb hts (fun w h => List.mem_cons_of_mem _ (List.mem_append_right _ h)) hown hK hP 0 rfl rfl 3 (by decide) (hts (.fieldLink RX2 23 "BidMarket$Market" "prices" "[I") (List.mem_of_getElem? (i := 2) rfl)) (fun _ h9 => h9) rfl dX2_pricesTogether_14 ?_
        refine lv_iload_n hx hb dX2_pricesTogether_17 rfl (lv_at hl 2 rfl) ?_
        have h2 := hw.1
        have hw := hw.2
        refine va_iald hx hb hK hP 1 0 rfl rfl h2 dX2_pricesTogether_18 ?_
        refine lv_iadd hx hb dX2_pricesTogether_19 ?_
        refine lv_topi (fun x3 ex3 => ?_)
        have hw := hw x3 ex3
        refine lv_istore_n (lv' := [(1, .int x3), (0, .ref (ad 0)), (2, .int v2)]) hx hb dX2_pricesTogether_20 rfl hl (by decide) rfl (fun ls hl => ?_)
        obtain ⟨x4, ex4⟩ : ∃ y : Int32, y = v2 + 1 := ⟨_, rfl⟩
        have hw := hw x4 ex4
        refine lv_iinc (v := x4) (lv' := [(2, .int x4), (1, .int x3), (0, .ref (ad 0))]) hx hb dX2_pricesTogether_21 hl (k := 2) rfl (by rw [ex4]; rfl) (by decide) rfl (fun ls hl => ?_)
        refine lv_goto (tgt := 4) hx hb dX2_pricesTogether_24 (by decide) ?_
        exact ih x3 x4 ls (lv_sub hl [2, 1, 0] rfl) hw
  unfold wpX2_pricesTogether at hw
  refine lv_iconst (v := 0) hx hb dX2_pricesTogether_0 (by decide) ?_
  refine lv_istore_n (lv' := [(1, .int 0), (0, .ref (ad 0))]) hx hb dX2_pricesTogether_1 rfl hl (by decide) rfl (fun ls hl => ?_)
  refine lv_iconst (v := 0) hx hb dX2_pricesTogether_2 (by decide) ?_
  refine lv_istore_n (lv' := [(2, .int 0), (1, .int 0), (0, .ref (ad 0))]) hx hb dX2_pricesTogether_3 rfl hl (by decide) rfl (fun ls hl => ?_)
  obtain ⟨f1, hw⟩ := hw
  exact kB4 f1 0 0 ls (lv_sub hl [2, 1, 0] rfl) hw
set_option maxHeartbeats 4000000 in
set_option maxRecDepth 100000 in
theorem mJ6_bitCount_0f7a4 (l : Launch) (dC : Nat → ClassId) (dI : Nat → Nat → Nat) (cI cJ cT cII cJJ : ClassId) (a0 : Int32) (Post : Int32 → Prop) (hw : wpJ6_bitCount_0f7a4 a0 Post) : Met l yJ6_bitCount_0f7a4 wsJ6_bitCount_0f7a4 ({ frames := 0, cells := 0, slots := 0, locals := 0 } : Room) (va_Pc [.int a0] (fun U => va_P (dC, dI) vwCl [] U.heap ∧ va_K (dC, dI) vwCl (bw_tys cI cJ cT cII cJJ) U)) (vp_Si Post) 0 0 (fun _ => False) := by
  refine Met.ofW (cc := cJ6_bitCount_0f7a4) (maxL := 1) (ret := (some .int)) (by decide) rfl ?_
  intro p e s m args below meth c s₁ B hml hv
  obtain ⟨rfl, hP, hK⟩ := hv
  have hx := B.exec
  have hb := B.bytes
  have hr := B.returns
  have hts := atoms_spec (ws := wsJ6_bitCount_0f7a4) B.pre
  have hown : s.vm.findClass RJ6 = some m.cls := findClass_of_methodNamed B.named
  have hlocks := B.notSynchronized
  have hl := lv_entry ([.int a0]) (n := 1) (Nat.le_of_ble_eq_true rfl)
  rw [lg_entry_eq]
  generalize (lg_sl ([.int a0]) ++ List.replicate (1 - (lg_sl ([.int a0])).length) Slot.unset).toArray = ls at hl ⊢
  have hl : lv_has ls 1 [(0, .int a0)] := hl
  unfold wpJ6_bitCount_0f7a4 at hw
  refine lv_iload_n hx hb dJ6_bitCount_0f7a4_0 rfl (lv_at hl 0 rfl) ?_
  refine lv_iload_n hx hb dJ6_bitCount_0f7a4_1 rfl (lv_at hl 0 rfl) ?_
  refine lv_iconst (v := 1) hx hb dJ6_bitCount_0f7a4_2 (by decide) ?_
  refine lv_iushr hx hb dJ6_bitCount_0f7a4_3 rfl ?_
  refine lv_ldcw hx hb hown (hts (.constant RJ6 265 (1431655765)) (List.mem_of_getElem? (i := 1) rfl)) dJ6_bitCount_0f7a4_4 ?_
  refine lv_iand hx hb dJ6_bitCount_0f7a4_7 ?_
  refine lv_isub hx hb dJ6_bitCount_0f7a4_8 ?_
  refine lv_topi (fun x1 ex1 => ?_)
  have hw := hw x1 ex1
  refine lv_istore_n (lv' := [(0, .int x1)]) hx hb dJ6_bitCount_0f7a4_9 rfl hl (by decide) rfl (fun ls hl => ?_)
  refine lv_iload_n hx hb dJ6_bitCount_0f7a4_10 rfl (lv_at hl 0 rfl) ?_
  refine lv_ldcw hx hb hown (hts (.constant RJ6 266 (858993459)) (List.mem_of_getElem? (i := 2) rfl)) dJ6_bitCount_0f7a4_11 ?_
  refine lv_iand hx hb dJ6_bitCount_0f7a4_14 ?_
  refine lv_iload_n hx hb dJ6_bitCount_0f7a4_15 rfl (lv_at hl 0 rfl) ?_
  refine lv_iconst (v := 2) hx hb dJ6_bitCount_0f7a4_16 (by decide) ?_
  refine lv_iushr hx hb dJ6_bitCount_0f7a4_17 rfl ?_
  refine lv_ldcw hx hb hown (hts (.constant RJ6 266 (858993459)) (List.mem_of_getElem? (i := 2) rfl)) dJ6_bitCount_0f7a4_18 ?_
  refine lv_iand hx hb dJ6_bitCount_0f7a4_21 ?_
  refine lv_iadd hx hb dJ6_bitCount_0f7a4_22 ?_
  refine lv_topi (fun x2 ex2 => ?_)
  have hw := hw x2 ex2
  refine lv_istore_n (lv' := [(0, .int x2)]) hx hb dJ6_bitCount_0f7a4_23 rfl hl (by decide) rfl (fun ls hl => ?_)
  refine lv_iload_n hx hb dJ6_bitCount_0f7a4_24 rfl (lv_at hl 0 rfl) ?_
  refine lv_iload_n hx hb dJ6_bitCount_0f7a4_25 rfl (lv_at hl 0 rfl) ?_
  refine lv_iconst (v := 4) hx hb dJ6_bitCount_0f7a4_26 (by decide) ?_
  refine lv_iushr hx hb dJ6_bitCount_0f7a4_27 rfl ?_
  refine lv_iadd hx hb dJ6_bitCount_0f7a4_28 ?_
  refine lv_ldcw hx hb hown (hts (.constant RJ6 267 (252645135)) (List.mem_of_getElem? (i := 3) rfl)) dJ6_bitCount_0f7a4_29 ?_
  refine lv_iand hx hb dJ6_bitCount_0f7a4_32 ?_
  refine lv_topi (fun x3 ex3 => ?_)
  have hw := hw x3 ex3
  refine lv_istore_n (lv' := [(0, .int x3)]) hx hb dJ6_bitCount_0f7a4_33 rfl hl (by decide) rfl (fun ls hl => ?_)
  refine lv_iload_n hx hb dJ6_bitCount_0f7a4_34 rfl (lv_at hl 0 rfl) ?_
  refine lv_iload_n hx hb dJ6_bitCount_0f7a4_35 rfl (lv_at hl 0 rfl) ?_
  refine lv_bipush (v := 8) hx hb dJ6_bitCount_0f7a4_36 (by decide) ?_
  refine lv_iushr hx hb dJ6_bitCount_0f7a4_38 rfl ?_
  refine lv_iadd hx hb dJ6_bitCount_0f7a4_39 ?_
  refine lv_topi (fun x4 ex4 => ?_)
  have hw := hw x4 ex4
  refine lv_istore_n (lv' := [(0, .int x4)]) hx hb dJ6_bitCount_0f7a4_40 rfl hl (by decide) rfl (fun ls hl => ?_)
  refine lv_iload_n hx hb dJ6_bitCount_0f7a4_41 rfl (lv_at hl 0 rfl) ?_
  refine lv_iload_n hx hb dJ6_bitCount_0f7a4_42 rfl (lv_at hl 0 rfl) ?_
  refine lv_bipush (v := 16) hx hb dJ6_bitCount_0f7a4_43 (by decide) ?_
  refine lv_iushr hx hb dJ6_bitCount_0f7a4_45 rfl ?_
  refine lv_iadd hx hb dJ6_bitCount_0f7a4_46 ?_
  refine lv_topi (fun x5 ex5 => ?_)
  have hw := hw x5 ex5
  refine lv_istore_n (lv' := [(0, .int x5)]) hx hb dJ6_bitCount_0f7a4_47 rfl hl (by decide) rfl (fun ls hl => ?_)
  refine lv_iload_n hx hb dJ6_bitCount_0f7a4_48 rfl (lv_at hl 0 rfl) ?_
  refine lv_bipush (v := 63) hx hb dJ6_bitCount_0f7a4_49 (by decide) ?_
  refine lv_iand hx hb dJ6_bitCount_0f7a4_51 ?_
  exact W.iret (v := x5 &&& 63) hx hb hr (fun t ht hW => ⟨x5 &&& 63, rfl, hw, ht⟩) (fun _ h => by cases h) dJ6_bitCount_0f7a4_52
set_option maxHeartbeats 4000000 in
set_option maxRecDepth 100000 in
theorem mX2_forbiddenCounted (l : Launch) (dC : Nat → ClassId) (dI : Nat → Nat → Nat) (cI cJ cT cII cJJ : ClassId) (ad : Nat → Nat) (n : Int32) (pa : Int32) (br : Int32) (w : Nat → Nat → Int32) (Post : Int32 → Prop) (hw : wpX2_forbiddenCounted n w Post) : Met l yX2_forbiddenCounted wsX2_forbiddenCounted ({ frames := 2, cells := 0, slots := 0, locals := 45 } : Room) (va_Pc [.ref (ad 0)] (fun U => va_P (dC, dI) vwCl (wdX2_forbiddenCounted cI cJ cT cII cJJ ad n pa br w) U.heap ∧ va_K (dC, dI) vwCl (bw_tys cI cJ cT cII cJJ) U)) (vp_Si Post) 0 0 (fun _ => False) := by
  refine Met.ofW (cc := cX2_forbiddenCounted) (maxL := 3) (ret := (some .int)) (by decide) rfl ?_
  intro p e s m args below meth c s₁ B hml hv
  obtain ⟨rfl, hP, hK⟩ := hv
  have hx := B.exec
  have hb := B.bytes
  have hr := B.returns
  have hts := atoms_spec (ws := wsX2_forbiddenCounted) B.pre
  have hown : s.vm.findClass RX2 = some m.cls := findClass_of_methodNamed B.named
  have hlocks := B.notSynchronized
  have hl := lv_entry ([.ref (ad 0)]) (n := 3) (Nat.le_of_ble_eq_true rfl)
  rw [lg_entry_eq]
  generalize (lg_sl ([.ref (ad 0)]) ++ List.replicate (3 - (lg_sl ([.ref (ad 0)])).length) Slot.unset).toArray = ls at hl ⊢
  have hl : lv_has ls 3 [(0, .ref (ad 0))] := hl
  have kB4 : ∀ f : Nat, ∀ (v1 : Int32) (v2 : Int32), ∀ ls : Array Slot, lv_has ls 3 [(0, .ref (ad 0)), (1, .int v1), (2, .int v2)] → wpX2_forbiddenCounted_B4 n w Post f v1 v2 → W p l e (headSpec wsX2_forbiddenCounted ({ frames := 2, cells := 0, slots := 0, locals := 45 } : Room)).room s m ([.ref (ad 0)] : List Value).toArray below meth c s.heap [] 0 0 (MQ below (vp_Si Post) ([.ref (ad 0)] : List Value).toArray s 0 0 (fun _ => False)) (F0 m 4 ls []) := by
    intro  f
    induction f with
    | zero => intro v1 v2 ls hl hw; exact (show False from hw).elim
    | succ f ih =>
      intro v1 v2 ls hl hw
      rw [wpX2_forbiddenCounted_B4] at hw
      refine lv_iload_n hx hb dX2_forbiddenCounted_4 rfl (lv_at hl 2 rfl) ?_
      refine lv_aload_n hx hb dX2_forbiddenCounted_5 rfl (lv_at hl 0 rfl) ?_
      refine va_get (D := (dC, dI)) (ci := 2) (v := .int n) (C := RX2) (T := TX2) (N := 7) hx hb hts (fun w h => List.mem_cons_of_mem _ (List.mem_append_right _ h)) hown hK hP 0 rfl rfl 4 (by decide) (hts (.fieldLink RX2 26 "BidMarket$Market" "n" "I") (List.mem_of_getElem? (i := 1) rfl)) (fun _ h9 => h9) rfl dX2_forbiddenCounted_6 ?_
      refine lv_icmp_ge (tgt := 34) hx hb dX2_forbiddenCounted_9 (by decide) (fun c1 => ?_) (fun c1 => ?_)
      · have hw := hw.1 c1
        refine lv_iload_n hx hb dX2_forbiddenCounted_34 rfl (lv_at hl 1 rfl) ?_
        exact W.iret (v := v1) hx hb hr (fun t ht hW => ⟨v1, rfl, hw, ht⟩) (fun _ h => by cases h) dX2_forbiddenCounted_35
      · have hw := hw.2 c1
        refine lv_iload_n hx hb dX2_forbiddenCounted_12 rfl (lv_at hl 1 rfl) ?_
        refine lv_aload_n hx hb dX2_forbiddenCounted_13 rfl (lv_at hl 0 rfl) ?_
        refine va_get (D := (dC, dI)) (ci := 2) (v := .int n) (C := RX2) (T := TX2) (N := 7) hx hb hts (fun w h => List.mem_cons_of_mem _ (List.mem_append_right _ h)) hown hK hP 0 rfl rfl 4 (by decide) (hts (.fieldLink RX2 26 "BidMarket$Market" "n" "I") (List.mem_of_getElem? (i := 1) rfl)) (fun _ h9 => h9) rfl dX2_forbiddenCounted_14 ?_
        refine lv_aload_n hx hb dX2_forbiddenCounted_17 rfl (lv_at hl 0 rfl) ?_
        refine lv_iload_n hx hb dX2_forbiddenCounted_18 rfl (lv_at hl 2 rfl) ?_
        refine bw_pvi (wc := (wdX2_allowedTo cI cJ cT cII cJJ ad n pa br w)) (As := [.int v2]) (rest := [.int n, .int v1]) ⟨hx, hb, hml, hown, hts⟩ (mX2_allowedTo l dC dI cI cJ cT cII cJJ ad n pa br w v2 _ hw) (cwV 1 hts gX2_forbiddenCounted_X2_allowedTo rfl rfl rfl hdX2_allowedTo ⟨Nat.le_of_ble_eq_true rfl, Nat.le_of_ble_eq_true rfl⟩) hK hP [0, 1, 2, 3, 4, 5, 6, 7, 8, 9] rfl rfl rfl rfl rfl hl.1 rfl (Nat.le_of_ble_eq_true rfl) ⟨Nat.le_of_ble_eq_true rfl, Nat.le_of_ble_eq_true rfl⟩ dX2_forbiddenCounted_19 (fun r2 hw => ?_)
        refine bw_psi (wc := []) (As := [.int r2]) (rest := [.int n, .int v1]) ⟨hx, hb, hml, hown, hts⟩ (mJ6_bitCount_0f7a4 l dC dI cI cJ cT cII cJJ r2 _ hw) (va_cwS 1 hts gX2_forbiddenCounted_J6_bitCount_0f7a4 rfl rfl rfl hdJ6_bitCount_0f7a4 ⟨Nat.le_of_ble_eq_true rfl, Nat.le_of_ble_eq_true rfl⟩) hK hP [] rfl rfl hl.1 rfl (Nat.le_of_ble_eq_true rfl) ⟨Nat.le_of_ble_eq_true rfl, Nat.le_of_ble_eq_true rfl⟩ dX2_forbiddenCounted_22 (fun r3 hw => ?_)
        refine lv_isub hx hb dX2_forbiddenCounted_25 ?_
        refine lv_iadd hx hb dX2_forbiddenCounted_26 ?_
        refine lv_topi (fun x4 ex4 => ?_)
        have hw := hw x4 ex4
        refine lv_istore_n (lv' := [(1, .int x4), (0, .ref (ad 0)), (2, .int v2)]) hx hb dX2_forbiddenCounted_27 rfl hl (by decide) rfl (fun ls hl => ?_)
        obtain ⟨x5, ex5⟩ : ∃ y : Int32, y = v2 + 1 := ⟨_, rfl⟩
        have hw := hw x5 ex5
        refine lv_iinc (v := x5) (lv' := [(2, .int x5), (1, .int x4), (0, .ref (ad 0))]) hx hb dX2_forbiddenCounted_28 hl (k := 2) rfl (by rw [ex5]; rfl) (by decide) rfl (fun ls hl => ?_)
        refine lv_goto (tgt := 4) hx hb dX2_forbiddenCounted_31 (by decide) ?_
        exact ih x4 x5 ls (lv_sub hl [2, 1, 0] rfl) hw
  unfold wpX2_forbiddenCounted at hw
  refine lv_iconst (v := 0) hx hb dX2_forbiddenCounted_0 (by decide) ?_
  refine lv_istore_n (lv' := [(1, .int 0), (0, .ref (ad 0))]) hx hb dX2_forbiddenCounted_1 rfl hl (by decide) rfl (fun ls hl => ?_)
  refine lv_iconst (v := 0) hx hb dX2_forbiddenCounted_2 (by decide) ?_
  refine lv_istore_n (lv' := [(2, .int 0), (1, .int 0), (0, .ref (ad 0))]) hx hb dX2_forbiddenCounted_3 rfl hl (by decide) rfl (fun ls hl => ?_)
  obtain ⟨f1, hw⟩ := hw
  exact kB4 f1 0 0 ls (lv_sub hl [2, 1, 0] rfl) hw
