set_option maxHeartbeats 4000000 in
set_option maxRecDepth 100000 in
theorem mX8_in (l : Launch) (dC : Nat → ClassId) (dI : Nat → Nat → Nat) (cI cJ cT cII cJJ : ClassId) (a0 : Int64) (a2 : Int64) (a4 : Int64) (Post : Int32 → Prop) (hw : wpX8_in a0 a2 a4 Post) : Met l yX8_in wsX8_in ({ frames := 0, cells := 0, slots := 0, locals := 0 } : Room) (va_Pc [.long a0, .long a2, .long a4] (fun U => va_P (dC, dI) vwCl [] U.heap ∧ va_K (dC, dI) vwCl (bw_tys cI cJ cT cII cJJ) U)) (vp_Si Post) 0 0 (fun _ => False) := by
  refine Met.ofW (cc := cX8_in) (maxL := 6) (ret := (some .boolean)) (by decide) rfl ?_
  intro p e s m args below meth c s₁ B hml hv
  obtain ⟨rfl, hP, hK⟩ := hv
  have hx := B.exec
  have hb := B.bytes
  have hr := B.returns
  have hts := atoms_spec (ws := wsX8_in) B.pre
  have hown : s.vm.findClass RX8 = some m.cls := findClass_of_methodNamed B.named
  have hlocks := B.notSynchronized
  have hl := lv_entry ([.long a0, .long a2, .long a4]) (n := 6) (Nat.le_of_ble_eq_true rfl)
  rw [lg_entry_eq]
  generalize (lg_sl ([.long a0, .long a2, .long a4]) ++ List.replicate (6 - (lg_sl ([.long a0, .long a2, .long a4])).length) Slot.unset).toArray = ls at hl ⊢
  have hl : lv_has ls 6 [(0, .long a0), (2, .long a2), (4, .long a4)] := hl
  unfold wpX8_in at hw
  refine lv_lload_n hx hb dX8_in_0 rfl (lv_at hl 0 rfl) ?_
  refine lv_lload_n hx hb dX8_in_1 rfl (lv_at hl 1 rfl) ?_
  refine W.lcmp hx hb dX8_in_2 ?_
  refine lv_if_lt (tgt := 17) hx hb dX8_in_3 (by decide) (fun c1 => ?_) (fun c1 => ?_)
  · have hw := hw.1 c1
    refine lv_iconst (v := 0) hx hb dX8_in_17 (by decide) ?_
    exact W.zret (v := 0) hx hb hr rfl (fun t ht hW => ⟨0, rfl, hw, ht⟩) (fun _ h => by cases h) dX8_in_18
  · have hw := hw.2 c1
    refine lv_lload_n hx hb dX8_in_6 rfl (lv_at hl 0 rfl) ?_
    refine lv_lload hx hb dX8_in_7 (lv_at hl 2 rfl) ?_
    refine W.lcmp hx hb dX8_in_9 ?_
    refine lv_if_gt (tgt := 17) hx hb dX8_in_10 (by decide) (fun c2 => ?_) (fun c2 => ?_)
    · have hw := hw.1 c2
      refine lv_iconst (v := 0) hx hb dX8_in_17 (by decide) ?_
      exact W.zret (v := 0) hx hb hr rfl (fun t ht hW => ⟨0, rfl, hw, ht⟩) (fun _ h => by cases h) dX8_in_18
    · have hw := hw.2 c2
      refine lv_iconst (v := 1) hx hb dX8_in_13 (by decide) ?_
      refine lv_goto (tgt := 18) hx hb dX8_in_14 (by decide) ?_
      exact W.zret (v := 1) hx hb hr rfl (fun t ht hW => ⟨1, rfl, hw, ht⟩) (fun _ h => by cases h) dX8_in_18
set_option maxHeartbeats 4000000 in
set_option maxRecDepth 100000 in
theorem mX8_isOne (l : Launch) (dC : Nat → ClassId) (dI : Nat → Nat → Nat) (cI cJ cT cII cJJ : ClassId) (ad : Nat → Nat) (mN : Int32) (mStep : Int32) (mSeen : Int32) (mPlans : Int32) (mBooks : Int32) (mTexted : Int32) (mIsKept : Int32) (mSpot : Int32) (mKeeps : Int32) (mMindStep : Int32) (mAt : Int32) (mWhat : Int32) (mWhole : Int32) (mIsBroken : Int32) (a1 : Int32) (Post : Int32 → Prop) (hw : wpX8_isOne mN a1 Post) : Met l yX8_isOne wsX8_isOne ({ frames := 1, cells := 0, slots := 0, locals := 25 } : Room) (va_Pc [.ref (ad 0), .int a1] (fun U => va_P (dC, dI) vwCl (wdX8_isOne cI cJ cT cII cJJ ad mN mStep mSeen mPlans mBooks mTexted mIsKept mSpot mKeeps mMindStep mAt mWhat mWhole mIsBroken) U.heap ∧ va_K (dC, dI) vwCl (bw_tys cI cJ cT cII cJJ) U)) (vp_Si Post) 0 0 (fun _ => False) := by
  refine Met.ofW (cc := cX8_isOne) (maxL := 2) (ret := (some .boolean)) (by decide) rfl ?_
  intro p e s m args below meth c s₁ B hml hv
  obtain ⟨rfl, hP, hK⟩ := hv
  have hx := B.exec
  have hb := B.bytes
  have hr := B.returns
  have hts := atoms_spec (ws := wsX8_isOne) B.pre
  have hown : s.vm.findClass RX8 = some m.cls := findClass_of_methodNamed B.named
  have hlocks := B.notSynchronized
  have hl := lv_entry ([.ref (ad 0), .int a1]) (n := 2) (Nat.le_of_ble_eq_true rfl)
  rw [lg_entry_eq]
  generalize (lg_sl ([.ref (ad 0), .int a1]) ++ List.replicate (2 - (lg_sl ([.ref (ad 0), .int a1])).length) Slot.unset).toArray = ls at hl ⊢
  have hl : lv_has ls 2 [(0, .ref (ad 0)), (1, .int a1)] := hl
  unfold wpX8_isOne at hw
  refine lv_iload_n hx hb dX8_isOne_0 rfl (lv_at hl 1 rfl) ?_
  refine lv_i2l hx hb dX8_isOne_1 rfl ?_
  refine lv_lconst (v := 0) hx hb dX8_isOne_2 (by decide) ?_
  refine lv_aload_n hx hb dX8_isOne_3 rfl (lv_at hl 0 rfl) ?_
  refine va_get (D := (dC, dI)) (ci := 8) (v := .int mN) (C := RX8) (T := TX8) (N := 36) hx hb hts (fun w h => List.mem_cons_of_mem _ (List.mem_append_right _ h)) hown hK hP 0 rfl rfl 0 (by decide) (hts (.fieldLink RX8 9 "BidMarketModel" "n" "I") (List.mem_of_getElem? (i := 1) rfl)) (fun _ h9 => h9) rfl dX8_isOne_4 ?_
  refine lv_iconst (v := 1) hx hb dX8_isOne_7 (by decide) ?_
  refine lv_isub hx hb dX8_isOne_8 ?_
  refine lv_i2l hx hb dX8_isOne_9 rfl ?_
  refine bw_psi (wc := []) (As := [.long a1.toInt64, .long 0, .long ((mN - 1).toInt64)]) (rest := []) ⟨hx, hb, hml, hown, hts⟩ (mX8_in l dC dI cI cJ cT cII cJJ a1.toInt64 0 ((mN - 1).toInt64) _ hw) (va_cwS 3 hts gX8_isOne_X8_in rfl rfl rfl hdX8_in ⟨Nat.le_of_ble_eq_true rfl, Nat.le_of_ble_eq_true rfl⟩) hK hP [] rfl rfl hl.1 rfl (Nat.le_of_ble_eq_true rfl) ⟨Nat.le_of_ble_eq_true rfl, Nat.le_of_ble_eq_true rfl⟩ dX8_isOne_10 (fun r1 hw => ?_)
  have h2 := hw.1
  have hw := hw.2
  exact W.zret (v := r1) hx hb hr (bw_z h2) (fun t ht hW => ⟨r1, rfl, hw, ht⟩) (fun _ h => by cases h) dX8_isOne_13
set_option maxHeartbeats 4000000 in
set_option maxRecDepth 100000 in
theorem mX8_isPair (l : Launch) (dC : Nat → ClassId) (dI : Nat → Nat → Nat) (cI cJ cT cII cJJ : ClassId) (ad : Nat → Nat) (mN : Int32) (mStep : Int32) (mSeen : Int32) (mPlans : Int32) (mBooks : Int32) (mTexted : Int32) (mIsKept : Int32) (mSpot : Int32) (mKeeps : Int32) (mMindStep : Int32) (mAt : Int32) (mWhat : Int32) (mWhole : Int32) (mIsBroken : Int32) (a1 : Int32) (a2 : Int32) (Post : Int32 → Prop) (hw : wpX8_isPair mN a1 a2 Post) : Met l yX8_isPair wsX8_isPair ({ frames := 2, cells := 0, slots := 0, locals := 46 } : Room) (va_Pc [.ref (ad 0), .int a1, .int a2] (fun U => va_P (dC, dI) vwCl (wdX8_isPair cI cJ cT cII cJJ ad mN mStep mSeen mPlans mBooks mTexted mIsKept mSpot mKeeps mMindStep mAt mWhat mWhole mIsBroken) U.heap ∧ va_K (dC, dI) vwCl (bw_tys cI cJ cT cII cJJ) U)) (vp_Si Post) 0 0 (fun _ => False) := by
  refine Met.ofW (cc := cX8_isPair) (maxL := 3) (ret := (some .boolean)) (by decide) rfl ?_
  intro p e s m args below meth c s₁ B hml hv
  obtain ⟨rfl, hP, hK⟩ := hv
  have hx := B.exec
  have hb := B.bytes
  have hr := B.returns
  have hts := atoms_spec (ws := wsX8_isPair) B.pre
  have hown : s.vm.findClass RX8 = some m.cls := findClass_of_methodNamed B.named
  have hlocks := B.notSynchronized
  have hl := lv_entry ([.ref (ad 0), .int a1, .int a2]) (n := 3) (Nat.le_of_ble_eq_true rfl)
  rw [lg_entry_eq]
  generalize (lg_sl ([.ref (ad 0), .int a1, .int a2]) ++ List.replicate (3 - (lg_sl ([.ref (ad 0), .int a1, .int a2])).length) Slot.unset).toArray = ls at hl ⊢
  have hl : lv_has ls 3 [(0, .ref (ad 0)), (1, .int a1), (2, .int a2)] := hl
  unfold wpX8_isPair at hw
  refine lv_aload_n hx hb dX8_isPair_0 rfl (lv_at hl 0 rfl) ?_
  refine lv_iload_n hx hb dX8_isPair_1 rfl (lv_at hl 1 rfl) ?_
  refine bw_pvi (wc := (wdX8_isOne cI cJ cT cII cJJ ad mN mStep mSeen mPlans mBooks mTexted mIsKept mSpot mKeeps mMindStep mAt mWhat mWhole mIsBroken)) (As := [.int a1]) (rest := []) ⟨hx, hb, hml, hown, hts⟩ (mX8_isOne l dC dI cI cJ cT cII cJJ ad mN mStep mSeen mPlans mBooks mTexted mIsKept mSpot mKeeps mMindStep mAt mWhat mWhole mIsBroken a1 _ hw) (cwV 1 hts gX8_isPair_X8_isOne rfl rfl rfl hdX8_isOne ⟨Nat.le_of_ble_eq_true rfl, Nat.le_of_ble_eq_true rfl⟩) hK hP [0] rfl rfl rfl rfl rfl hl.1 rfl (Nat.le_of_ble_eq_true rfl) ⟨Nat.le_of_ble_eq_true rfl, Nat.le_of_ble_eq_true rfl⟩ dX8_isPair_2 (fun r1 hw => ?_)
  refine lv_if_eq (tgt := 20) hx hb dX8_isPair_5 (by decide) (fun c2 => ?_) (fun c2 => ?_)
  · have hw := hw.1 c2
    refine lv_iconst (v := 0) hx hb dX8_isPair_20 (by decide) ?_
    exact W.zret (v := 0) hx hb hr rfl (fun t ht hW => ⟨0, rfl, hw, ht⟩) (fun _ h => by cases h) dX8_isPair_21
  · have hw := hw.2 c2
    refine lv_aload_n hx hb dX8_isPair_8 rfl (lv_at hl 0 rfl) ?_
    refine lv_iload_n hx hb dX8_isPair_9 rfl (lv_at hl 2 rfl) ?_
    refine bw_pvi (wc := (wdX8_isOne cI cJ cT cII cJJ ad mN mStep mSeen mPlans mBooks mTexted mIsKept mSpot mKeeps mMindStep mAt mWhat mWhole mIsBroken)) (As := [.int a2]) (rest := []) ⟨hx, hb, hml, hown, hts⟩ (mX8_isOne l dC dI cI cJ cT cII cJJ ad mN mStep mSeen mPlans mBooks mTexted mIsKept mSpot mKeeps mMindStep mAt mWhat mWhole mIsBroken a2 _ hw) (cwV 1 hts gX8_isPair_X8_isOne rfl rfl rfl hdX8_isOne ⟨Nat.le_of_ble_eq_true rfl, Nat.le_of_ble_eq_true rfl⟩) hK hP [0] rfl rfl rfl rfl rfl hl.1 rfl (Nat.le_of_ble_eq_true rfl) ⟨Nat.le_of_ble_eq_true rfl, Nat.le_of_ble_eq_true rfl⟩ dX8_isPair_10 (fun r3 hw => ?_)
    refine lv_if_eq (tgt := 20) hx hb dX8_isPair_13 (by decide) (fun c4 => ?_) (fun c4 => ?_)
    · have hw := hw.1 c4
      refine lv_iconst (v := 0) hx hb dX8_isPair_20 (by decide) ?_
      exact W.zret (v := 0) hx hb hr rfl (fun t ht hW => ⟨0, rfl, hw, ht⟩) (fun _ h => by cases h) dX8_isPair_21
    · have hw := hw.2 c4
      refine lv_iconst (v := 1) hx hb dX8_isPair_16 (by decide) ?_
      refine lv_goto (tgt := 21) hx hb dX8_isPair_17 (by decide) ?_
      exact W.zret (v := 1) hx hb hr rfl (fun t ht hW => ⟨1, rfl, hw, ht⟩) (fun _ h => by cases h) dX8_isPair_21
set_option maxHeartbeats 4000000 in
set_option maxRecDepth 100000 in
theorem mX8_empties (l : Launch) (dC : Nat → ClassId) (dI : Nat → Nat → Nat) (cI cJ cT cII cJJ : ClassId) (ad : Nat → Nat) (sz : Nat) (mN : Int32) (mStep : Int32) (mSeen : Int32) (mPlans : Int32) (mBooks : Int32) (mTexted : Int32) (mIsKept : Int32) (mSpot : Int32) (mKeeps : Int32) (mMindStep : Int32) (mAt : Int32) (mWhat : Int32) (mWhole : Int32) (mIsBroken : Int32) (mHas : Nat → Int32) (mOwner : Nat → Int32) (Post : Int32 → (Nat → Int32) → (Nat → Int32) → Prop) (hw : wpX8_empties mN mHas mOwner Post) : Met l yX8_empties wsX8_empties ({ frames := 0, cells := 0, slots := 0, locals := 0 } : Room) (va_Pc [.ref (ad 0)] (fun U => U.heap.size = sz ∧ va_P (dC, dI) vwCl (wdX8_empties cI cJ cT cII cJJ ad mN mStep mSeen mPlans mBooks mTexted mIsKept mSpot mKeeps mMindStep mAt mWhat mWhole mIsBroken mHas mOwner) U.heap ∧ va_K (dC, dI) vwCl (bw_tys cI cJ cT cII cJJ) U ∧ va_D (fun _ => True) (wdX8_empties cI cJ cT cII cJJ ad mN mStep mSeen mPlans mBooks mTexted mIsKept mSpot mKeeps mMindStep mAt mWhat mWhole mIsBroken mHas mOwner))) (va_Qi (fun (r : Int32) (u : (Nat → Int32) × (Nat → Int32)) => Post r u.1 u.2) (fun (u : (Nat → Int32) × (Nat → Int32)) t => va_P (dC, dI) vwCl (wdX8_empties cI cJ cT cII cJJ ad mN mStep mSeen mPlans mBooks mTexted mIsKept mSpot mKeeps mMindStep mAt mWhat mWhole mIsBroken u.1 u.2) t.heap) (va_A (wdX8_empties cI cJ cT cII cJJ ad mN mStep mSeen mPlans mBooks mTexted mIsKept mSpot mKeeps mMindStep mAt mWhat mWhole mIsBroken mHas mOwner) sz)) 0 0 (va_A (wdX8_empties cI cJ cT cII cJJ ad mN mStep mSeen mPlans mBooks mTexted mIsKept mSpot mKeeps mMindStep mAt mWhat mWhole mIsBroken mHas mOwner) sz) := by
  refine Met.ofW (cc := cX8_empties) (maxL := 3) (ret := (some .int)) (by decide) rfl ?_
  intro p e s m args below meth c s₁ B hml hv
  obtain ⟨rfl, hsz, hP, hK, hD0⟩ := hv
  have hx := B.exec
  have hb := B.bytes
  have hr := B.returns
  have hts := atoms_spec (ws := wsX8_empties) B.pre
  have hown : s.vm.findClass RX8 = some m.cls := findClass_of_methodNamed B.named
  have hlocks := B.notSynchronized
  subst hsz
  have hD := hD0.self (sz := s.heap.size)
  generalize hAe : va_A (wdX8_empties cI cJ cT cII cJJ ad mN mStep mSeen mPlans mBooks mTexted mIsKept mSpot mKeeps mMindStep mAt mWhat mWhole mIsBroken mHas mOwner) s.heap.size = A at hD ⊢
  have hA : ∀ q : Nat, s.heap.size ≤ q → A q := fun q h => by rw [← hAe]; exact Or.inr h
  have hS : va_S A s.heap s.heap [] := va_S.rf
  have hl := lv_entry ([.ref (ad 0)]) (n := 3) (Nat.le_of_ble_eq_true rfl)
  rw [lg_entry_eq]
  generalize (lg_sl ([.ref (ad 0)]) ++ List.replicate (3 - (lg_sl ([.ref (ad 0)])).length) Slot.unset).toArray = ls at hl ⊢
  have hl : lv_has ls 3 [(0, .ref (ad 0))] := hl
  have kB33 : ∀ (K4 : Int32 → Int32 → (Nat → Int32) → (Nat → Int32) → Prop), (∀ (v1 : Int32) (v2 : Int32) (mHas : Nat → Int32) (mOwner : Nat → Int32), ∀ (H : Heap) (locs : List Loc), va_P (dC, dI) vwCl (wdX8_empties cI cJ cT cII cJJ ad mN mStep mSeen mPlans mBooks mTexted mIsKept mSpot mKeeps mMindStep mAt mWhat mWhole mIsBroken mHas mOwner) H → va_D A (wdX8_empties cI cJ cT cII cJJ ad mN mStep mSeen mPlans mBooks mTexted mIsKept mSpot mKeeps mMindStep mAt mWhat mWhole mIsBroken mHas mOwner) → va_S A s.heap H locs → ∀ ls : Array Slot, lv_has ls 3 [(0, .ref (ad 0)), (1, .int v1), (2, .int v2)] → K4 v1 v2 mHas mOwner → W p l e (headSpec wsX8_empties ({ frames := 0, cells := 0, slots := 0, locals := 0 } : Room)).room s m ([.ref (ad 0)] : List Value).toArray below meth c H locs 0 0 (MQ below (va_Qi (fun (r : Int32) (u : (Nat → Int32) × (Nat → Int32)) => Post r u.1 u.2) (fun (u : (Nat → Int32) × (Nat → Int32)) t => va_P (dC, dI) vwCl (wdX8_empties cI cJ cT cII cJJ ad mN mStep mSeen mPlans mBooks mTexted mIsKept mSpot mKeeps mMindStep mAt mWhat mWhole mIsBroken u.1 u.2) t.heap) A) ([.ref (ad 0)] : List Value).toArray s 0 0 A) (F0 m 4 ls [])) → ∀ (v2 : Int32) (s0 : Int32) (s1 : Int32) (mHas : Nat → Int32) (mOwner : Nat → Int32), ∀ (H : Heap) (locs : List Loc), va_P (dC, dI) vwCl (wdX8_empties cI cJ cT cII cJJ ad mN mStep mSeen mPlans mBooks mTexted mIsKept mSpot mKeeps mMindStep mAt mWhat mWhole mIsBroken mHas mOwner) H → va_D A (wdX8_empties cI cJ cT cII cJJ ad mN mStep mSeen mPlans mBooks mTexted mIsKept mSpot mKeeps mMindStep mAt mWhat mWhole mIsBroken mHas mOwner) → va_S A s.heap H locs → ∀ ls : Array Slot, lv_has ls 3 [(0, .ref (ad 0)), (2, .int v2)] → wpX8_empties_B33 mN K4 Post v2 s0 s1 mHas mOwner → W p l e (headSpec wsX8_empties ({ frames := 0, cells := 0, slots := 0, locals := 0 } : Room)).room s m ([.ref (ad 0)] : List Value).toArray below meth c H locs 0 0 (MQ below (va_Qi (fun (r : Int32) (u : (Nat → Int32) × (Nat → Int32)) => Post r u.1 u.2) (fun (u : (Nat → Int32) × (Nat → Int32)) t => va_P (dC, dI) vwCl (wdX8_empties cI cJ cT cII cJJ ad mN mStep mSeen mPlans mBooks mTexted mIsKept mSpot mKeeps mMindStep mAt mWhat mWhole mIsBroken u.1 u.2) t.heap) A) ([.ref (ad 0)] : List Value).toArray s 0 0 A) (F0 m 33 ls [.int s1, .int s0]) := by
    intro K4 hK4 v2 s0 s1 mHas mOwner H locs hP hD hS ls hl hw
    unfold wpX8_empties_B33 at hw
    refine lv_iadd hx hb dX8_empties_33 ?_
    refine lv_topi (fun x4 ex4 => ?_)
    have hw := hw x4 ex4
    refine lv_istore_n (lv' := [(1, .int x4), (0, .ref (ad 0)), (2, .int v2)]) hx hb dX8_empties_34 rfl hl (by decide) rfl (fun ls hl => ?_)
    refine lv_aload_n hx hb dX8_empties_35 rfl (lv_at hl 1 rfl) ?_
    refine va_get (D := (dC, dI)) (ci := 8) (v := .ref (ad 2)) (C := RX8) (T := TX8) (N := 36) hx hb hts (fun w h => List.mem_cons_of_mem _ (List.mem_append_right _ h)) hown hK hP 0 rfl rfl 3 (by decide) (hts (.fieldLink RX8 22 "BidMarketModel" "has" "[I") (List.mem_of_getElem? (i := 1) rfl)) (fun _ h9 => h9) rfl dX8_empties_36 ?_
    refine lv_iload_n hx hb dX8_empties_39 rfl (lv_at hl 2 rfl) ?_
    refine lv_iconst (v := (-1)) hx hb dX8_empties_40 (by decide) ?_
    have h5 := hw.1
    have hw := hw.2
    refine va_iast hx hb hK hP hD hS 1 0 rfl rfl h5 dX8_empties_41 (fun H locs hP hD hS => ?_)
    have hP : va_P (dC, dI) vwCl (wdX8_empties cI cJ cT cII cJJ ad mN mStep mSeen mPlans mBooks mTexted mIsKept mSpot mKeeps mMindStep mAt mWhat mWhole mIsBroken (upd mHas v2.toNatClampNeg ((-1))) mOwner) H := hP
    have hD : va_D A (wdX8_empties cI cJ cT cII cJJ ad mN mStep mSeen mPlans mBooks mTexted mIsKept mSpot mKeeps mMindStep mAt mWhat mWhole mIsBroken (upd mHas v2.toNatClampNeg ((-1))) mOwner) := hD
    refine lv_aload_n hx hb dX8_empties_42 rfl (lv_at hl 1 rfl) ?_
    refine va_get (D := (dC, dI)) (ci := 8) (v := .ref (ad 3)) (C := RX8) (T := TX8) (N := 36) hx hb hts (fun w h => List.mem_cons_of_mem _ (List.mem_append_right _ h)) hown hK hP 0 rfl rfl 4 (by decide) (hts (.fieldLink RX8 25 "BidMarketModel" "owner" "[I") (List.mem_of_getElem? (i := 3) rfl)) (fun _ h9 => h9) rfl dX8_empties_43 ?_
    refine lv_iload_n hx hb dX8_empties_46 rfl (lv_at hl 2 rfl) ?_
    refine lv_iconst (v := (-1)) hx hb dX8_empties_47 (by decide) ?_
    have h6 := hw.1
    have hw := hw.2
    refine va_iast hx hb hK hP hD hS 2 0 rfl rfl h6 dX8_empties_48 (fun H locs hP hD hS => ?_)
    have hP : va_P (dC, dI) vwCl (wdX8_empties cI cJ cT cII cJJ ad mN mStep mSeen mPlans mBooks mTexted mIsKept mSpot mKeeps mMindStep mAt mWhat mWhole mIsBroken (upd mHas v2.toNatClampNeg ((-1))) (upd mOwner v2.toNatClampNeg ((-1)))) H := hP
    have hD : va_D A (wdX8_empties cI cJ cT cII cJJ ad mN mStep mSeen mPlans mBooks mTexted mIsKept mSpot mKeeps mMindStep mAt mWhat mWhole mIsBroken (upd mHas v2.toNatClampNeg ((-1))) (upd mOwner v2.toNatClampNeg ((-1)))) := hD
    obtain ⟨x7, ex7⟩ : ∃ y : Int32, y = v2 + 1 := ⟨_, rfl⟩
    have hw := hw x7 ex7
    refine lv_iinc (v := x7) (lv' := [(2, .int x7), (1, .int x4), (0, .ref (ad 0))]) hx hb dX8_empties_49 hl (k := 2) rfl (by rw [ex7]; rfl) (by decide) rfl (fun ls hl => ?_)
    refine lv_goto (tgt := 4) hx hb dX8_empties_52 (by decide) ?_
    exact hK4 x4 x7 (upd mHas v2.toNatClampNeg ((-1))) (upd mOwner v2.toNatClampNeg ((-1))) _ _ hP hD hS ls (lv_sub hl [2, 1, 0] rfl) hw
  have kB32 : ∀ (K4 : Int32 → Int32 → (Nat → Int32) → (Nat → Int32) → Prop), (∀ (v1 : Int32) (v2 : Int32) (mHas : Nat → Int32) (mOwner : Nat → Int32), ∀ (H : Heap) (locs : List Loc), va_P (dC, dI) vwCl (wdX8_empties cI cJ cT cII cJJ ad mN mStep mSeen mPlans mBooks mTexted mIsKept mSpot mKeeps mMindStep mAt mWhat mWhole mIsBroken mHas mOwner) H → va_D A (wdX8_empties cI cJ cT cII cJJ ad mN mStep mSeen mPlans mBooks mTexted mIsKept mSpot mKeeps mMindStep mAt mWhat mWhole mIsBroken mHas mOwner) → va_S A s.heap H locs → ∀ ls : Array Slot, lv_has ls 3 [(0, .ref (ad 0)), (1, .int v1), (2, .int v2)] → K4 v1 v2 mHas mOwner → W p l e (headSpec wsX8_empties ({ frames := 0, cells := 0, slots := 0, locals := 0 } : Room)).room s m ([.ref (ad 0)] : List Value).toArray below meth c H locs 0 0 (MQ below (va_Qi (fun (r : Int32) (u : (Nat → Int32) × (Nat → Int32)) => Post r u.1 u.2) (fun (u : (Nat → Int32) × (Nat → Int32)) t => va_P (dC, dI) vwCl (wdX8_empties cI cJ cT cII cJJ ad mN mStep mSeen mPlans mBooks mTexted mIsKept mSpot mKeeps mMindStep mAt mWhat mWhole mIsBroken u.1 u.2) t.heap) A) ([.ref (ad 0)] : List Value).toArray s 0 0 A) (F0 m 4 ls [])) → ∀ (v2 : Int32) (s0 : Int32) (mHas : Nat → Int32) (mOwner : Nat → Int32), ∀ (H : Heap) (locs : List Loc), va_P (dC, dI) vwCl (wdX8_empties cI cJ cT cII cJJ ad mN mStep mSeen mPlans mBooks mTexted mIsKept mSpot mKeeps mMindStep mAt mWhat mWhole mIsBroken mHas mOwner) H → va_D A (wdX8_empties cI cJ cT cII cJJ ad mN mStep mSeen mPlans mBooks mTexted mIsKept mSpot mKeeps mMindStep mAt mWhat mWhole mIsBroken mHas mOwner) → va_S A s.heap H locs → ∀ ls : Array Slot, lv_has ls 3 [(0, .ref (ad 0)), (2, .int v2)] → wpX8_empties_B32 mN K4 Post v2 s0 mHas mOwner → W p l e (headSpec wsX8_empties ({ frames := 0, cells := 0, slots := 0, locals := 0 } : Room)).room s m ([.ref (ad 0)] : List Value).toArray below meth c H locs 0 0 (MQ below (va_Qi (fun (r : Int32) (u : (Nat → Int32) × (Nat → Int32)) => Post r u.1 u.2) (fun (u : (Nat → Int32) × (Nat → Int32)) t => va_P (dC, dI) vwCl (wdX8_empties cI cJ cT cII cJJ ad mN mStep mSeen mPlans mBooks mTexted mIsKept mSpot mKeeps mMindStep mAt mWhat mWhole mIsBroken u.1 u.2) t.heap) A) ([.ref (ad 0)] : List Value).toArray s 0 0 A) (F0 m 32 ls [.int s0]) := by
    intro K4 hK4 v2 s0 mHas mOwner H locs hP hD hS ls hl hw
    unfold wpX8_empties_B32 at hw
    refine lv_iconst (v := 0) hx hb dX8_empties_32 (by decide) ?_
    exact kB33 K4 hK4 v2 s0 0 mHas mOwner _ _ hP hD hS ls hl hw
  have kB4 : ∀ f : Nat, ∀ (v1 : Int32) (v2 : Int32) (mHas : Nat → Int32) (mOwner : Nat → Int32), ∀ (H : Heap) (locs : List Loc), va_P (dC, dI) vwCl (wdX8_empties cI cJ cT cII cJJ ad mN mStep mSeen mPlans mBooks mTexted mIsKept mSpot mKeeps mMindStep mAt mWhat mWhole mIsBroken mHas mOwner) H → va_D A (wdX8_empties cI cJ cT cII cJJ ad mN mStep mSeen mPlans mBooks mTexted mIsKept mSpot mKeeps mMindStep mAt mWhat mWhole mIsBroken mHas mOwner) → va_S A s.heap H locs → ∀ ls : Array Slot, lv_has ls 3 [(0, .ref (ad 0)), (1, .int v1), (2, .int v2)] → wpX8_empties_B4 mN Post f v1 v2 mHas mOwner → W p l e (headSpec wsX8_empties ({ frames := 0, cells := 0, slots := 0, locals := 0 } : Room)).room s m ([.ref (ad 0)] : List Value).toArray below meth c H locs 0 0 (MQ below (va_Qi (fun (r : Int32) (u : (Nat → Int32) × (Nat → Int32)) => Post r u.1 u.2) (fun (u : (Nat → Int32) × (Nat → Int32)) t => va_P (dC, dI) vwCl (wdX8_empties cI cJ cT cII cJJ ad mN mStep mSeen mPlans mBooks mTexted mIsKept mSpot mKeeps mMindStep mAt mWhat mWhole mIsBroken u.1 u.2) t.heap) A) ([.ref (ad 0)] : List Value).toArray s 0 0 A) (F0 m 4 ls []) := by
    intro  f
    induction f with
    | zero => intro v1 v2 mHas mOwner H locs hP hD hS ls hl hw; exact (show False from hw).elim
    | succ f ih =>
      intro v1 v2 mHas mOwner H locs hP hD hS ls hl hw
      rw [wpX8_empties_B4] at hw
      refine lv_iload_n hx hb dX8_empties_4 rfl (lv_at hl 2 rfl) ?_
      refine lv_bipush (v := 8) hx hb dX8_empties_5 (by decide) ?_
      refine lv_icmp_ge (tgt := 55) hx hb dX8_empties_7 (by decide) (fun c1 => ?_) (fun c1 => ?_)
      · have hw := hw.1 c1
        refine lv_iload_n hx hb dX8_empties_55 rfl (lv_at hl 1 rfl) ?_
        exact W.iret (v := v1) hx hb hr (fun t ht hW => ⟨⟨v1, (mHas, mOwner), rfl, hw, by show va_P _ _ _ t.heap; rw [ht]; exact hP⟩, hS.F ht⟩) hS.2.2 dX8_empties_56
      · have hw := hw.2 c1
        refine lv_iload_n hx hb dX8_empties_10 rfl (lv_at hl 1 rfl) ?_
        refine lv_aload_n hx hb dX8_empties_11 rfl (lv_at hl 0 rfl) ?_
        refine va_get (D := (dC, dI)) (ci := 8) (v := .ref (ad 2)) (C := RX8) (T := TX8) (N := 36) hx hb hts (fun w h => List.mem_cons_of_mem _ (List.mem_append_right _ h)) hown hK hP 0 rfl rfl 3 (by decide) (hts (.fieldLink RX8 22 "BidMarketModel" "has" "[I") (List.mem_of_getElem? (i := 1) rfl)) (fun _ h9 => h9) rfl dX8_empties_12 ?_
        refine lv_iload_n hx hb dX8_empties_15 rfl (lv_at hl 2 rfl) ?_
        have h2 := hw.1
        have hw := hw.2
        refine va_iald hx hb hK hP 1 0 rfl rfl h2 dX8_empties_16 ?_
        refine lv_if_lt (tgt := 32) hx hb dX8_empties_17 (by decide) (fun c3 => ?_) (fun c3 => ?_)
        · have hw := hw.1 c3
          exact kB32 (wpX8_empties_B4 mN Post f) ih v2 v1 mHas mOwner _ _ hP hD hS ls (lv_sub hl [0, 2] rfl) hw
        · have hw := hw.2 c3
          refine lv_iload_n hx hb dX8_empties_20 rfl (lv_at hl 2 rfl) ?_
          refine lv_aload_n hx hb dX8_empties_21 rfl (lv_at hl 0 rfl) ?_
          refine va_get (D := (dC, dI)) (ci := 8) (v := .int mN) (C := RX8) (T := TX8) (N := 36) hx hb hts (fun w h => List.mem_cons_of_mem _ (List.mem_append_right _ h)) hown hK hP 0 rfl rfl 0 (by decide) (hts (.fieldLink RX8 9 "BidMarketModel" "n" "I") (List.mem_of_getElem? (i := 2) rfl)) (fun _ h9 => h9) rfl dX8_empties_22 ?_
          refine lv_icmp_ge (tgt := 32) hx hb dX8_empties_25 (by decide) (fun c8 => ?_) (fun c8 => ?_)
          · have hw := hw.1 c8
            exact kB32 (wpX8_empties_B4 mN Post f) ih v2 v1 mHas mOwner _ _ hP hD hS ls (lv_sub hl [0, 2] rfl) hw
          · have hw := hw.2 c8
            refine lv_iconst (v := 1) hx hb dX8_empties_28 (by decide) ?_
            refine lv_goto (tgt := 33) hx hb dX8_empties_29 (by decide) ?_
            exact kB33 (wpX8_empties_B4 mN Post f) ih v2 v1 1 mHas mOwner _ _ hP hD hS ls (lv_sub hl [0, 2] rfl) hw
  unfold wpX8_empties at hw
  refine lv_iconst (v := 0) hx hb dX8_empties_0 (by decide) ?_
  refine lv_istore_n (lv' := [(1, .int 0), (0, .ref (ad 0))]) hx hb dX8_empties_1 rfl hl (by decide) rfl (fun ls hl => ?_)
  refine lv_iconst (v := 0) hx hb dX8_empties_2 (by decide) ?_
  refine lv_istore_n (lv' := [(2, .int 0), (1, .int 0), (0, .ref (ad 0))]) hx hb dX8_empties_3 rfl hl (by decide) rfl (fun ls hl => ?_)
  obtain ⟨f1, hw⟩ := hw
  exact kB4 f1 0 0 mHas mOwner _ _ hP hD hS ls (lv_sub hl [2, 1, 0] rfl) hw
set_option maxHeartbeats 4000000 in
set_option maxRecDepth 100000 in
theorem mX8_free (l : Launch) (dC : Nat → ClassId) (dI : Nat → Nat → Nat) (cI cJ cT cII cJJ : ClassId) (ad : Nat → Nat) (sz : Nat) (mN : Int32) (mStep : Int32) (mSeen : Int32) (mPlans : Int32) (mBooks : Int32) (mTexted : Int32) (mIsKept : Int32) (mSpot : Int32) (mKeeps : Int32) (mMindStep : Int32) (mAt : Int32) (mWhat : Int32) (mWhole : Int32) (mIsBroken : Int32) (mPrice : Nat → Int32) (Post : (Nat → Int32) → Prop) (hw : wpX8_free mPrice Post) : Met l yX8_free wsX8_free ({ frames := 0, cells := 0, slots := 0, locals := 0 } : Room) (va_Pc [.ref (ad 0)] (fun U => U.heap.size = sz ∧ va_P (dC, dI) vwCl (wdX8_free cI cJ cT cII cJJ ad mN mStep mSeen mPlans mBooks mTexted mIsKept mSpot mKeeps mMindStep mAt mWhat mWhole mIsBroken mPrice) U.heap ∧ va_K (dC, dI) vwCl (bw_tys cI cJ cT cII cJJ) U ∧ va_D (fun _ => True) (wdX8_free cI cJ cT cII cJJ ad mN mStep mSeen mPlans mBooks mTexted mIsKept mSpot mKeeps mMindStep mAt mWhat mWhole mIsBroken mPrice))) (va_Qv (fun (u : (Nat → Int32)) => Post u) (fun (u : (Nat → Int32)) t => va_P (dC, dI) vwCl (wdX8_free cI cJ cT cII cJJ ad mN mStep mSeen mPlans mBooks mTexted mIsKept mSpot mKeeps mMindStep mAt mWhat mWhole mIsBroken u) t.heap) (va_A (wdX8_free cI cJ cT cII cJJ ad mN mStep mSeen mPlans mBooks mTexted mIsKept mSpot mKeeps mMindStep mAt mWhat mWhole mIsBroken mPrice) sz)) 0 0 (va_A (wdX8_free cI cJ cT cII cJJ ad mN mStep mSeen mPlans mBooks mTexted mIsKept mSpot mKeeps mMindStep mAt mWhat mWhole mIsBroken mPrice) sz) := by
  refine Met.ofW (cc := cX8_free) (maxL := 2) (ret := none) (by decide) rfl ?_
  intro p e s m args below meth c s₁ B hml hv
  obtain ⟨rfl, hsz, hP, hK, hD0⟩ := hv
  have hx := B.exec
  have hb := B.bytes
  have hr := B.returns
  have hts := atoms_spec (ws := wsX8_free) B.pre
  have hown : s.vm.findClass RX8 = some m.cls := findClass_of_methodNamed B.named
  have hlocks := B.notSynchronized
  subst hsz
  have hD := hD0.self (sz := s.heap.size)
  generalize hAe : va_A (wdX8_free cI cJ cT cII cJJ ad mN mStep mSeen mPlans mBooks mTexted mIsKept mSpot mKeeps mMindStep mAt mWhat mWhole mIsBroken mPrice) s.heap.size = A at hD ⊢
  have hA : ∀ q : Nat, s.heap.size ≤ q → A q := fun q h => by rw [← hAe]; exact Or.inr h
  have hS : va_S A s.heap s.heap [] := va_S.rf
  have hl := lv_entry ([.ref (ad 0)]) (n := 2) (Nat.le_of_ble_eq_true rfl)
  rw [lg_entry_eq]
  generalize (lg_sl ([.ref (ad 0)]) ++ List.replicate (2 - (lg_sl ([.ref (ad 0)])).length) Slot.unset).toArray = ls at hl ⊢
  have hl : lv_has ls 2 [(0, .ref (ad 0))] := hl
  have kB2 : ∀ f : Nat, ∀ (v1 : Int32) (mPrice : Nat → Int32), ∀ (H : Heap) (locs : List Loc), va_P (dC, dI) vwCl (wdX8_free cI cJ cT cII cJJ ad mN mStep mSeen mPlans mBooks mTexted mIsKept mSpot mKeeps mMindStep mAt mWhat mWhole mIsBroken mPrice) H → va_D A (wdX8_free cI cJ cT cII cJJ ad mN mStep mSeen mPlans mBooks mTexted mIsKept mSpot mKeeps mMindStep mAt mWhat mWhole mIsBroken mPrice) → va_S A s.heap H locs → ∀ ls : Array Slot, lv_has ls 2 [(0, .ref (ad 0)), (1, .int v1)] → wpX8_free_B2 Post f v1 mPrice → W p l e (headSpec wsX8_free ({ frames := 0, cells := 0, slots := 0, locals := 0 } : Room)).room s m ([.ref (ad 0)] : List Value).toArray below meth c H locs 0 0 (MQ below (va_Qv (fun (u : (Nat → Int32)) => Post u) (fun (u : (Nat → Int32)) t => va_P (dC, dI) vwCl (wdX8_free cI cJ cT cII cJJ ad mN mStep mSeen mPlans mBooks mTexted mIsKept mSpot mKeeps mMindStep mAt mWhat mWhole mIsBroken u) t.heap) A) ([.ref (ad 0)] : List Value).toArray s 0 0 A) (F0 m 2 ls []) := by
    intro  f
    induction f with
    | zero => intro v1 mPrice H locs hP hD hS ls hl hw; exact (show False from hw).elim
    | succ f ih =>
      intro v1 mPrice H locs hP hD hS ls hl hw
      rw [wpX8_free_B2] at hw
      refine lv_iload_n hx hb dX8_free_2 rfl (lv_at hl 1 rfl) ?_
      refine lv_bipush (v := 8) hx hb dX8_free_3 (by decide) ?_
      refine lv_icmp_ge (tgt := 21) hx hb dX8_free_5 (by decide) (fun c1 => ?_) (fun c1 => ?_)
      · have hw := hw.1 c1
        exact W.vret hx hb hr (fun t ht hW => ⟨⟨mPrice, rfl, hw, by show va_P _ _ _ t.heap; rw [ht]; exact hP⟩, hS.F ht⟩) hS.2.2 dX8_free_21
      · have hw := hw.2 c1
        refine lv_aload_n hx hb dX8_free_8 rfl (lv_at hl 0 rfl) ?_
        refine va_get (D := (dC, dI)) (ci := 8) (v := .ref (ad 4)) (C := RX8) (T := TX8) (N := 36) hx hb hts (fun w h => List.mem_cons_of_mem _ (List.mem_append_right _ h)) hown hK hP 0 rfl rfl 5 (by decide) (hts (.fieldLink RX8 28 "BidMarketModel" "price" "[I") (List.mem_of_getElem? (i := 1) rfl)) (fun _ h9 => h9) rfl dX8_free_9 ?_
        refine lv_iload_n hx hb dX8_free_12 rfl (lv_at hl 1 rfl) ?_
        refine lv_iconst (v := 0) hx hb dX8_free_13 (by decide) ?_
        have h2 := hw.1
        have hw := hw.2
        refine va_iast hx hb hK hP hD hS 1 0 rfl rfl h2 dX8_free_14 (fun H locs hP hD hS => ?_)
        have hP : va_P (dC, dI) vwCl (wdX8_free cI cJ cT cII cJJ ad mN mStep mSeen mPlans mBooks mTexted mIsKept mSpot mKeeps mMindStep mAt mWhat mWhole mIsBroken (upd mPrice v1.toNatClampNeg 0)) H := hP
        have hD : va_D A (wdX8_free cI cJ cT cII cJJ ad mN mStep mSeen mPlans mBooks mTexted mIsKept mSpot mKeeps mMindStep mAt mWhat mWhole mIsBroken (upd mPrice v1.toNatClampNeg 0)) := hD
        obtain ⟨x3, ex3⟩ : ∃ y : Int32, y = v1 + 1 := ⟨_, rfl⟩
        have hw := hw x3 ex3
        refine lv_iinc (v := x3) (lv' := [(1, .int x3), (0, .ref (ad 0))]) hx hb dX8_free_15 hl (k := 1) rfl (by rw [ex3]; rfl) (by decide) rfl (fun ls hl => ?_)
        refine lv_goto (tgt := 2) hx hb dX8_free_18 (by decide) ?_
        exact ih x3 (upd mPrice v1.toNatClampNeg 0) _ _ hP hD hS ls (lv_sub hl [1, 0] rfl) hw
  unfold wpX8_free at hw
  refine lv_iconst (v := 0) hx hb dX8_free_0 (by decide) ?_
  refine lv_istore_n (lv' := [(1, .int 0), (0, .ref (ad 0))]) hx hb dX8_free_1 rfl hl (by decide) rfl (fun ls hl => ?_)
  obtain ⟨f1, hw⟩ := hw
  exact kB2 f1 0 mPrice _ _ hP hD hS ls (lv_sub hl [1, 0] rfl) hw
set_option maxHeartbeats 4000000 in
set_option maxRecDepth 100000 in
theorem mX8_passes (l : Launch) (dC : Nat → ClassId) (dI : Nat → Nat → Nat) (cI cJ cT cII cJJ : ClassId) (ad : Nat → Nat) (sz : Nat) (mN : Int32) (mStep : Int32) (mSeen : Int32) (mPlans : Int32) (mBooks : Int32) (mTexted : Int32) (mIsKept : Int32) (mSpot : Int32) (mKeeps : Int32) (mMindStep : Int32) (mAt : Int32) (mWhat : Int32) (mWhole : Int32) (mIsBroken : Int32) (mImaged : Nat → Int32) (a1 : Int32) (Post : Int32 → Int32 → (Nat → Int32) → Prop) (hw : wpX8_passes mSpot mKeeps mImaged a1 Post) : Met l yX8_passes wsX8_passes ({ frames := 0, cells := 0, slots := 0, locals := 0 } : Room) (va_Pc [.ref (ad 0), .int a1] (fun U => U.heap.size = sz ∧ va_P (dC, dI) vwCl (wdX8_passes cI cJ cT cII cJJ ad mN mStep mSeen mPlans mBooks mTexted mIsKept mSpot mKeeps mMindStep mAt mWhat mWhole mIsBroken mImaged) U.heap ∧ va_K (dC, dI) vwCl (bw_tys cI cJ cT cII cJJ) U ∧ va_D (fun _ => True) (wdX8_passes cI cJ cT cII cJJ ad mN mStep mSeen mPlans mBooks mTexted mIsKept mSpot mKeeps mMindStep mAt mWhat mWhole mIsBroken mImaged))) (va_Qi (fun (r : Int32) (u : Int32 × (Nat → Int32)) => Post r u.1 u.2) (fun (u : Int32 × (Nat → Int32)) t => va_P (dC, dI) vwCl (wdX8_passes cI cJ cT cII cJJ ad mN mStep mSeen mPlans mBooks mTexted mIsKept u.1 mKeeps mMindStep mAt mWhat mWhole mIsBroken u.2) t.heap) (va_A (wdX8_passes cI cJ cT cII cJJ ad mN mStep mSeen mPlans mBooks mTexted mIsKept mSpot mKeeps mMindStep mAt mWhat mWhole mIsBroken mImaged) sz)) 0 0 (va_A (wdX8_passes cI cJ cT cII cJJ ad mN mStep mSeen mPlans mBooks mTexted mIsKept mSpot mKeeps mMindStep mAt mWhat mWhole mIsBroken mImaged) sz) := by
  refine Met.ofW (cc := cX8_passes) (maxL := 3) (ret := (some .int)) (by decide) rfl ?_
  intro p e s m args below meth c s₁ B hml hv
  obtain ⟨rfl, hsz, hP, hK, hD0⟩ := hv
  have hx := B.exec
  have hb := B.bytes
  have hr := B.returns
  have hts := atoms_spec (ws := wsX8_passes) B.pre
  have hown : s.vm.findClass RX8 = some m.cls := findClass_of_methodNamed B.named
  have hlocks := B.notSynchronized
  subst hsz
  have hD := hD0.self (sz := s.heap.size)
  generalize hAe : va_A (wdX8_passes cI cJ cT cII cJJ ad mN mStep mSeen mPlans mBooks mTexted mIsKept mSpot mKeeps mMindStep mAt mWhat mWhole mIsBroken mImaged) s.heap.size = A at hD ⊢
  have hA : ∀ q : Nat, s.heap.size ≤ q → A q := fun q h => by rw [← hAe]; exact Or.inr h
  have hS : va_S A s.heap s.heap [] := va_S.rf
  have hl := lv_entry ([.ref (ad 0), .int a1]) (n := 3) (Nat.le_of_ble_eq_true rfl)
  rw [lg_entry_eq]
  generalize (lg_sl ([.ref (ad 0), .int a1]) ++ List.replicate (3 - (lg_sl ([.ref (ad 0), .int a1])).length) Slot.unset).toArray = ls at hl ⊢
  have hl : lv_has ls 3 [(0, .ref (ad 0)), (1, .int a1)] := hl
  have kB20 : ∀ (s0 : Int32) (mSpot : Int32) (mImaged : Nat → Int32), ∀ (H : Heap) (locs : List Loc), va_P (dC, dI) vwCl (wdX8_passes cI cJ cT cII cJJ ad mN mStep mSeen mPlans mBooks mTexted mIsKept mSpot mKeeps mMindStep mAt mWhat mWhole mIsBroken mImaged) H → va_D A (wdX8_passes cI cJ cT cII cJJ ad mN mStep mSeen mPlans mBooks mTexted mIsKept mSpot mKeeps mMindStep mAt mWhat mWhole mIsBroken mImaged) → va_S A s.heap H locs → ∀ ls : Array Slot, lv_has ls 3 [(0, .ref (ad 0))] → wpX8_passes_B20 mKeeps a1 Post s0 mSpot mImaged → W p l e (headSpec wsX8_passes ({ frames := 0, cells := 0, slots := 0, locals := 0 } : Room)).room s m ([.ref (ad 0), .int a1] : List Value).toArray below meth c H locs 0 0 (MQ below (va_Qi (fun (r : Int32) (u : Int32 × (Nat → Int32)) => Post r u.1 u.2) (fun (u : Int32 × (Nat → Int32)) t => va_P (dC, dI) vwCl (wdX8_passes cI cJ cT cII cJJ ad mN mStep mSeen mPlans mBooks mTexted mIsKept u.1 mKeeps mMindStep mAt mWhat mWhole mIsBroken u.2) t.heap) A) ([.ref (ad 0), .int a1] : List Value).toArray s 0 0 A) (F0 m 20 ls [.int s0]) := by
    intro s0 mSpot mImaged H locs hP hD hS ls hl hw
    unfold wpX8_passes_B20 at hw
    refine lv_istore_n (lv' := [(2, .int s0), (0, .ref (ad 0))]) hx hb dX8_passes_20 rfl hl (by decide) rfl (fun ls hl => ?_)
    refine lv_aload_n hx hb dX8_passes_21 rfl (lv_at hl 1 rfl) ?_
    refine va_get (D := (dC, dI)) (ci := 8) (v := .ref (ad 13)) (C := RX8) (T := TX8) (N := 36) hx hb hts (fun w h => List.mem_cons_of_mem _ (List.mem_append_right _ h)) hown hK hP 0 rfl rfl 18 (by decide) (hts (.fieldLink RX8 55 "BidMarketModel" "imaged" "[I") (List.mem_of_getElem? (i := 2) rfl)) (fun _ h9 => h9) rfl dX8_passes_22 ?_
    refine lv_aload_n hx hb dX8_passes_25 rfl (lv_at hl 1 rfl) ?_
    refine va_get (D := (dC, dI)) (ci := 8) (v := .int mSpot) (C := RX8) (T := TX8) (N := 36) hx hb hts (fun w h => List.mem_cons_of_mem _ (List.mem_append_right _ h)) hown hK hP 0 rfl rfl 20 (by decide) (hts (.fieldLink RX8 104 "BidMarketModel" "spot" "I") (List.mem_of_getElem? (i := 3) rfl)) (fun _ h9 => h9) rfl dX8_passes_26 ?_
    refine lv_iload_n hx hb dX8_passes_29 rfl (lv_at hl 0 rfl) ?_
    have h3 := hw.1
    have hw := hw.2
    refine va_iast hx hb hK hP hD hS 1 0 rfl rfl h3 dX8_passes_30 (fun H locs hP hD hS => ?_)
    have hP : va_P (dC, dI) vwCl (wdX8_passes cI cJ cT cII cJJ ad mN mStep mSeen mPlans mBooks mTexted mIsKept mSpot mKeeps mMindStep mAt mWhat mWhole mIsBroken (upd mImaged mSpot.toNatClampNeg s0)) H := hP
    have hD : va_D A (wdX8_passes cI cJ cT cII cJJ ad mN mStep mSeen mPlans mBooks mTexted mIsKept mSpot mKeeps mMindStep mAt mWhat mWhole mIsBroken (upd mImaged mSpot.toNatClampNeg s0)) := hD
    refine lv_aload_n hx hb dX8_passes_31 rfl (lv_at hl 1 rfl) ?_
    refine lv_dup hx hb dX8_passes_32 rfl ?_
    refine va_get (D := (dC, dI)) (ci := 8) (v := .int mSpot) (C := RX8) (T := TX8) (N := 36) hx hb hts (fun w h => List.mem_cons_of_mem _ (List.mem_append_right _ h)) hown hK hP 0 rfl rfl 20 (by decide) (hts (.fieldLink RX8 104 "BidMarketModel" "spot" "I") (List.mem_of_getElem? (i := 3) rfl)) (fun _ h9 => h9) rfl dX8_passes_33 ?_
    refine lv_iconst (v := 1) hx hb dX8_passes_36 (by decide) ?_
    refine lv_iadd hx hb dX8_passes_37 ?_
    refine va_put (D := (dC, dI)) (ci := 8) (v := .int (mSpot + 1)) (ty := .int) (C := RX8) (T := TX8) (N := 36) hx hb hts (fun w h => List.mem_cons_of_mem _ (List.mem_append_right _ h)) tyX8 tyX8_ok nmX8 hown hK hP hD hS 0 rfl rfl 20 (by decide) (hts (.fieldLink RX8 104 "BidMarketModel" "spot" "I") (List.mem_of_getElem? (i := 3) rfl)) (fun _ h9 => h9) rfl (by decide +kernel) rfl rfl (Nat.le_of_ble_eq_true rfl) dX8_passes_38 (fun H locs hP hD hS => ?_)
    have hP : va_P (dC, dI) vwCl (wdX8_passes cI cJ cT cII cJJ ad mN mStep mSeen mPlans mBooks mTexted mIsKept (mSpot + 1) mKeeps mMindStep mAt mWhat mWhole mIsBroken (upd mImaged mSpot.toNatClampNeg s0)) H := hP
    have hD : va_D A (wdX8_passes cI cJ cT cII cJJ ad mN mStep mSeen mPlans mBooks mTexted mIsKept (mSpot + 1) mKeeps mMindStep mAt mWhat mWhole mIsBroken (upd mImaged mSpot.toNatClampNeg s0)) := hD
    refine lv_iload_n hx hb dX8_passes_41 rfl (lv_at hl 0 rfl) ?_
    exact W.iret (v := s0) hx hb hr (fun t ht hW => ⟨⟨s0, (mSpot + 1, upd mImaged mSpot.toNatClampNeg s0), rfl, hw, by show va_P _ _ _ t.heap; rw [ht]; exact hP⟩, hS.F ht⟩) hS.2.2 dX8_passes_42
  unfold wpX8_passes at hw
  refine lv_aload_n hx hb dX8_passes_0 rfl (lv_at hl 0 rfl) ?_
  refine va_get (D := (dC, dI)) (ci := 8) (v := .int mKeeps) (C := RX8) (T := TX8) (N := 36) hx hb hts (fun w h => List.mem_cons_of_mem _ (List.mem_append_right _ h)) hown hK hP 0 rfl rfl 21 (by decide) (hts (.fieldLink RX8 100 "BidMarketModel" "keeps" "Z") (List.mem_of_getElem? (i := 1) rfl)) (fun _ h9 => h9) rfl dX8_passes_1 ?_
  refine lv_if_eq (tgt := 11) hx hb dX8_passes_4 (by decide) (fun c1 => ?_) (fun c1 => ?_)
  · have hw := hw.1 c1
    refine lv_aload_n hx hb dX8_passes_11 rfl (lv_at hl 0 rfl) ?_
    refine va_get (D := (dC, dI)) (ci := 8) (v := .ref (ad 13)) (C := RX8) (T := TX8) (N := 36) hx hb hts (fun w h => List.mem_cons_of_mem _ (List.mem_append_right _ h)) hown hK hP 0 rfl rfl 18 (by decide) (hts (.fieldLink RX8 55 "BidMarketModel" "imaged" "[I") (List.mem_of_getElem? (i := 2) rfl)) (fun _ h9 => h9) rfl dX8_passes_12 ?_
    refine lv_aload_n hx hb dX8_passes_15 rfl (lv_at hl 0 rfl) ?_
    refine va_get (D := (dC, dI)) (ci := 8) (v := .int mSpot) (C := RX8) (T := TX8) (N := 36) hx hb hts (fun w h => List.mem_cons_of_mem _ (List.mem_append_right _ h)) hown hK hP 0 rfl rfl 20 (by decide) (hts (.fieldLink RX8 104 "BidMarketModel" "spot" "I") (List.mem_of_getElem? (i := 3) rfl)) (fun _ h9 => h9) rfl dX8_passes_16 ?_
    have h2 := hw.1
    have hw := hw.2
    refine va_iald hx hb hK hP 1 0 rfl rfl h2 dX8_passes_19 ?_
    exact kB20 (mImaged mSpot.toNatClampNeg) mSpot mImaged _ _ hP hD hS ls (lv_sub hl [0] rfl) hw
  · have hw := hw.2 c1
    refine lv_iload_n hx hb dX8_passes_7 rfl (lv_at hl 1 rfl) ?_
    refine lv_goto (tgt := 20) hx hb dX8_passes_8 (by decide) ?_
    exact kB20 a1 mSpot mImaged _ _ hP hD hS ls (lv_sub hl [0] rfl) hw
set_option maxHeartbeats 4000000 in
set_option maxRecDepth 100000 in
theorem mX8_passesRow (l : Launch) (dC : Nat → ClassId) (dI : Nat → Nat → Nat) (cI cJ cT cII cJJ : ClassId) (ad : Nat → Nat) (ad2 : Nat → Nat) (sz : Nat) (mN : Int32) (mStep : Int32) (mSeen : Int32) (mPlans : Int32) (mBooks : Int32) (mTexted : Int32) (mIsKept : Int32) (mSpot : Int32) (mKeeps : Int32) (mMindStep : Int32) (mAt : Int32) (mWhat : Int32) (mWhole : Int32) (mIsBroken : Int32) (mImaged : Nat → Int32) (N2 : Nat) (row2 : Nat → Int32) (Post : Int32 → (Nat → Int32) → (Nat → Int32) → Prop) (hw : wpX8_passesRow mSpot mKeeps mImaged N2 row2 Post) : Met l yX8_passesRow wsX8_passesRow ({ frames := 1, cells := 0, slots := 0, locals := 22 } : Room) (va_Pc [.ref (ad 0), .ref (ad2 0)] (fun U => U.heap.size = sz ∧ va_P (dC, dI) vwCl (wdX8_passesRow cI cJ cT cII cJJ ad ad2 mN mStep mSeen mPlans mBooks mTexted mIsKept mSpot mKeeps mMindStep mAt mWhat mWhole mIsBroken mImaged N2 row2) U.heap ∧ va_K (dC, dI) vwCl (bw_tys cI cJ cT cII cJJ) U ∧ va_D (fun _ => True) (wdX8_passesRow cI cJ cT cII cJJ ad ad2 mN mStep mSeen mPlans mBooks mTexted mIsKept mSpot mKeeps mMindStep mAt mWhat mWhole mIsBroken mImaged N2 row2))) (va_Qv (fun (u : Int32 × (Nat → Int32) × (Nat → Int32)) => Post u.1 u.2.1 u.2.2) (fun (u : Int32 × (Nat → Int32) × (Nat → Int32)) t => va_P (dC, dI) vwCl (wdX8_passesRow cI cJ cT cII cJJ ad ad2 mN mStep mSeen mPlans mBooks mTexted mIsKept u.1 mKeeps mMindStep mAt mWhat mWhole mIsBroken u.2.1 N2 u.2.2) t.heap) (va_A (wdX8_passesRow cI cJ cT cII cJJ ad ad2 mN mStep mSeen mPlans mBooks mTexted mIsKept mSpot mKeeps mMindStep mAt mWhat mWhole mIsBroken mImaged N2 row2) sz)) 0 0 (va_A (wdX8_passesRow cI cJ cT cII cJJ ad ad2 mN mStep mSeen mPlans mBooks mTexted mIsKept mSpot mKeeps mMindStep mAt mWhat mWhole mIsBroken mImaged N2 row2) sz) := by
  refine Met.ofW (cc := cX8_passesRow) (maxL := 3) (ret := none) (by decide) rfl ?_
  intro p e s m args below meth c s₁ B hml hv
  obtain ⟨rfl, hsz, hP, hK, hD0⟩ := hv
  have hx := B.exec
  have hb := B.bytes
  have hr := B.returns
  have hts := atoms_spec (ws := wsX8_passesRow) B.pre
  have hown : s.vm.findClass RX8 = some m.cls := findClass_of_methodNamed B.named
  have hlocks := B.notSynchronized
  subst hsz
  have hD := hD0.self (sz := s.heap.size)
  generalize hAe : va_A (wdX8_passesRow cI cJ cT cII cJJ ad ad2 mN mStep mSeen mPlans mBooks mTexted mIsKept mSpot mKeeps mMindStep mAt mWhat mWhole mIsBroken mImaged N2 row2) s.heap.size = A at hD ⊢
  have hA : ∀ q : Nat, s.heap.size ≤ q → A q := fun q h => by rw [← hAe]; exact Or.inr h
  have hS : va_S A s.heap s.heap [] := va_S.rf
  have hl := lv_entry ([.ref (ad 0), .ref (ad2 0)]) (n := 3) (Nat.le_of_ble_eq_true rfl)
  rw [lg_entry_eq]
  generalize (lg_sl ([.ref (ad 0), .ref (ad2 0)]) ++ List.replicate (3 - (lg_sl ([.ref (ad 0), .ref (ad2 0)])).length) Slot.unset).toArray = ls at hl ⊢
  have hl : lv_has ls 3 [(0, .ref (ad 0)), (1, .ref (ad2 0))] := hl
  have kB2 : ∀ f : Nat, ∀ (v2 : Int32) (mSpot : Int32) (mImaged : Nat → Int32) (row2 : Nat → Int32), ∀ (H : Heap) (locs : List Loc), va_P (dC, dI) vwCl (wdX8_passesRow cI cJ cT cII cJJ ad ad2 mN mStep mSeen mPlans mBooks mTexted mIsKept mSpot mKeeps mMindStep mAt mWhat mWhole mIsBroken mImaged N2 row2) H → va_D A (wdX8_passesRow cI cJ cT cII cJJ ad ad2 mN mStep mSeen mPlans mBooks mTexted mIsKept mSpot mKeeps mMindStep mAt mWhat mWhole mIsBroken mImaged N2 row2) → va_S A s.heap H locs → ∀ ls : Array Slot, lv_has ls 3 [(0, .ref (ad 0)), (1, .ref (ad2 0)), (2, .int v2)] → wpX8_passesRow_B2 mKeeps N2 Post f v2 mSpot mImaged row2 → W p l e (headSpec wsX8_passesRow ({ frames := 1, cells := 0, slots := 0, locals := 22 } : Room)).room s m ([.ref (ad 0), .ref (ad2 0)] : List Value).toArray below meth c H locs 0 0 (MQ below (va_Qv (fun (u : Int32 × (Nat → Int32) × (Nat → Int32)) => Post u.1 u.2.1 u.2.2) (fun (u : Int32 × (Nat → Int32) × (Nat → Int32)) t => va_P (dC, dI) vwCl (wdX8_passesRow cI cJ cT cII cJJ ad ad2 mN mStep mSeen mPlans mBooks mTexted mIsKept u.1 mKeeps mMindStep mAt mWhat mWhole mIsBroken u.2.1 N2 u.2.2) t.heap) A) ([.ref (ad 0), .ref (ad2 0)] : List Value).toArray s 0 0 A) (F0 m 2 ls []) := by
    intro  f
    induction f with
    | zero => intro v2 mSpot mImaged row2 H locs hP hD hS ls hl hw; exact (show False from hw).elim
    | succ f ih =>
      intro v2 mSpot mImaged row2 H locs hP hD hS ls hl hw
      rw [wpX8_passesRow_B2] at hw
      refine lv_iload_n hx hb dX8_passesRow_2 rfl (lv_at hl 2 rfl) ?_
      refine lv_aload_n hx hb dX8_passesRow_3 rfl (lv_at hl 1 rfl) ?_
      refine va_alen hx hb hK hP 2 0 rfl rfl (v := Int32.ofNat N2) rfl dX8_passesRow_4 ?_
      refine lv_icmp_ge (tgt := 24) hx hb dX8_passesRow_5 (by decide) (fun c1 => ?_) (fun c1 => ?_)
      · have hw := hw.1 c1
        exact W.vret hx hb hr (fun t ht hW => ⟨⟨(mSpot, mImaged, row2), rfl, hw, by show va_P _ _ _ t.heap; rw [ht]; exact hP⟩, hS.F ht⟩) hS.2.2 dX8_passesRow_24
      · have hw := hw.2 c1
        refine lv_aload_n hx hb dX8_passesRow_8 rfl (lv_at hl 1 rfl) ?_
        refine lv_iload_n hx hb dX8_passesRow_9 rfl (lv_at hl 2 rfl) ?_
        refine lv_aload_n hx hb dX8_passesRow_10 rfl (lv_at hl 0 rfl) ?_
        refine lv_aload_n hx hb dX8_passesRow_11 rfl (lv_at hl 1 rfl) ?_
        refine lv_iload_n hx hb dX8_passesRow_12 rfl (lv_at hl 2 rfl) ?_
        have h2 := hw.1
        have hw := hw.2
        refine va_iald hx hb hK hP 2 0 rfl rfl h2 dX8_passesRow_13 ?_
        refine bw_wvi (wc := (wdX8_passes cI cJ cT cII cJJ ad mN mStep mSeen mPlans mBooks mTexted mIsKept mSpot mKeeps mMindStep mAt mWhat mWhole mIsBroken mImaged)) (w1 := (fun (u : Int32 × (Nat → Int32)) => wdX8_passes cI cJ cT cII cJJ ad mN mStep mSeen mPlans mBooks mTexted mIsKept u.1 mKeeps mMindStep mAt mWhat mWhole mIsBroken u.2)) (As := [.int (row2 v2.toNatClampNeg)]) (rest := [.int v2, .ref (ad2 0)]) ⟨hx, hb, hml, hown, hts⟩ (mX8_passes l dC dI cI cJ cT cII cJJ ad _ mN mStep mSeen mPlans mBooks mTexted mIsKept mSpot mKeeps mMindStep mAt mWhat mWhole mIsBroken mImaged (row2 v2.toNatClampNeg) _ hw) (cwV 1 hts gX8_passesRow_X8_passes rfl rfl rfl hdX8_passes ⟨Nat.le_of_ble_eq_true rfl, Nat.le_of_ble_eq_true rfl⟩) hK hP hD hS hA [0, 1] rfl (by decide) (fun _ => rfl) rfl rfl rfl rfl hl.1 rfl (Nat.le_of_ble_eq_true rfl) ⟨Nat.le_of_ble_eq_true rfl, Nat.le_of_ble_eq_true rfl⟩ dX8_passesRow_14 (fun r3 u H locs hw hP hD hS => ?_)
        obtain ⟨y4, y5⟩ := u
        try dsimp only at hw
        have hP : va_P (dC, dI) vwCl (wdX8_passesRow cI cJ cT cII cJJ ad ad2 mN mStep mSeen mPlans mBooks mTexted mIsKept y4 mKeeps mMindStep mAt mWhat mWhole mIsBroken y5 N2 row2) H := hP
        have hD : va_D A (wdX8_passesRow cI cJ cT cII cJJ ad ad2 mN mStep mSeen mPlans mBooks mTexted mIsKept y4 mKeeps mMindStep mAt mWhat mWhole mIsBroken y5 N2 row2) := hD
        have h6 := hw.1
        have hw := hw.2
        refine va_iast hx hb hK hP hD hS 2 0 rfl rfl h6 dX8_passesRow_17 (fun H locs hP hD hS => ?_)
        have hP : va_P (dC, dI) vwCl (wdX8_passesRow cI cJ cT cII cJJ ad ad2 mN mStep mSeen mPlans mBooks mTexted mIsKept y4 mKeeps mMindStep mAt mWhat mWhole mIsBroken y5 N2 (upd row2 v2.toNatClampNeg r3)) H := hP
        have hD : va_D A (wdX8_passesRow cI cJ cT cII cJJ ad ad2 mN mStep mSeen mPlans mBooks mTexted mIsKept y4 mKeeps mMindStep mAt mWhat mWhole mIsBroken y5 N2 (upd row2 v2.toNatClampNeg r3)) := hD
        obtain ⟨x7, ex7⟩ : ∃ y : Int32, y = v2 + 1 := ⟨_, rfl⟩
        have hw := hw x7 ex7
        refine lv_iinc (v := x7) (lv' := [(2, .int x7), (0, .ref (ad 0)), (1, .ref (ad2 0))]) hx hb dX8_passesRow_18 hl (k := 2) rfl (by rw [ex7]; rfl) (by decide) rfl (fun ls hl => ?_)
        refine lv_goto (tgt := 2) hx hb dX8_passesRow_21 (by decide) ?_
        exact ih x7 y4 y5 (upd row2 v2.toNatClampNeg r3) _ _ hP hD hS ls (lv_sub hl [1, 2, 0] rfl) hw
  unfold wpX8_passesRow at hw
  refine lv_iconst (v := 0) hx hb dX8_passesRow_0 (by decide) ?_
  refine lv_istore_n (lv' := [(2, .int 0), (0, .ref (ad 0)), (1, .ref (ad2 0))]) hx hb dX8_passesRow_1 rfl hl (by decide) rfl (fun ls hl => ?_)
  obtain ⟨f1, hw⟩ := hw
  exact kB2 f1 0 mSpot mImaged row2 _ _ hP hD hS ls (lv_sub hl [1, 2, 0] rfl) hw
set_option maxHeartbeats 4000000 in
set_option maxRecDepth 100000 in
theorem mX8_passesAll (l : Launch) (dC : Nat → ClassId) (dI : Nat → Nat → Nat) (cI cJ cT cII cJJ : ClassId) (ad : Nat → Nat) (sz : Nat) (mN : Int32) (mStep : Int32) (mSeen : Int32) (mPlans : Int32) (mBooks : Int32) (mTexted : Int32) (mIsKept : Int32) (mSpot : Int32) (mKeeps : Int32) (mMindStep : Int32) (mAt : Int32) (mWhat : Int32) (mWhole : Int32) (mIsBroken : Int32) (mWorth : Nat → Int32) (mHas : Nat → Int32) (mOwner : Nat → Int32) (mPrice : Nat → Int32) (mSeenWho : Nat → Int32) (mSeenWhat : Nat → Int32) (mPlanWhat : Nat → Int32) (mPlanN : Nat → Int32) (mBookThing : Nat → Int32) (mBookPrice : Nat → Int32) (mImaged : Nat → Int32) (a1 : Int32) (Post : Int32 → Int32 → Int32 → Int32 → Int32 → Int32 → Int32 → Int32 → (Nat → Int32) → (Nat → Int32) → (Nat → Int32) → (Nat → Int32) → (Nat → Int32) → (Nat → Int32) → (Nat → Int32) → (Nat → Int32) → (Nat → Int32) → (Nat → Int32) → (Nat → Int32) → Prop) (hw : wpX8_passesAll mN mStep mSeen mPlans mBooks mSpot mKeeps mWorth mHas mOwner mPrice mSeenWho mSeenWhat mPlanWhat mPlanN mBookThing mBookPrice mImaged a1 Post) : Met l yX8_passesAll wsX8_passesAll ({ frames := 2, cells := 0, slots := 0, locals := 44 } : Room) (va_Pc [.ref (ad 0), .int a1] (fun U => U.heap.size = sz ∧ va_P (dC, dI) vwCl (wdX8_passesAll cI cJ cT cII cJJ ad mN mStep mSeen mPlans mBooks mTexted mIsKept mSpot mKeeps mMindStep mAt mWhat mWhole mIsBroken mWorth mHas mOwner mPrice mSeenWho mSeenWhat mPlanWhat mPlanN mBookThing mBookPrice mImaged) U.heap ∧ va_K (dC, dI) vwCl (bw_tys cI cJ cT cII cJJ) U ∧ va_D (fun _ => True) (wdX8_passesAll cI cJ cT cII cJJ ad mN mStep mSeen mPlans mBooks mTexted mIsKept mSpot mKeeps mMindStep mAt mWhat mWhole mIsBroken mWorth mHas mOwner mPrice mSeenWho mSeenWhat mPlanWhat mPlanN mBookThing mBookPrice mImaged))) (va_Qi (fun (r : Int32) (u : Int32 × Int32 × Int32 × Int32 × Int32 × Int32 × Int32 × (Nat → Int32) × (Nat → Int32) × (Nat → Int32) × (Nat → Int32) × (Nat → Int32) × (Nat → Int32) × (Nat → Int32) × (Nat → Int32) × (Nat → Int32) × (Nat → Int32) × (Nat → Int32)) => Post r u.1 u.2.1 u.2.2.1 u.2.2.2.1 u.2.2.2.2.1 u.2.2.2.2.2.1 u.2.2.2.2.2.2.1 u.2.2.2.2.2.2.2.1 u.2.2.2.2.2.2.2.2.1 u.2.2.2.2.2.2.2.2.2.1 u.2.2.2.2.2.2.2.2.2.2.1 u.2.2.2.2.2.2.2.2.2.2.2.1 u.2.2.2.2.2.2.2.2.2.2.2.2.1 u.2.2.2.2.2.2.2.2.2.2.2.2.2.1 u.2.2.2.2.2.2.2.2.2.2.2.2.2.2.1 u.2.2.2.2.2.2.2.2.2.2.2.2.2.2.2.1 u.2.2.2.2.2.2.2.2.2.2.2.2.2.2.2.2.1 u.2.2.2.2.2.2.2.2.2.2.2.2.2.2.2.2.2) (fun (u : Int32 × Int32 × Int32 × Int32 × Int32 × Int32 × Int32 × (Nat → Int32) × (Nat → Int32) × (Nat → Int32) × (Nat → Int32) × (Nat → Int32) × (Nat → Int32) × (Nat → Int32) × (Nat → Int32) × (Nat → Int32) × (Nat → Int32) × (Nat → Int32)) t => va_P (dC, dI) vwCl (wdX8_passesAll cI cJ cT cII cJJ ad u.1 u.2.1 u.2.2.1 u.2.2.2.1 u.2.2.2.2.1 mTexted mIsKept u.2.2.2.2.2.1 u.2.2.2.2.2.2.1 mMindStep mAt mWhat mWhole mIsBroken u.2.2.2.2.2.2.2.1 u.2.2.2.2.2.2.2.2.1 u.2.2.2.2.2.2.2.2.2.1 u.2.2.2.2.2.2.2.2.2.2.1 u.2.2.2.2.2.2.2.2.2.2.2.1 u.2.2.2.2.2.2.2.2.2.2.2.2.1 u.2.2.2.2.2.2.2.2.2.2.2.2.2.1 u.2.2.2.2.2.2.2.2.2.2.2.2.2.2.1 u.2.2.2.2.2.2.2.2.2.2.2.2.2.2.2.1 u.2.2.2.2.2.2.2.2.2.2.2.2.2.2.2.2.1 u.2.2.2.2.2.2.2.2.2.2.2.2.2.2.2.2.2) t.heap) (va_A (wdX8_passesAll cI cJ cT cII cJJ ad mN mStep mSeen mPlans mBooks mTexted mIsKept mSpot mKeeps mMindStep mAt mWhat mWhole mIsBroken mWorth mHas mOwner mPrice mSeenWho mSeenWhat mPlanWhat mPlanN mBookThing mBookPrice mImaged) sz)) 0 0 (va_A (wdX8_passesAll cI cJ cT cII cJJ ad mN mStep mSeen mPlans mBooks mTexted mIsKept mSpot mKeeps mMindStep mAt mWhat mWhole mIsBroken mWorth mHas mOwner mPrice mSeenWho mSeenWhat mPlanWhat mPlanN mBookThing mBookPrice mImaged) sz) := by
  refine Met.ofW (cc := cX8_passesAll) (maxL := 2) (ret := (some .int)) (by decide) rfl ?_
  intro p e s m args below meth c s₁ B hml hv
  obtain ⟨rfl, hsz, hP, hK, hD0⟩ := hv
  have hx := B.exec
  have hb := B.bytes
  have hr := B.returns
  have hts := atoms_spec (ws := wsX8_passesAll) B.pre
  have hown : s.vm.findClass RX8 = some m.cls := findClass_of_methodNamed B.named
  have hlocks := B.notSynchronized
  subst hsz
  have hD := hD0.self (sz := s.heap.size)
  generalize hAe : va_A (wdX8_passesAll cI cJ cT cII cJJ ad mN mStep mSeen mPlans mBooks mTexted mIsKept mSpot mKeeps mMindStep mAt mWhat mWhole mIsBroken mWorth mHas mOwner mPrice mSeenWho mSeenWhat mPlanWhat mPlanN mBookThing mBookPrice mImaged) s.heap.size = A at hD ⊢
  have hA : ∀ q : Nat, s.heap.size ≤ q → A q := fun q h => by rw [← hAe]; exact Or.inr h
  have hS : va_S A s.heap s.heap [] := va_S.rf
  have hl := lv_entry ([.ref (ad 0), .int a1]) (n := 2) (Nat.le_of_ble_eq_true rfl)
  rw [lg_entry_eq]
  generalize (lg_sl ([.ref (ad 0), .int a1]) ++ List.replicate (2 - (lg_sl ([.ref (ad 0), .int a1])).length) Slot.unset).toArray = ls at hl ⊢
  have hl : lv_has ls 2 [(0, .ref (ad 0)), (1, .int a1)] := hl
  unfold wpX8_passesAll at hw
  refine lv_aload_n hx hb dX8_passesAll_0 rfl (lv_at hl 0 rfl) ?_
  refine lv_iload_n hx hb dX8_passesAll_1 rfl (lv_at hl 1 rfl) ?_
  have h1 := hw.1
  have hw := hw.2
  refine va_put (D := (dC, dI)) (ci := 8) (v := .int a1) (ty := .boolean) (C := RX8) (T := TX8) (N := 36) hx hb hts (fun w h => List.mem_cons_of_mem _ (List.mem_append_right _ h)) tyX8 tyX8_ok nmX8 hown hK hP hD hS 0 rfl rfl 21 (by decide) (hts (.fieldLink RX8 100 "BidMarketModel" "keeps" "Z") (List.mem_of_getElem? (i := 1) rfl)) (fun _ h9 => h9) rfl (by decide +kernel) (bw_z h1) (bw_zf h1) (Nat.le_of_ble_eq_true rfl) dX8_passesAll_2 (fun H locs hP hD hS => ?_)
  have hP : va_P (dC, dI) vwCl (wdX8_passesAll cI cJ cT cII cJJ ad mN mStep mSeen mPlans mBooks mTexted mIsKept mSpot a1 mMindStep mAt mWhat mWhole mIsBroken mWorth mHas mOwner mPrice mSeenWho mSeenWhat mPlanWhat mPlanN mBookThing mBookPrice mImaged) H := hP
  have hD : va_D A (wdX8_passesAll cI cJ cT cII cJJ ad mN mStep mSeen mPlans mBooks mTexted mIsKept mSpot a1 mMindStep mAt mWhat mWhole mIsBroken mWorth mHas mOwner mPrice mSeenWho mSeenWhat mPlanWhat mPlanN mBookThing mBookPrice mImaged) := hD
  refine lv_aload_n hx hb dX8_passesAll_5 rfl (lv_at hl 0 rfl) ?_
  refine lv_iconst (v := 0) hx hb dX8_passesAll_6 (by decide) ?_
  refine va_put (D := (dC, dI)) (ci := 8) (v := .int 0) (ty := .int) (C := RX8) (T := TX8) (N := 36) hx hb hts (fun w h => List.mem_cons_of_mem _ (List.mem_append_right _ h)) tyX8 tyX8_ok nmX8 hown hK hP hD hS 0 rfl rfl 20 (by decide) (hts (.fieldLink RX8 104 "BidMarketModel" "spot" "I") (List.mem_of_getElem? (i := 2) rfl)) (fun _ h9 => h9) rfl (by decide +kernel) rfl rfl (Nat.le_of_ble_eq_true rfl) dX8_passesAll_7 (fun H locs hP hD hS => ?_)
  have hP : va_P (dC, dI) vwCl (wdX8_passesAll cI cJ cT cII cJJ ad mN mStep mSeen mPlans mBooks mTexted mIsKept 0 a1 mMindStep mAt mWhat mWhole mIsBroken mWorth mHas mOwner mPrice mSeenWho mSeenWhat mPlanWhat mPlanN mBookThing mBookPrice mImaged) H := hP
  have hD : va_D A (wdX8_passesAll cI cJ cT cII cJJ ad mN mStep mSeen mPlans mBooks mTexted mIsKept 0 a1 mMindStep mAt mWhat mWhole mIsBroken mWorth mHas mOwner mPrice mSeenWho mSeenWhat mPlanWhat mPlanN mBookThing mBookPrice mImaged) := hD
  refine lv_aload_n hx hb dX8_passesAll_10 rfl (lv_at hl 0 rfl) ?_
  refine lv_aload_n hx hb dX8_passesAll_11 rfl (lv_at hl 0 rfl) ?_
  refine lv_aload_n hx hb dX8_passesAll_12 rfl (lv_at hl 0 rfl) ?_
  refine va_get (D := (dC, dI)) (ci := 8) (v := .int mN) (C := RX8) (T := TX8) (N := 36) hx hb hts (fun w h => List.mem_cons_of_mem _ (List.mem_append_right _ h)) hown hK hP 0 rfl rfl 0 (by decide) (hts (.fieldLink RX8 9 "BidMarketModel" "n" "I") (List.mem_of_getElem? (i := 3) rfl)) (fun _ h9 => h9) rfl dX8_passesAll_13 ?_
  refine bw_wvi (wc := (wdX8_passes cI cJ cT cII cJJ ad mN mStep mSeen mPlans mBooks mTexted mIsKept 0 a1 mMindStep mAt mWhat mWhole mIsBroken mImaged)) (w1 := (fun (u : Int32 × (Nat → Int32)) => wdX8_passes cI cJ cT cII cJJ ad mN mStep mSeen mPlans mBooks mTexted mIsKept u.1 a1 mMindStep mAt mWhat mWhole mIsBroken u.2)) (As := [.int mN]) (rest := [.ref (ad 0)]) ⟨hx, hb, hml, hown, hts⟩ (mX8_passes l dC dI cI cJ cT cII cJJ ad _ mN mStep mSeen mPlans mBooks mTexted mIsKept 0 a1 mMindStep mAt mWhat mWhole mIsBroken mImaged mN _ hw) (cwV 1 hts gX8_passesAll_X8_passes rfl rfl rfl hdX8_passes ⟨Nat.le_of_ble_eq_true rfl, Nat.le_of_ble_eq_true rfl⟩) hK hP hD hS hA [0, 11] rfl (by decide) (fun _ => rfl) rfl rfl rfl rfl hl.1 rfl (Nat.le_of_ble_eq_true rfl) ⟨Nat.le_of_ble_eq_true rfl, Nat.le_of_ble_eq_true rfl⟩ dX8_passesAll_16 (fun r2 u H locs hw hP hD hS => ?_)
  obtain ⟨y3, y4⟩ := u
  try dsimp only at hw
  have hP : va_P (dC, dI) vwCl (wdX8_passesAll cI cJ cT cII cJJ ad mN mStep mSeen mPlans mBooks mTexted mIsKept y3 a1 mMindStep mAt mWhat mWhole mIsBroken mWorth mHas mOwner mPrice mSeenWho mSeenWhat mPlanWhat mPlanN mBookThing mBookPrice y4) H := hP
  have hD : va_D A (wdX8_passesAll cI cJ cT cII cJJ ad mN mStep mSeen mPlans mBooks mTexted mIsKept y3 a1 mMindStep mAt mWhat mWhole mIsBroken mWorth mHas mOwner mPrice mSeenWho mSeenWhat mPlanWhat mPlanN mBookThing mBookPrice y4) := hD
  refine va_put (D := (dC, dI)) (ci := 8) (v := .int r2) (ty := .int) (C := RX8) (T := TX8) (N := 36) hx hb hts (fun w h => List.mem_cons_of_mem _ (List.mem_append_right _ h)) tyX8 tyX8_ok nmX8 hown hK hP hD hS 0 rfl rfl 0 (by decide) (hts (.fieldLink RX8 9 "BidMarketModel" "n" "I") (List.mem_of_getElem? (i := 3) rfl)) (fun _ h9 => h9) rfl (by decide +kernel) rfl rfl (Nat.le_of_ble_eq_true rfl) dX8_passesAll_19 (fun H locs hP hD hS => ?_)
  have hP : va_P (dC, dI) vwCl (wdX8_passesAll cI cJ cT cII cJJ ad r2 mStep mSeen mPlans mBooks mTexted mIsKept y3 a1 mMindStep mAt mWhat mWhole mIsBroken mWorth mHas mOwner mPrice mSeenWho mSeenWhat mPlanWhat mPlanN mBookThing mBookPrice y4) H := hP
  have hD : va_D A (wdX8_passesAll cI cJ cT cII cJJ ad r2 mStep mSeen mPlans mBooks mTexted mIsKept y3 a1 mMindStep mAt mWhat mWhole mIsBroken mWorth mHas mOwner mPrice mSeenWho mSeenWhat mPlanWhat mPlanN mBookThing mBookPrice y4) := hD
  refine lv_aload_n hx hb dX8_passesAll_22 rfl (lv_at hl 0 rfl) ?_
  refine lv_aload_n hx hb dX8_passesAll_23 rfl (lv_at hl 0 rfl) ?_
  refine lv_aload_n hx hb dX8_passesAll_24 rfl (lv_at hl 0 rfl) ?_
  refine va_get (D := (dC, dI)) (ci := 8) (v := .int mStep) (C := RX8) (T := TX8) (N := 36) hx hb hts (fun w h => List.mem_cons_of_mem _ (List.mem_append_right _ h)) hown hK hP 0 rfl rfl 1 (by decide) (hts (.fieldLink RX8 15 "BidMarketModel" "step" "I") (List.mem_of_getElem? (i := 4) rfl)) (fun _ h9 => h9) rfl dX8_passesAll_25 ?_
  refine bw_wvi (wc := (wdX8_passes cI cJ cT cII cJJ ad r2 mStep mSeen mPlans mBooks mTexted mIsKept y3 a1 mMindStep mAt mWhat mWhole mIsBroken y4)) (w1 := (fun (u : Int32 × (Nat → Int32)) => wdX8_passes cI cJ cT cII cJJ ad r2 mStep mSeen mPlans mBooks mTexted mIsKept u.1 a1 mMindStep mAt mWhat mWhole mIsBroken u.2)) (As := [.int mStep]) (rest := [.ref (ad 0)]) ⟨hx, hb, hml, hown, hts⟩ (mX8_passes l dC dI cI cJ cT cII cJJ ad _ r2 mStep mSeen mPlans mBooks mTexted mIsKept y3 a1 mMindStep mAt mWhat mWhole mIsBroken y4 mStep _ hw) (cwV 1 hts gX8_passesAll_X8_passes rfl rfl rfl hdX8_passes ⟨Nat.le_of_ble_eq_true rfl, Nat.le_of_ble_eq_true rfl⟩) hK hP hD hS hA [0, 11] rfl (by decide) (fun _ => rfl) rfl rfl rfl rfl hl.1 rfl (Nat.le_of_ble_eq_true rfl) ⟨Nat.le_of_ble_eq_true rfl, Nat.le_of_ble_eq_true rfl⟩ dX8_passesAll_28 (fun r5 u H locs hw hP hD hS => ?_)
  obtain ⟨y6, y7⟩ := u
  try dsimp only at hw
  have hP : va_P (dC, dI) vwCl (wdX8_passesAll cI cJ cT cII cJJ ad r2 mStep mSeen mPlans mBooks mTexted mIsKept y6 a1 mMindStep mAt mWhat mWhole mIsBroken mWorth mHas mOwner mPrice mSeenWho mSeenWhat mPlanWhat mPlanN mBookThing mBookPrice y7) H := hP
  have hD : va_D A (wdX8_passesAll cI cJ cT cII cJJ ad r2 mStep mSeen mPlans mBooks mTexted mIsKept y6 a1 mMindStep mAt mWhat mWhole mIsBroken mWorth mHas mOwner mPrice mSeenWho mSeenWhat mPlanWhat mPlanN mBookThing mBookPrice y7) := hD
  refine va_put (D := (dC, dI)) (ci := 8) (v := .int r5) (ty := .int) (C := RX8) (T := TX8) (N := 36) hx hb hts (fun w h => List.mem_cons_of_mem _ (List.mem_append_right _ h)) tyX8 tyX8_ok nmX8 hown hK hP hD hS 0 rfl rfl 1 (by decide) (hts (.fieldLink RX8 15 "BidMarketModel" "step" "I") (List.mem_of_getElem? (i := 4) rfl)) (fun _ h9 => h9) rfl (by decide +kernel) rfl rfl (Nat.le_of_ble_eq_true rfl) dX8_passesAll_31 (fun H locs hP hD hS => ?_)
  have hP : va_P (dC, dI) vwCl (wdX8_passesAll cI cJ cT cII cJJ ad r2 r5 mSeen mPlans mBooks mTexted mIsKept y6 a1 mMindStep mAt mWhat mWhole mIsBroken mWorth mHas mOwner mPrice mSeenWho mSeenWhat mPlanWhat mPlanN mBookThing mBookPrice y7) H := hP
  have hD : va_D A (wdX8_passesAll cI cJ cT cII cJJ ad r2 r5 mSeen mPlans mBooks mTexted mIsKept y6 a1 mMindStep mAt mWhat mWhole mIsBroken mWorth mHas mOwner mPrice mSeenWho mSeenWhat mPlanWhat mPlanN mBookThing mBookPrice y7) := hD
  refine lv_aload_n hx hb dX8_passesAll_34 rfl (lv_at hl 0 rfl) ?_
  refine lv_aload_n hx hb dX8_passesAll_35 rfl (lv_at hl 0 rfl) ?_
  refine lv_aload_n hx hb dX8_passesAll_36 rfl (lv_at hl 0 rfl) ?_
  refine va_get (D := (dC, dI)) (ci := 8) (v := .int mSeen) (C := RX8) (T := TX8) (N := 36) hx hb hts (fun w h => List.mem_cons_of_mem _ (List.mem_append_right _ h)) hown hK hP 0 rfl rfl 12 (by decide) (hts (.fieldLink RX8 111 "BidMarketModel" "seen" "I") (List.mem_of_getElem? (i := 5) rfl)) (fun _ h9 => h9) rfl dX8_passesAll_37 ?_
  refine bw_wvi (wc := (wdX8_passes cI cJ cT cII cJJ ad r2 r5 mSeen mPlans mBooks mTexted mIsKept y6 a1 mMindStep mAt mWhat mWhole mIsBroken y7)) (w1 := (fun (u : Int32 × (Nat → Int32)) => wdX8_passes cI cJ cT cII cJJ ad r2 r5 mSeen mPlans mBooks mTexted mIsKept u.1 a1 mMindStep mAt mWhat mWhole mIsBroken u.2)) (As := [.int mSeen]) (rest := [.ref (ad 0)]) ⟨hx, hb, hml, hown, hts⟩ (mX8_passes l dC dI cI cJ cT cII cJJ ad _ r2 r5 mSeen mPlans mBooks mTexted mIsKept y6 a1 mMindStep mAt mWhat mWhole mIsBroken y7 mSeen _ hw) (cwV 1 hts gX8_passesAll_X8_passes rfl rfl rfl hdX8_passes ⟨Nat.le_of_ble_eq_true rfl, Nat.le_of_ble_eq_true rfl⟩) hK hP hD hS hA [0, 11] rfl (by decide) (fun _ => rfl) rfl rfl rfl rfl hl.1 rfl (Nat.le_of_ble_eq_true rfl) ⟨Nat.le_of_ble_eq_true rfl, Nat.le_of_ble_eq_true rfl⟩ dX8_passesAll_40 (fun r8 u H locs hw hP hD hS => ?_)
  obtain ⟨y9, y10⟩ := u
  try dsimp only at hw
  have hP : va_P (dC, dI) vwCl (wdX8_passesAll cI cJ cT cII cJJ ad r2 r5 mSeen mPlans mBooks mTexted mIsKept y9 a1 mMindStep mAt mWhat mWhole mIsBroken mWorth mHas mOwner mPrice mSeenWho mSeenWhat mPlanWhat mPlanN mBookThing mBookPrice y10) H := hP
  have hD : va_D A (wdX8_passesAll cI cJ cT cII cJJ ad r2 r5 mSeen mPlans mBooks mTexted mIsKept y9 a1 mMindStep mAt mWhat mWhole mIsBroken mWorth mHas mOwner mPrice mSeenWho mSeenWhat mPlanWhat mPlanN mBookThing mBookPrice y10) := hD
  refine va_put (D := (dC, dI)) (ci := 8) (v := .int r8) (ty := .int) (C := RX8) (T := TX8) (N := 36) hx hb hts (fun w h => List.mem_cons_of_mem _ (List.mem_append_right _ h)) tyX8 tyX8_ok nmX8 hown hK hP hD hS 0 rfl rfl 12 (by decide) (hts (.fieldLink RX8 111 "BidMarketModel" "seen" "I") (List.mem_of_getElem? (i := 5) rfl)) (fun _ h9 => h9) rfl (by decide +kernel) rfl rfl (Nat.le_of_ble_eq_true rfl) dX8_passesAll_43 (fun H locs hP hD hS => ?_)
  have hP : va_P (dC, dI) vwCl (wdX8_passesAll cI cJ cT cII cJJ ad r2 r5 r8 mPlans mBooks mTexted mIsKept y9 a1 mMindStep mAt mWhat mWhole mIsBroken mWorth mHas mOwner mPrice mSeenWho mSeenWhat mPlanWhat mPlanN mBookThing mBookPrice y10) H := hP
  have hD : va_D A (wdX8_passesAll cI cJ cT cII cJJ ad r2 r5 r8 mPlans mBooks mTexted mIsKept y9 a1 mMindStep mAt mWhat mWhole mIsBroken mWorth mHas mOwner mPrice mSeenWho mSeenWhat mPlanWhat mPlanN mBookThing mBookPrice y10) := hD
  refine lv_aload_n hx hb dX8_passesAll_46 rfl (lv_at hl 0 rfl) ?_
  refine lv_aload_n hx hb dX8_passesAll_47 rfl (lv_at hl 0 rfl) ?_
  refine lv_aload_n hx hb dX8_passesAll_48 rfl (lv_at hl 0 rfl) ?_
  refine va_get (D := (dC, dI)) (ci := 8) (v := .int mPlans) (C := RX8) (T := TX8) (N := 36) hx hb hts (fun w h => List.mem_cons_of_mem _ (List.mem_append_right _ h)) hown hK hP 0 rfl rfl 13 (by decide) (hts (.fieldLink RX8 114 "BidMarketModel" "plans" "I") (List.mem_of_getElem? (i := 6) rfl)) (fun _ h9 => h9) rfl dX8_passesAll_49 ?_
  refine bw_wvi (wc := (wdX8_passes cI cJ cT cII cJJ ad r2 r5 r8 mPlans mBooks mTexted mIsKept y9 a1 mMindStep mAt mWhat mWhole mIsBroken y10)) (w1 := (fun (u : Int32 × (Nat → Int32)) => wdX8_passes cI cJ cT cII cJJ ad r2 r5 r8 mPlans mBooks mTexted mIsKept u.1 a1 mMindStep mAt mWhat mWhole mIsBroken u.2)) (As := [.int mPlans]) (rest := [.ref (ad 0)]) ⟨hx, hb, hml, hown, hts⟩ (mX8_passes l dC dI cI cJ cT cII cJJ ad _ r2 r5 r8 mPlans mBooks mTexted mIsKept y9 a1 mMindStep mAt mWhat mWhole mIsBroken y10 mPlans _ hw) (cwV 1 hts gX8_passesAll_X8_passes rfl rfl rfl hdX8_passes ⟨Nat.le_of_ble_eq_true rfl, Nat.le_of_ble_eq_true rfl⟩) hK hP hD hS hA [0, 11] rfl (by decide) (fun _ => rfl) rfl rfl rfl rfl hl.1 rfl (Nat.le_of_ble_eq_true rfl) ⟨Nat.le_of_ble_eq_true rfl, Nat.le_of_ble_eq_true rfl⟩ dX8_passesAll_52 (fun r11 u H locs hw hP hD hS => ?_)
  obtain ⟨y12, y13⟩ := u
  try dsimp only at hw
  have hP : va_P (dC, dI) vwCl (wdX8_passesAll cI cJ cT cII cJJ ad r2 r5 r8 mPlans mBooks mTexted mIsKept y12 a1 mMindStep mAt mWhat mWhole mIsBroken mWorth mHas mOwner mPrice mSeenWho mSeenWhat mPlanWhat mPlanN mBookThing mBookPrice y13) H := hP
  have hD : va_D A (wdX8_passesAll cI cJ cT cII cJJ ad r2 r5 r8 mPlans mBooks mTexted mIsKept y12 a1 mMindStep mAt mWhat mWhole mIsBroken mWorth mHas mOwner mPrice mSeenWho mSeenWhat mPlanWhat mPlanN mBookThing mBookPrice y13) := hD
  refine va_put (D := (dC, dI)) (ci := 8) (v := .int r11) (ty := .int) (C := RX8) (T := TX8) (N := 36) hx hb hts (fun w h => List.mem_cons_of_mem _ (List.mem_append_right _ h)) tyX8 tyX8_ok nmX8 hown hK hP hD hS 0 rfl rfl 13 (by decide) (hts (.fieldLink RX8 114 "BidMarketModel" "plans" "I") (List.mem_of_getElem? (i := 6) rfl)) (fun _ h9 => h9) rfl (by decide +kernel) rfl rfl (Nat.le_of_ble_eq_true rfl) dX8_passesAll_55 (fun H locs hP hD hS => ?_)
  have hP : va_P (dC, dI) vwCl (wdX8_passesAll cI cJ cT cII cJJ ad r2 r5 r8 r11 mBooks mTexted mIsKept y12 a1 mMindStep mAt mWhat mWhole mIsBroken mWorth mHas mOwner mPrice mSeenWho mSeenWhat mPlanWhat mPlanN mBookThing mBookPrice y13) H := hP
  have hD : va_D A (wdX8_passesAll cI cJ cT cII cJJ ad r2 r5 r8 r11 mBooks mTexted mIsKept y12 a1 mMindStep mAt mWhat mWhole mIsBroken mWorth mHas mOwner mPrice mSeenWho mSeenWhat mPlanWhat mPlanN mBookThing mBookPrice y13) := hD
  refine lv_aload_n hx hb dX8_passesAll_58 rfl (lv_at hl 0 rfl) ?_
  refine lv_aload_n hx hb dX8_passesAll_59 rfl (lv_at hl 0 rfl) ?_
  refine lv_aload_n hx hb dX8_passesAll_60 rfl (lv_at hl 0 rfl) ?_
  refine va_get (D := (dC, dI)) (ci := 8) (v := .int mBooks) (C := RX8) (T := TX8) (N := 36) hx hb hts (fun w h => List.mem_cons_of_mem _ (List.mem_append_right _ h)) hown hK hP 0 rfl rfl 14 (by decide) (hts (.fieldLink RX8 117 "BidMarketModel" "books" "I") (List.mem_of_getElem? (i := 7) rfl)) (fun _ h9 => h9) rfl dX8_passesAll_61 ?_
  refine bw_wvi (wc := (wdX8_passes cI cJ cT cII cJJ ad r2 r5 r8 r11 mBooks mTexted mIsKept y12 a1 mMindStep mAt mWhat mWhole mIsBroken y13)) (w1 := (fun (u : Int32 × (Nat → Int32)) => wdX8_passes cI cJ cT cII cJJ ad r2 r5 r8 r11 mBooks mTexted mIsKept u.1 a1 mMindStep mAt mWhat mWhole mIsBroken u.2)) (As := [.int mBooks]) (rest := [.ref (ad 0)]) ⟨hx, hb, hml, hown, hts⟩ (mX8_passes l dC dI cI cJ cT cII cJJ ad _ r2 r5 r8 r11 mBooks mTexted mIsKept y12 a1 mMindStep mAt mWhat mWhole mIsBroken y13 mBooks _ hw) (cwV 1 hts gX8_passesAll_X8_passes rfl rfl rfl hdX8_passes ⟨Nat.le_of_ble_eq_true rfl, Nat.le_of_ble_eq_true rfl⟩) hK hP hD hS hA [0, 11] rfl (by decide) (fun _ => rfl) rfl rfl rfl rfl hl.1 rfl (Nat.le_of_ble_eq_true rfl) ⟨Nat.le_of_ble_eq_true rfl, Nat.le_of_ble_eq_true rfl⟩ dX8_passesAll_64 (fun r14 u H locs hw hP hD hS => ?_)
  obtain ⟨y15, y16⟩ := u
  try dsimp only at hw
  have hP : va_P (dC, dI) vwCl (wdX8_passesAll cI cJ cT cII cJJ ad r2 r5 r8 r11 mBooks mTexted mIsKept y15 a1 mMindStep mAt mWhat mWhole mIsBroken mWorth mHas mOwner mPrice mSeenWho mSeenWhat mPlanWhat mPlanN mBookThing mBookPrice y16) H := hP
  have hD : va_D A (wdX8_passesAll cI cJ cT cII cJJ ad r2 r5 r8 r11 mBooks mTexted mIsKept y15 a1 mMindStep mAt mWhat mWhole mIsBroken mWorth mHas mOwner mPrice mSeenWho mSeenWhat mPlanWhat mPlanN mBookThing mBookPrice y16) := hD
  refine va_put (D := (dC, dI)) (ci := 8) (v := .int r14) (ty := .int) (C := RX8) (T := TX8) (N := 36) hx hb hts (fun w h => List.mem_cons_of_mem _ (List.mem_append_right _ h)) tyX8 tyX8_ok nmX8 hown hK hP hD hS 0 rfl rfl 14 (by decide) (hts (.fieldLink RX8 117 "BidMarketModel" "books" "I") (List.mem_of_getElem? (i := 7) rfl)) (fun _ h9 => h9) rfl (by decide +kernel) rfl rfl (Nat.le_of_ble_eq_true rfl) dX8_passesAll_67 (fun H locs hP hD hS => ?_)
  have hP : va_P (dC, dI) vwCl (wdX8_passesAll cI cJ cT cII cJJ ad r2 r5 r8 r11 r14 mTexted mIsKept y15 a1 mMindStep mAt mWhat mWhole mIsBroken mWorth mHas mOwner mPrice mSeenWho mSeenWhat mPlanWhat mPlanN mBookThing mBookPrice y16) H := hP
  have hD : va_D A (wdX8_passesAll cI cJ cT cII cJJ ad r2 r5 r8 r11 r14 mTexted mIsKept y15 a1 mMindStep mAt mWhat mWhole mIsBroken mWorth mHas mOwner mPrice mSeenWho mSeenWhat mPlanWhat mPlanN mBookThing mBookPrice y16) := hD
  refine lv_aload_n hx hb dX8_passesAll_70 rfl (lv_at hl 0 rfl) ?_
  refine lv_aload_n hx hb dX8_passesAll_71 rfl (lv_at hl 0 rfl) ?_
  refine va_get (D := (dC, dI)) (ci := 8) (v := .ref (ad 1)) (C := RX8) (T := TX8) (N := 36) hx hb hts (fun w h => List.mem_cons_of_mem _ (List.mem_append_right _ h)) hown hK hP 0 rfl rfl 2 (by decide) (hts (.fieldLink RX8 18 "BidMarketModel" "worth" "[I") (List.mem_of_getElem? (i := 8) rfl)) (fun _ h9 => h9) rfl dX8_passesAll_72 ?_
  refine bw_wvv (wc := (wdX8_passesRow cI cJ cT cII cJJ ad (fun k => ad (k + 1)) r2 r5 r8 r11 r14 mTexted mIsKept y15 a1 mMindStep mAt mWhat mWhole mIsBroken y16 64 mWorth)) (w1 := (fun (u : Int32 × (Nat → Int32) × (Nat → Int32)) => wdX8_passesRow cI cJ cT cII cJJ ad (fun k => ad (k + 1)) r2 r5 r8 r11 r14 mTexted mIsKept u.1 a1 mMindStep mAt mWhat mWhole mIsBroken u.2.1 64 u.2.2)) (As := [.ref (ad 1)]) (rest := []) ⟨hx, hb, hml, hown, hts⟩ (mX8_passesRow l dC dI cI cJ cT cII cJJ ad (fun k => ad (k + 1)) _ r2 r5 r8 r11 r14 mTexted mIsKept y15 a1 mMindStep mAt mWhat mWhole mIsBroken y16 64 mWorth _ hw) (cwV 1 hts gX8_passesAll_X8_passesRow rfl rfl rfl hdX8_passesRow ⟨Nat.le_of_ble_eq_true rfl, Nat.le_of_ble_eq_true rfl⟩) hK hP hD hS hA [0, 11, 1] rfl (by decide) (fun _ => rfl) rfl rfl rfl rfl hl.1 rfl (Nat.le_of_ble_eq_true rfl) ⟨Nat.le_of_ble_eq_true rfl, Nat.le_of_ble_eq_true rfl⟩ dX8_passesAll_75 (fun u H locs hw hP hD hS => ?_)
  obtain ⟨y17, y18, y19⟩ := u
  try dsimp only at hw
  have hP : va_P (dC, dI) vwCl (wdX8_passesAll cI cJ cT cII cJJ ad r2 r5 r8 r11 r14 mTexted mIsKept y17 a1 mMindStep mAt mWhat mWhole mIsBroken y19 mHas mOwner mPrice mSeenWho mSeenWhat mPlanWhat mPlanN mBookThing mBookPrice y18) H := hP
  have hD : va_D A (wdX8_passesAll cI cJ cT cII cJJ ad r2 r5 r8 r11 r14 mTexted mIsKept y17 a1 mMindStep mAt mWhat mWhole mIsBroken y19 mHas mOwner mPrice mSeenWho mSeenWhat mPlanWhat mPlanN mBookThing mBookPrice y18) := hD
  refine lv_aload_n hx hb dX8_passesAll_78 rfl (lv_at hl 0 rfl) ?_
  refine lv_aload_n hx hb dX8_passesAll_79 rfl (lv_at hl 0 rfl) ?_
  refine va_get (D := (dC, dI)) (ci := 8) (v := .ref (ad 2)) (C := RX8) (T := TX8) (N := 36) hx hb hts (fun w h => List.mem_cons_of_mem _ (List.mem_append_right _ h)) hown hK hP 0 rfl rfl 3 (by decide) (hts (.fieldLink RX8 22 "BidMarketModel" "has" "[I") (List.mem_of_getElem? (i := 9) rfl)) (fun _ h9 => h9) rfl dX8_passesAll_80 ?_
  refine bw_wvv (wc := (wdX8_passesRow cI cJ cT cII cJJ ad (fun k => ad (k + 2)) r2 r5 r8 r11 r14 mTexted mIsKept y17 a1 mMindStep mAt mWhat mWhole mIsBroken y18 8 mHas)) (w1 := (fun (u : Int32 × (Nat → Int32) × (Nat → Int32)) => wdX8_passesRow cI cJ cT cII cJJ ad (fun k => ad (k + 2)) r2 r5 r8 r11 r14 mTexted mIsKept u.1 a1 mMindStep mAt mWhat mWhole mIsBroken u.2.1 8 u.2.2)) (As := [.ref (ad 2)]) (rest := []) ⟨hx, hb, hml, hown, hts⟩ (mX8_passesRow l dC dI cI cJ cT cII cJJ ad (fun k => ad (k + 2)) _ r2 r5 r8 r11 r14 mTexted mIsKept y17 a1 mMindStep mAt mWhat mWhole mIsBroken y18 8 mHas _ hw) (cwV 1 hts gX8_passesAll_X8_passesRow rfl rfl rfl hdX8_passesRow ⟨Nat.le_of_ble_eq_true rfl, Nat.le_of_ble_eq_true rfl⟩) hK hP hD hS hA [0, 11, 2] rfl (by decide) (fun _ => rfl) rfl rfl rfl rfl hl.1 rfl (Nat.le_of_ble_eq_true rfl) ⟨Nat.le_of_ble_eq_true rfl, Nat.le_of_ble_eq_true rfl⟩ dX8_passesAll_83 (fun u H locs hw hP hD hS => ?_)
  obtain ⟨y20, y21, y22⟩ := u
  try dsimp only at hw
  have hP : va_P (dC, dI) vwCl (wdX8_passesAll cI cJ cT cII cJJ ad r2 r5 r8 r11 r14 mTexted mIsKept y20 a1 mMindStep mAt mWhat mWhole mIsBroken y19 y22 mOwner mPrice mSeenWho mSeenWhat mPlanWhat mPlanN mBookThing mBookPrice y21) H := hP
  have hD : va_D A (wdX8_passesAll cI cJ cT cII cJJ ad r2 r5 r8 r11 r14 mTexted mIsKept y20 a1 mMindStep mAt mWhat mWhole mIsBroken y19 y22 mOwner mPrice mSeenWho mSeenWhat mPlanWhat mPlanN mBookThing mBookPrice y21) := hD
  refine lv_aload_n hx hb dX8_passesAll_86 rfl (lv_at hl 0 rfl) ?_
  refine lv_aload_n hx hb dX8_passesAll_87 rfl (lv_at hl 0 rfl) ?_
  refine va_get (D := (dC, dI)) (ci := 8) (v := .ref (ad 3)) (C := RX8) (T := TX8) (N := 36) hx hb hts (fun w h => List.mem_cons_of_mem _ (List.mem_append_right _ h)) hown hK hP 0 rfl rfl 4 (by decide) (hts (.fieldLink RX8 25 "BidMarketModel" "owner" "[I") (List.mem_of_getElem? (i := 10) rfl)) (fun _ h9 => h9) rfl dX8_passesAll_88 ?_
  refine bw_wvv (wc := (wdX8_passesRow cI cJ cT cII cJJ ad (fun k => ad (k + 3)) r2 r5 r8 r11 r14 mTexted mIsKept y20 a1 mMindStep mAt mWhat mWhole mIsBroken y21 8 mOwner)) (w1 := (fun (u : Int32 × (Nat → Int32) × (Nat → Int32)) => wdX8_passesRow cI cJ cT cII cJJ ad (fun k => ad (k + 3)) r2 r5 r8 r11 r14 mTexted mIsKept u.1 a1 mMindStep mAt mWhat mWhole mIsBroken u.2.1 8 u.2.2)) (As := [.ref (ad 3)]) (rest := []) ⟨hx, hb, hml, hown, hts⟩ (mX8_passesRow l dC dI cI cJ cT cII cJJ ad (fun k => ad (k + 3)) _ r2 r5 r8 r11 r14 mTexted mIsKept y20 a1 mMindStep mAt mWhat mWhole mIsBroken y21 8 mOwner _ hw) (cwV 1 hts gX8_passesAll_X8_passesRow rfl rfl rfl hdX8_passesRow ⟨Nat.le_of_ble_eq_true rfl, Nat.le_of_ble_eq_true rfl⟩) hK hP hD hS hA [0, 11, 3] rfl (by decide) (fun _ => rfl) rfl rfl rfl rfl hl.1 rfl (Nat.le_of_ble_eq_true rfl) ⟨Nat.le_of_ble_eq_true rfl, Nat.le_of_ble_eq_true rfl⟩ dX8_passesAll_91 (fun u H locs hw hP hD hS => ?_)
  obtain ⟨y23, y24, y25⟩ := u
  try dsimp only at hw
  have hP : va_P (dC, dI) vwCl (wdX8_passesAll cI cJ cT cII cJJ ad r2 r5 r8 r11 r14 mTexted mIsKept y23 a1 mMindStep mAt mWhat mWhole mIsBroken y19 y22 y25 mPrice mSeenWho mSeenWhat mPlanWhat mPlanN mBookThing mBookPrice y24) H := hP
  have hD : va_D A (wdX8_passesAll cI cJ cT cII cJJ ad r2 r5 r8 r11 r14 mTexted mIsKept y23 a1 mMindStep mAt mWhat mWhole mIsBroken y19 y22 y25 mPrice mSeenWho mSeenWhat mPlanWhat mPlanN mBookThing mBookPrice y24) := hD
  refine lv_aload_n hx hb dX8_passesAll_94 rfl (lv_at hl 0 rfl) ?_
  refine lv_aload_n hx hb dX8_passesAll_95 rfl (lv_at hl 0 rfl) ?_
  refine va_get (D := (dC, dI)) (ci := 8) (v := .ref (ad 4)) (C := RX8) (T := TX8) (N := 36) hx hb hts (fun w h => List.mem_cons_of_mem _ (List.mem_append_right _ h)) hown hK hP 0 rfl rfl 5 (by decide) (hts (.fieldLink RX8 28 "BidMarketModel" "price" "[I") (List.mem_of_getElem? (i := 11) rfl)) (fun _ h9 => h9) rfl dX8_passesAll_96 ?_
  refine bw_wvv (wc := (wdX8_passesRow cI cJ cT cII cJJ ad (fun k => ad (k + 4)) r2 r5 r8 r11 r14 mTexted mIsKept y23 a1 mMindStep mAt mWhat mWhole mIsBroken y24 8 mPrice)) (w1 := (fun (u : Int32 × (Nat → Int32) × (Nat → Int32)) => wdX8_passesRow cI cJ cT cII cJJ ad (fun k => ad (k + 4)) r2 r5 r8 r11 r14 mTexted mIsKept u.1 a1 mMindStep mAt mWhat mWhole mIsBroken u.2.1 8 u.2.2)) (As := [.ref (ad 4)]) (rest := []) ⟨hx, hb, hml, hown, hts⟩ (mX8_passesRow l dC dI cI cJ cT cII cJJ ad (fun k => ad (k + 4)) _ r2 r5 r8 r11 r14 mTexted mIsKept y23 a1 mMindStep mAt mWhat mWhole mIsBroken y24 8 mPrice _ hw) (cwV 1 hts gX8_passesAll_X8_passesRow rfl rfl rfl hdX8_passesRow ⟨Nat.le_of_ble_eq_true rfl, Nat.le_of_ble_eq_true rfl⟩) hK hP hD hS hA [0, 11, 4] rfl (by decide) (fun _ => rfl) rfl rfl rfl rfl hl.1 rfl (Nat.le_of_ble_eq_true rfl) ⟨Nat.le_of_ble_eq_true rfl, Nat.le_of_ble_eq_true rfl⟩ dX8_passesAll_99 (fun u H locs hw hP hD hS => ?_)
  obtain ⟨y26, y27, y28⟩ := u
  try dsimp only at hw
  have hP : va_P (dC, dI) vwCl (wdX8_passesAll cI cJ cT cII cJJ ad r2 r5 r8 r11 r14 mTexted mIsKept y26 a1 mMindStep mAt mWhat mWhole mIsBroken y19 y22 y25 y28 mSeenWho mSeenWhat mPlanWhat mPlanN mBookThing mBookPrice y27) H := hP
  have hD : va_D A (wdX8_passesAll cI cJ cT cII cJJ ad r2 r5 r8 r11 r14 mTexted mIsKept y26 a1 mMindStep mAt mWhat mWhole mIsBroken y19 y22 y25 y28 mSeenWho mSeenWhat mPlanWhat mPlanN mBookThing mBookPrice y27) := hD
  refine lv_aload_n hx hb dX8_passesAll_102 rfl (lv_at hl 0 rfl) ?_
  refine lv_aload_n hx hb dX8_passesAll_103 rfl (lv_at hl 0 rfl) ?_
  refine va_get (D := (dC, dI)) (ci := 8) (v := .ref (ad 5)) (C := RX8) (T := TX8) (N := 36) hx hb hts (fun w h => List.mem_cons_of_mem _ (List.mem_append_right _ h)) hown hK hP 0 rfl rfl 6 (by decide) (hts (.fieldLink RX8 31 "BidMarketModel" "seenWho" "[I") (List.mem_of_getElem? (i := 12) rfl)) (fun _ h9 => h9) rfl dX8_passesAll_104 ?_
  refine bw_wvv (wc := (wdX8_passesRow cI cJ cT cII cJJ ad (fun k => ad (k + 5)) r2 r5 r8 r11 r14 mTexted mIsKept y26 a1 mMindStep mAt mWhat mWhole mIsBroken y27 5 mSeenWho)) (w1 := (fun (u : Int32 × (Nat → Int32) × (Nat → Int32)) => wdX8_passesRow cI cJ cT cII cJJ ad (fun k => ad (k + 5)) r2 r5 r8 r11 r14 mTexted mIsKept u.1 a1 mMindStep mAt mWhat mWhole mIsBroken u.2.1 5 u.2.2)) (As := [.ref (ad 5)]) (rest := []) ⟨hx, hb, hml, hown, hts⟩ (mX8_passesRow l dC dI cI cJ cT cII cJJ ad (fun k => ad (k + 5)) _ r2 r5 r8 r11 r14 mTexted mIsKept y26 a1 mMindStep mAt mWhat mWhole mIsBroken y27 5 mSeenWho _ hw) (cwV 1 hts gX8_passesAll_X8_passesRow rfl rfl rfl hdX8_passesRow ⟨Nat.le_of_ble_eq_true rfl, Nat.le_of_ble_eq_true rfl⟩) hK hP hD hS hA [0, 11, 5] rfl (by decide) (fun _ => rfl) rfl rfl rfl rfl hl.1 rfl (Nat.le_of_ble_eq_true rfl) ⟨Nat.le_of_ble_eq_true rfl, Nat.le_of_ble_eq_true rfl⟩ dX8_passesAll_107 (fun u H locs hw hP hD hS => ?_)
  obtain ⟨y29, y30, y31⟩ := u
  try dsimp only at hw
  have hP : va_P (dC, dI) vwCl (wdX8_passesAll cI cJ cT cII cJJ ad r2 r5 r8 r11 r14 mTexted mIsKept y29 a1 mMindStep mAt mWhat mWhole mIsBroken y19 y22 y25 y28 y31 mSeenWhat mPlanWhat mPlanN mBookThing mBookPrice y30) H := hP
  have hD : va_D A (wdX8_passesAll cI cJ cT cII cJJ ad r2 r5 r8 r11 r14 mTexted mIsKept y29 a1 mMindStep mAt mWhat mWhole mIsBroken y19 y22 y25 y28 y31 mSeenWhat mPlanWhat mPlanN mBookThing mBookPrice y30) := hD
  refine lv_aload_n hx hb dX8_passesAll_110 rfl (lv_at hl 0 rfl) ?_
  refine lv_aload_n hx hb dX8_passesAll_111 rfl (lv_at hl 0 rfl) ?_
  refine va_get (D := (dC, dI)) (ci := 8) (v := .ref (ad 6)) (C := RX8) (T := TX8) (N := 36) hx hb hts (fun w h => List.mem_cons_of_mem _ (List.mem_append_right _ h)) hown hK hP 0 rfl rfl 7 (by decide) (hts (.fieldLink RX8 34 "BidMarketModel" "seenWhat" "[I") (List.mem_of_getElem? (i := 13) rfl)) (fun _ h9 => h9) rfl dX8_passesAll_112 ?_
  refine bw_wvv (wc := (wdX8_passesRow cI cJ cT cII cJJ ad (fun k => ad (k + 6)) r2 r5 r8 r11 r14 mTexted mIsKept y29 a1 mMindStep mAt mWhat mWhole mIsBroken y30 5 mSeenWhat)) (w1 := (fun (u : Int32 × (Nat → Int32) × (Nat → Int32)) => wdX8_passesRow cI cJ cT cII cJJ ad (fun k => ad (k + 6)) r2 r5 r8 r11 r14 mTexted mIsKept u.1 a1 mMindStep mAt mWhat mWhole mIsBroken u.2.1 5 u.2.2)) (As := [.ref (ad 6)]) (rest := []) ⟨hx, hb, hml, hown, hts⟩ (mX8_passesRow l dC dI cI cJ cT cII cJJ ad (fun k => ad (k + 6)) _ r2 r5 r8 r11 r14 mTexted mIsKept y29 a1 mMindStep mAt mWhat mWhole mIsBroken y30 5 mSeenWhat _ hw) (cwV 1 hts gX8_passesAll_X8_passesRow rfl rfl rfl hdX8_passesRow ⟨Nat.le_of_ble_eq_true rfl, Nat.le_of_ble_eq_true rfl⟩) hK hP hD hS hA [0, 11, 6] rfl (by decide) (fun _ => rfl) rfl rfl rfl rfl hl.1 rfl (Nat.le_of_ble_eq_true rfl) ⟨Nat.le_of_ble_eq_true rfl, Nat.le_of_ble_eq_true rfl⟩ dX8_passesAll_115 (fun u H locs hw hP hD hS => ?_)
  obtain ⟨y32, y33, y34⟩ := u
  try dsimp only at hw
  have hP : va_P (dC, dI) vwCl (wdX8_passesAll cI cJ cT cII cJJ ad r2 r5 r8 r11 r14 mTexted mIsKept y32 a1 mMindStep mAt mWhat mWhole mIsBroken y19 y22 y25 y28 y31 y34 mPlanWhat mPlanN mBookThing mBookPrice y33) H := hP
  have hD : va_D A (wdX8_passesAll cI cJ cT cII cJJ ad r2 r5 r8 r11 r14 mTexted mIsKept y32 a1 mMindStep mAt mWhat mWhole mIsBroken y19 y22 y25 y28 y31 y34 mPlanWhat mPlanN mBookThing mBookPrice y33) := hD
  refine lv_aload_n hx hb dX8_passesAll_118 rfl (lv_at hl 0 rfl) ?_
  refine lv_aload_n hx hb dX8_passesAll_119 rfl (lv_at hl 0 rfl) ?_
  refine va_get (D := (dC, dI)) (ci := 8) (v := .ref (ad 7)) (C := RX8) (T := TX8) (N := 36) hx hb hts (fun w h => List.mem_cons_of_mem _ (List.mem_append_right _ h)) hown hK hP 0 rfl rfl 8 (by decide) (hts (.fieldLink RX8 37 "BidMarketModel" "planWhat" "[I") (List.mem_of_getElem? (i := 14) rfl)) (fun _ h9 => h9) rfl dX8_passesAll_120 ?_
  refine bw_wvv (wc := (wdX8_passesRow cI cJ cT cII cJJ ad (fun k => ad (k + 7)) r2 r5 r8 r11 r14 mTexted mIsKept y32 a1 mMindStep mAt mWhat mWhole mIsBroken y33 10 mPlanWhat)) (w1 := (fun (u : Int32 × (Nat → Int32) × (Nat → Int32)) => wdX8_passesRow cI cJ cT cII cJJ ad (fun k => ad (k + 7)) r2 r5 r8 r11 r14 mTexted mIsKept u.1 a1 mMindStep mAt mWhat mWhole mIsBroken u.2.1 10 u.2.2)) (As := [.ref (ad 7)]) (rest := []) ⟨hx, hb, hml, hown, hts⟩ (mX8_passesRow l dC dI cI cJ cT cII cJJ ad (fun k => ad (k + 7)) _ r2 r5 r8 r11 r14 mTexted mIsKept y32 a1 mMindStep mAt mWhat mWhole mIsBroken y33 10 mPlanWhat _ hw) (cwV 1 hts gX8_passesAll_X8_passesRow rfl rfl rfl hdX8_passesRow ⟨Nat.le_of_ble_eq_true rfl, Nat.le_of_ble_eq_true rfl⟩) hK hP hD hS hA [0, 11, 7] rfl (by decide) (fun _ => rfl) rfl rfl rfl rfl hl.1 rfl (Nat.le_of_ble_eq_true rfl) ⟨Nat.le_of_ble_eq_true rfl, Nat.le_of_ble_eq_true rfl⟩ dX8_passesAll_123 (fun u H locs hw hP hD hS => ?_)
  obtain ⟨y35, y36, y37⟩ := u
  try dsimp only at hw
  have hP : va_P (dC, dI) vwCl (wdX8_passesAll cI cJ cT cII cJJ ad r2 r5 r8 r11 r14 mTexted mIsKept y35 a1 mMindStep mAt mWhat mWhole mIsBroken y19 y22 y25 y28 y31 y34 y37 mPlanN mBookThing mBookPrice y36) H := hP
  have hD : va_D A (wdX8_passesAll cI cJ cT cII cJJ ad r2 r5 r8 r11 r14 mTexted mIsKept y35 a1 mMindStep mAt mWhat mWhole mIsBroken y19 y22 y25 y28 y31 y34 y37 mPlanN mBookThing mBookPrice y36) := hD
  refine lv_aload_n hx hb dX8_passesAll_126 rfl (lv_at hl 0 rfl) ?_
  refine lv_aload_n hx hb dX8_passesAll_127 rfl (lv_at hl 0 rfl) ?_
  refine va_get (D := (dC, dI)) (ci := 8) (v := .ref (ad 8)) (C := RX8) (T := TX8) (N := 36) hx hb hts (fun w h => List.mem_cons_of_mem _ (List.mem_append_right _ h)) hown hK hP 0 rfl rfl 9 (by decide) (hts (.fieldLink RX8 40 "BidMarketModel" "planN" "[I") (List.mem_of_getElem? (i := 15) rfl)) (fun _ h9 => h9) rfl dX8_passesAll_128 ?_
  refine bw_wvv (wc := (wdX8_passesRow cI cJ cT cII cJJ ad (fun k => ad (k + 8)) r2 r5 r8 r11 r14 mTexted mIsKept y35 a1 mMindStep mAt mWhat mWhole mIsBroken y36 10 mPlanN)) (w1 := (fun (u : Int32 × (Nat → Int32) × (Nat → Int32)) => wdX8_passesRow cI cJ cT cII cJJ ad (fun k => ad (k + 8)) r2 r5 r8 r11 r14 mTexted mIsKept u.1 a1 mMindStep mAt mWhat mWhole mIsBroken u.2.1 10 u.2.2)) (As := [.ref (ad 8)]) (rest := []) ⟨hx, hb, hml, hown, hts⟩ (mX8_passesRow l dC dI cI cJ cT cII cJJ ad (fun k => ad (k + 8)) _ r2 r5 r8 r11 r14 mTexted mIsKept y35 a1 mMindStep mAt mWhat mWhole mIsBroken y36 10 mPlanN _ hw) (cwV 1 hts gX8_passesAll_X8_passesRow rfl rfl rfl hdX8_passesRow ⟨Nat.le_of_ble_eq_true rfl, Nat.le_of_ble_eq_true rfl⟩) hK hP hD hS hA [0, 11, 8] rfl (by decide) (fun _ => rfl) rfl rfl rfl rfl hl.1 rfl (Nat.le_of_ble_eq_true rfl) ⟨Nat.le_of_ble_eq_true rfl, Nat.le_of_ble_eq_true rfl⟩ dX8_passesAll_131 (fun u H locs hw hP hD hS => ?_)
  obtain ⟨y38, y39, y40⟩ := u
  try dsimp only at hw
  have hP : va_P (dC, dI) vwCl (wdX8_passesAll cI cJ cT cII cJJ ad r2 r5 r8 r11 r14 mTexted mIsKept y38 a1 mMindStep mAt mWhat mWhole mIsBroken y19 y22 y25 y28 y31 y34 y37 y40 mBookThing mBookPrice y39) H := hP
  have hD : va_D A (wdX8_passesAll cI cJ cT cII cJJ ad r2 r5 r8 r11 r14 mTexted mIsKept y38 a1 mMindStep mAt mWhat mWhole mIsBroken y19 y22 y25 y28 y31 y34 y37 y40 mBookThing mBookPrice y39) := hD
  refine lv_aload_n hx hb dX8_passesAll_134 rfl (lv_at hl 0 rfl) ?_
  refine lv_aload_n hx hb dX8_passesAll_135 rfl (lv_at hl 0 rfl) ?_
  refine va_get (D := (dC, dI)) (ci := 8) (v := .ref (ad 9)) (C := RX8) (T := TX8) (N := 36) hx hb hts (fun w h => List.mem_cons_of_mem _ (List.mem_append_right _ h)) hown hK hP 0 rfl rfl 10 (by decide) (hts (.fieldLink RX8 43 "BidMarketModel" "bookThing" "[I") (List.mem_of_getElem? (i := 16) rfl)) (fun _ h9 => h9) rfl dX8_passesAll_136 ?_
  refine bw_wvv (wc := (wdX8_passesRow cI cJ cT cII cJJ ad (fun k => ad (k + 9)) r2 r5 r8 r11 r14 mTexted mIsKept y38 a1 mMindStep mAt mWhat mWhole mIsBroken y39 8 mBookThing)) (w1 := (fun (u : Int32 × (Nat → Int32) × (Nat → Int32)) => wdX8_passesRow cI cJ cT cII cJJ ad (fun k => ad (k + 9)) r2 r5 r8 r11 r14 mTexted mIsKept u.1 a1 mMindStep mAt mWhat mWhole mIsBroken u.2.1 8 u.2.2)) (As := [.ref (ad 9)]) (rest := []) ⟨hx, hb, hml, hown, hts⟩ (mX8_passesRow l dC dI cI cJ cT cII cJJ ad (fun k => ad (k + 9)) _ r2 r5 r8 r11 r14 mTexted mIsKept y38 a1 mMindStep mAt mWhat mWhole mIsBroken y39 8 mBookThing _ hw) (cwV 1 hts gX8_passesAll_X8_passesRow rfl rfl rfl hdX8_passesRow ⟨Nat.le_of_ble_eq_true rfl, Nat.le_of_ble_eq_true rfl⟩) hK hP hD hS hA [0, 11, 9] rfl (by decide) (fun _ => rfl) rfl rfl rfl rfl hl.1 rfl (Nat.le_of_ble_eq_true rfl) ⟨Nat.le_of_ble_eq_true rfl, Nat.le_of_ble_eq_true rfl⟩ dX8_passesAll_139 (fun u H locs hw hP hD hS => ?_)
  obtain ⟨y41, y42, y43⟩ := u
  try dsimp only at hw
  have hP : va_P (dC, dI) vwCl (wdX8_passesAll cI cJ cT cII cJJ ad r2 r5 r8 r11 r14 mTexted mIsKept y41 a1 mMindStep mAt mWhat mWhole mIsBroken y19 y22 y25 y28 y31 y34 y37 y40 y43 mBookPrice y42) H := hP
  have hD : va_D A (wdX8_passesAll cI cJ cT cII cJJ ad r2 r5 r8 r11 r14 mTexted mIsKept y41 a1 mMindStep mAt mWhat mWhole mIsBroken y19 y22 y25 y28 y31 y34 y37 y40 y43 mBookPrice y42) := hD
  refine lv_aload_n hx hb dX8_passesAll_142 rfl (lv_at hl 0 rfl) ?_
  refine lv_aload_n hx hb dX8_passesAll_143 rfl (lv_at hl 0 rfl) ?_
  refine va_get (D := (dC, dI)) (ci := 8) (v := .ref (ad 10)) (C := RX8) (T := TX8) (N := 36) hx hb hts (fun w h => List.mem_cons_of_mem _ (List.mem_append_right _ h)) hown hK hP 0 rfl rfl 11 (by decide) (hts (.fieldLink RX8 46 "BidMarketModel" "bookPrice" "[I") (List.mem_of_getElem? (i := 17) rfl)) (fun _ h9 => h9) rfl dX8_passesAll_144 ?_
  refine bw_wvv (wc := (wdX8_passesRow cI cJ cT cII cJJ ad (fun k => ad (k + 10)) r2 r5 r8 r11 r14 mTexted mIsKept y41 a1 mMindStep mAt mWhat mWhole mIsBroken y42 8 mBookPrice)) (w1 := (fun (u : Int32 × (Nat → Int32) × (Nat → Int32)) => wdX8_passesRow cI cJ cT cII cJJ ad (fun k => ad (k + 10)) r2 r5 r8 r11 r14 mTexted mIsKept u.1 a1 mMindStep mAt mWhat mWhole mIsBroken u.2.1 8 u.2.2)) (As := [.ref (ad 10)]) (rest := []) ⟨hx, hb, hml, hown, hts⟩ (mX8_passesRow l dC dI cI cJ cT cII cJJ ad (fun k => ad (k + 10)) _ r2 r5 r8 r11 r14 mTexted mIsKept y41 a1 mMindStep mAt mWhat mWhole mIsBroken y42 8 mBookPrice _ hw) (cwV 1 hts gX8_passesAll_X8_passesRow rfl rfl rfl hdX8_passesRow ⟨Nat.le_of_ble_eq_true rfl, Nat.le_of_ble_eq_true rfl⟩) hK hP hD hS hA [0, 11, 10] rfl (by decide) (fun _ => rfl) rfl rfl rfl rfl hl.1 rfl (Nat.le_of_ble_eq_true rfl) ⟨Nat.le_of_ble_eq_true rfl, Nat.le_of_ble_eq_true rfl⟩ dX8_passesAll_147 (fun u H locs hw hP hD hS => ?_)
  obtain ⟨y44, y45, y46⟩ := u
  try dsimp only at hw
  have hP : va_P (dC, dI) vwCl (wdX8_passesAll cI cJ cT cII cJJ ad r2 r5 r8 r11 r14 mTexted mIsKept y44 a1 mMindStep mAt mWhat mWhole mIsBroken y19 y22 y25 y28 y31 y34 y37 y40 y43 y46 y45) H := hP
  have hD : va_D A (wdX8_passesAll cI cJ cT cII cJJ ad r2 r5 r8 r11 r14 mTexted mIsKept y44 a1 mMindStep mAt mWhat mWhole mIsBroken y19 y22 y25 y28 y31 y34 y37 y40 y43 y46 y45) := hD
  refine lv_aload_n hx hb dX8_passesAll_150 rfl (lv_at hl 0 rfl) ?_
  refine va_get (D := (dC, dI)) (ci := 8) (v := .int r2) (C := RX8) (T := TX8) (N := 36) hx hb hts (fun w h => List.mem_cons_of_mem _ (List.mem_append_right _ h)) hown hK hP 0 rfl rfl 0 (by decide) (hts (.fieldLink RX8 9 "BidMarketModel" "n" "I") (List.mem_of_getElem? (i := 3) rfl)) (fun _ h9 => h9) rfl dX8_passesAll_151 ?_
  exact W.iret (v := r2) hx hb hr (fun t ht hW => ⟨⟨r2, (r2, r5, r8, r11, r14, y44, a1, y19, y22, y25, y28, y31, y34, y37, y40, y43, y46, y45), rfl, hw, by show va_P _ _ _ t.heap; rw [ht]; exact hP⟩, hS.F ht⟩) hS.2.2 dX8_passesAll_154
set_option maxHeartbeats 4000000 in
set_option maxRecDepth 100000 in
theorem mX8_image (l : Launch) (dC : Nat → ClassId) (dI : Nat → Nat → Nat) (cI cJ cT cII cJJ : ClassId) (ad : Nat → Nat) (sz : Nat) (mN : Int32) (mStep : Int32) (mSeen : Int32) (mPlans : Int32) (mBooks : Int32) (mTexted : Int32) (mIsKept : Int32) (mSpot : Int32) (mKeeps : Int32) (mMindStep : Int32) (mAt : Int32) (mWhat : Int32) (mWhole : Int32) (mIsBroken : Int32) (mWorth : Nat → Int32) (mHas : Nat → Int32) (mOwner : Nat → Int32) (mPrice : Nat → Int32) (mSeenWho : Nat → Int32) (mSeenWhat : Nat → Int32) (mPlanWhat : Nat → Int32) (mPlanN : Nat → Int32) (mBookThing : Nat → Int32) (mBookPrice : Nat → Int32) (mImaged : Nat → Int32) (Post : Int32 → Int32 → Int32 → Int32 → Int32 → Int32 → Int32 → Int32 → Int32 → (Nat → Int32) → (Nat → Int32) → (Nat → Int32) → (Nat → Int32) → (Nat → Int32) → (Nat → Int32) → (Nat → Int32) → (Nat → Int32) → (Nat → Int32) → (Nat → Int32) → (Nat → Int32) → Prop) (hw : wpX8_image mN mStep mSeen mPlans mBooks mIsKept mSpot mKeeps mWorth mHas mOwner mPrice mSeenWho mSeenWhat mPlanWhat mPlanN mBookThing mBookPrice mImaged Post) : Met l yX8_image wsX8_image ({ frames := 3, cells := 0, slots := 0, locals := 65 } : Room) (va_Pc [.ref (ad 0)] (fun U => U.heap.size = sz ∧ va_P (dC, dI) vwCl (wdX8_image cI cJ cT cII cJJ ad mN mStep mSeen mPlans mBooks mTexted mIsKept mSpot mKeeps mMindStep mAt mWhat mWhole mIsBroken mWorth mHas mOwner mPrice mSeenWho mSeenWhat mPlanWhat mPlanN mBookThing mBookPrice mImaged) U.heap ∧ va_K (dC, dI) vwCl (bw_tys cI cJ cT cII cJJ) U ∧ va_D (fun _ => True) (wdX8_image cI cJ cT cII cJJ ad mN mStep mSeen mPlans mBooks mTexted mIsKept mSpot mKeeps mMindStep mAt mWhat mWhole mIsBroken mWorth mHas mOwner mPrice mSeenWho mSeenWhat mPlanWhat mPlanN mBookThing mBookPrice mImaged))) (va_Qi (fun (r : Int32) (u : Int32 × Int32 × Int32 × Int32 × Int32 × Int32 × Int32 × Int32 × (Nat → Int32) × (Nat → Int32) × (Nat → Int32) × (Nat → Int32) × (Nat → Int32) × (Nat → Int32) × (Nat → Int32) × (Nat → Int32) × (Nat → Int32) × (Nat → Int32) × (Nat → Int32)) => Post r u.1 u.2.1 u.2.2.1 u.2.2.2.1 u.2.2.2.2.1 u.2.2.2.2.2.1 u.2.2.2.2.2.2.1 u.2.2.2.2.2.2.2.1 u.2.2.2.2.2.2.2.2.1 u.2.2.2.2.2.2.2.2.2.1 u.2.2.2.2.2.2.2.2.2.2.1 u.2.2.2.2.2.2.2.2.2.2.2.1 u.2.2.2.2.2.2.2.2.2.2.2.2.1 u.2.2.2.2.2.2.2.2.2.2.2.2.2.1 u.2.2.2.2.2.2.2.2.2.2.2.2.2.2.1 u.2.2.2.2.2.2.2.2.2.2.2.2.2.2.2.1 u.2.2.2.2.2.2.2.2.2.2.2.2.2.2.2.2.1 u.2.2.2.2.2.2.2.2.2.2.2.2.2.2.2.2.2.1 u.2.2.2.2.2.2.2.2.2.2.2.2.2.2.2.2.2.2) (fun (u : Int32 × Int32 × Int32 × Int32 × Int32 × Int32 × Int32 × Int32 × (Nat → Int32) × (Nat → Int32) × (Nat → Int32) × (Nat → Int32) × (Nat → Int32) × (Nat → Int32) × (Nat → Int32) × (Nat → Int32) × (Nat → Int32) × (Nat → Int32) × (Nat → Int32)) t => va_P (dC, dI) vwCl (wdX8_image cI cJ cT cII cJJ ad u.1 u.2.1 u.2.2.1 u.2.2.2.1 u.2.2.2.2.1 mTexted u.2.2.2.2.2.1 u.2.2.2.2.2.2.1 u.2.2.2.2.2.2.2.1 mMindStep mAt mWhat mWhole mIsBroken u.2.2.2.2.2.2.2.2.1 u.2.2.2.2.2.2.2.2.2.1 u.2.2.2.2.2.2.2.2.2.2.1 u.2.2.2.2.2.2.2.2.2.2.2.1 u.2.2.2.2.2.2.2.2.2.2.2.2.1 u.2.2.2.2.2.2.2.2.2.2.2.2.2.1 u.2.2.2.2.2.2.2.2.2.2.2.2.2.2.1 u.2.2.2.2.2.2.2.2.2.2.2.2.2.2.2.1 u.2.2.2.2.2.2.2.2.2.2.2.2.2.2.2.2.1 u.2.2.2.2.2.2.2.2.2.2.2.2.2.2.2.2.2.1 u.2.2.2.2.2.2.2.2.2.2.2.2.2.2.2.2.2.2) t.heap) (va_A (wdX8_image cI cJ cT cII cJJ ad mN mStep mSeen mPlans mBooks mTexted mIsKept mSpot mKeeps mMindStep mAt mWhat mWhole mIsBroken mWorth mHas mOwner mPrice mSeenWho mSeenWhat mPlanWhat mPlanN mBookThing mBookPrice mImaged) sz)) 0 0 (va_A (wdX8_image cI cJ cT cII cJJ ad mN mStep mSeen mPlans mBooks mTexted mIsKept mSpot mKeeps mMindStep mAt mWhat mWhole mIsBroken mWorth mHas mOwner mPrice mSeenWho mSeenWhat mPlanWhat mPlanN mBookThing mBookPrice mImaged) sz) := by
  refine Met.ofW (cc := cX8_image) (maxL := 1) (ret := (some .int)) (by decide) rfl ?_
  intro p e s m args below meth c s₁ B hml hv
  obtain ⟨rfl, hsz, hP, hK, hD0⟩ := hv
  have hx := B.exec
  have hb := B.bytes
  have hr := B.returns
  have hts := atoms_spec (ws := wsX8_image) B.pre
  have hown : s.vm.findClass RX8 = some m.cls := findClass_of_methodNamed B.named
  have hlocks := B.notSynchronized
  subst hsz
  have hD := hD0.self (sz := s.heap.size)
  generalize hAe : va_A (wdX8_image cI cJ cT cII cJJ ad mN mStep mSeen mPlans mBooks mTexted mIsKept mSpot mKeeps mMindStep mAt mWhat mWhole mIsBroken mWorth mHas mOwner mPrice mSeenWho mSeenWhat mPlanWhat mPlanN mBookThing mBookPrice mImaged) s.heap.size = A at hD ⊢
  have hA : ∀ q : Nat, s.heap.size ≤ q → A q := fun q h => by rw [← hAe]; exact Or.inr h
  have hS : va_S A s.heap s.heap [] := va_S.rf
  have hl := lv_entry ([.ref (ad 0)]) (n := 1) (Nat.le_of_ble_eq_true rfl)
  rw [lg_entry_eq]
  generalize (lg_sl ([.ref (ad 0)]) ++ List.replicate (1 - (lg_sl ([.ref (ad 0)])).length) Slot.unset).toArray = ls at hl ⊢
  have hl : lv_has ls 1 [(0, .ref (ad 0))] := hl
  unfold wpX8_image at hw
  refine lv_aload_n hx hb dX8_image_0 rfl (lv_at hl 0 rfl) ?_
  refine lv_iconst (v := 1) hx hb dX8_image_1 (by decide) ?_
  refine va_put (D := (dC, dI)) (ci := 8) (v := .int 1) (ty := .boolean) (C := RX8) (T := TX8) (N := 36) hx hb hts (fun w h => List.mem_cons_of_mem _ (List.mem_append_right _ h)) tyX8 tyX8_ok nmX8 hown hK hP hD hS 0 rfl rfl 19 (by decide) (hts (.fieldLink RX8 124 "BidMarketModel" "isKept" "Z") (List.mem_of_getElem? (i := 1) rfl)) (fun _ h9 => h9) rfl (by decide +kernel) rfl rfl (Nat.le_of_ble_eq_true rfl) dX8_image_2 (fun H locs hP hD hS => ?_)
  have hP : va_P (dC, dI) vwCl (wdX8_image cI cJ cT cII cJJ ad mN mStep mSeen mPlans mBooks mTexted 1 mSpot mKeeps mMindStep mAt mWhat mWhole mIsBroken mWorth mHas mOwner mPrice mSeenWho mSeenWhat mPlanWhat mPlanN mBookThing mBookPrice mImaged) H := hP
  have hD : va_D A (wdX8_image cI cJ cT cII cJJ ad mN mStep mSeen mPlans mBooks mTexted 1 mSpot mKeeps mMindStep mAt mWhat mWhole mIsBroken mWorth mHas mOwner mPrice mSeenWho mSeenWhat mPlanWhat mPlanN mBookThing mBookPrice mImaged) := hD
  refine lv_aload_n hx hb dX8_image_5 rfl (lv_at hl 0 rfl) ?_
  refine lv_iconst (v := 1) hx hb dX8_image_6 (by decide) ?_
  refine bw_wvi (wc := (wdX8_passesAll cI cJ cT cII cJJ ad mN mStep mSeen mPlans mBooks mTexted 1 mSpot mKeeps mMindStep mAt mWhat mWhole mIsBroken mWorth mHas mOwner mPrice mSeenWho mSeenWhat mPlanWhat mPlanN mBookThing mBookPrice mImaged)) (w1 := (fun (u : Int32 × Int32 × Int32 × Int32 × Int32 × Int32 × Int32 × (Nat → Int32) × (Nat → Int32) × (Nat → Int32) × (Nat → Int32) × (Nat → Int32) × (Nat → Int32) × (Nat → Int32) × (Nat → Int32) × (Nat → Int32) × (Nat → Int32) × (Nat → Int32)) => wdX8_passesAll cI cJ cT cII cJJ ad u.1 u.2.1 u.2.2.1 u.2.2.2.1 u.2.2.2.2.1 mTexted 1 u.2.2.2.2.2.1 u.2.2.2.2.2.2.1 mMindStep mAt mWhat mWhole mIsBroken u.2.2.2.2.2.2.2.1 u.2.2.2.2.2.2.2.2.1 u.2.2.2.2.2.2.2.2.2.1 u.2.2.2.2.2.2.2.2.2.2.1 u.2.2.2.2.2.2.2.2.2.2.2.1 u.2.2.2.2.2.2.2.2.2.2.2.2.1 u.2.2.2.2.2.2.2.2.2.2.2.2.2.1 u.2.2.2.2.2.2.2.2.2.2.2.2.2.2.1 u.2.2.2.2.2.2.2.2.2.2.2.2.2.2.2.1 u.2.2.2.2.2.2.2.2.2.2.2.2.2.2.2.2.1 u.2.2.2.2.2.2.2.2.2.2.2.2.2.2.2.2.2)) (As := [.int 1]) (rest := []) ⟨hx, hb, hml, hown, hts⟩ (mX8_passesAll l dC dI cI cJ cT cII cJJ ad _ mN mStep mSeen mPlans mBooks mTexted 1 mSpot mKeeps mMindStep mAt mWhat mWhole mIsBroken mWorth mHas mOwner mPrice mSeenWho mSeenWhat mPlanWhat mPlanN mBookThing mBookPrice mImaged 1 _ hw) (cwV 1 hts gX8_image_X8_passesAll rfl rfl rfl hdX8_passesAll ⟨Nat.le_of_ble_eq_true rfl, Nat.le_of_ble_eq_true rfl⟩) hK hP hD hS hA [0, 1, 2, 3, 4, 5, 6, 7, 8, 9, 10, 11] rfl (by decide) (fun _ => rfl) rfl rfl rfl rfl hl.1 rfl (Nat.le_of_ble_eq_true rfl) ⟨Nat.le_of_ble_eq_true rfl, Nat.le_of_ble_eq_true rfl⟩ dX8_image_7 (fun r1 u H locs hw hP hD hS => ?_)
  obtain ⟨y2, y3, y4, y5, y6, y7, y8, y9, y10, y11, y12, y13, y14, y15, y16, y17, y18, y19⟩ := u
  try dsimp only at hw
  have hP : va_P (dC, dI) vwCl (wdX8_image cI cJ cT cII cJJ ad y2 y3 y4 y5 y6 mTexted 1 y7 y8 mMindStep mAt mWhat mWhole mIsBroken y9 y10 y11 y12 y13 y14 y15 y16 y17 y18 y19) H := hP
  have hD : va_D A (wdX8_image cI cJ cT cII cJJ ad y2 y3 y4 y5 y6 mTexted 1 y7 y8 mMindStep mAt mWhat mWhole mIsBroken y9 y10 y11 y12 y13 y14 y15 y16 y17 y18 y19) := hD
  exact W.iret (v := r1) hx hb hr (fun t ht hW => ⟨⟨r1, (y2, y3, y4, y5, y6, 1, y7, y8, y9, y10, y11, y12, y13, y14, y15, y16, y17, y18, y19), rfl, hw, by show va_P _ _ _ t.heap; rw [ht]; exact hP⟩, hS.F ht⟩) hS.2.2 dX8_image_10
set_option maxHeartbeats 4000000 in
set_option maxRecDepth 100000 in
theorem mX8_undo (l : Launch) (dC : Nat → ClassId) (dI : Nat → Nat → Nat) (cI cJ cT cII cJJ : ClassId) (ad : Nat → Nat) (sz : Nat) (mN : Int32) (mStep : Int32) (mSeen : Int32) (mPlans : Int32) (mBooks : Int32) (mTexted : Int32) (mIsKept : Int32) (mSpot : Int32) (mKeeps : Int32) (mMindStep : Int32) (mAt : Int32) (mWhat : Int32) (mWhole : Int32) (mIsBroken : Int32) (mWorth : Nat → Int32) (mHas : Nat → Int32) (mOwner : Nat → Int32) (mPrice : Nat → Int32) (mSeenWho : Nat → Int32) (mSeenWhat : Nat → Int32) (mPlanWhat : Nat → Int32) (mPlanN : Nat → Int32) (mBookThing : Nat → Int32) (mBookPrice : Nat → Int32) (mImaged : Nat → Int32) (Post : Int32 → Int32 → Int32 → Int32 → Int32 → Int32 → Int32 → Int32 → (Nat → Int32) → (Nat → Int32) → (Nat → Int32) → (Nat → Int32) → (Nat → Int32) → (Nat → Int32) → (Nat → Int32) → (Nat → Int32) → (Nat → Int32) → (Nat → Int32) → (Nat → Int32) → Prop) (hw : wpX8_undo mN mStep mSeen mPlans mBooks mIsKept mSpot mKeeps mWorth mHas mOwner mPrice mSeenWho mSeenWhat mPlanWhat mPlanN mBookThing mBookPrice mImaged Post) : Met l yX8_undo wsX8_undo ({ frames := 3, cells := 0, slots := 0, locals := 65 } : Room) (va_Pc [.ref (ad 0)] (fun U => U.heap.size = sz ∧ va_P (dC, dI) vwCl (wdX8_undo cI cJ cT cII cJJ ad mN mStep mSeen mPlans mBooks mTexted mIsKept mSpot mKeeps mMindStep mAt mWhat mWhole mIsBroken mWorth mHas mOwner mPrice mSeenWho mSeenWhat mPlanWhat mPlanN mBookThing mBookPrice mImaged) U.heap ∧ va_K (dC, dI) vwCl (bw_tys cI cJ cT cII cJJ) U ∧ va_D (fun _ => True) (wdX8_undo cI cJ cT cII cJJ ad mN mStep mSeen mPlans mBooks mTexted mIsKept mSpot mKeeps mMindStep mAt mWhat mWhole mIsBroken mWorth mHas mOwner mPrice mSeenWho mSeenWhat mPlanWhat mPlanN mBookThing mBookPrice mImaged))) (va_Qi (fun (r : Int32) (u : Int32 × Int32 × Int32 × Int32 × Int32 × Int32 × Int32 × (Nat → Int32) × (Nat → Int32) × (Nat → Int32) × (Nat → Int32) × (Nat → Int32) × (Nat → Int32) × (Nat → Int32) × (Nat → Int32) × (Nat → Int32) × (Nat → Int32) × (Nat → Int32)) => Post r u.1 u.2.1 u.2.2.1 u.2.2.2.1 u.2.2.2.2.1 u.2.2.2.2.2.1 u.2.2.2.2.2.2.1 u.2.2.2.2.2.2.2.1 u.2.2.2.2.2.2.2.2.1 u.2.2.2.2.2.2.2.2.2.1 u.2.2.2.2.2.2.2.2.2.2.1 u.2.2.2.2.2.2.2.2.2.2.2.1 u.2.2.2.2.2.2.2.2.2.2.2.2.1 u.2.2.2.2.2.2.2.2.2.2.2.2.2.1 u.2.2.2.2.2.2.2.2.2.2.2.2.2.2.1 u.2.2.2.2.2.2.2.2.2.2.2.2.2.2.2.1 u.2.2.2.2.2.2.2.2.2.2.2.2.2.2.2.2.1 u.2.2.2.2.2.2.2.2.2.2.2.2.2.2.2.2.2) (fun (u : Int32 × Int32 × Int32 × Int32 × Int32 × Int32 × Int32 × (Nat → Int32) × (Nat → Int32) × (Nat → Int32) × (Nat → Int32) × (Nat → Int32) × (Nat → Int32) × (Nat → Int32) × (Nat → Int32) × (Nat → Int32) × (Nat → Int32) × (Nat → Int32)) t => va_P (dC, dI) vwCl (wdX8_undo cI cJ cT cII cJJ ad u.1 u.2.1 u.2.2.1 u.2.2.2.1 u.2.2.2.2.1 mTexted mIsKept u.2.2.2.2.2.1 u.2.2.2.2.2.2.1 mMindStep mAt mWhat mWhole mIsBroken u.2.2.2.2.2.2.2.1 u.2.2.2.2.2.2.2.2.1 u.2.2.2.2.2.2.2.2.2.1 u.2.2.2.2.2.2.2.2.2.2.1 u.2.2.2.2.2.2.2.2.2.2.2.1 u.2.2.2.2.2.2.2.2.2.2.2.2.1 u.2.2.2.2.2.2.2.2.2.2.2.2.2.1 u.2.2.2.2.2.2.2.2.2.2.2.2.2.2.1 u.2.2.2.2.2.2.2.2.2.2.2.2.2.2.2.1 u.2.2.2.2.2.2.2.2.2.2.2.2.2.2.2.2.1 u.2.2.2.2.2.2.2.2.2.2.2.2.2.2.2.2.2) t.heap) (va_A (wdX8_undo cI cJ cT cII cJJ ad mN mStep mSeen mPlans mBooks mTexted mIsKept mSpot mKeeps mMindStep mAt mWhat mWhole mIsBroken mWorth mHas mOwner mPrice mSeenWho mSeenWhat mPlanWhat mPlanN mBookThing mBookPrice mImaged) sz)) 0 0 (va_A (wdX8_undo cI cJ cT cII cJJ ad mN mStep mSeen mPlans mBooks mTexted mIsKept mSpot mKeeps mMindStep mAt mWhat mWhole mIsBroken mWorth mHas mOwner mPrice mSeenWho mSeenWhat mPlanWhat mPlanN mBookThing mBookPrice mImaged) sz) := by
  refine Met.ofW (cc := cX8_undo) (maxL := 1) (ret := (some .int)) (by decide) rfl ?_
  intro p e s m args below meth c s₁ B hml hv
  obtain ⟨rfl, hsz, hP, hK, hD0⟩ := hv
  have hx := B.exec
  have hb := B.bytes
  have hr := B.returns
  have hts := atoms_spec (ws := wsX8_undo) B.pre
  have hown : s.vm.findClass RX8 = some m.cls := findClass_of_methodNamed B.named
  have hlocks := B.notSynchronized
  subst hsz
  have hD := hD0.self (sz := s.heap.size)
  generalize hAe : va_A (wdX8_undo cI cJ cT cII cJJ ad mN mStep mSeen mPlans mBooks mTexted mIsKept mSpot mKeeps mMindStep mAt mWhat mWhole mIsBroken mWorth mHas mOwner mPrice mSeenWho mSeenWhat mPlanWhat mPlanN mBookThing mBookPrice mImaged) s.heap.size = A at hD ⊢
  have hA : ∀ q : Nat, s.heap.size ≤ q → A q := fun q h => by rw [← hAe]; exact Or.inr h
  have hS : va_S A s.heap s.heap [] := va_S.rf
  have hl := lv_entry ([.ref (ad 0)]) (n := 1) (Nat.le_of_ble_eq_true rfl)
  rw [lg_entry_eq]
  generalize (lg_sl ([.ref (ad 0)]) ++ List.replicate (1 - (lg_sl ([.ref (ad 0)])).length) Slot.unset).toArray = ls at hl ⊢
  have hl : lv_has ls 1 [(0, .ref (ad 0))] := hl
  unfold wpX8_undo at hw
  refine lv_aload_n hx hb dX8_undo_0 rfl (lv_at hl 0 rfl) ?_
  refine va_get (D := (dC, dI)) (ci := 8) (v := .int mIsKept) (C := RX8) (T := TX8) (N := 36) hx hb hts (fun w h => List.mem_cons_of_mem _ (List.mem_append_right _ h)) hown hK hP 0 rfl rfl 19 (by decide) (hts (.fieldLink RX8 124 "BidMarketModel" "isKept" "Z") (List.mem_of_getElem? (i := 1) rfl)) (fun _ h9 => h9) rfl dX8_undo_1 ?_
  refine lv_if_eq (tgt := 15) hx hb dX8_undo_4 (by decide) (fun c1 => ?_) (fun c1 => ?_)
  · have hw := hw.1 c1
    refine lv_bipush (v := (-3)) hx hb dX8_undo_15 (by decide) ?_
    exact W.iret (v := (-3)) hx hb hr (fun t ht hW => ⟨⟨(-3), (mN, mStep, mSeen, mPlans, mBooks, mSpot, mKeeps, mWorth, mHas, mOwner, mPrice, mSeenWho, mSeenWhat, mPlanWhat, mPlanN, mBookThing, mBookPrice, mImaged), rfl, hw, by show va_P _ _ _ t.heap; rw [ht]; exact hP⟩, hS.F ht⟩) hS.2.2 dX8_undo_17
  · have hw := hw.2 c1
    refine lv_aload_n hx hb dX8_undo_7 rfl (lv_at hl 0 rfl) ?_
    refine lv_iconst (v := 0) hx hb dX8_undo_8 (by decide) ?_
    refine bw_wvi (wc := (wdX8_passesAll cI cJ cT cII cJJ ad mN mStep mSeen mPlans mBooks mTexted mIsKept mSpot mKeeps mMindStep mAt mWhat mWhole mIsBroken mWorth mHas mOwner mPrice mSeenWho mSeenWhat mPlanWhat mPlanN mBookThing mBookPrice mImaged)) (w1 := (fun (u : Int32 × Int32 × Int32 × Int32 × Int32 × Int32 × Int32 × (Nat → Int32) × (Nat → Int32) × (Nat → Int32) × (Nat → Int32) × (Nat → Int32) × (Nat → Int32) × (Nat → Int32) × (Nat → Int32) × (Nat → Int32) × (Nat → Int32) × (Nat → Int32)) => wdX8_passesAll cI cJ cT cII cJJ ad u.1 u.2.1 u.2.2.1 u.2.2.2.1 u.2.2.2.2.1 mTexted mIsKept u.2.2.2.2.2.1 u.2.2.2.2.2.2.1 mMindStep mAt mWhat mWhole mIsBroken u.2.2.2.2.2.2.2.1 u.2.2.2.2.2.2.2.2.1 u.2.2.2.2.2.2.2.2.2.1 u.2.2.2.2.2.2.2.2.2.2.1 u.2.2.2.2.2.2.2.2.2.2.2.1 u.2.2.2.2.2.2.2.2.2.2.2.2.1 u.2.2.2.2.2.2.2.2.2.2.2.2.2.1 u.2.2.2.2.2.2.2.2.2.2.2.2.2.2.1 u.2.2.2.2.2.2.2.2.2.2.2.2.2.2.2.1 u.2.2.2.2.2.2.2.2.2.2.2.2.2.2.2.2.1 u.2.2.2.2.2.2.2.2.2.2.2.2.2.2.2.2.2)) (As := [.int 0]) (rest := []) ⟨hx, hb, hml, hown, hts⟩ (mX8_passesAll l dC dI cI cJ cT cII cJJ ad _ mN mStep mSeen mPlans mBooks mTexted mIsKept mSpot mKeeps mMindStep mAt mWhat mWhole mIsBroken mWorth mHas mOwner mPrice mSeenWho mSeenWhat mPlanWhat mPlanN mBookThing mBookPrice mImaged 0 _ hw) (cwV 1 hts gX8_undo_X8_passesAll rfl rfl rfl hdX8_passesAll ⟨Nat.le_of_ble_eq_true rfl, Nat.le_of_ble_eq_true rfl⟩) hK hP hD hS hA [0, 1, 2, 3, 4, 5, 6, 7, 8, 9, 10, 11] rfl (by decide) (fun _ => rfl) rfl rfl rfl rfl hl.1 rfl (Nat.le_of_ble_eq_true rfl) ⟨Nat.le_of_ble_eq_true rfl, Nat.le_of_ble_eq_true rfl⟩ dX8_undo_9 (fun r2 u H locs hw hP hD hS => ?_)
    obtain ⟨y3, y4, y5, y6, y7, y8, y9, y10, y11, y12, y13, y14, y15, y16, y17, y18, y19, y20⟩ := u
    try dsimp only at hw
    have hP : va_P (dC, dI) vwCl (wdX8_undo cI cJ cT cII cJJ ad y3 y4 y5 y6 y7 mTexted mIsKept y8 y9 mMindStep mAt mWhat mWhole mIsBroken y10 y11 y12 y13 y14 y15 y16 y17 y18 y19 y20) H := hP
    have hD : va_D A (wdX8_undo cI cJ cT cII cJJ ad y3 y4 y5 y6 y7 mTexted mIsKept y8 y9 mMindStep mAt mWhat mWhole mIsBroken y10 y11 y12 y13 y14 y15 y16 y17 y18 y19 y20) := hD
    refine lv_goto (tgt := 17) hx hb dX8_undo_12 (by decide) ?_
    exact W.iret (v := r2) hx hb hr (fun t ht hW => ⟨⟨r2, (y3, y4, y5, y6, y7, y8, y9, y10, y11, y12, y13, y14, y15, y16, y17, y18, y19, y20), rfl, hw, by show va_P _ _ _ t.heap; rw [ht]; exact hP⟩, hS.F ht⟩) hS.2.2 dX8_undo_17
set_option maxHeartbeats 4000000 in
set_option maxRecDepth 100000 in
theorem mX8_lays (l : Launch) (dC : Nat → ClassId) (dI : Nat → Nat → Nat) (cI cJ cT cII cJJ : ClassId) (ad : Nat → Nat) (ad2 : Nat → Nat) (sz : Nat) (N : Nat) (row : Nat → Int32) (N2 : Nat) (row2 : Nat → Int32) (Post : (Nat → Int32) → Prop) (hw : wpX8_lays N row N2 row2 Post) : Met l yX8_lays wsX8_lays ({ frames := 0, cells := 0, slots := 0, locals := 0 } : Room) (va_Pc [.ref (ad 0), .ref (ad2 0)] (fun U => U.heap.size = sz ∧ va_P (dC, dI) vwCl (wdX8_lays cI cJ cT cII cJJ ad ad2 N row N2 row2) U.heap ∧ va_K (dC, dI) vwCl (bw_tys cI cJ cT cII cJJ) U ∧ va_D (fun _ => True) (wdX8_lays cI cJ cT cII cJJ ad ad2 N row N2 row2))) (va_Qv (fun (u : (Nat → Int32)) => Post u) (fun (u : (Nat → Int32)) t => va_P (dC, dI) vwCl (wdX8_lays cI cJ cT cII cJJ ad ad2 N row N2 u) t.heap) (va_A (wdX8_lays cI cJ cT cII cJJ ad ad2 N row N2 row2) sz)) 0 0 (va_A (wdX8_lays cI cJ cT cII cJJ ad ad2 N row N2 row2) sz) := by
  refine Met.ofW (cc := cX8_lays) (maxL := 3) (ret := none) (by decide) rfl ?_
  intro p e s m args below meth c s₁ B hml hv
  obtain ⟨rfl, hsz, hP, hK, hD0⟩ := hv
  have hx := B.exec
  have hb := B.bytes
  have hr := B.returns
  have hts := atoms_spec (ws := wsX8_lays) B.pre
  have hown : s.vm.findClass RX8 = some m.cls := findClass_of_methodNamed B.named
  have hlocks := B.notSynchronized
  subst hsz
  have hD := hD0.self (sz := s.heap.size)
  generalize hAe : va_A (wdX8_lays cI cJ cT cII cJJ ad ad2 N row N2 row2) s.heap.size = A at hD ⊢
  have hA : ∀ q : Nat, s.heap.size ≤ q → A q := fun q h => by rw [← hAe]; exact Or.inr h
  have hS : va_S A s.heap s.heap [] := va_S.rf
  have hl := lv_entry ([.ref (ad 0), .ref (ad2 0)]) (n := 3) (Nat.le_of_ble_eq_true rfl)
  rw [lg_entry_eq]
  generalize (lg_sl ([.ref (ad 0), .ref (ad2 0)]) ++ List.replicate (3 - (lg_sl ([.ref (ad 0), .ref (ad2 0)])).length) Slot.unset).toArray = ls at hl ⊢
  have hl : lv_has ls 3 [(0, .ref (ad 0)), (1, .ref (ad2 0))] := hl
  have kB2 : ∀ f : Nat, ∀ (v2 : Int32) (row2 : Nat → Int32), ∀ (H : Heap) (locs : List Loc), va_P (dC, dI) vwCl (wdX8_lays cI cJ cT cII cJJ ad ad2 N row N2 row2) H → va_D A (wdX8_lays cI cJ cT cII cJJ ad ad2 N row N2 row2) → va_S A s.heap H locs → ∀ ls : Array Slot, lv_has ls 3 [(0, .ref (ad 0)), (1, .ref (ad2 0)), (2, .int v2)] → wpX8_lays_B2 N row N2 Post f v2 row2 → W p l e (headSpec wsX8_lays ({ frames := 0, cells := 0, slots := 0, locals := 0 } : Room)).room s m ([.ref (ad 0), .ref (ad2 0)] : List Value).toArray below meth c H locs 0 0 (MQ below (va_Qv (fun (u : (Nat → Int32)) => Post u) (fun (u : (Nat → Int32)) t => va_P (dC, dI) vwCl (wdX8_lays cI cJ cT cII cJJ ad ad2 N row N2 u) t.heap) A) ([.ref (ad 0), .ref (ad2 0)] : List Value).toArray s 0 0 A) (F0 m 2 ls []) := by
    intro  f
    induction f with
    | zero => intro v2 row2 H locs hP hD hS ls hl hw; exact (show False from hw).elim
    | succ f ih =>
      intro v2 row2 H locs hP hD hS ls hl hw
      rw [wpX8_lays_B2] at hw
      refine lv_iload_n hx hb dX8_lays_2 rfl (lv_at hl 2 rfl) ?_
      refine lv_aload_n hx hb dX8_lays_3 rfl (lv_at hl 0 rfl) ?_
      refine va_alen hx hb hK hP 0 0 rfl rfl (v := Int32.ofNat N) rfl dX8_lays_4 ?_
      refine lv_icmp_ge (tgt := 20) hx hb dX8_lays_5 (by decide) (fun c1 => ?_) (fun c1 => ?_)
      · have hw := hw.1 c1
        exact W.vret hx hb hr (fun t ht hW => ⟨⟨row2, rfl, hw, by show va_P _ _ _ t.heap; rw [ht]; exact hP⟩, hS.F ht⟩) hS.2.2 dX8_lays_20
      · have hw := hw.2 c1
        refine lv_aload_n hx hb dX8_lays_8 rfl (lv_at hl 1 rfl) ?_
        refine lv_iload_n hx hb dX8_lays_9 rfl (lv_at hl 2 rfl) ?_
        refine lv_aload_n hx hb dX8_lays_10 rfl (lv_at hl 0 rfl) ?_
        refine lv_iload_n hx hb dX8_lays_11 rfl (lv_at hl 2 rfl) ?_
        have h2 := hw.1
        have hw := hw.2
        refine va_iald hx hb hK hP 0 0 rfl rfl h2 dX8_lays_12 ?_
        have h3 := hw.1
        have hw := hw.2
        refine va_iast hx hb hK hP hD hS 1 0 rfl rfl h3 dX8_lays_13 (fun H locs hP hD hS => ?_)
        have hP : va_P (dC, dI) vwCl (wdX8_lays cI cJ cT cII cJJ ad ad2 N row N2 (upd row2 v2.toNatClampNeg (row v2.toNatClampNeg))) H := hP
        have hD : va_D A (wdX8_lays cI cJ cT cII cJJ ad ad2 N row N2 (upd row2 v2.toNatClampNeg (row v2.toNatClampNeg))) := hD
        obtain ⟨x4, ex4⟩ : ∃ y : Int32, y = v2 + 1 := ⟨_, rfl⟩
        have hw := hw x4 ex4
        refine lv_iinc (v := x4) (lv' := [(2, .int x4), (0, .ref (ad 0)), (1, .ref (ad2 0))]) hx hb dX8_lays_14 hl (k := 2) rfl (by rw [ex4]; rfl) (by decide) rfl (fun ls hl => ?_)
        refine lv_goto (tgt := 2) hx hb dX8_lays_17 (by decide) ?_
        exact ih x4 (upd row2 v2.toNatClampNeg (row v2.toNatClampNeg)) _ _ hP hD hS ls (lv_sub hl [1, 2, 0] rfl) hw
  unfold wpX8_lays at hw
  refine lv_iconst (v := 0) hx hb dX8_lays_0 (by decide) ?_
  refine lv_istore_n (lv' := [(2, .int 0), (0, .ref (ad 0)), (1, .ref (ad2 0))]) hx hb dX8_lays_1 rfl hl (by decide) rfl (fun ls hl => ?_)
  obtain ⟨f1, hw⟩ := hw
  exact kB2 f1 0 row2 _ _ hP hD hS ls (lv_sub hl [1, 2, 0] rfl) hw
set_option maxHeartbeats 4000000 in
set_option maxRecDepth 100000 in
theorem mX8_minds (l : Launch) (dC : Nat → ClassId) (dI : Nat → Nat → Nat) (cI cJ cT cII cJJ : ClassId) (ad : Nat → Nat) (sz : Nat) (mN : Int32) (mStep : Int32) (mSeen : Int32) (mPlans : Int32) (mBooks : Int32) (mTexted : Int32) (mIsKept : Int32) (mSpot : Int32) (mKeeps : Int32) (mMindStep : Int32) (mAt : Int32) (mWhat : Int32) (mWhole : Int32) (mIsBroken : Int32) (mHas : Nat → Int32) (mOwner : Nat → Int32) (mPrice : Nat → Int32) (mWrong : Nat → Int32) (mMindHas : Nat → Int32) (mMindOwner : Nat → Int32) (mMindPrice : Nat → Int32) (mMindWrong : Nat → Int32) (Post : Int32 → (Nat → Int32) → (Nat → Int32) → (Nat → Int32) → (Nat → Int32) → Prop) (hw : wpX8_minds mStep mMindStep mHas mOwner mPrice mWrong mMindHas mMindOwner mMindPrice mMindWrong Post) : Met l yX8_minds wsX8_minds ({ frames := 1, cells := 0, slots := 0, locals := 22 } : Room) (va_Pc [.ref (ad 0)] (fun U => U.heap.size = sz ∧ va_P (dC, dI) vwCl (wdX8_minds cI cJ cT cII cJJ ad mN mStep mSeen mPlans mBooks mTexted mIsKept mSpot mKeeps mMindStep mAt mWhat mWhole mIsBroken mHas mOwner mPrice mWrong mMindHas mMindOwner mMindPrice mMindWrong) U.heap ∧ va_K (dC, dI) vwCl (bw_tys cI cJ cT cII cJJ) U ∧ va_D (fun _ => True) (wdX8_minds cI cJ cT cII cJJ ad mN mStep mSeen mPlans mBooks mTexted mIsKept mSpot mKeeps mMindStep mAt mWhat mWhole mIsBroken mHas mOwner mPrice mWrong mMindHas mMindOwner mMindPrice mMindWrong))) (va_Qv (fun (u : Int32 × (Nat → Int32) × (Nat → Int32) × (Nat → Int32) × (Nat → Int32)) => Post u.1 u.2.1 u.2.2.1 u.2.2.2.1 u.2.2.2.2) (fun (u : Int32 × (Nat → Int32) × (Nat → Int32) × (Nat → Int32) × (Nat → Int32)) t => va_P (dC, dI) vwCl (wdX8_minds cI cJ cT cII cJJ ad mN mStep mSeen mPlans mBooks mTexted mIsKept mSpot mKeeps u.1 mAt mWhat mWhole mIsBroken mHas mOwner mPrice mWrong u.2.1 u.2.2.1 u.2.2.2.1 u.2.2.2.2) t.heap) (va_A (wdX8_minds cI cJ cT cII cJJ ad mN mStep mSeen mPlans mBooks mTexted mIsKept mSpot mKeeps mMindStep mAt mWhat mWhole mIsBroken mHas mOwner mPrice mWrong mMindHas mMindOwner mMindPrice mMindWrong) sz)) 0 0 (va_A (wdX8_minds cI cJ cT cII cJJ ad mN mStep mSeen mPlans mBooks mTexted mIsKept mSpot mKeeps mMindStep mAt mWhat mWhole mIsBroken mHas mOwner mPrice mWrong mMindHas mMindOwner mMindPrice mMindWrong) sz) := by
  refine Met.ofW (cc := cX8_minds) (maxL := 1) (ret := none) (by decide) rfl ?_
  intro p e s m args below meth c s₁ B hml hv
  obtain ⟨rfl, hsz, hP, hK, hD0⟩ := hv
  have hx := B.exec
  have hb := B.bytes
  have hr := B.returns
  have hts := atoms_spec (ws := wsX8_minds) B.pre
  have hown : s.vm.findClass RX8 = some m.cls := findClass_of_methodNamed B.named
  have hlocks := B.notSynchronized
  subst hsz
  have hD := hD0.self (sz := s.heap.size)
  generalize hAe : va_A (wdX8_minds cI cJ cT cII cJJ ad mN mStep mSeen mPlans mBooks mTexted mIsKept mSpot mKeeps mMindStep mAt mWhat mWhole mIsBroken mHas mOwner mPrice mWrong mMindHas mMindOwner mMindPrice mMindWrong) s.heap.size = A at hD ⊢
  have hA : ∀ q : Nat, s.heap.size ≤ q → A q := fun q h => by rw [← hAe]; exact Or.inr h
  have hS : va_S A s.heap s.heap [] := va_S.rf
  have hl := lv_entry ([.ref (ad 0)]) (n := 1) (Nat.le_of_ble_eq_true rfl)
  rw [lg_entry_eq]
  generalize (lg_sl ([.ref (ad 0)]) ++ List.replicate (1 - (lg_sl ([.ref (ad 0)])).length) Slot.unset).toArray = ls at hl ⊢
  have hl : lv_has ls 1 [(0, .ref (ad 0))] := hl
  unfold wpX8_minds at hw
  refine lv_aload_n hx hb dX8_minds_0 rfl (lv_at hl 0 rfl) ?_
  refine va_get (D := (dC, dI)) (ci := 8) (v := .ref (ad 2)) (C := RX8) (T := TX8) (N := 36) hx hb hts (fun w h => List.mem_cons_of_mem _ (List.mem_append_right _ h)) hown hK hP 0 rfl rfl 3 (by decide) (hts (.fieldLink RX8 22 "BidMarketModel" "has" "[I") (List.mem_of_getElem? (i := 1) rfl)) (fun _ h9 => h9) rfl dX8_minds_1 ?_
  refine lv_aload_n hx hb dX8_minds_4 rfl (lv_at hl 0 rfl) ?_
  refine va_get (D := (dC, dI)) (ci := 8) (v := .ref (ad 14)) (C := RX8) (T := TX8) (N := 36) hx hb hts (fun w h => List.mem_cons_of_mem _ (List.mem_append_right _ h)) hown hK hP 0 rfl rfl 22 (by decide) (hts (.fieldLink RX8 58 "BidMarketModel" "mindHas" "[I") (List.mem_of_getElem? (i := 2) rfl)) (fun _ h9 => h9) rfl dX8_minds_5 ?_
  refine bw_wsv (wc := (wdX8_lays cI cJ cT cII cJJ (fun k => ad (k + 2)) (fun k => ad (k + 14)) 8 mHas 8 mMindHas)) (w1 := (fun (u : (Nat → Int32)) => wdX8_lays cI cJ cT cII cJJ (fun k => ad (k + 2)) (fun k => ad (k + 14)) 8 mHas 8 u)) (As := [.ref (ad 2), .ref (ad 14)]) (rest := []) ⟨hx, hb, hml, hown, hts⟩ (mX8_lays l dC dI cI cJ cT cII cJJ (fun k => ad (k + 2)) (fun k => ad (k + 14)) _ 8 mHas 8 mMindHas _ hw) (va_cwS 2 hts gX8_minds_X8_lays rfl rfl rfl hdX8_lays ⟨Nat.le_of_ble_eq_true rfl, Nat.le_of_ble_eq_true rfl⟩) hK hP hD hS hA [1, 5] rfl (by decide) (fun _ => rfl) rfl hl.1 rfl (Nat.le_of_ble_eq_true rfl) ⟨Nat.le_of_ble_eq_true rfl, Nat.le_of_ble_eq_true rfl⟩ dX8_minds_8 (fun u H locs hw hP hD hS => ?_)
  obtain ⟨y1, rfl⟩ : ∃ z, z = u := ⟨_, rfl⟩
  try dsimp only at hw
  have hP : va_P (dC, dI) vwCl (wdX8_minds cI cJ cT cII cJJ ad mN mStep mSeen mPlans mBooks mTexted mIsKept mSpot mKeeps mMindStep mAt mWhat mWhole mIsBroken mHas mOwner mPrice mWrong y1 mMindOwner mMindPrice mMindWrong) H := hP
  have hD : va_D A (wdX8_minds cI cJ cT cII cJJ ad mN mStep mSeen mPlans mBooks mTexted mIsKept mSpot mKeeps mMindStep mAt mWhat mWhole mIsBroken mHas mOwner mPrice mWrong y1 mMindOwner mMindPrice mMindWrong) := hD
  refine lv_aload_n hx hb dX8_minds_11 rfl (lv_at hl 0 rfl) ?_
  refine va_get (D := (dC, dI)) (ci := 8) (v := .ref (ad 3)) (C := RX8) (T := TX8) (N := 36) hx hb hts (fun w h => List.mem_cons_of_mem _ (List.mem_append_right _ h)) hown hK hP 0 rfl rfl 4 (by decide) (hts (.fieldLink RX8 25 "BidMarketModel" "owner" "[I") (List.mem_of_getElem? (i := 3) rfl)) (fun _ h9 => h9) rfl dX8_minds_12 ?_
  refine lv_aload_n hx hb dX8_minds_15 rfl (lv_at hl 0 rfl) ?_
  refine va_get (D := (dC, dI)) (ci := 8) (v := .ref (ad 15)) (C := RX8) (T := TX8) (N := 36) hx hb hts (fun w h => List.mem_cons_of_mem _ (List.mem_append_right _ h)) hown hK hP 0 rfl rfl 23 (by decide) (hts (.fieldLink RX8 61 "BidMarketModel" "mindOwner" "[I") (List.mem_of_getElem? (i := 4) rfl)) (fun _ h9 => h9) rfl dX8_minds_16 ?_
  refine bw_wsv (wc := (wdX8_lays cI cJ cT cII cJJ (fun k => ad (k + 3)) (fun k => ad (k + 15)) 8 mOwner 8 mMindOwner)) (w1 := (fun (u : (Nat → Int32)) => wdX8_lays cI cJ cT cII cJJ (fun k => ad (k + 3)) (fun k => ad (k + 15)) 8 mOwner 8 u)) (As := [.ref (ad 3), .ref (ad 15)]) (rest := []) ⟨hx, hb, hml, hown, hts⟩ (mX8_lays l dC dI cI cJ cT cII cJJ (fun k => ad (k + 3)) (fun k => ad (k + 15)) _ 8 mOwner 8 mMindOwner _ hw) (va_cwS 2 hts gX8_minds_X8_lays rfl rfl rfl hdX8_lays ⟨Nat.le_of_ble_eq_true rfl, Nat.le_of_ble_eq_true rfl⟩) hK hP hD hS hA [2, 6] rfl (by decide) (fun _ => rfl) rfl hl.1 rfl (Nat.le_of_ble_eq_true rfl) ⟨Nat.le_of_ble_eq_true rfl, Nat.le_of_ble_eq_true rfl⟩ dX8_minds_19 (fun u H locs hw hP hD hS => ?_)
  obtain ⟨y2, rfl⟩ : ∃ z, z = u := ⟨_, rfl⟩
  try dsimp only at hw
  have hP : va_P (dC, dI) vwCl (wdX8_minds cI cJ cT cII cJJ ad mN mStep mSeen mPlans mBooks mTexted mIsKept mSpot mKeeps mMindStep mAt mWhat mWhole mIsBroken mHas mOwner mPrice mWrong y1 y2 mMindPrice mMindWrong) H := hP
  have hD : va_D A (wdX8_minds cI cJ cT cII cJJ ad mN mStep mSeen mPlans mBooks mTexted mIsKept mSpot mKeeps mMindStep mAt mWhat mWhole mIsBroken mHas mOwner mPrice mWrong y1 y2 mMindPrice mMindWrong) := hD
  refine lv_aload_n hx hb dX8_minds_22 rfl (lv_at hl 0 rfl) ?_
  refine va_get (D := (dC, dI)) (ci := 8) (v := .ref (ad 4)) (C := RX8) (T := TX8) (N := 36) hx hb hts (fun w h => List.mem_cons_of_mem _ (List.mem_append_right _ h)) hown hK hP 0 rfl rfl 5 (by decide) (hts (.fieldLink RX8 28 "BidMarketModel" "price" "[I") (List.mem_of_getElem? (i := 5) rfl)) (fun _ h9 => h9) rfl dX8_minds_23 ?_
  refine lv_aload_n hx hb dX8_minds_26 rfl (lv_at hl 0 rfl) ?_
  refine va_get (D := (dC, dI)) (ci := 8) (v := .ref (ad 16)) (C := RX8) (T := TX8) (N := 36) hx hb hts (fun w h => List.mem_cons_of_mem _ (List.mem_append_right _ h)) hown hK hP 0 rfl rfl 24 (by decide) (hts (.fieldLink RX8 64 "BidMarketModel" "mindPrice" "[I") (List.mem_of_getElem? (i := 6) rfl)) (fun _ h9 => h9) rfl dX8_minds_27 ?_
  refine bw_wsv (wc := (wdX8_lays cI cJ cT cII cJJ (fun k => ad (k + 4)) (fun k => ad (k + 16)) 8 mPrice 8 mMindPrice)) (w1 := (fun (u : (Nat → Int32)) => wdX8_lays cI cJ cT cII cJJ (fun k => ad (k + 4)) (fun k => ad (k + 16)) 8 mPrice 8 u)) (As := [.ref (ad 4), .ref (ad 16)]) (rest := []) ⟨hx, hb, hml, hown, hts⟩ (mX8_lays l dC dI cI cJ cT cII cJJ (fun k => ad (k + 4)) (fun k => ad (k + 16)) _ 8 mPrice 8 mMindPrice _ hw) (va_cwS 2 hts gX8_minds_X8_lays rfl rfl rfl hdX8_lays ⟨Nat.le_of_ble_eq_true rfl, Nat.le_of_ble_eq_true rfl⟩) hK hP hD hS hA [3, 7] rfl (by decide) (fun _ => rfl) rfl hl.1 rfl (Nat.le_of_ble_eq_true rfl) ⟨Nat.le_of_ble_eq_true rfl, Nat.le_of_ble_eq_true rfl⟩ dX8_minds_30 (fun u H locs hw hP hD hS => ?_)
  obtain ⟨y3, rfl⟩ : ∃ z, z = u := ⟨_, rfl⟩
  try dsimp only at hw
  have hP : va_P (dC, dI) vwCl (wdX8_minds cI cJ cT cII cJJ ad mN mStep mSeen mPlans mBooks mTexted mIsKept mSpot mKeeps mMindStep mAt mWhat mWhole mIsBroken mHas mOwner mPrice mWrong y1 y2 y3 mMindWrong) H := hP
  have hD : va_D A (wdX8_minds cI cJ cT cII cJJ ad mN mStep mSeen mPlans mBooks mTexted mIsKept mSpot mKeeps mMindStep mAt mWhat mWhole mIsBroken mHas mOwner mPrice mWrong y1 y2 y3 mMindWrong) := hD
  refine lv_aload_n hx hb dX8_minds_33 rfl (lv_at hl 0 rfl) ?_
  refine va_get (D := (dC, dI)) (ci := 8) (v := .ref (ad 11)) (C := RX8) (T := TX8) (N := 36) hx hb hts (fun w h => List.mem_cons_of_mem _ (List.mem_append_right _ h)) hown hK hP 0 rfl rfl 15 (by decide) (hts (.fieldLink RX8 49 "BidMarketModel" "wrong" "[I") (List.mem_of_getElem? (i := 7) rfl)) (fun _ h9 => h9) rfl dX8_minds_34 ?_
  refine lv_aload_n hx hb dX8_minds_37 rfl (lv_at hl 0 rfl) ?_
  refine va_get (D := (dC, dI)) (ci := 8) (v := .ref (ad 17)) (C := RX8) (T := TX8) (N := 36) hx hb hts (fun w h => List.mem_cons_of_mem _ (List.mem_append_right _ h)) hown hK hP 0 rfl rfl 25 (by decide) (hts (.fieldLink RX8 67 "BidMarketModel" "mindWrong" "[I") (List.mem_of_getElem? (i := 8) rfl)) (fun _ h9 => h9) rfl dX8_minds_38 ?_
  refine bw_wsv (wc := (wdX8_lays cI cJ cT cII cJJ (fun k => ad (k + 11)) (fun k => ad (k + 17)) 3 mWrong 3 mMindWrong)) (w1 := (fun (u : (Nat → Int32)) => wdX8_lays cI cJ cT cII cJJ (fun k => ad (k + 11)) (fun k => ad (k + 17)) 3 mWrong 3 u)) (As := [.ref (ad 11), .ref (ad 17)]) (rest := []) ⟨hx, hb, hml, hown, hts⟩ (mX8_lays l dC dI cI cJ cT cII cJJ (fun k => ad (k + 11)) (fun k => ad (k + 17)) _ 3 mWrong 3 mMindWrong _ hw) (va_cwS 2 hts gX8_minds_X8_lays rfl rfl rfl hdX8_lays ⟨Nat.le_of_ble_eq_true rfl, Nat.le_of_ble_eq_true rfl⟩) hK hP hD hS hA [4, 8] rfl (by decide) (fun _ => rfl) rfl hl.1 rfl (Nat.le_of_ble_eq_true rfl) ⟨Nat.le_of_ble_eq_true rfl, Nat.le_of_ble_eq_true rfl⟩ dX8_minds_41 (fun u H locs hw hP hD hS => ?_)
  obtain ⟨y4, rfl⟩ : ∃ z, z = u := ⟨_, rfl⟩
  try dsimp only at hw
  have hP : va_P (dC, dI) vwCl (wdX8_minds cI cJ cT cII cJJ ad mN mStep mSeen mPlans mBooks mTexted mIsKept mSpot mKeeps mMindStep mAt mWhat mWhole mIsBroken mHas mOwner mPrice mWrong y1 y2 y3 y4) H := hP
  have hD : va_D A (wdX8_minds cI cJ cT cII cJJ ad mN mStep mSeen mPlans mBooks mTexted mIsKept mSpot mKeeps mMindStep mAt mWhat mWhole mIsBroken mHas mOwner mPrice mWrong y1 y2 y3 y4) := hD
  refine lv_aload_n hx hb dX8_minds_44 rfl (lv_at hl 0 rfl) ?_
  refine lv_aload_n hx hb dX8_minds_45 rfl (lv_at hl 0 rfl) ?_
  refine va_get (D := (dC, dI)) (ci := 8) (v := .int mStep) (C := RX8) (T := TX8) (N := 36) hx hb hts (fun w h => List.mem_cons_of_mem _ (List.mem_append_right _ h)) hown hK hP 0 rfl rfl 1 (by decide) (hts (.fieldLink RX8 15 "BidMarketModel" "step" "I") (List.mem_of_getElem? (i := 9) rfl)) (fun _ h9 => h9) rfl dX8_minds_46 ?_
  refine va_put (D := (dC, dI)) (ci := 8) (v := .int mStep) (ty := .int) (C := RX8) (T := TX8) (N := 36) hx hb hts (fun w h => List.mem_cons_of_mem _ (List.mem_append_right _ h)) tyX8 tyX8_ok nmX8 hown hK hP hD hS 0 rfl rfl 26 (by decide) (hts (.fieldLink RX8 135 "BidMarketModel" "mindStep" "I") (List.mem_of_getElem? (i := 10) rfl)) (fun _ h9 => h9) rfl (by decide +kernel) rfl rfl (Nat.le_of_ble_eq_true rfl) dX8_minds_49 (fun H locs hP hD hS => ?_)
  have hP : va_P (dC, dI) vwCl (wdX8_minds cI cJ cT cII cJJ ad mN mStep mSeen mPlans mBooks mTexted mIsKept mSpot mKeeps mStep mAt mWhat mWhole mIsBroken mHas mOwner mPrice mWrong y1 y2 y3 y4) H := hP
  have hD : va_D A (wdX8_minds cI cJ cT cII cJJ ad mN mStep mSeen mPlans mBooks mTexted mIsKept mSpot mKeeps mStep mAt mWhat mWhole mIsBroken mHas mOwner mPrice mWrong y1 y2 y3 y4) := hD
  exact W.vret hx hb hr (fun t ht hW => ⟨⟨(mStep, y1, y2, y3, y4), rfl, hw, by show va_P _ _ _ t.heap; rw [ht]; exact hP⟩, hS.F ht⟩) hS.2.2 dX8_minds_52
set_option maxHeartbeats 4000000 in
set_option maxRecDepth 100000 in
theorem mX8_forgets (l : Launch) (dC : Nat → ClassId) (dI : Nat → Nat → Nat) (cI cJ cT cII cJJ : ClassId) (ad : Nat → Nat) (sz : Nat) (mN : Int32) (mStep : Int32) (mSeen : Int32) (mPlans : Int32) (mBooks : Int32) (mTexted : Int32) (mIsKept : Int32) (mSpot : Int32) (mKeeps : Int32) (mMindStep : Int32) (mAt : Int32) (mWhat : Int32) (mWhole : Int32) (mIsBroken : Int32) (mHas : Nat → Int32) (mOwner : Nat → Int32) (mPrice : Nat → Int32) (mWrong : Nat → Int32) (mMindHas : Nat → Int32) (mMindOwner : Nat → Int32) (mMindPrice : Nat → Int32) (mMindWrong : Nat → Int32) (Post : Int32 → (Nat → Int32) → (Nat → Int32) → (Nat → Int32) → (Nat → Int32) → Prop) (hw : wpX8_forgets mStep mMindStep mHas mOwner mPrice mWrong mMindHas mMindOwner mMindPrice mMindWrong Post) : Met l yX8_forgets wsX8_forgets ({ frames := 1, cells := 0, slots := 0, locals := 22 } : Room) (va_Pc [.ref (ad 0)] (fun U => U.heap.size = sz ∧ va_P (dC, dI) vwCl (wdX8_forgets cI cJ cT cII cJJ ad mN mStep mSeen mPlans mBooks mTexted mIsKept mSpot mKeeps mMindStep mAt mWhat mWhole mIsBroken mHas mOwner mPrice mWrong mMindHas mMindOwner mMindPrice mMindWrong) U.heap ∧ va_K (dC, dI) vwCl (bw_tys cI cJ cT cII cJJ) U ∧ va_D (fun _ => True) (wdX8_forgets cI cJ cT cII cJJ ad mN mStep mSeen mPlans mBooks mTexted mIsKept mSpot mKeeps mMindStep mAt mWhat mWhole mIsBroken mHas mOwner mPrice mWrong mMindHas mMindOwner mMindPrice mMindWrong))) (va_Qv (fun (u : Int32 × (Nat → Int32) × (Nat → Int32) × (Nat → Int32) × (Nat → Int32)) => Post u.1 u.2.1 u.2.2.1 u.2.2.2.1 u.2.2.2.2) (fun (u : Int32 × (Nat → Int32) × (Nat → Int32) × (Nat → Int32) × (Nat → Int32)) t => va_P (dC, dI) vwCl (wdX8_forgets cI cJ cT cII cJJ ad mN u.1 mSeen mPlans mBooks mTexted mIsKept mSpot mKeeps mMindStep mAt mWhat mWhole mIsBroken u.2.1 u.2.2.1 u.2.2.2.1 u.2.2.2.2 mMindHas mMindOwner mMindPrice mMindWrong) t.heap) (va_A (wdX8_forgets cI cJ cT cII cJJ ad mN mStep mSeen mPlans mBooks mTexted mIsKept mSpot mKeeps mMindStep mAt mWhat mWhole mIsBroken mHas mOwner mPrice mWrong mMindHas mMindOwner mMindPrice mMindWrong) sz)) 0 0 (va_A (wdX8_forgets cI cJ cT cII cJJ ad mN mStep mSeen mPlans mBooks mTexted mIsKept mSpot mKeeps mMindStep mAt mWhat mWhole mIsBroken mHas mOwner mPrice mWrong mMindHas mMindOwner mMindPrice mMindWrong) sz) := by
  refine Met.ofW (cc := cX8_forgets) (maxL := 1) (ret := none) (by decide) rfl ?_
  intro p e s m args below meth c s₁ B hml hv
  obtain ⟨rfl, hsz, hP, hK, hD0⟩ := hv
  have hx := B.exec
  have hb := B.bytes
  have hr := B.returns
  have hts := atoms_spec (ws := wsX8_forgets) B.pre
  have hown : s.vm.findClass RX8 = some m.cls := findClass_of_methodNamed B.named
  have hlocks := B.notSynchronized
  subst hsz
  have hD := hD0.self (sz := s.heap.size)
  generalize hAe : va_A (wdX8_forgets cI cJ cT cII cJJ ad mN mStep mSeen mPlans mBooks mTexted mIsKept mSpot mKeeps mMindStep mAt mWhat mWhole mIsBroken mHas mOwner mPrice mWrong mMindHas mMindOwner mMindPrice mMindWrong) s.heap.size = A at hD ⊢
  have hA : ∀ q : Nat, s.heap.size ≤ q → A q := fun q h => by rw [← hAe]; exact Or.inr h
  have hS : va_S A s.heap s.heap [] := va_S.rf
  have hl := lv_entry ([.ref (ad 0)]) (n := 1) (Nat.le_of_ble_eq_true rfl)
  rw [lg_entry_eq]
  generalize (lg_sl ([.ref (ad 0)]) ++ List.replicate (1 - (lg_sl ([.ref (ad 0)])).length) Slot.unset).toArray = ls at hl ⊢
  have hl : lv_has ls 1 [(0, .ref (ad 0))] := hl
  unfold wpX8_forgets at hw
  refine lv_aload_n hx hb dX8_forgets_0 rfl (lv_at hl 0 rfl) ?_
  refine va_get (D := (dC, dI)) (ci := 8) (v := .ref (ad 14)) (C := RX8) (T := TX8) (N := 36) hx hb hts (fun w h => List.mem_cons_of_mem _ (List.mem_append_right _ h)) hown hK hP 0 rfl rfl 22 (by decide) (hts (.fieldLink RX8 58 "BidMarketModel" "mindHas" "[I") (List.mem_of_getElem? (i := 1) rfl)) (fun _ h9 => h9) rfl dX8_forgets_1 ?_
  refine lv_aload_n hx hb dX8_forgets_4 rfl (lv_at hl 0 rfl) ?_
  refine va_get (D := (dC, dI)) (ci := 8) (v := .ref (ad 2)) (C := RX8) (T := TX8) (N := 36) hx hb hts (fun w h => List.mem_cons_of_mem _ (List.mem_append_right _ h)) hown hK hP 0 rfl rfl 3 (by decide) (hts (.fieldLink RX8 22 "BidMarketModel" "has" "[I") (List.mem_of_getElem? (i := 2) rfl)) (fun _ h9 => h9) rfl dX8_forgets_5 ?_
  refine bw_wsv (wc := (wdX8_lays cI cJ cT cII cJJ (fun k => ad (k + 14)) (fun k => ad (k + 2)) 8 mMindHas 8 mHas)) (w1 := (fun (u : (Nat → Int32)) => wdX8_lays cI cJ cT cII cJJ (fun k => ad (k + 14)) (fun k => ad (k + 2)) 8 mMindHas 8 u)) (As := [.ref (ad 14), .ref (ad 2)]) (rest := []) ⟨hx, hb, hml, hown, hts⟩ (mX8_lays l dC dI cI cJ cT cII cJJ (fun k => ad (k + 14)) (fun k => ad (k + 2)) _ 8 mMindHas 8 mHas _ hw) (va_cwS 2 hts gX8_forgets_X8_lays rfl rfl rfl hdX8_lays ⟨Nat.le_of_ble_eq_true rfl, Nat.le_of_ble_eq_true rfl⟩) hK hP hD hS hA [5, 1] rfl (by decide) (fun _ => rfl) rfl hl.1 rfl (Nat.le_of_ble_eq_true rfl) ⟨Nat.le_of_ble_eq_true rfl, Nat.le_of_ble_eq_true rfl⟩ dX8_forgets_8 (fun u H locs hw hP hD hS => ?_)
  obtain ⟨y1, rfl⟩ : ∃ z, z = u := ⟨_, rfl⟩
  try dsimp only at hw
  have hP : va_P (dC, dI) vwCl (wdX8_forgets cI cJ cT cII cJJ ad mN mStep mSeen mPlans mBooks mTexted mIsKept mSpot mKeeps mMindStep mAt mWhat mWhole mIsBroken y1 mOwner mPrice mWrong mMindHas mMindOwner mMindPrice mMindWrong) H := hP
  have hD : va_D A (wdX8_forgets cI cJ cT cII cJJ ad mN mStep mSeen mPlans mBooks mTexted mIsKept mSpot mKeeps mMindStep mAt mWhat mWhole mIsBroken y1 mOwner mPrice mWrong mMindHas mMindOwner mMindPrice mMindWrong) := hD
  refine lv_aload_n hx hb dX8_forgets_11 rfl (lv_at hl 0 rfl) ?_
  refine va_get (D := (dC, dI)) (ci := 8) (v := .ref (ad 15)) (C := RX8) (T := TX8) (N := 36) hx hb hts (fun w h => List.mem_cons_of_mem _ (List.mem_append_right _ h)) hown hK hP 0 rfl rfl 23 (by decide) (hts (.fieldLink RX8 61 "BidMarketModel" "mindOwner" "[I") (List.mem_of_getElem? (i := 3) rfl)) (fun _ h9 => h9) rfl dX8_forgets_12 ?_
  refine lv_aload_n hx hb dX8_forgets_15 rfl (lv_at hl 0 rfl) ?_
  refine va_get (D := (dC, dI)) (ci := 8) (v := .ref (ad 3)) (C := RX8) (T := TX8) (N := 36) hx hb hts (fun w h => List.mem_cons_of_mem _ (List.mem_append_right _ h)) hown hK hP 0 rfl rfl 4 (by decide) (hts (.fieldLink RX8 25 "BidMarketModel" "owner" "[I") (List.mem_of_getElem? (i := 4) rfl)) (fun _ h9 => h9) rfl dX8_forgets_16 ?_
  refine bw_wsv (wc := (wdX8_lays cI cJ cT cII cJJ (fun k => ad (k + 15)) (fun k => ad (k + 3)) 8 mMindOwner 8 mOwner)) (w1 := (fun (u : (Nat → Int32)) => wdX8_lays cI cJ cT cII cJJ (fun k => ad (k + 15)) (fun k => ad (k + 3)) 8 mMindOwner 8 u)) (As := [.ref (ad 15), .ref (ad 3)]) (rest := []) ⟨hx, hb, hml, hown, hts⟩ (mX8_lays l dC dI cI cJ cT cII cJJ (fun k => ad (k + 15)) (fun k => ad (k + 3)) _ 8 mMindOwner 8 mOwner _ hw) (va_cwS 2 hts gX8_forgets_X8_lays rfl rfl rfl hdX8_lays ⟨Nat.le_of_ble_eq_true rfl, Nat.le_of_ble_eq_true rfl⟩) hK hP hD hS hA [6, 2] rfl (by decide) (fun _ => rfl) rfl hl.1 rfl (Nat.le_of_ble_eq_true rfl) ⟨Nat.le_of_ble_eq_true rfl, Nat.le_of_ble_eq_true rfl⟩ dX8_forgets_19 (fun u H locs hw hP hD hS => ?_)
  obtain ⟨y2, rfl⟩ : ∃ z, z = u := ⟨_, rfl⟩
  try dsimp only at hw
  have hP : va_P (dC, dI) vwCl (wdX8_forgets cI cJ cT cII cJJ ad mN mStep mSeen mPlans mBooks mTexted mIsKept mSpot mKeeps mMindStep mAt mWhat mWhole mIsBroken y1 y2 mPrice mWrong mMindHas mMindOwner mMindPrice mMindWrong) H := hP
  have hD : va_D A (wdX8_forgets cI cJ cT cII cJJ ad mN mStep mSeen mPlans mBooks mTexted mIsKept mSpot mKeeps mMindStep mAt mWhat mWhole mIsBroken y1 y2 mPrice mWrong mMindHas mMindOwner mMindPrice mMindWrong) := hD
  refine lv_aload_n hx hb dX8_forgets_22 rfl (lv_at hl 0 rfl) ?_
  refine va_get (D := (dC, dI)) (ci := 8) (v := .ref (ad 16)) (C := RX8) (T := TX8) (N := 36) hx hb hts (fun w h => List.mem_cons_of_mem _ (List.mem_append_right _ h)) hown hK hP 0 rfl rfl 24 (by decide) (hts (.fieldLink RX8 64 "BidMarketModel" "mindPrice" "[I") (List.mem_of_getElem? (i := 5) rfl)) (fun _ h9 => h9) rfl dX8_forgets_23 ?_
  refine lv_aload_n hx hb dX8_forgets_26 rfl (lv_at hl 0 rfl) ?_
  refine va_get (D := (dC, dI)) (ci := 8) (v := .ref (ad 4)) (C := RX8) (T := TX8) (N := 36) hx hb hts (fun w h => List.mem_cons_of_mem _ (List.mem_append_right _ h)) hown hK hP 0 rfl rfl 5 (by decide) (hts (.fieldLink RX8 28 "BidMarketModel" "price" "[I") (List.mem_of_getElem? (i := 6) rfl)) (fun _ h9 => h9) rfl dX8_forgets_27 ?_
  refine bw_wsv (wc := (wdX8_lays cI cJ cT cII cJJ (fun k => ad (k + 16)) (fun k => ad (k + 4)) 8 mMindPrice 8 mPrice)) (w1 := (fun (u : (Nat → Int32)) => wdX8_lays cI cJ cT cII cJJ (fun k => ad (k + 16)) (fun k => ad (k + 4)) 8 mMindPrice 8 u)) (As := [.ref (ad 16), .ref (ad 4)]) (rest := []) ⟨hx, hb, hml, hown, hts⟩ (mX8_lays l dC dI cI cJ cT cII cJJ (fun k => ad (k + 16)) (fun k => ad (k + 4)) _ 8 mMindPrice 8 mPrice _ hw) (va_cwS 2 hts gX8_forgets_X8_lays rfl rfl rfl hdX8_lays ⟨Nat.le_of_ble_eq_true rfl, Nat.le_of_ble_eq_true rfl⟩) hK hP hD hS hA [7, 3] rfl (by decide) (fun _ => rfl) rfl hl.1 rfl (Nat.le_of_ble_eq_true rfl) ⟨Nat.le_of_ble_eq_true rfl, Nat.le_of_ble_eq_true rfl⟩ dX8_forgets_30 (fun u H locs hw hP hD hS => ?_)
  obtain ⟨y3, rfl⟩ : ∃ z, z = u := ⟨_, rfl⟩
  try dsimp only at hw
  have hP : va_P (dC, dI) vwCl (wdX8_forgets cI cJ cT cII cJJ ad mN mStep mSeen mPlans mBooks mTexted mIsKept mSpot mKeeps mMindStep mAt mWhat mWhole mIsBroken y1 y2 y3 mWrong mMindHas mMindOwner mMindPrice mMindWrong) H := hP
  have hD : va_D A (wdX8_forgets cI cJ cT cII cJJ ad mN mStep mSeen mPlans mBooks mTexted mIsKept mSpot mKeeps mMindStep mAt mWhat mWhole mIsBroken y1 y2 y3 mWrong mMindHas mMindOwner mMindPrice mMindWrong) := hD
  refine lv_aload_n hx hb dX8_forgets_33 rfl (lv_at hl 0 rfl) ?_
  refine va_get (D := (dC, dI)) (ci := 8) (v := .ref (ad 17)) (C := RX8) (T := TX8) (N := 36) hx hb hts (fun w h => List.mem_cons_of_mem _ (List.mem_append_right _ h)) hown hK hP 0 rfl rfl 25 (by decide) (hts (.fieldLink RX8 67 "BidMarketModel" "mindWrong" "[I") (List.mem_of_getElem? (i := 7) rfl)) (fun _ h9 => h9) rfl dX8_forgets_34 ?_
  refine lv_aload_n hx hb dX8_forgets_37 rfl (lv_at hl 0 rfl) ?_
  refine va_get (D := (dC, dI)) (ci := 8) (v := .ref (ad 11)) (C := RX8) (T := TX8) (N := 36) hx hb hts (fun w h => List.mem_cons_of_mem _ (List.mem_append_right _ h)) hown hK hP 0 rfl rfl 15 (by decide) (hts (.fieldLink RX8 49 "BidMarketModel" "wrong" "[I") (List.mem_of_getElem? (i := 8) rfl)) (fun _ h9 => h9) rfl dX8_forgets_38 ?_
  refine bw_wsv (wc := (wdX8_lays cI cJ cT cII cJJ (fun k => ad (k + 17)) (fun k => ad (k + 11)) 3 mMindWrong 3 mWrong)) (w1 := (fun (u : (Nat → Int32)) => wdX8_lays cI cJ cT cII cJJ (fun k => ad (k + 17)) (fun k => ad (k + 11)) 3 mMindWrong 3 u)) (As := [.ref (ad 17), .ref (ad 11)]) (rest := []) ⟨hx, hb, hml, hown, hts⟩ (mX8_lays l dC dI cI cJ cT cII cJJ (fun k => ad (k + 17)) (fun k => ad (k + 11)) _ 3 mMindWrong 3 mWrong _ hw) (va_cwS 2 hts gX8_forgets_X8_lays rfl rfl rfl hdX8_lays ⟨Nat.le_of_ble_eq_true rfl, Nat.le_of_ble_eq_true rfl⟩) hK hP hD hS hA [8, 4] rfl (by decide) (fun _ => rfl) rfl hl.1 rfl (Nat.le_of_ble_eq_true rfl) ⟨Nat.le_of_ble_eq_true rfl, Nat.le_of_ble_eq_true rfl⟩ dX8_forgets_41 (fun u H locs hw hP hD hS => ?_)
  obtain ⟨y4, rfl⟩ : ∃ z, z = u := ⟨_, rfl⟩
  try dsimp only at hw
  have hP : va_P (dC, dI) vwCl (wdX8_forgets cI cJ cT cII cJJ ad mN mStep mSeen mPlans mBooks mTexted mIsKept mSpot mKeeps mMindStep mAt mWhat mWhole mIsBroken y1 y2 y3 y4 mMindHas mMindOwner mMindPrice mMindWrong) H := hP
  have hD : va_D A (wdX8_forgets cI cJ cT cII cJJ ad mN mStep mSeen mPlans mBooks mTexted mIsKept mSpot mKeeps mMindStep mAt mWhat mWhole mIsBroken y1 y2 y3 y4 mMindHas mMindOwner mMindPrice mMindWrong) := hD
  refine lv_aload_n hx hb dX8_forgets_44 rfl (lv_at hl 0 rfl) ?_
  refine lv_aload_n hx hb dX8_forgets_45 rfl (lv_at hl 0 rfl) ?_
  refine va_get (D := (dC, dI)) (ci := 8) (v := .int mMindStep) (C := RX8) (T := TX8) (N := 36) hx hb hts (fun w h => List.mem_cons_of_mem _ (List.mem_append_right _ h)) hown hK hP 0 rfl rfl 26 (by decide) (hts (.fieldLink RX8 135 "BidMarketModel" "mindStep" "I") (List.mem_of_getElem? (i := 9) rfl)) (fun _ h9 => h9) rfl dX8_forgets_46 ?_
  refine va_put (D := (dC, dI)) (ci := 8) (v := .int mMindStep) (ty := .int) (C := RX8) (T := TX8) (N := 36) hx hb hts (fun w h => List.mem_cons_of_mem _ (List.mem_append_right _ h)) tyX8 tyX8_ok nmX8 hown hK hP hD hS 0 rfl rfl 1 (by decide) (hts (.fieldLink RX8 15 "BidMarketModel" "step" "I") (List.mem_of_getElem? (i := 10) rfl)) (fun _ h9 => h9) rfl (by decide +kernel) rfl rfl (Nat.le_of_ble_eq_true rfl) dX8_forgets_49 (fun H locs hP hD hS => ?_)
  have hP : va_P (dC, dI) vwCl (wdX8_forgets cI cJ cT cII cJJ ad mN mMindStep mSeen mPlans mBooks mTexted mIsKept mSpot mKeeps mMindStep mAt mWhat mWhole mIsBroken y1 y2 y3 y4 mMindHas mMindOwner mMindPrice mMindWrong) H := hP
  have hD : va_D A (wdX8_forgets cI cJ cT cII cJJ ad mN mMindStep mSeen mPlans mBooks mTexted mIsKept mSpot mKeeps mMindStep mAt mWhat mWhole mIsBroken y1 y2 y3 y4 mMindHas mMindOwner mMindPrice mMindWrong) := hD
  exact W.vret hx hb hr (fun t ht hW => ⟨⟨(mMindStep, y1, y2, y3, y4), rfl, hw, by show va_P _ _ _ t.heap; rw [ht]; exact hP⟩, hS.F ht⟩) hS.2.2 dX8_forgets_52
set_option maxHeartbeats 4000000 in
set_option maxRecDepth 100000 in
theorem mX8_may (l : Launch) (dC : Nat → ClassId) (dI : Nat → Nat → Nat) (cI cJ cT cII cJJ : ClassId) (ad : Nat → Nat) (mN : Int32) (mStep : Int32) (mSeen : Int32) (mPlans : Int32) (mBooks : Int32) (mTexted : Int32) (mIsKept : Int32) (mSpot : Int32) (mKeeps : Int32) (mMindStep : Int32) (mAt : Int32) (mWhat : Int32) (mWhole : Int32) (mIsBroken : Int32) (mWorth : Nat → Int32) (a1 : Int32) (a2 : Int32) (Post : Int32 → Prop) (hw : wpX8_may mWorth a1 a2 Post) : Met l yX8_may wsX8_may ({ frames := 0, cells := 0, slots := 0, locals := 0 } : Room) (va_Pc [.ref (ad 0), .int a1, .int a2] (fun U => va_P (dC, dI) vwCl (wdX8_may cI cJ cT cII cJJ ad mN mStep mSeen mPlans mBooks mTexted mIsKept mSpot mKeeps mMindStep mAt mWhat mWhole mIsBroken mWorth) U.heap ∧ va_K (dC, dI) vwCl (bw_tys cI cJ cT cII cJJ) U)) (vp_Si Post) 0 0 (fun _ => False) := by
  refine Met.ofW (cc := cX8_may) (maxL := 3) (ret := (some .boolean)) (by decide) rfl ?_
  intro p e s m args below meth c s₁ B hml hv
  obtain ⟨rfl, hP, hK⟩ := hv
  have hx := B.exec
  have hb := B.bytes
  have hr := B.returns
  have hts := atoms_spec (ws := wsX8_may) B.pre
  have hown : s.vm.findClass RX8 = some m.cls := findClass_of_methodNamed B.named
  have hlocks := B.notSynchronized
  have hl := lv_entry ([.ref (ad 0), .int a1, .int a2]) (n := 3) (Nat.le_of_ble_eq_true rfl)
  rw [lg_entry_eq]
  generalize (lg_sl ([.ref (ad 0), .int a1, .int a2]) ++ List.replicate (3 - (lg_sl ([.ref (ad 0), .int a1, .int a2])).length) Slot.unset).toArray = ls at hl ⊢
  have hl : lv_has ls 3 [(0, .ref (ad 0)), (1, .int a1), (2, .int a2)] := hl
  unfold wpX8_may at hw
  refine lv_aload_n hx hb dX8_may_0 rfl (lv_at hl 0 rfl) ?_
  refine va_get (D := (dC, dI)) (ci := 8) (v := .ref (ad 1)) (C := RX8) (T := TX8) (N := 36) hx hb hts (fun w h => List.mem_cons_of_mem _ (List.mem_append_right _ h)) hown hK hP 0 rfl rfl 2 (by decide) (hts (.fieldLink RX8 18 "BidMarketModel" "worth" "[I") (List.mem_of_getElem? (i := 1) rfl)) (fun _ h9 => h9) rfl dX8_may_1 ?_
  refine lv_bipush (v := 8) hx hb dX8_may_4 (by decide) ?_
  refine lv_iload_n hx hb dX8_may_6 rfl (lv_at hl 1 rfl) ?_
  refine lv_imul hx hb dX8_may_7 ?_
  refine lv_iload_n hx hb dX8_may_8 rfl (lv_at hl 2 rfl) ?_
  refine lv_iadd hx hb dX8_may_9 ?_
  have h1 := hw.1
  have hw := hw.2
  refine va_iald hx hb hK hP 1 0 rfl rfl h1 dX8_may_10 ?_
  refine lv_if_lt (tgt := 18) hx hb dX8_may_11 (by decide) (fun c2 => ?_) (fun c2 => ?_)
  · have hw := hw.1 c2
    refine lv_iconst (v := 0) hx hb dX8_may_18 (by decide) ?_
    exact W.zret (v := 0) hx hb hr rfl (fun t ht hW => ⟨0, rfl, hw, ht⟩) (fun _ h => by cases h) dX8_may_19
  · have hw := hw.2 c2
    refine lv_iconst (v := 1) hx hb dX8_may_14 (by decide) ?_
    refine lv_goto (tgt := 19) hx hb dX8_may_15 (by decide) ?_
    exact W.zret (v := 1) hx hb hr rfl (fun t ht hW => ⟨1, rfl, hw, ht⟩) (fun _ h => by cases h) dX8_may_19
set_option maxHeartbeats 4000000 in
set_option maxRecDepth 100000 in
theorem mX8_gain (l : Launch) (dC : Nat → ClassId) (dI : Nat → Nat → Nat) (cI cJ cT cII cJJ : ClassId) (ad : Nat → Nat) (mN : Int32) (mStep : Int32) (mSeen : Int32) (mPlans : Int32) (mBooks : Int32) (mTexted : Int32) (mIsKept : Int32) (mSpot : Int32) (mKeeps : Int32) (mMindStep : Int32) (mAt : Int32) (mWhat : Int32) (mWhole : Int32) (mIsBroken : Int32) (mWorth : Nat → Int32) (mPrice : Nat → Int32) (a1 : Int32) (a2 : Int32) (Post : Int32 → Prop) (hw : wpX8_gain mN mWorth mPrice a1 a2 Post) : Met l yX8_gain wsX8_gain ({ frames := 0, cells := 0, slots := 0, locals := 0 } : Room) (va_Pc [.ref (ad 0), .int a1, .int a2] (fun U => va_P (dC, dI) vwCl (wdX8_gain cI cJ cT cII cJJ ad mN mStep mSeen mPlans mBooks mTexted mIsKept mSpot mKeeps mMindStep mAt mWhat mWhole mIsBroken mWorth mPrice) U.heap ∧ va_K (dC, dI) vwCl (bw_tys cI cJ cT cII cJJ) U)) (vp_Si Post) 0 0 (fun _ => False) := by
  refine Met.ofW (cc := cX8_gain) (maxL := 3) (ret := (some .int)) (by decide) rfl ?_
  intro p e s m args below meth c s₁ B hml hv
  obtain ⟨rfl, hP, hK⟩ := hv
  have hx := B.exec
  have hb := B.bytes
  have hr := B.returns
  have hts := atoms_spec (ws := wsX8_gain) B.pre
  have hown : s.vm.findClass RX8 = some m.cls := findClass_of_methodNamed B.named
  have hlocks := B.notSynchronized
  have hl := lv_entry ([.ref (ad 0), .int a1, .int a2]) (n := 3) (Nat.le_of_ble_eq_true rfl)
  rw [lg_entry_eq]
  generalize (lg_sl ([.ref (ad 0), .int a1, .int a2]) ++ List.replicate (3 - (lg_sl ([.ref (ad 0), .int a1, .int a2])).length) Slot.unset).toArray = ls at hl ⊢
  have hl : lv_has ls 3 [(0, .ref (ad 0)), (1, .int a1), (2, .int a2)] := hl
  unfold wpX8_gain at hw
  refine lv_aload_n hx hb dX8_gain_0 rfl (lv_at hl 0 rfl) ?_
  refine va_get (D := (dC, dI)) (ci := 8) (v := .int mN) (C := RX8) (T := TX8) (N := 36) hx hb hts (fun w h => List.mem_cons_of_mem _ (List.mem_append_right _ h)) hown hK hP 0 rfl rfl 0 (by decide) (hts (.fieldLink RX8 9 "BidMarketModel" "n" "I") (List.mem_of_getElem? (i := 1) rfl)) (fun _ h9 => h9) rfl dX8_gain_1 ?_
  refine lv_iconst (v := 1) hx hb dX8_gain_4 (by decide) ?_
  refine lv_iadd hx hb dX8_gain_5 ?_
  refine lv_aload_n hx hb dX8_gain_6 rfl (lv_at hl 0 rfl) ?_
  refine va_get (D := (dC, dI)) (ci := 8) (v := .ref (ad 1)) (C := RX8) (T := TX8) (N := 36) hx hb hts (fun w h => List.mem_cons_of_mem _ (List.mem_append_right _ h)) hown hK hP 0 rfl rfl 2 (by decide) (hts (.fieldLink RX8 18 "BidMarketModel" "worth" "[I") (List.mem_of_getElem? (i := 2) rfl)) (fun _ h9 => h9) rfl dX8_gain_7 ?_
  refine lv_bipush (v := 8) hx hb dX8_gain_10 (by decide) ?_
  refine lv_iload_n hx hb dX8_gain_12 rfl (lv_at hl 1 rfl) ?_
  refine lv_imul hx hb dX8_gain_13 ?_
  refine lv_iload_n hx hb dX8_gain_14 rfl (lv_at hl 2 rfl) ?_
  refine lv_iadd hx hb dX8_gain_15 ?_
  have h1 := hw.1
  have hw := hw.2
  refine va_iald hx hb hK hP 1 0 rfl rfl h1 dX8_gain_16 ?_
  refine lv_imul hx hb dX8_gain_17 ?_
  refine lv_aload_n hx hb dX8_gain_18 rfl (lv_at hl 0 rfl) ?_
  refine va_get (D := (dC, dI)) (ci := 8) (v := .ref (ad 4)) (C := RX8) (T := TX8) (N := 36) hx hb hts (fun w h => List.mem_cons_of_mem _ (List.mem_append_right _ h)) hown hK hP 0 rfl rfl 5 (by decide) (hts (.fieldLink RX8 28 "BidMarketModel" "price" "[I") (List.mem_of_getElem? (i := 3) rfl)) (fun _ h9 => h9) rfl dX8_gain_19 ?_
  refine lv_iload_n hx hb dX8_gain_22 rfl (lv_at hl 2 rfl) ?_
  have h2 := hw.1
  have hw := hw.2
  refine va_iald hx hb hK hP 2 0 rfl rfl h2 dX8_gain_23 ?_
  refine lv_isub hx hb dX8_gain_24 ?_
  exact W.iret (v := ((mN + 1) * (mWorth ((8 * a1) + a2).toNatClampNeg)) - (mPrice a2.toNatClampNeg)) hx hb hr (fun t ht hW => ⟨((mN + 1) * (mWorth ((8 * a1) + a2).toNatClampNeg)) - (mPrice a2.toNatClampNeg), rfl, hw, ht⟩) (fun _ h => by cases h) dX8_gain_25
set_option maxHeartbeats 4000000 in
set_option maxRecDepth 100000 in
theorem mX8_best (l : Launch) (dC : Nat → ClassId) (dI : Nat → Nat → Nat) (cI cJ cT cII cJJ : ClassId) (ad : Nat → Nat) (mN : Int32) (mStep : Int32) (mSeen : Int32) (mPlans : Int32) (mBooks : Int32) (mTexted : Int32) (mIsKept : Int32) (mSpot : Int32) (mKeeps : Int32) (mMindStep : Int32) (mAt : Int32) (mWhat : Int32) (mWhole : Int32) (mIsBroken : Int32) (mWorth : Nat → Int32) (mPrice : Nat → Int32) (a1 : Int32) (Post : Int32 → Prop) (hw : wpX8_best mN mWorth mPrice a1 Post) : Met l yX8_best wsX8_best ({ frames := 1, cells := 0, slots := 0, locals := 22 } : Room) (va_Pc [.ref (ad 0), .int a1] (fun U => va_P (dC, dI) vwCl (wdX8_best cI cJ cT cII cJJ ad mN mStep mSeen mPlans mBooks mTexted mIsKept mSpot mKeeps mMindStep mAt mWhat mWhole mIsBroken mWorth mPrice) U.heap ∧ va_K (dC, dI) vwCl (bw_tys cI cJ cT cII cJJ) U)) (vp_Si Post) 0 0 (fun _ => False) := by
  refine Met.ofW (cc := cX8_best) (maxL := 4) (ret := (some .int)) (by decide) rfl ?_
  intro p e s m args below meth c s₁ B hml hv
  obtain ⟨rfl, hP, hK⟩ := hv
  have hx := B.exec
  have hb := B.bytes
  have hr := B.returns
  have hts := atoms_spec (ws := wsX8_best) B.pre
  have hown : s.vm.findClass RX8 = some m.cls := findClass_of_methodNamed B.named
  have hlocks := B.notSynchronized
  have hl := lv_entry ([.ref (ad 0), .int a1]) (n := 4) (Nat.le_of_ble_eq_true rfl)
  rw [lg_entry_eq]
  generalize (lg_sl ([.ref (ad 0), .int a1]) ++ List.replicate (4 - (lg_sl ([.ref (ad 0), .int a1])).length) Slot.unset).toArray = ls at hl ⊢
  have hl : lv_has ls 4 [(0, .ref (ad 0)), (1, .int a1)] := hl
  have kB43 : ∀ (K9 : Int32 → Int32 → Prop), (∀ (v2 : Int32) (v3 : Int32), ∀ ls : Array Slot, lv_has ls 4 [(0, .ref (ad 0)), (1, .int a1), (2, .int v2), (3, .int v3)] → K9 v2 v3 → W p l e (headSpec wsX8_best ({ frames := 1, cells := 0, slots := 0, locals := 22 } : Room)).room s m ([.ref (ad 0), .int a1] : List Value).toArray below meth c s.heap [] 0 0 (MQ below (vp_Si Post) ([.ref (ad 0), .int a1] : List Value).toArray s 0 0 (fun _ => False)) (F0 m 9 ls [])) → ∀ (v2 : Int32) (v3 : Int32), ∀ ls : Array Slot, lv_has ls 4 [(0, .ref (ad 0)), (1, .int a1), (2, .int v2), (3, .int v3)] → wpX8_best_B43 mN mWorth mPrice a1 K9 Post v2 v3 → W p l e (headSpec wsX8_best ({ frames := 1, cells := 0, slots := 0, locals := 22 } : Room)).room s m ([.ref (ad 0), .int a1] : List Value).toArray below meth c s.heap [] 0 0 (MQ below (vp_Si Post) ([.ref (ad 0), .int a1] : List Value).toArray s 0 0 (fun _ => False)) (F0 m 43 ls []) := by
    intro K9 hK9 v2 v3 ls hl hw
    unfold wpX8_best_B43 at hw
    obtain ⟨x6, ex6⟩ : ∃ y : Int32, y = v3 + (-1) := ⟨_, rfl⟩
    have hw := hw x6 ex6
    refine lv_iinc (v := x6) (lv' := [(3, .int x6), (0, .ref (ad 0)), (1, .int a1), (2, .int v2)]) hx hb dX8_best_43 hl (k := 3) rfl (by rw [ex6]; rfl) (by decide) rfl (fun ls hl => ?_)
    refine lv_goto (tgt := 9) hx hb dX8_best_46 (by decide) ?_
    exact hK9 v2 x6 ls (lv_sub hl [1, 2, 3, 0] rfl) hw
  have kB41 : ∀ (K9 : Int32 → Int32 → Prop), (∀ (v2 : Int32) (v3 : Int32), ∀ ls : Array Slot, lv_has ls 4 [(0, .ref (ad 0)), (1, .int a1), (2, .int v2), (3, .int v3)] → K9 v2 v3 → W p l e (headSpec wsX8_best ({ frames := 1, cells := 0, slots := 0, locals := 22 } : Room)).room s m ([.ref (ad 0), .int a1] : List Value).toArray below meth c s.heap [] 0 0 (MQ below (vp_Si Post) ([.ref (ad 0), .int a1] : List Value).toArray s 0 0 (fun _ => False)) (F0 m 9 ls [])) → ∀ (v3 : Int32), ∀ ls : Array Slot, lv_has ls 4 [(0, .ref (ad 0)), (1, .int a1), (3, .int v3)] → wpX8_best_B41 mN mWorth mPrice a1 K9 Post v3 → W p l e (headSpec wsX8_best ({ frames := 1, cells := 0, slots := 0, locals := 22 } : Room)).room s m ([.ref (ad 0), .int a1] : List Value).toArray below meth c s.heap [] 0 0 (MQ below (vp_Si Post) ([.ref (ad 0), .int a1] : List Value).toArray s 0 0 (fun _ => False)) (F0 m 41 ls []) := by
    intro K9 hK9 v3 ls hl hw
    unfold wpX8_best_B41 at hw
    refine lv_iload_n hx hb dX8_best_41 rfl (lv_at hl 2 rfl) ?_
    refine lv_istore_n (lv' := [(2, .int v3), (0, .ref (ad 0)), (1, .int a1), (3, .int v3)]) hx hb dX8_best_42 rfl hl (by decide) rfl (fun ls hl => ?_)
    exact kB43 K9 hK9 v3 v3 ls (lv_sub hl [1, 2, 0, 3] rfl) hw
  have kB9 : ∀ f : Nat, ∀ (v2 : Int32) (v3 : Int32), ∀ ls : Array Slot, lv_has ls 4 [(0, .ref (ad 0)), (1, .int a1), (2, .int v2), (3, .int v3)] → wpX8_best_B9 mN mWorth mPrice a1 Post f v2 v3 → W p l e (headSpec wsX8_best ({ frames := 1, cells := 0, slots := 0, locals := 22 } : Room)).room s m ([.ref (ad 0), .int a1] : List Value).toArray below meth c s.heap [] 0 0 (MQ below (vp_Si Post) ([.ref (ad 0), .int a1] : List Value).toArray s 0 0 (fun _ => False)) (F0 m 9 ls []) := by
    intro  f
    induction f with
    | zero => intro v2 v3 ls hl hw; exact (show False from hw).elim
    | succ f ih =>
      intro v2 v3 ls hl hw
      rw [wpX8_best_B9] at hw
      refine lv_iload_n hx hb dX8_best_9 rfl (lv_at hl 3 rfl) ?_
      refine lv_if_lt (tgt := 49) hx hb dX8_best_10 (by decide) (fun c3 => ?_) (fun c3 => ?_)
      · have hw := hw.1 c3
        refine lv_iload_n hx hb dX8_best_49 rfl (lv_at hl 2 rfl) ?_
        exact W.iret (v := v2) hx hb hr (fun t ht hW => ⟨v2, rfl, hw, ht⟩) (fun _ h => by cases h) dX8_best_50
      · have hw := hw.2 c3
        refine lv_aload_n hx hb dX8_best_13 rfl (lv_at hl 0 rfl) ?_
        refine lv_iload_n hx hb dX8_best_14 rfl (lv_at hl 1 rfl) ?_
        refine lv_iload_n hx hb dX8_best_15 rfl (lv_at hl 3 rfl) ?_
        refine bw_pvi (wc := (wdX8_may cI cJ cT cII cJJ ad mN mStep mSeen mPlans mBooks mTexted mIsKept mSpot mKeeps mMindStep mAt mWhat mWhole mIsBroken mWorth)) (As := [.int a1, .int v3]) (rest := []) ⟨hx, hb, hml, hown, hts⟩ (mX8_may l dC dI cI cJ cT cII cJJ ad mN mStep mSeen mPlans mBooks mTexted mIsKept mSpot mKeeps mMindStep mAt mWhat mWhole mIsBroken mWorth a1 v3 _ hw) (cwV 2 hts gX8_best_X8_may rfl rfl rfl hdX8_may ⟨Nat.le_of_ble_eq_true rfl, Nat.le_of_ble_eq_true rfl⟩) hK hP [0, 1] rfl rfl rfl rfl rfl hl.1 rfl (Nat.le_of_ble_eq_true rfl) ⟨Nat.le_of_ble_eq_true rfl, Nat.le_of_ble_eq_true rfl⟩ dX8_best_16 (fun r4 hw => ?_)
        refine lv_if_eq (tgt := 43) hx hb dX8_best_19 (by decide) (fun c5 => ?_) (fun c5 => ?_)
        · have hw := hw.1 c5
          exact kB43 (wpX8_best_B9 mN mWorth mPrice a1 Post f) ih v2 v3 ls hl hw
        · have hw := hw.2 c5
          refine lv_iload_n hx hb dX8_best_22 rfl (lv_at hl 2 rfl) ?_
          refine lv_if_lt (tgt := 41) hx hb dX8_best_23 (by decide) (fun c7 => ?_) (fun c7 => ?_)
          · have hw := hw.1 c7
            exact kB41 (wpX8_best_B9 mN mWorth mPrice a1 Post f) ih v3 ls (lv_sub hl [0, 1, 3] rfl) hw
          · have hw := hw.2 c7
            refine lv_aload_n hx hb dX8_best_26 rfl (lv_at hl 0 rfl) ?_
            refine lv_iload_n hx hb dX8_best_27 rfl (lv_at hl 1 rfl) ?_
            refine lv_iload_n hx hb dX8_best_28 rfl (lv_at hl 3 rfl) ?_
            refine bw_pvi (wc := (wdX8_gain cI cJ cT cII cJJ ad mN mStep mSeen mPlans mBooks mTexted mIsKept mSpot mKeeps mMindStep mAt mWhat mWhole mIsBroken mWorth mPrice)) (As := [.int a1, .int v3]) (rest := []) ⟨hx, hb, hml, hown, hts⟩ (mX8_gain l dC dI cI cJ cT cII cJJ ad mN mStep mSeen mPlans mBooks mTexted mIsKept mSpot mKeeps mMindStep mAt mWhat mWhole mIsBroken mWorth mPrice a1 v3 _ hw) (cwV 2 hts gX8_best_X8_gain rfl rfl rfl hdX8_gain ⟨Nat.le_of_ble_eq_true rfl, Nat.le_of_ble_eq_true rfl⟩) hK hP [0, 1, 2] rfl rfl rfl rfl rfl hl.1 rfl (Nat.le_of_ble_eq_true rfl) ⟨Nat.le_of_ble_eq_true rfl, Nat.le_of_ble_eq_true rfl⟩ dX8_best_29 (fun r8 hw => ?_)
            refine lv_aload_n hx hb dX8_best_32 rfl (lv_at hl 0 rfl) ?_
            refine lv_iload_n hx hb dX8_best_33 rfl (lv_at hl 1 rfl) ?_
            refine lv_iload_n hx hb dX8_best_34 rfl (lv_at hl 2 rfl) ?_
            refine bw_pvi (wc := (wdX8_gain cI cJ cT cII cJJ ad mN mStep mSeen mPlans mBooks mTexted mIsKept mSpot mKeeps mMindStep mAt mWhat mWhole mIsBroken mWorth mPrice)) (As := [.int a1, .int v2]) (rest := [.int r8]) ⟨hx, hb, hml, hown, hts⟩ (mX8_gain l dC dI cI cJ cT cII cJJ ad mN mStep mSeen mPlans mBooks mTexted mIsKept mSpot mKeeps mMindStep mAt mWhat mWhole mIsBroken mWorth mPrice a1 v2 _ hw) (cwV 2 hts gX8_best_X8_gain rfl rfl rfl hdX8_gain ⟨Nat.le_of_ble_eq_true rfl, Nat.le_of_ble_eq_true rfl⟩) hK hP [0, 1, 2] rfl rfl rfl rfl rfl hl.1 rfl (Nat.le_of_ble_eq_true rfl) ⟨Nat.le_of_ble_eq_true rfl, Nat.le_of_ble_eq_true rfl⟩ dX8_best_35 (fun r9 hw => ?_)
            refine lv_icmp_lt (tgt := 43) hx hb dX8_best_38 (by decide) (fun c10 => ?_) (fun c10 => ?_)
            · have hw := hw.1 c10
              exact kB43 (wpX8_best_B9 mN mWorth mPrice a1 Post f) ih v2 v3 ls hl hw
            · have hw := hw.2 c10
              exact kB41 (wpX8_best_B9 mN mWorth mPrice a1 Post f) ih v3 ls (lv_sub hl [0, 1, 3] rfl) hw
  unfold wpX8_best at hw
  refine lv_iconst (v := (-1)) hx hb dX8_best_0 (by decide) ?_
  refine lv_topi (fun x1 ex1 => ?_)
  have hw := hw x1 ex1
  refine lv_istore_n (lv' := [(2, .int x1), (0, .ref (ad 0)), (1, .int a1)]) hx hb dX8_best_1 rfl hl (by decide) rfl (fun ls hl => ?_)
  refine lv_aload_n hx hb dX8_best_2 rfl (lv_at hl 1 rfl) ?_
  refine va_get (D := (dC, dI)) (ci := 8) (v := .int mN) (C := RX8) (T := TX8) (N := 36) hx hb hts (fun w h => List.mem_cons_of_mem _ (List.mem_append_right _ h)) hown hK hP 0 rfl rfl 0 (by decide) (hts (.fieldLink RX8 9 "BidMarketModel" "n" "I") (List.mem_of_getElem? (i := 1) rfl)) (fun _ h9 => h9) rfl dX8_best_3 ?_
  refine lv_iconst (v := 1) hx hb dX8_best_6 (by decide) ?_
  refine lv_isub hx hb dX8_best_7 ?_
  refine lv_topi (fun x2 ex2 => ?_)
  have hw := hw x2 ex2
  refine lv_istore_n (lv' := [(3, .int x2), (2, .int x1), (0, .ref (ad 0)), (1, .int a1)]) hx hb dX8_best_8 rfl hl (by decide) rfl (fun ls hl => ?_)
  obtain ⟨f1, hw⟩ := hw
  exact kB9 f1 x1 x2 ls (lv_sub hl [2, 3, 1, 0] rfl) hw
set_option maxHeartbeats 4000000 in
set_option maxRecDepth 100000 in
theorem mX8_second (l : Launch) (dC : Nat → ClassId) (dI : Nat → Nat → Nat) (cI cJ cT cII cJJ : ClassId) (ad : Nat → Nat) (mN : Int32) (mStep : Int32) (mSeen : Int32) (mPlans : Int32) (mBooks : Int32) (mTexted : Int32) (mIsKept : Int32) (mSpot : Int32) (mKeeps : Int32) (mMindStep : Int32) (mAt : Int32) (mWhat : Int32) (mWhole : Int32) (mIsBroken : Int32) (mWorth : Nat → Int32) (mPrice : Nat → Int32) (a1 : Int32) (a2 : Int32) (Post : Int32 → Prop) (hw : wpX8_second mN mWorth mPrice a1 a2 Post) : Met l yX8_second wsX8_second ({ frames := 1, cells := 0, slots := 0, locals := 22 } : Room) (va_Pc [.ref (ad 0), .int a1, .int a2] (fun U => va_P (dC, dI) vwCl (wdX8_second cI cJ cT cII cJJ ad mN mStep mSeen mPlans mBooks mTexted mIsKept mSpot mKeeps mMindStep mAt mWhat mWhole mIsBroken mWorth mPrice) U.heap ∧ va_K (dC, dI) vwCl (bw_tys cI cJ cT cII cJJ) U)) (vp_Si Post) 0 0 (fun _ => False) := by
  refine Met.ofW (cc := cX8_second) (maxL := 5) (ret := (some .int)) (by decide) rfl ?_
  intro p e s m args below meth c s₁ B hml hv
  obtain ⟨rfl, hP, hK⟩ := hv
  have hx := B.exec
  have hb := B.bytes
  have hr := B.returns
  have hts := atoms_spec (ws := wsX8_second) B.pre
  have hown : s.vm.findClass RX8 = some m.cls := findClass_of_methodNamed B.named
  have hlocks := B.notSynchronized
  have hl := lv_entry ([.ref (ad 0), .int a1, .int a2]) (n := 5) (Nat.le_of_ble_eq_true rfl)
  rw [lg_entry_eq]
  generalize (lg_sl ([.ref (ad 0), .int a1, .int a2]) ++ List.replicate (5 - (lg_sl ([.ref (ad 0), .int a1, .int a2])).length) Slot.unset).toArray = ls at hl ⊢
  have hl : lv_has ls 5 [(0, .ref (ad 0)), (1, .int a1), (2, .int a2)] := hl
  have kB53 : ∀ (K5 : Int32 → Int32 → Prop), (∀ (v3 : Int32) (v4 : Int32), ∀ ls : Array Slot, lv_has ls 5 [(0, .ref (ad 0)), (1, .int a1), (2, .int a2), (3, .int v3), (4, .int v4)] → K5 v3 v4 → W p l e (headSpec wsX8_second ({ frames := 1, cells := 0, slots := 0, locals := 22 } : Room)).room s m ([.ref (ad 0), .int a1, .int a2] : List Value).toArray below meth c s.heap [] 0 0 (MQ below (vp_Si Post) ([.ref (ad 0), .int a1, .int a2] : List Value).toArray s 0 0 (fun _ => False)) (F0 m 5 ls [])) → ∀ (v3 : Int32) (v4 : Int32), ∀ ls : Array Slot, lv_has ls 5 [(0, .ref (ad 0)), (1, .int a1), (2, .int a2), (3, .int v3), (4, .int v4)] → wpX8_second_B53 mN mWorth mPrice a1 a2 K5 Post v3 v4 → W p l e (headSpec wsX8_second ({ frames := 1, cells := 0, slots := 0, locals := 22 } : Room)).room s m ([.ref (ad 0), .int a1, .int a2] : List Value).toArray below meth c s.heap [] 0 0 (MQ below (vp_Si Post) ([.ref (ad 0), .int a1, .int a2] : List Value).toArray s 0 0 (fun _ => False)) (F0 m 53 ls []) := by
    intro K5 hK5 v3 v4 ls hl hw
    unfold wpX8_second_B53 at hw
    obtain ⟨x7, ex7⟩ : ∃ y : Int32, y = v4 + 1 := ⟨_, rfl⟩
    have hw := hw x7 ex7
    refine lv_iinc (v := x7) (lv' := [(4, .int x7), (0, .ref (ad 0)), (1, .int a1), (2, .int a2), (3, .int v3)]) hx hb dX8_second_53 hl (k := 4) rfl (by rw [ex7]; rfl) (by decide) rfl (fun ls hl => ?_)
    refine lv_goto (tgt := 5) hx hb dX8_second_56 (by decide) ?_
    exact hK5 v3 x7 ls (lv_sub hl [1, 2, 3, 4, 0] rfl) hw
  have kB50 : ∀ (K5 : Int32 → Int32 → Prop), (∀ (v3 : Int32) (v4 : Int32), ∀ ls : Array Slot, lv_has ls 5 [(0, .ref (ad 0)), (1, .int a1), (2, .int a2), (3, .int v3), (4, .int v4)] → K5 v3 v4 → W p l e (headSpec wsX8_second ({ frames := 1, cells := 0, slots := 0, locals := 22 } : Room)).room s m ([.ref (ad 0), .int a1, .int a2] : List Value).toArray below meth c s.heap [] 0 0 (MQ below (vp_Si Post) ([.ref (ad 0), .int a1, .int a2] : List Value).toArray s 0 0 (fun _ => False)) (F0 m 5 ls [])) → ∀ (v4 : Int32), ∀ ls : Array Slot, lv_has ls 5 [(0, .ref (ad 0)), (1, .int a1), (2, .int a2), (4, .int v4)] → wpX8_second_B50 mN mWorth mPrice a1 a2 K5 Post v4 → W p l e (headSpec wsX8_second ({ frames := 1, cells := 0, slots := 0, locals := 22 } : Room)).room s m ([.ref (ad 0), .int a1, .int a2] : List Value).toArray below meth c s.heap [] 0 0 (MQ below (vp_Si Post) ([.ref (ad 0), .int a1, .int a2] : List Value).toArray s 0 0 (fun _ => False)) (F0 m 50 ls []) := by
    intro K5 hK5 v4 ls hl hw
    unfold wpX8_second_B50 at hw
    refine lv_iload hx hb dX8_second_50 (lv_at hl 3 rfl) ?_
    refine lv_istore_n (lv' := [(3, .int v4), (0, .ref (ad 0)), (1, .int a1), (2, .int a2), (4, .int v4)]) hx hb dX8_second_52 rfl hl (by decide) rfl (fun ls hl => ?_)
    exact kB53 K5 hK5 v4 v4 ls (lv_sub hl [1, 2, 3, 0, 4] rfl) hw
  have kB5 : ∀ f : Nat, ∀ (v3 : Int32) (v4 : Int32), ∀ ls : Array Slot, lv_has ls 5 [(0, .ref (ad 0)), (1, .int a1), (2, .int a2), (3, .int v3), (4, .int v4)] → wpX8_second_B5 mN mWorth mPrice a1 a2 Post f v3 v4 → W p l e (headSpec wsX8_second ({ frames := 1, cells := 0, slots := 0, locals := 22 } : Room)).room s m ([.ref (ad 0), .int a1, .int a2] : List Value).toArray below meth c s.heap [] 0 0 (MQ below (vp_Si Post) ([.ref (ad 0), .int a1, .int a2] : List Value).toArray s 0 0 (fun _ => False)) (F0 m 5 ls []) := by
    intro  f
    induction f with
    | zero => intro v3 v4 ls hl hw; exact (show False from hw).elim
    | succ f ih =>
      intro v3 v4 ls hl hw
      rw [wpX8_second_B5] at hw
      refine lv_iload hx hb dX8_second_5 (lv_at hl 4 rfl) ?_
      refine lv_aload_n hx hb dX8_second_7 rfl (lv_at hl 0 rfl) ?_
      refine va_get (D := (dC, dI)) (ci := 8) (v := .int mN) (C := RX8) (T := TX8) (N := 36) hx hb hts (fun w h => List.mem_cons_of_mem _ (List.mem_append_right _ h)) hown hK hP 0 rfl rfl 0 (by decide) (hts (.fieldLink RX8 9 "BidMarketModel" "n" "I") (List.mem_of_getElem? (i := 1) rfl)) (fun _ h9 => h9) rfl dX8_second_8 ?_
      refine lv_icmp_ge (tgt := 59) hx hb dX8_second_11 (by decide) (fun c2 => ?_) (fun c2 => ?_)
      · have hw := hw.1 c2
        refine lv_iload_n hx hb dX8_second_59 rfl (lv_at hl 3 rfl) ?_
        refine lv_if_ge (tgt := 75) hx hb dX8_second_60 (by decide) (fun c3 => ?_) (fun c3 => ?_)
        · have hw := hw.1 c3
          refine lv_aload_n hx hb dX8_second_75 rfl (lv_at hl 0 rfl) ?_
          refine lv_iload_n hx hb dX8_second_76 rfl (lv_at hl 1 rfl) ?_
          refine lv_iload_n hx hb dX8_second_77 rfl (lv_at hl 3 rfl) ?_
          refine bw_pvi (wc := (wdX8_gain cI cJ cT cII cJJ ad mN mStep mSeen mPlans mBooks mTexted mIsKept mSpot mKeeps mMindStep mAt mWhat mWhole mIsBroken mWorth mPrice)) (As := [.int a1, .int v3]) (rest := []) ⟨hx, hb, hml, hown, hts⟩ (mX8_gain l dC dI cI cJ cT cII cJJ ad mN mStep mSeen mPlans mBooks mTexted mIsKept mSpot mKeeps mMindStep mAt mWhat mWhole mIsBroken mWorth mPrice a1 v3 _ hw) (cwV 2 hts gX8_second_X8_gain rfl rfl rfl hdX8_gain ⟨Nat.le_of_ble_eq_true rfl, Nat.le_of_ble_eq_true rfl⟩) hK hP [0, 1, 2] rfl rfl rfl rfl rfl hl.1 rfl (Nat.le_of_ble_eq_true rfl) ⟨Nat.le_of_ble_eq_true rfl, Nat.le_of_ble_eq_true rfl⟩ dX8_second_78 (fun r4 hw => ?_)
          exact W.iret (v := r4) hx hb hr (fun t ht hW => ⟨r4, rfl, hw, ht⟩) (fun _ h => by cases h) dX8_second_81
        · have hw := hw.2 c3
          refine lv_aload_n hx hb dX8_second_63 rfl (lv_at hl 0 rfl) ?_
          refine lv_iload_n hx hb dX8_second_64 rfl (lv_at hl 1 rfl) ?_
          refine lv_iload_n hx hb dX8_second_65 rfl (lv_at hl 2 rfl) ?_
          refine bw_pvi (wc := (wdX8_gain cI cJ cT cII cJJ ad mN mStep mSeen mPlans mBooks mTexted mIsKept mSpot mKeeps mMindStep mAt mWhat mWhole mIsBroken mWorth mPrice)) (As := [.int a1, .int a2]) (rest := []) ⟨hx, hb, hml, hown, hts⟩ (mX8_gain l dC dI cI cJ cT cII cJJ ad mN mStep mSeen mPlans mBooks mTexted mIsKept mSpot mKeeps mMindStep mAt mWhat mWhole mIsBroken mWorth mPrice a1 a2 _ hw) (cwV 2 hts gX8_second_X8_gain rfl rfl rfl hdX8_gain ⟨Nat.le_of_ble_eq_true rfl, Nat.le_of_ble_eq_true rfl⟩) hK hP [0, 1, 2] rfl rfl rfl rfl rfl hl.1 rfl (Nat.le_of_ble_eq_true rfl) ⟨Nat.le_of_ble_eq_true rfl, Nat.le_of_ble_eq_true rfl⟩ dX8_second_66 (fun r5 hw => ?_)
          refine lv_bipush (v := 100) hx hb dX8_second_69 (by decide) ?_
          refine lv_isub hx hb dX8_second_71 ?_
          refine lv_goto (tgt := 81) hx hb dX8_second_72 (by decide) ?_
          exact W.iret (v := r5 - 100) hx hb hr (fun t ht hW => ⟨r5 - 100, rfl, hw, ht⟩) (fun _ h => by cases h) dX8_second_81
      · have hw := hw.2 c2
        refine lv_iload hx hb dX8_second_14 (lv_at hl 4 rfl) ?_
        refine lv_iload_n hx hb dX8_second_16 rfl (lv_at hl 2 rfl) ?_
        refine lv_icmp_eq (tgt := 53) hx hb dX8_second_17 (by decide) (fun c6 => ?_) (fun c6 => ?_)
        · have hw := hw.1 c6
          exact kB53 (wpX8_second_B5 mN mWorth mPrice a1 a2 Post f) ih v3 v4 ls hl hw
        · have hw := hw.2 c6
          refine lv_aload_n hx hb dX8_second_20 rfl (lv_at hl 0 rfl) ?_
          refine lv_iload_n hx hb dX8_second_21 rfl (lv_at hl 1 rfl) ?_
          refine lv_iload hx hb dX8_second_22 (lv_at hl 4 rfl) ?_
          refine bw_pvi (wc := (wdX8_may cI cJ cT cII cJJ ad mN mStep mSeen mPlans mBooks mTexted mIsKept mSpot mKeeps mMindStep mAt mWhat mWhole mIsBroken mWorth)) (As := [.int a1, .int v4]) (rest := []) ⟨hx, hb, hml, hown, hts⟩ (mX8_may l dC dI cI cJ cT cII cJJ ad mN mStep mSeen mPlans mBooks mTexted mIsKept mSpot mKeeps mMindStep mAt mWhat mWhole mIsBroken mWorth a1 v4 _ hw) (cwV 2 hts gX8_second_X8_may rfl rfl rfl hdX8_may ⟨Nat.le_of_ble_eq_true rfl, Nat.le_of_ble_eq_true rfl⟩) hK hP [0, 1] rfl rfl rfl rfl rfl hl.1 rfl (Nat.le_of_ble_eq_true rfl) ⟨Nat.le_of_ble_eq_true rfl, Nat.le_of_ble_eq_true rfl⟩ dX8_second_24 (fun r8 hw => ?_)
          refine lv_if_eq (tgt := 53) hx hb dX8_second_27 (by decide) (fun c9 => ?_) (fun c9 => ?_)
          · have hw := hw.1 c9
            exact kB53 (wpX8_second_B5 mN mWorth mPrice a1 a2 Post f) ih v3 v4 ls hl hw
          · have hw := hw.2 c9
            refine lv_iload_n hx hb dX8_second_30 rfl (lv_at hl 3 rfl) ?_
            refine lv_if_lt (tgt := 50) hx hb dX8_second_31 (by decide) (fun c10 => ?_) (fun c10 => ?_)
            · have hw := hw.1 c10
              exact kB50 (wpX8_second_B5 mN mWorth mPrice a1 a2 Post f) ih v4 ls (lv_sub hl [0, 1, 2, 4] rfl) hw
            · have hw := hw.2 c10
              refine lv_aload_n hx hb dX8_second_34 rfl (lv_at hl 0 rfl) ?_
              refine lv_iload_n hx hb dX8_second_35 rfl (lv_at hl 1 rfl) ?_
              refine lv_iload hx hb dX8_second_36 (lv_at hl 4 rfl) ?_
              refine bw_pvi (wc := (wdX8_gain cI cJ cT cII cJJ ad mN mStep mSeen mPlans mBooks mTexted mIsKept mSpot mKeeps mMindStep mAt mWhat mWhole mIsBroken mWorth mPrice)) (As := [.int a1, .int v4]) (rest := []) ⟨hx, hb, hml, hown, hts⟩ (mX8_gain l dC dI cI cJ cT cII cJJ ad mN mStep mSeen mPlans mBooks mTexted mIsKept mSpot mKeeps mMindStep mAt mWhat mWhole mIsBroken mWorth mPrice a1 v4 _ hw) (cwV 2 hts gX8_second_X8_gain rfl rfl rfl hdX8_gain ⟨Nat.le_of_ble_eq_true rfl, Nat.le_of_ble_eq_true rfl⟩) hK hP [0, 1, 2] rfl rfl rfl rfl rfl hl.1 rfl (Nat.le_of_ble_eq_true rfl) ⟨Nat.le_of_ble_eq_true rfl, Nat.le_of_ble_eq_true rfl⟩ dX8_second_38 (fun r11 hw => ?_)
              refine lv_aload_n hx hb dX8_second_41 rfl (lv_at hl 0 rfl) ?_
              refine lv_iload_n hx hb dX8_second_42 rfl (lv_at hl 1 rfl) ?_
              refine lv_iload_n hx hb dX8_second_43 rfl (lv_at hl 3 rfl) ?_
              refine bw_pvi (wc := (wdX8_gain cI cJ cT cII cJJ ad mN mStep mSeen mPlans mBooks mTexted mIsKept mSpot mKeeps mMindStep mAt mWhat mWhole mIsBroken mWorth mPrice)) (As := [.int a1, .int v3]) (rest := [.int r11]) ⟨hx, hb, hml, hown, hts⟩ (mX8_gain l dC dI cI cJ cT cII cJJ ad mN mStep mSeen mPlans mBooks mTexted mIsKept mSpot mKeeps mMindStep mAt mWhat mWhole mIsBroken mWorth mPrice a1 v3 _ hw) (cwV 2 hts gX8_second_X8_gain rfl rfl rfl hdX8_gain ⟨Nat.le_of_ble_eq_true rfl, Nat.le_of_ble_eq_true rfl⟩) hK hP [0, 1, 2] rfl rfl rfl rfl rfl hl.1 rfl (Nat.le_of_ble_eq_true rfl) ⟨Nat.le_of_ble_eq_true rfl, Nat.le_of_ble_eq_true rfl⟩ dX8_second_44 (fun r12 hw => ?_)
              refine lv_icmp_le (tgt := 53) hx hb dX8_second_47 (by decide) (fun c13 => ?_) (fun c13 => ?_)
              · have hw := hw.1 c13
                exact kB53 (wpX8_second_B5 mN mWorth mPrice a1 a2 Post f) ih v3 v4 ls hl hw
              · have hw := hw.2 c13
                exact kB50 (wpX8_second_B5 mN mWorth mPrice a1 a2 Post f) ih v4 ls (lv_sub hl [0, 1, 2, 4] rfl) hw
  unfold wpX8_second at hw
  refine lv_iconst (v := (-1)) hx hb dX8_second_0 (by decide) ?_
  refine lv_topi (fun x1 ex1 => ?_)
  have hw := hw x1 ex1
  refine lv_istore_n (lv' := [(3, .int x1), (0, .ref (ad 0)), (1, .int a1), (2, .int a2)]) hx hb dX8_second_1 rfl hl (by decide) rfl (fun ls hl => ?_)
  refine lv_iconst (v := 0) hx hb dX8_second_2 (by decide) ?_
  refine lv_istore (lv' := [(4, .int 0), (3, .int x1), (0, .ref (ad 0)), (1, .int a1), (2, .int a2)]) hx hb dX8_second_3 hl (by decide) rfl (fun ls hl => ?_)
  obtain ⟨f1, hw⟩ := hw
  exact kB5 f1 x1 0 ls (lv_sub hl [2, 3, 4, 1, 0] rfl) hw
set_option maxHeartbeats 4000000 in
set_option maxRecDepth 100000 in
theorem mX8_offer (l : Launch) (dC : Nat → ClassId) (dI : Nat → Nat → Nat) (cI cJ cT cII cJJ : ClassId) (ad : Nat → Nat) (mN : Int32) (mStep : Int32) (mSeen : Int32) (mPlans : Int32) (mBooks : Int32) (mTexted : Int32) (mIsKept : Int32) (mSpot : Int32) (mKeeps : Int32) (mMindStep : Int32) (mAt : Int32) (mWhat : Int32) (mWhole : Int32) (mIsBroken : Int32) (mWorth : Nat → Int32) (mPrice : Nat → Int32) (a1 : Int32) (Post : Int32 → Prop) (hw : wpX8_offer mN mStep mWorth mPrice a1 Post) : Met l yX8_offer wsX8_offer ({ frames := 2, cells := 0, slots := 0, locals := 46 } : Room) (va_Pc [.ref (ad 0), .int a1] (fun U => va_P (dC, dI) vwCl (wdX8_offer cI cJ cT cII cJJ ad mN mStep mSeen mPlans mBooks mTexted mIsKept mSpot mKeeps mMindStep mAt mWhat mWhole mIsBroken mWorth mPrice) U.heap ∧ va_K (dC, dI) vwCl (bw_tys cI cJ cT cII cJJ) U)) (vp_Si Post) 0 0 (fun _ => False) := by
  refine Met.ofW (cc := cX8_offer) (maxL := 3) (ret := (some .int)) (by decide) rfl ?_
  intro p e s m args below meth c s₁ B hml hv
  obtain ⟨rfl, hP, hK⟩ := hv
  have hx := B.exec
  have hb := B.bytes
  have hr := B.returns
  have hts := atoms_spec (ws := wsX8_offer) B.pre
  have hown : s.vm.findClass RX8 = some m.cls := findClass_of_methodNamed B.named
  have hlocks := B.notSynchronized
  have hl := lv_entry ([.ref (ad 0), .int a1]) (n := 3) (Nat.le_of_ble_eq_true rfl)
  rw [lg_entry_eq]
  generalize (lg_sl ([.ref (ad 0), .int a1]) ++ List.replicate (3 - (lg_sl ([.ref (ad 0), .int a1])).length) Slot.unset).toArray = ls at hl ⊢
  have hl : lv_has ls 3 [(0, .ref (ad 0)), (1, .int a1)] := hl
  unfold wpX8_offer at hw
  refine lv_aload_n hx hb dX8_offer_0 rfl (lv_at hl 0 rfl) ?_
  refine lv_iload_n hx hb dX8_offer_1 rfl (lv_at hl 1 rfl) ?_
  refine bw_pvi (wc := (wdX8_best cI cJ cT cII cJJ ad mN mStep mSeen mPlans mBooks mTexted mIsKept mSpot mKeeps mMindStep mAt mWhat mWhole mIsBroken mWorth mPrice)) (As := [.int a1]) (rest := []) ⟨hx, hb, hml, hown, hts⟩ (mX8_best l dC dI cI cJ cT cII cJJ ad mN mStep mSeen mPlans mBooks mTexted mIsKept mSpot mKeeps mMindStep mAt mWhat mWhole mIsBroken mWorth mPrice a1 _ hw) (cwV 1 hts gX8_offer_X8_best rfl rfl rfl hdX8_best ⟨Nat.le_of_ble_eq_true rfl, Nat.le_of_ble_eq_true rfl⟩) hK hP [0, 1, 2] rfl rfl rfl rfl rfl hl.1 rfl (Nat.le_of_ble_eq_true rfl) ⟨Nat.le_of_ble_eq_true rfl, Nat.le_of_ble_eq_true rfl⟩ dX8_offer_2 (fun r1 hw => ?_)
  refine lv_istore_n (lv' := [(2, .int r1), (0, .ref (ad 0)), (1, .int a1)]) hx hb dX8_offer_5 rfl hl (by decide) rfl (fun ls hl => ?_)
  refine lv_aload_n hx hb dX8_offer_6 rfl (lv_at hl 1 rfl) ?_
  refine va_get (D := (dC, dI)) (ci := 8) (v := .ref (ad 4)) (C := RX8) (T := TX8) (N := 36) hx hb hts (fun w h => List.mem_cons_of_mem _ (List.mem_append_right _ h)) hown hK hP 0 rfl rfl 5 (by decide) (hts (.fieldLink RX8 28 "BidMarketModel" "price" "[I") (List.mem_of_getElem? (i := 1) rfl)) (fun _ h9 => h9) rfl dX8_offer_7 ?_
  refine lv_iload_n hx hb dX8_offer_10 rfl (lv_at hl 0 rfl) ?_
  have h2 := hw.1
  have hw := hw.2
  refine va_iald hx hb hK hP 2 0 rfl rfl h2 dX8_offer_11 ?_
  refine lv_aload_n hx hb dX8_offer_12 rfl (lv_at hl 1 rfl) ?_
  refine lv_iload_n hx hb dX8_offer_13 rfl (lv_at hl 2 rfl) ?_
  refine lv_iload_n hx hb dX8_offer_14 rfl (lv_at hl 0 rfl) ?_
  refine bw_pvi (wc := (wdX8_gain cI cJ cT cII cJJ ad mN mStep mSeen mPlans mBooks mTexted mIsKept mSpot mKeeps mMindStep mAt mWhat mWhole mIsBroken mWorth mPrice)) (As := [.int a1, .int r1]) (rest := [.int (mPrice r1.toNatClampNeg)]) ⟨hx, hb, hml, hown, hts⟩ (mX8_gain l dC dI cI cJ cT cII cJJ ad mN mStep mSeen mPlans mBooks mTexted mIsKept mSpot mKeeps mMindStep mAt mWhat mWhole mIsBroken mWorth mPrice a1 r1 _ hw) (cwV 2 hts gX8_offer_X8_gain rfl rfl rfl hdX8_gain ⟨Nat.le_of_ble_eq_true rfl, Nat.le_of_ble_eq_true rfl⟩) hK hP [0, 1, 2] rfl rfl rfl rfl rfl hl.1 rfl (Nat.le_of_ble_eq_true rfl) ⟨Nat.le_of_ble_eq_true rfl, Nat.le_of_ble_eq_true rfl⟩ dX8_offer_15 (fun r3 hw => ?_)
  refine lv_iadd hx hb dX8_offer_18 ?_
  refine lv_aload_n hx hb dX8_offer_19 rfl (lv_at hl 1 rfl) ?_
  refine lv_iload_n hx hb dX8_offer_20 rfl (lv_at hl 2 rfl) ?_
  refine lv_iload_n hx hb dX8_offer_21 rfl (lv_at hl 0 rfl) ?_
  refine bw_pvi (wc := (wdX8_second cI cJ cT cII cJJ ad mN mStep mSeen mPlans mBooks mTexted mIsKept mSpot mKeeps mMindStep mAt mWhat mWhole mIsBroken mWorth mPrice)) (As := [.int a1, .int r1]) (rest := [.int ((mPrice r1.toNatClampNeg) + r3)]) ⟨hx, hb, hml, hown, hts⟩ (mX8_second l dC dI cI cJ cT cII cJJ ad mN mStep mSeen mPlans mBooks mTexted mIsKept mSpot mKeeps mMindStep mAt mWhat mWhole mIsBroken mWorth mPrice a1 r1 _ hw) (cwV 2 hts gX8_offer_X8_second rfl rfl rfl hdX8_second ⟨Nat.le_of_ble_eq_true rfl, Nat.le_of_ble_eq_true rfl⟩) hK hP [0, 1, 2] rfl rfl rfl rfl rfl hl.1 rfl (Nat.le_of_ble_eq_true rfl) ⟨Nat.le_of_ble_eq_true rfl, Nat.le_of_ble_eq_true rfl⟩ dX8_offer_22 (fun r4 hw => ?_)
  refine lv_isub hx hb dX8_offer_25 ?_
  refine lv_aload_n hx hb dX8_offer_26 rfl (lv_at hl 1 rfl) ?_
  refine va_get (D := (dC, dI)) (ci := 8) (v := .int mStep) (C := RX8) (T := TX8) (N := 36) hx hb hts (fun w h => List.mem_cons_of_mem _ (List.mem_append_right _ h)) hown hK hP 0 rfl rfl 1 (by decide) (hts (.fieldLink RX8 15 "BidMarketModel" "step" "I") (List.mem_of_getElem? (i := 2) rfl)) (fun _ h9 => h9) rfl dX8_offer_27 ?_
  refine lv_iadd hx hb dX8_offer_30 ?_
  exact W.iret (v := (((mPrice r1.toNatClampNeg) + r3) - r4) + mStep) hx hb hr (fun t ht hW => ⟨(((mPrice r1.toNatClampNeg) + r3) - r4) + mStep, rfl, hw, ht⟩) (fun _ h => by cases h) dX8_offer_31
set_option maxHeartbeats 4000000 in
set_option maxRecDepth 100000 in
theorem mX8_next (l : Launch) (dC : Nat → ClassId) (dI : Nat → Nat → Nat) (cI cJ cT cII cJJ : ClassId) (ad : Nat → Nat) (mN : Int32) (mStep : Int32) (mSeen : Int32) (mPlans : Int32) (mBooks : Int32) (mTexted : Int32) (mIsKept : Int32) (mSpot : Int32) (mKeeps : Int32) (mMindStep : Int32) (mAt : Int32) (mWhat : Int32) (mWhole : Int32) (mIsBroken : Int32) (mWorth : Nat → Int32) (mHas : Nat → Int32) (mPrice : Nat → Int32) (Post : Int32 → Prop) (hw : wpX8_next mN mWorth mHas mPrice Post) : Met l yX8_next wsX8_next ({ frames := 2, cells := 0, slots := 0, locals := 45 } : Room) (va_Pc [.ref (ad 0)] (fun U => va_P (dC, dI) vwCl (wdX8_next cI cJ cT cII cJJ ad mN mStep mSeen mPlans mBooks mTexted mIsKept mSpot mKeeps mMindStep mAt mWhat mWhole mIsBroken mWorth mHas mPrice) U.heap ∧ va_K (dC, dI) vwCl (bw_tys cI cJ cT cII cJJ) U)) (vp_Si Post) 0 0 (fun _ => False) := by
  refine Met.ofW (cc := cX8_next) (maxL := 2) (ret := (some .int)) (by decide) rfl ?_
  intro p e s m args below meth c s₁ B hml hv
  obtain ⟨rfl, hP, hK⟩ := hv
  have hx := B.exec
  have hb := B.bytes
  have hr := B.returns
  have hts := atoms_spec (ws := wsX8_next) B.pre
  have hown : s.vm.findClass RX8 = some m.cls := findClass_of_methodNamed B.named
  have hlocks := B.notSynchronized
  have hl := lv_entry ([.ref (ad 0)]) (n := 2) (Nat.le_of_ble_eq_true rfl)
  rw [lg_entry_eq]
  generalize (lg_sl ([.ref (ad 0)]) ++ List.replicate (2 - (lg_sl ([.ref (ad 0)])).length) Slot.unset).toArray = ls at hl ⊢
  have hl : lv_has ls 2 [(0, .ref (ad 0))] := hl
  have kB29 : ∀ (K2 : Int32 → Prop), (∀ (v1 : Int32), ∀ ls : Array Slot, lv_has ls 2 [(0, .ref (ad 0)), (1, .int v1)] → K2 v1 → W p l e (headSpec wsX8_next ({ frames := 2, cells := 0, slots := 0, locals := 45 } : Room)).room s m ([.ref (ad 0)] : List Value).toArray below meth c s.heap [] 0 0 (MQ below (vp_Si Post) ([.ref (ad 0)] : List Value).toArray s 0 0 (fun _ => False)) (F0 m 2 ls [])) → ∀ (v1 : Int32), ∀ ls : Array Slot, lv_has ls 2 [(0, .ref (ad 0)), (1, .int v1)] → wpX8_next_B29 mN mWorth mHas mPrice K2 Post v1 → W p l e (headSpec wsX8_next ({ frames := 2, cells := 0, slots := 0, locals := 45 } : Room)).room s m ([.ref (ad 0)] : List Value).toArray below meth c s.heap [] 0 0 (MQ below (vp_Si Post) ([.ref (ad 0)] : List Value).toArray s 0 0 (fun _ => False)) (F0 m 29 ls []) := by
    intro K2 hK2 v1 ls hl hw
    unfold wpX8_next_B29 at hw
    obtain ⟨x4, ex4⟩ : ∃ y : Int32, y = v1 + 1 := ⟨_, rfl⟩
    have hw := hw x4 ex4
    refine lv_iinc (v := x4) (lv' := [(1, .int x4), (0, .ref (ad 0))]) hx hb dX8_next_29 hl (k := 1) rfl (by rw [ex4]; rfl) (by decide) rfl (fun ls hl => ?_)
    refine lv_goto (tgt := 2) hx hb dX8_next_32 (by decide) ?_
    exact hK2 x4 ls (lv_sub hl [1, 0] rfl) hw
  have kB2 : ∀ f : Nat, ∀ (v1 : Int32), ∀ ls : Array Slot, lv_has ls 2 [(0, .ref (ad 0)), (1, .int v1)] → wpX8_next_B2 mN mWorth mHas mPrice Post f v1 → W p l e (headSpec wsX8_next ({ frames := 2, cells := 0, slots := 0, locals := 45 } : Room)).room s m ([.ref (ad 0)] : List Value).toArray below meth c s.heap [] 0 0 (MQ below (vp_Si Post) ([.ref (ad 0)] : List Value).toArray s 0 0 (fun _ => False)) (F0 m 2 ls []) := by
    intro  f
    induction f with
    | zero => intro v1 ls hl hw; exact (show False from hw).elim
    | succ f ih =>
      intro v1 ls hl hw
      rw [wpX8_next_B2] at hw
      refine lv_iload_n hx hb dX8_next_2 rfl (lv_at hl 1 rfl) ?_
      refine lv_aload_n hx hb dX8_next_3 rfl (lv_at hl 0 rfl) ?_
      refine va_get (D := (dC, dI)) (ci := 8) (v := .int mN) (C := RX8) (T := TX8) (N := 36) hx hb hts (fun w h => List.mem_cons_of_mem _ (List.mem_append_right _ h)) hown hK hP 0 rfl rfl 0 (by decide) (hts (.fieldLink RX8 9 "BidMarketModel" "n" "I") (List.mem_of_getElem? (i := 1) rfl)) (fun _ h9 => h9) rfl dX8_next_4 ?_
      refine lv_icmp_ge (tgt := 35) hx hb dX8_next_7 (by decide) (fun c1 => ?_) (fun c1 => ?_)
      · have hw := hw.1 c1
        refine lv_iconst (v := (-1)) hx hb dX8_next_35 (by decide) ?_
        exact W.iret (v := (-1)) hx hb hr (fun t ht hW => ⟨(-1), rfl, hw, ht⟩) (fun _ h => by cases h) dX8_next_36
      · have hw := hw.2 c1
        refine lv_aload_n hx hb dX8_next_10 rfl (lv_at hl 0 rfl) ?_
        refine va_get (D := (dC, dI)) (ci := 8) (v := .ref (ad 2)) (C := RX8) (T := TX8) (N := 36) hx hb hts (fun w h => List.mem_cons_of_mem _ (List.mem_append_right _ h)) hown hK hP 0 rfl rfl 3 (by decide) (hts (.fieldLink RX8 22 "BidMarketModel" "has" "[I") (List.mem_of_getElem? (i := 2) rfl)) (fun _ h9 => h9) rfl dX8_next_11 ?_
        refine lv_iload_n hx hb dX8_next_14 rfl (lv_at hl 1 rfl) ?_
        have h2 := hw.1
        have hw := hw.2
        refine va_iald hx hb hK hP 2 0 rfl rfl h2 dX8_next_15 ?_
        refine lv_if_ge (tgt := 29) hx hb dX8_next_16 (by decide) (fun c3 => ?_) (fun c3 => ?_)
        · have hw := hw.1 c3
          exact kB29 (wpX8_next_B2 mN mWorth mHas mPrice Post f) ih v1 ls hl hw
        · have hw := hw.2 c3
          refine lv_aload_n hx hb dX8_next_19 rfl (lv_at hl 0 rfl) ?_
          refine lv_iload_n hx hb dX8_next_20 rfl (lv_at hl 1 rfl) ?_
          refine bw_pvi (wc := (wdX8_best cI cJ cT cII cJJ ad mN mStep mSeen mPlans mBooks mTexted mIsKept mSpot mKeeps mMindStep mAt mWhat mWhole mIsBroken mWorth mPrice)) (As := [.int v1]) (rest := []) ⟨hx, hb, hml, hown, hts⟩ (mX8_best l dC dI cI cJ cT cII cJJ ad mN mStep mSeen mPlans mBooks mTexted mIsKept mSpot mKeeps mMindStep mAt mWhat mWhole mIsBroken mWorth mPrice v1 _ hw) (cwV 1 hts gX8_next_X8_best rfl rfl rfl hdX8_best ⟨Nat.le_of_ble_eq_true rfl, Nat.le_of_ble_eq_true rfl⟩) hK hP [0, 1, 3] rfl rfl rfl rfl rfl hl.1 rfl (Nat.le_of_ble_eq_true rfl) ⟨Nat.le_of_ble_eq_true rfl, Nat.le_of_ble_eq_true rfl⟩ dX8_next_21 (fun r5 hw => ?_)
          refine lv_if_lt (tgt := 29) hx hb dX8_next_24 (by decide) (fun c6 => ?_) (fun c6 => ?_)
          · have hw := hw.1 c6
            exact kB29 (wpX8_next_B2 mN mWorth mHas mPrice Post f) ih v1 ls hl hw
          · have hw := hw.2 c6
            refine lv_iload_n hx hb dX8_next_27 rfl (lv_at hl 1 rfl) ?_
            exact W.iret (v := v1) hx hb hr (fun t ht hW => ⟨v1, rfl, hw, ht⟩) (fun _ h => by cases h) dX8_next_28
  unfold wpX8_next at hw
  refine lv_iconst (v := 0) hx hb dX8_next_0 (by decide) ?_
  refine lv_istore_n (lv' := [(1, .int 0), (0, .ref (ad 0))]) hx hb dX8_next_1 rfl hl (by decide) rfl (fun ls hl => ?_)
  obtain ⟨f1, hw⟩ := hw
  exact kB2 f1 0 ls (lv_sub hl [1, 0] rfl) hw
set_option maxHeartbeats 4000000 in
set_option maxRecDepth 100000 in
theorem mX8_loses (l : Launch) (dC : Nat → ClassId) (dI : Nat → Nat → Nat) (cI cJ cT cII cJJ : ClassId) (ad : Nat → Nat) (sz : Nat) (mN : Int32) (mStep : Int32) (mSeen : Int32) (mPlans : Int32) (mBooks : Int32) (mTexted : Int32) (mIsKept : Int32) (mSpot : Int32) (mKeeps : Int32) (mMindStep : Int32) (mAt : Int32) (mWhat : Int32) (mWhole : Int32) (mIsBroken : Int32) (mHas : Nat → Int32) (mOwner : Nat → Int32) (a1 : Int32) (Post : (Nat → Int32) → (Nat → Int32) → Prop) (hw : wpX8_loses mHas mOwner a1 Post) : Met l yX8_loses wsX8_loses ({ frames := 0, cells := 0, slots := 0, locals := 0 } : Room) (va_Pc [.ref (ad 0), .int a1] (fun U => U.heap.size = sz ∧ va_P (dC, dI) vwCl (wdX8_loses cI cJ cT cII cJJ ad mN mStep mSeen mPlans mBooks mTexted mIsKept mSpot mKeeps mMindStep mAt mWhat mWhole mIsBroken mHas mOwner) U.heap ∧ va_K (dC, dI) vwCl (bw_tys cI cJ cT cII cJJ) U ∧ va_D (fun _ => True) (wdX8_loses cI cJ cT cII cJJ ad mN mStep mSeen mPlans mBooks mTexted mIsKept mSpot mKeeps mMindStep mAt mWhat mWhole mIsBroken mHas mOwner))) (va_Qv (fun (u : (Nat → Int32) × (Nat → Int32)) => Post u.1 u.2) (fun (u : (Nat → Int32) × (Nat → Int32)) t => va_P (dC, dI) vwCl (wdX8_loses cI cJ cT cII cJJ ad mN mStep mSeen mPlans mBooks mTexted mIsKept mSpot mKeeps mMindStep mAt mWhat mWhole mIsBroken u.1 u.2) t.heap) (va_A (wdX8_loses cI cJ cT cII cJJ ad mN mStep mSeen mPlans mBooks mTexted mIsKept mSpot mKeeps mMindStep mAt mWhat mWhole mIsBroken mHas mOwner) sz)) 0 0 (va_A (wdX8_loses cI cJ cT cII cJJ ad mN mStep mSeen mPlans mBooks mTexted mIsKept mSpot mKeeps mMindStep mAt mWhat mWhole mIsBroken mHas mOwner) sz) := by
  refine Met.ofW (cc := cX8_loses) (maxL := 2) (ret := none) (by decide) rfl ?_
  intro p e s m args below meth c s₁ B hml hv
  obtain ⟨rfl, hsz, hP, hK, hD0⟩ := hv
  have hx := B.exec
  have hb := B.bytes
  have hr := B.returns
  have hts := atoms_spec (ws := wsX8_loses) B.pre
  have hown : s.vm.findClass RX8 = some m.cls := findClass_of_methodNamed B.named
  have hlocks := B.notSynchronized
  subst hsz
  have hD := hD0.self (sz := s.heap.size)
  generalize hAe : va_A (wdX8_loses cI cJ cT cII cJJ ad mN mStep mSeen mPlans mBooks mTexted mIsKept mSpot mKeeps mMindStep mAt mWhat mWhole mIsBroken mHas mOwner) s.heap.size = A at hD ⊢
  have hA : ∀ q : Nat, s.heap.size ≤ q → A q := fun q h => by rw [← hAe]; exact Or.inr h
  have hS : va_S A s.heap s.heap [] := va_S.rf
  have hl := lv_entry ([.ref (ad 0), .int a1]) (n := 2) (Nat.le_of_ble_eq_true rfl)
  rw [lg_entry_eq]
  generalize (lg_sl ([.ref (ad 0), .int a1]) ++ List.replicate (2 - (lg_sl ([.ref (ad 0), .int a1])).length) Slot.unset).toArray = ls at hl ⊢
  have hl : lv_has ls 2 [(0, .ref (ad 0)), (1, .int a1)] := hl
  unfold wpX8_loses at hw
  refine lv_aload_n hx hb dX8_loses_0 rfl (lv_at hl 0 rfl) ?_
  refine va_get (D := (dC, dI)) (ci := 8) (v := .ref (ad 2)) (C := RX8) (T := TX8) (N := 36) hx hb hts (fun w h => List.mem_cons_of_mem _ (List.mem_append_right _ h)) hown hK hP 0 rfl rfl 3 (by decide) (hts (.fieldLink RX8 22 "BidMarketModel" "has" "[I") (List.mem_of_getElem? (i := 1) rfl)) (fun _ h9 => h9) rfl dX8_loses_1 ?_
  refine lv_iload_n hx hb dX8_loses_4 rfl (lv_at hl 1 rfl) ?_
  have h1 := hw.1
  have hw := hw.2
  refine va_iald hx hb hK hP 1 0 rfl rfl h1 dX8_loses_5 ?_
  refine lv_if_lt (tgt := 28) hx hb dX8_loses_6 (by decide) (fun c2 => ?_) (fun c2 => ?_)
  · have hw := hw.1 c2
    exact W.vret hx hb hr (fun t ht hW => ⟨⟨(mHas, mOwner), rfl, hw, by show va_P _ _ _ t.heap; rw [ht]; exact hP⟩, hS.F ht⟩) hS.2.2 dX8_loses_28
  · have hw := hw.2 c2
    refine lv_aload_n hx hb dX8_loses_9 rfl (lv_at hl 0 rfl) ?_
    refine va_get (D := (dC, dI)) (ci := 8) (v := .ref (ad 3)) (C := RX8) (T := TX8) (N := 36) hx hb hts (fun w h => List.mem_cons_of_mem _ (List.mem_append_right _ h)) hown hK hP 0 rfl rfl 4 (by decide) (hts (.fieldLink RX8 25 "BidMarketModel" "owner" "[I") (List.mem_of_getElem? (i := 2) rfl)) (fun _ h9 => h9) rfl dX8_loses_10 ?_
    refine lv_aload_n hx hb dX8_loses_13 rfl (lv_at hl 0 rfl) ?_
    refine va_get (D := (dC, dI)) (ci := 8) (v := .ref (ad 2)) (C := RX8) (T := TX8) (N := 36) hx hb hts (fun w h => List.mem_cons_of_mem _ (List.mem_append_right _ h)) hown hK hP 0 rfl rfl 3 (by decide) (hts (.fieldLink RX8 22 "BidMarketModel" "has" "[I") (List.mem_of_getElem? (i := 1) rfl)) (fun _ h9 => h9) rfl dX8_loses_14 ?_
    refine lv_iload_n hx hb dX8_loses_17 rfl (lv_at hl 1 rfl) ?_
    have h3 := hw.1
    have hw := hw.2
    refine va_iald hx hb hK hP 1 0 rfl rfl h3 dX8_loses_18 ?_
    refine lv_iconst (v := (-1)) hx hb dX8_loses_19 (by decide) ?_
    have h4 := hw.1
    have hw := hw.2
    refine va_iast hx hb hK hP hD hS 2 0 rfl rfl h4 dX8_loses_20 (fun H locs hP hD hS => ?_)
    have hP : va_P (dC, dI) vwCl (wdX8_loses cI cJ cT cII cJJ ad mN mStep mSeen mPlans mBooks mTexted mIsKept mSpot mKeeps mMindStep mAt mWhat mWhole mIsBroken mHas (upd mOwner (mHas a1.toNatClampNeg).toNatClampNeg ((-1)))) H := hP
    have hD : va_D A (wdX8_loses cI cJ cT cII cJJ ad mN mStep mSeen mPlans mBooks mTexted mIsKept mSpot mKeeps mMindStep mAt mWhat mWhole mIsBroken mHas (upd mOwner (mHas a1.toNatClampNeg).toNatClampNeg ((-1)))) := hD
    refine lv_aload_n hx hb dX8_loses_21 rfl (lv_at hl 0 rfl) ?_
    refine va_get (D := (dC, dI)) (ci := 8) (v := .ref (ad 2)) (C := RX8) (T := TX8) (N := 36) hx hb hts (fun w h => List.mem_cons_of_mem _ (List.mem_append_right _ h)) hown hK hP 0 rfl rfl 3 (by decide) (hts (.fieldLink RX8 22 "BidMarketModel" "has" "[I") (List.mem_of_getElem? (i := 1) rfl)) (fun _ h9 => h9) rfl dX8_loses_22 ?_
    refine lv_iload_n hx hb dX8_loses_25 rfl (lv_at hl 1 rfl) ?_
    refine lv_iconst (v := (-1)) hx hb dX8_loses_26 (by decide) ?_
    have h5 := hw.1
    have hw := hw.2
    refine va_iast hx hb hK hP hD hS 1 0 rfl rfl h5 dX8_loses_27 (fun H locs hP hD hS => ?_)
    have hP : va_P (dC, dI) vwCl (wdX8_loses cI cJ cT cII cJJ ad mN mStep mSeen mPlans mBooks mTexted mIsKept mSpot mKeeps mMindStep mAt mWhat mWhole mIsBroken (upd mHas a1.toNatClampNeg ((-1))) (upd mOwner (mHas a1.toNatClampNeg).toNatClampNeg ((-1)))) H := hP
    have hD : va_D A (wdX8_loses cI cJ cT cII cJJ ad mN mStep mSeen mPlans mBooks mTexted mIsKept mSpot mKeeps mMindStep mAt mWhat mWhole mIsBroken (upd mHas a1.toNatClampNeg ((-1))) (upd mOwner (mHas a1.toNatClampNeg).toNatClampNeg ((-1)))) := hD
    exact W.vret hx hb hr (fun t ht hW => ⟨⟨(upd mHas a1.toNatClampNeg ((-1)), upd mOwner (mHas a1.toNatClampNeg).toNatClampNeg ((-1))), rfl, hw, by show va_P _ _ _ t.heap; rw [ht]; exact hP⟩, hS.F ht⟩) hS.2.2 dX8_loses_28
set_option maxHeartbeats 4000000 in
set_option maxRecDepth 100000 in
theorem mX8_bids (l : Launch) (dC : Nat → ClassId) (dI : Nat → Nat → Nat) (cI cJ cT cII cJJ : ClassId) (ad : Nat → Nat) (sz : Nat) (mN : Int32) (mStep : Int32) (mSeen : Int32) (mPlans : Int32) (mBooks : Int32) (mTexted : Int32) (mIsKept : Int32) (mSpot : Int32) (mKeeps : Int32) (mMindStep : Int32) (mAt : Int32) (mWhat : Int32) (mWhole : Int32) (mIsBroken : Int32) (mWorth : Nat → Int32) (mHas : Nat → Int32) (mOwner : Nat → Int32) (mPrice : Nat → Int32) (a1 : Int32) (Post : Int32 → (Nat → Int32) → (Nat → Int32) → (Nat → Int32) → Prop) (hw : wpX8_bids mN mStep mWorth mHas mOwner mPrice a1 Post) : Met l yX8_bids wsX8_bids ({ frames := 3, cells := 0, slots := 0, locals := 68 } : Room) (va_Pc [.ref (ad 0), .int a1] (fun U => U.heap.size = sz ∧ va_P (dC, dI) vwCl (wdX8_bids cI cJ cT cII cJJ ad mN mStep mSeen mPlans mBooks mTexted mIsKept mSpot mKeeps mMindStep mAt mWhat mWhole mIsBroken mWorth mHas mOwner mPrice) U.heap ∧ va_K (dC, dI) vwCl (bw_tys cI cJ cT cII cJJ) U ∧ va_D (fun _ => True) (wdX8_bids cI cJ cT cII cJJ ad mN mStep mSeen mPlans mBooks mTexted mIsKept mSpot mKeeps mMindStep mAt mWhat mWhole mIsBroken mWorth mHas mOwner mPrice))) (va_Qi (fun (r : Int32) (u : (Nat → Int32) × (Nat → Int32) × (Nat → Int32)) => Post r u.1 u.2.1 u.2.2) (fun (u : (Nat → Int32) × (Nat → Int32) × (Nat → Int32)) t => va_P (dC, dI) vwCl (wdX8_bids cI cJ cT cII cJJ ad mN mStep mSeen mPlans mBooks mTexted mIsKept mSpot mKeeps mMindStep mAt mWhat mWhole mIsBroken mWorth u.1 u.2.1 u.2.2) t.heap) (va_A (wdX8_bids cI cJ cT cII cJJ ad mN mStep mSeen mPlans mBooks mTexted mIsKept mSpot mKeeps mMindStep mAt mWhat mWhole mIsBroken mWorth mHas mOwner mPrice) sz)) 0 0 (va_A (wdX8_bids cI cJ cT cII cJJ ad mN mStep mSeen mPlans mBooks mTexted mIsKept mSpot mKeeps mMindStep mAt mWhat mWhole mIsBroken mWorth mHas mOwner mPrice) sz) := by
  refine Met.ofW (cc := cX8_bids) (maxL := 3) (ret := (some .int)) (by decide) rfl ?_
  intro p e s m args below meth c s₁ B hml hv
  obtain ⟨rfl, hsz, hP, hK, hD0⟩ := hv
  have hx := B.exec
  have hb := B.bytes
  have hr := B.returns
  have hts := atoms_spec (ws := wsX8_bids) B.pre
  have hown : s.vm.findClass RX8 = some m.cls := findClass_of_methodNamed B.named
  have hlocks := B.notSynchronized
  subst hsz
  have hD := hD0.self (sz := s.heap.size)
  generalize hAe : va_A (wdX8_bids cI cJ cT cII cJJ ad mN mStep mSeen mPlans mBooks mTexted mIsKept mSpot mKeeps mMindStep mAt mWhat mWhole mIsBroken mWorth mHas mOwner mPrice) s.heap.size = A at hD ⊢
  have hA : ∀ q : Nat, s.heap.size ≤ q → A q := fun q h => by rw [← hAe]; exact Or.inr h
  have hS : va_S A s.heap s.heap [] := va_S.rf
  have hl := lv_entry ([.ref (ad 0), .int a1]) (n := 3) (Nat.le_of_ble_eq_true rfl)
  rw [lg_entry_eq]
  generalize (lg_sl ([.ref (ad 0), .int a1]) ++ List.replicate (3 - (lg_sl ([.ref (ad 0), .int a1])).length) Slot.unset).toArray = ls at hl ⊢
  have hl : lv_has ls 3 [(0, .ref (ad 0)), (1, .int a1)] := hl
  have kB36 : ∀ (v2 : Int32) (mHas : Nat → Int32) (mOwner : Nat → Int32) (mPrice : Nat → Int32), ∀ (H : Heap) (locs : List Loc), va_P (dC, dI) vwCl (wdX8_bids cI cJ cT cII cJJ ad mN mStep mSeen mPlans mBooks mTexted mIsKept mSpot mKeeps mMindStep mAt mWhat mWhole mIsBroken mWorth mHas mOwner mPrice) H → va_D A (wdX8_bids cI cJ cT cII cJJ ad mN mStep mSeen mPlans mBooks mTexted mIsKept mSpot mKeeps mMindStep mAt mWhat mWhole mIsBroken mWorth mHas mOwner mPrice) → va_S A s.heap H locs → ∀ ls : Array Slot, lv_has ls 3 [(0, .ref (ad 0)), (1, .int a1), (2, .int v2)] → wpX8_bids_B36 mN mStep mWorth a1 Post v2 mHas mOwner mPrice → W p l e (headSpec wsX8_bids ({ frames := 3, cells := 0, slots := 0, locals := 68 } : Room)).room s m ([.ref (ad 0), .int a1] : List Value).toArray below meth c H locs 0 0 (MQ below (va_Qi (fun (r : Int32) (u : (Nat → Int32) × (Nat → Int32) × (Nat → Int32)) => Post r u.1 u.2.1 u.2.2) (fun (u : (Nat → Int32) × (Nat → Int32) × (Nat → Int32)) t => va_P (dC, dI) vwCl (wdX8_bids cI cJ cT cII cJJ ad mN mStep mSeen mPlans mBooks mTexted mIsKept mSpot mKeeps mMindStep mAt mWhat mWhole mIsBroken mWorth u.1 u.2.1 u.2.2) t.heap) A) ([.ref (ad 0), .int a1] : List Value).toArray s 0 0 A) (F0 m 36 ls []) := by
    intro v2 mHas mOwner mPrice H locs hP hD hS ls hl hw
    unfold wpX8_bids_B36 at hw
    refine lv_aload_n hx hb dX8_bids_36 rfl (lv_at hl 0 rfl) ?_
    refine va_get (D := (dC, dI)) (ci := 8) (v := .ref (ad 3)) (C := RX8) (T := TX8) (N := 36) hx hb hts (fun w h => List.mem_cons_of_mem _ (List.mem_append_right _ h)) hown hK hP 0 rfl rfl 4 (by decide) (hts (.fieldLink RX8 25 "BidMarketModel" "owner" "[I") (List.mem_of_getElem? (i := 2) rfl)) (fun _ h9 => h9) rfl dX8_bids_37 ?_
    refine lv_iload_n hx hb dX8_bids_40 rfl (lv_at hl 2 rfl) ?_
    refine lv_iload_n hx hb dX8_bids_41 rfl (lv_at hl 1 rfl) ?_
    have h6 := hw.1
    have hw := hw.2
    refine va_iast hx hb hK hP hD hS 3 0 rfl rfl h6 dX8_bids_42 (fun H locs hP hD hS => ?_)
    have hP : va_P (dC, dI) vwCl (wdX8_bids cI cJ cT cII cJJ ad mN mStep mSeen mPlans mBooks mTexted mIsKept mSpot mKeeps mMindStep mAt mWhat mWhole mIsBroken mWorth mHas (upd mOwner v2.toNatClampNeg a1) mPrice) H := hP
    have hD : va_D A (wdX8_bids cI cJ cT cII cJJ ad mN mStep mSeen mPlans mBooks mTexted mIsKept mSpot mKeeps mMindStep mAt mWhat mWhole mIsBroken mWorth mHas (upd mOwner v2.toNatClampNeg a1) mPrice) := hD
    refine lv_aload_n hx hb dX8_bids_43 rfl (lv_at hl 0 rfl) ?_
    refine va_get (D := (dC, dI)) (ci := 8) (v := .ref (ad 2)) (C := RX8) (T := TX8) (N := 36) hx hb hts (fun w h => List.mem_cons_of_mem _ (List.mem_append_right _ h)) hown hK hP 0 rfl rfl 3 (by decide) (hts (.fieldLink RX8 22 "BidMarketModel" "has" "[I") (List.mem_of_getElem? (i := 3) rfl)) (fun _ h9 => h9) rfl dX8_bids_44 ?_
    refine lv_iload_n hx hb dX8_bids_47 rfl (lv_at hl 1 rfl) ?_
    refine lv_iload_n hx hb dX8_bids_48 rfl (lv_at hl 2 rfl) ?_
    have h7 := hw.1
    have hw := hw.2
    refine va_iast hx hb hK hP hD hS 2 0 rfl rfl h7 dX8_bids_49 (fun H locs hP hD hS => ?_)
    have hP : va_P (dC, dI) vwCl (wdX8_bids cI cJ cT cII cJJ ad mN mStep mSeen mPlans mBooks mTexted mIsKept mSpot mKeeps mMindStep mAt mWhat mWhole mIsBroken mWorth (upd mHas a1.toNatClampNeg v2) (upd mOwner v2.toNatClampNeg a1) mPrice) H := hP
    have hD : va_D A (wdX8_bids cI cJ cT cII cJJ ad mN mStep mSeen mPlans mBooks mTexted mIsKept mSpot mKeeps mMindStep mAt mWhat mWhole mIsBroken mWorth (upd mHas a1.toNatClampNeg v2) (upd mOwner v2.toNatClampNeg a1) mPrice) := hD
    refine lv_iload_n hx hb dX8_bids_50 rfl (lv_at hl 2 rfl) ?_
    exact W.iret (v := v2) hx hb hr (fun t ht hW => ⟨⟨v2, (upd mHas a1.toNatClampNeg v2, upd mOwner v2.toNatClampNeg a1, mPrice), rfl, hw, by show va_P _ _ _ t.heap; rw [ht]; exact hP⟩, hS.F ht⟩) hS.2.2 dX8_bids_51
  unfold wpX8_bids at hw
  refine lv_aload_n hx hb dX8_bids_0 rfl (lv_at hl 0 rfl) ?_
  refine lv_iload_n hx hb dX8_bids_1 rfl (lv_at hl 1 rfl) ?_
  refine bw_pvi (wc := (wdX8_best cI cJ cT cII cJJ ad mN mStep mSeen mPlans mBooks mTexted mIsKept mSpot mKeeps mMindStep mAt mWhat mWhole mIsBroken mWorth mPrice)) (As := [.int a1]) (rest := []) ⟨hx, hb, hml, hown, hts⟩ (mX8_best l dC dI cI cJ cT cII cJJ ad mN mStep mSeen mPlans mBooks mTexted mIsKept mSpot mKeeps mMindStep mAt mWhat mWhole mIsBroken mWorth mPrice a1 _ hw) (cwV 1 hts gX8_bids_X8_best rfl rfl rfl hdX8_best ⟨Nat.le_of_ble_eq_true rfl, Nat.le_of_ble_eq_true rfl⟩) hK hP [0, 1, 4] rfl rfl rfl rfl rfl hl.1 rfl (Nat.le_of_ble_eq_true rfl) ⟨Nat.le_of_ble_eq_true rfl, Nat.le_of_ble_eq_true rfl⟩ dX8_bids_2 (fun r1 hw => ?_)
  refine lv_istore_n (lv' := [(2, .int r1), (0, .ref (ad 0)), (1, .int a1)]) hx hb dX8_bids_5 rfl hl (by decide) rfl (fun ls hl => ?_)
  refine lv_aload_n hx hb dX8_bids_6 rfl (lv_at hl 1 rfl) ?_
  refine va_get (D := (dC, dI)) (ci := 8) (v := .ref (ad 4)) (C := RX8) (T := TX8) (N := 36) hx hb hts (fun w h => List.mem_cons_of_mem _ (List.mem_append_right _ h)) hown hK hP 0 rfl rfl 5 (by decide) (hts (.fieldLink RX8 28 "BidMarketModel" "price" "[I") (List.mem_of_getElem? (i := 1) rfl)) (fun _ h9 => h9) rfl dX8_bids_7 ?_
  refine lv_iload_n hx hb dX8_bids_10 rfl (lv_at hl 0 rfl) ?_
  refine lv_aload_n hx hb dX8_bids_11 rfl (lv_at hl 1 rfl) ?_
  refine lv_iload_n hx hb dX8_bids_12 rfl (lv_at hl 2 rfl) ?_
  refine bw_pvi (wc := (wdX8_offer cI cJ cT cII cJJ ad mN mStep mSeen mPlans mBooks mTexted mIsKept mSpot mKeeps mMindStep mAt mWhat mWhole mIsBroken mWorth mPrice)) (As := [.int a1]) (rest := [.int r1, .ref (ad 4)]) ⟨hx, hb, hml, hown, hts⟩ (mX8_offer l dC dI cI cJ cT cII cJJ ad mN mStep mSeen mPlans mBooks mTexted mIsKept mSpot mKeeps mMindStep mAt mWhat mWhole mIsBroken mWorth mPrice a1 _ hw) (cwV 1 hts gX8_bids_X8_offer rfl rfl rfl hdX8_offer ⟨Nat.le_of_ble_eq_true rfl, Nat.le_of_ble_eq_true rfl⟩) hK hP [0, 1, 4] rfl rfl rfl rfl rfl hl.1 rfl (Nat.le_of_ble_eq_true rfl) ⟨Nat.le_of_ble_eq_true rfl, Nat.le_of_ble_eq_true rfl⟩ dX8_bids_13 (fun r2 hw => ?_)
  have h3 := hw.1
  have hw := hw.2
  refine va_iast hx hb hK hP hD hS 4 0 rfl rfl h3 dX8_bids_16 (fun H locs hP hD hS => ?_)
  have hP : va_P (dC, dI) vwCl (wdX8_bids cI cJ cT cII cJJ ad mN mStep mSeen mPlans mBooks mTexted mIsKept mSpot mKeeps mMindStep mAt mWhat mWhole mIsBroken mWorth mHas mOwner (upd mPrice r1.toNatClampNeg r2)) H := hP
  have hD : va_D A (wdX8_bids cI cJ cT cII cJJ ad mN mStep mSeen mPlans mBooks mTexted mIsKept mSpot mKeeps mMindStep mAt mWhat mWhole mIsBroken mWorth mHas mOwner (upd mPrice r1.toNatClampNeg r2)) := hD
  refine lv_aload_n hx hb dX8_bids_17 rfl (lv_at hl 1 rfl) ?_
  refine va_get (D := (dC, dI)) (ci := 8) (v := .ref (ad 3)) (C := RX8) (T := TX8) (N := 36) hx hb hts (fun w h => List.mem_cons_of_mem _ (List.mem_append_right _ h)) hown hK hP 0 rfl rfl 4 (by decide) (hts (.fieldLink RX8 25 "BidMarketModel" "owner" "[I") (List.mem_of_getElem? (i := 2) rfl)) (fun _ h9 => h9) rfl dX8_bids_18 ?_
  refine lv_iload_n hx hb dX8_bids_21 rfl (lv_at hl 0 rfl) ?_
  have h4 := hw.1
  have hw := hw.2
  refine va_iald hx hb hK hP 3 0 rfl rfl h4 dX8_bids_22 ?_
  refine lv_if_lt (tgt := 36) hx hb dX8_bids_23 (by decide) (fun c5 => ?_) (fun c5 => ?_)
  · have hw := hw.1 c5
    exact kB36 r1 mHas mOwner (upd mPrice r1.toNatClampNeg r2) _ _ hP hD hS ls (lv_sub hl [1, 2, 0] rfl) hw
  · have hw := hw.2 c5
    refine lv_aload_n hx hb dX8_bids_26 rfl (lv_at hl 1 rfl) ?_
    refine lv_aload_n hx hb dX8_bids_27 rfl (lv_at hl 1 rfl) ?_
    refine va_get (D := (dC, dI)) (ci := 8) (v := .ref (ad 3)) (C := RX8) (T := TX8) (N := 36) hx hb hts (fun w h => List.mem_cons_of_mem _ (List.mem_append_right _ h)) hown hK hP 0 rfl rfl 4 (by decide) (hts (.fieldLink RX8 25 "BidMarketModel" "owner" "[I") (List.mem_of_getElem? (i := 2) rfl)) (fun _ h9 => h9) rfl dX8_bids_28 ?_
    refine lv_iload_n hx hb dX8_bids_31 rfl (lv_at hl 0 rfl) ?_
    have h8 := hw.1
    have hw := hw.2
    refine va_iald hx hb hK hP 3 0 rfl rfl h8 dX8_bids_32 ?_
    refine bw_wvv (wc := (wdX8_loses cI cJ cT cII cJJ ad mN mStep mSeen mPlans mBooks mTexted mIsKept mSpot mKeeps mMindStep mAt mWhat mWhole mIsBroken mHas mOwner)) (w1 := (fun (u : (Nat → Int32) × (Nat → Int32)) => wdX8_loses cI cJ cT cII cJJ ad mN mStep mSeen mPlans mBooks mTexted mIsKept mSpot mKeeps mMindStep mAt mWhat mWhole mIsBroken u.1 u.2)) (As := [.int (mOwner r1.toNatClampNeg)]) (rest := []) ⟨hx, hb, hml, hown, hts⟩ (mX8_loses l dC dI cI cJ cT cII cJJ ad _ mN mStep mSeen mPlans mBooks mTexted mIsKept mSpot mKeeps mMindStep mAt mWhat mWhole mIsBroken mHas mOwner (mOwner r1.toNatClampNeg) _ hw) (cwV 1 hts gX8_bids_X8_loses rfl rfl rfl hdX8_loses ⟨Nat.le_of_ble_eq_true rfl, Nat.le_of_ble_eq_true rfl⟩) hK hP hD hS hA [0, 2, 3] rfl (by decide) (fun _ => rfl) rfl rfl rfl rfl hl.1 rfl (Nat.le_of_ble_eq_true rfl) ⟨Nat.le_of_ble_eq_true rfl, Nat.le_of_ble_eq_true rfl⟩ dX8_bids_33 (fun u H locs hw hP hD hS => ?_)
    obtain ⟨y9, y10⟩ := u
    try dsimp only at hw
    have hP : va_P (dC, dI) vwCl (wdX8_bids cI cJ cT cII cJJ ad mN mStep mSeen mPlans mBooks mTexted mIsKept mSpot mKeeps mMindStep mAt mWhat mWhole mIsBroken mWorth y9 y10 (upd mPrice r1.toNatClampNeg r2)) H := hP
    have hD : va_D A (wdX8_bids cI cJ cT cII cJJ ad mN mStep mSeen mPlans mBooks mTexted mIsKept mSpot mKeeps mMindStep mAt mWhat mWhole mIsBroken mWorth y9 y10 (upd mPrice r1.toNatClampNeg r2)) := hD
    exact kB36 r1 y9 y10 (upd mPrice r1.toNatClampNeg r2) _ _ hP hD hS ls (lv_sub hl [1, 2, 0] rfl) hw
set_option maxHeartbeats 4000000 in
set_option maxRecDepth 100000 in
theorem mX8_size (l : Launch) (dC : Nat → ClassId) (dI : Nat → Nat → Nat) (cI cJ cT cII cJJ : ClassId) (ad : Nat → Nat) (sz : Nat) (mN : Int32) (mStep : Int32) (mSeen : Int32) (mPlans : Int32) (mBooks : Int32) (mTexted : Int32) (mIsKept : Int32) (mSpot : Int32) (mKeeps : Int32) (mMindStep : Int32) (mAt : Int32) (mWhat : Int32) (mWhole : Int32) (mIsBroken : Int32) (mWorth : Nat → Int32) (mHas : Nat → Int32) (mOwner : Nat → Int32) (mPrice : Nat → Int32) (a1 : Int32) (Post : Int32 → Int32 → Int32 → Int32 → Int32 → (Nat → Int32) → (Nat → Int32) → (Nat → Int32) → (Nat → Int32) → Prop) (hw : wpX8_size mN mSeen mPlans mBooks mWorth mHas mOwner mPrice a1 Post) : Met l yX8_size wsX8_size ({ frames := 1, cells := 0, slots := 0, locals := 25 } : Room) (va_Pc [.ref (ad 0), .int a1] (fun U => U.heap.size = sz ∧ va_P (dC, dI) vwCl (wdX8_size cI cJ cT cII cJJ ad mN mStep mSeen mPlans mBooks mTexted mIsKept mSpot mKeeps mMindStep mAt mWhat mWhole mIsBroken mWorth mHas mOwner mPrice) U.heap ∧ va_K (dC, dI) vwCl (bw_tys cI cJ cT cII cJJ) U ∧ va_D (fun _ => True) (wdX8_size cI cJ cT cII cJJ ad mN mStep mSeen mPlans mBooks mTexted mIsKept mSpot mKeeps mMindStep mAt mWhat mWhole mIsBroken mWorth mHas mOwner mPrice))) (va_Qi (fun (r : Int32) (u : Int32 × Int32 × Int32 × Int32 × (Nat → Int32) × (Nat → Int32) × (Nat → Int32) × (Nat → Int32)) => Post r u.1 u.2.1 u.2.2.1 u.2.2.2.1 u.2.2.2.2.1 u.2.2.2.2.2.1 u.2.2.2.2.2.2.1 u.2.2.2.2.2.2.2) (fun (u : Int32 × Int32 × Int32 × Int32 × (Nat → Int32) × (Nat → Int32) × (Nat → Int32) × (Nat → Int32)) t => va_P (dC, dI) vwCl (wdX8_size cI cJ cT cII cJJ ad u.1 mStep u.2.1 u.2.2.1 u.2.2.2.1 mTexted mIsKept mSpot mKeeps mMindStep mAt mWhat mWhole mIsBroken u.2.2.2.2.1 u.2.2.2.2.2.1 u.2.2.2.2.2.2.1 u.2.2.2.2.2.2.2) t.heap) (va_A (wdX8_size cI cJ cT cII cJJ ad mN mStep mSeen mPlans mBooks mTexted mIsKept mSpot mKeeps mMindStep mAt mWhat mWhole mIsBroken mWorth mHas mOwner mPrice) sz)) 0 0 (va_A (wdX8_size cI cJ cT cII cJJ ad mN mStep mSeen mPlans mBooks mTexted mIsKept mSpot mKeeps mMindStep mAt mWhat mWhole mIsBroken mWorth mHas mOwner mPrice) sz) := by
  refine Met.ofW (cc := cX8_size) (maxL := 4) (ret := (some .int)) (by decide) rfl ?_
  intro p e s m args below meth c s₁ B hml hv
  obtain ⟨rfl, hsz, hP, hK, hD0⟩ := hv
  have hx := B.exec
  have hb := B.bytes
  have hr := B.returns
  have hts := atoms_spec (ws := wsX8_size) B.pre
  have hown : s.vm.findClass RX8 = some m.cls := findClass_of_methodNamed B.named
  have hlocks := B.notSynchronized
  subst hsz
  have hD := hD0.self (sz := s.heap.size)
  generalize hAe : va_A (wdX8_size cI cJ cT cII cJJ ad mN mStep mSeen mPlans mBooks mTexted mIsKept mSpot mKeeps mMindStep mAt mWhat mWhole mIsBroken mWorth mHas mOwner mPrice) s.heap.size = A at hD ⊢
  have hA : ∀ q : Nat, s.heap.size ≤ q → A q := fun q h => by rw [← hAe]; exact Or.inr h
  have hS : va_S A s.heap s.heap [] := va_S.rf
  have hl := lv_entry ([.ref (ad 0), .int a1]) (n := 4) (Nat.le_of_ble_eq_true rfl)
  rw [lg_entry_eq]
  generalize (lg_sl ([.ref (ad 0), .int a1]) ++ List.replicate (4 - (lg_sl ([.ref (ad 0), .int a1])).length) Slot.unset).toArray = ls at hl ⊢
  have hl : lv_has ls 4 [(0, .ref (ad 0)), (1, .int a1)] := hl
  have kB27 : ∀ f : Nat, ∀ (v2 : Int32) (v3 : Int32) (mN : Int32) (mSeen : Int32) (mPlans : Int32) (mBooks : Int32) (mWorth : Nat → Int32) (mHas : Nat → Int32) (mOwner : Nat → Int32) (mPrice : Nat → Int32), ∀ (H : Heap) (locs : List Loc), va_P (dC, dI) vwCl (wdX8_size cI cJ cT cII cJJ ad mN mStep mSeen mPlans mBooks mTexted mIsKept mSpot mKeeps mMindStep mAt mWhat mWhole mIsBroken mWorth mHas mOwner mPrice) H → va_D A (wdX8_size cI cJ cT cII cJJ ad mN mStep mSeen mPlans mBooks mTexted mIsKept mSpot mKeeps mMindStep mAt mWhat mWhole mIsBroken mWorth mHas mOwner mPrice) → va_S A s.heap H locs → ∀ ls : Array Slot, lv_has ls 4 [(0, .ref (ad 0)), (2, .int v2), (3, .int v3)] → wpX8_size_B27 a1 Post f v2 v3 mN mSeen mPlans mBooks mWorth mHas mOwner mPrice → W p l e (headSpec wsX8_size ({ frames := 1, cells := 0, slots := 0, locals := 25 } : Room)).room s m ([.ref (ad 0), .int a1] : List Value).toArray below meth c H locs 0 0 (MQ below (va_Qi (fun (r : Int32) (u : Int32 × Int32 × Int32 × Int32 × (Nat → Int32) × (Nat → Int32) × (Nat → Int32) × (Nat → Int32)) => Post r u.1 u.2.1 u.2.2.1 u.2.2.2.1 u.2.2.2.2.1 u.2.2.2.2.2.1 u.2.2.2.2.2.2.1 u.2.2.2.2.2.2.2) (fun (u : Int32 × Int32 × Int32 × Int32 × (Nat → Int32) × (Nat → Int32) × (Nat → Int32) × (Nat → Int32)) t => va_P (dC, dI) vwCl (wdX8_size cI cJ cT cII cJJ ad u.1 mStep u.2.1 u.2.2.1 u.2.2.2.1 mTexted mIsKept mSpot mKeeps mMindStep mAt mWhat mWhole mIsBroken u.2.2.2.2.1 u.2.2.2.2.2.1 u.2.2.2.2.2.2.1 u.2.2.2.2.2.2.2) t.heap) A) ([.ref (ad 0), .int a1] : List Value).toArray s 0 0 A) (F0 m 27 ls []) := by
    intro  f
    induction f with
    | zero => intro v2 v3 mN mSeen mPlans mBooks mWorth mHas mOwner mPrice H locs hP hD hS ls hl hw; exact (show False from hw).elim
    | succ f ih =>
      intro v2 v3 mN mSeen mPlans mBooks mWorth mHas mOwner mPrice H locs hP hD hS ls hl hw
      rw [wpX8_size_B27] at hw
      refine lv_iload_n hx hb dX8_size_27 rfl (lv_at hl 2 rfl) ?_
      refine lv_bipush (v := 64) hx hb dX8_size_28 (by decide) ?_
      refine lv_icmp_ge (tgt := 46) hx hb dX8_size_30 (by decide) (fun c3 => ?_) (fun c3 => ?_)
      · have hw := hw.1 c3
        refine lv_aload_n hx hb dX8_size_46 rfl (lv_at hl 0 rfl) ?_
        refine bw_wvi (wc := (wdX8_empties cI cJ cT cII cJJ ad mN mStep mSeen mPlans mBooks mTexted mIsKept mSpot mKeeps mMindStep mAt mWhat mWhole mIsBroken mHas mOwner)) (w1 := (fun (u : (Nat → Int32) × (Nat → Int32)) => wdX8_empties cI cJ cT cII cJJ ad mN mStep mSeen mPlans mBooks mTexted mIsKept mSpot mKeeps mMindStep mAt mWhat mWhole mIsBroken u.1 u.2)) (As := []) (rest := []) ⟨hx, hb, hml, hown, hts⟩ (mX8_empties l dC dI cI cJ cT cII cJJ ad _ mN mStep mSeen mPlans mBooks mTexted mIsKept mSpot mKeeps mMindStep mAt mWhat mWhole mIsBroken mHas mOwner _ hw) (cwV 0 hts gX8_size_X8_empties rfl rfl rfl hdX8_empties ⟨Nat.le_of_ble_eq_true rfl, Nat.le_of_ble_eq_true rfl⟩) hK hP hD hS hA [0, 2, 3] rfl (by decide) (fun _ => rfl) rfl rfl rfl rfl hl.1 rfl (Nat.le_of_ble_eq_true rfl) ⟨Nat.le_of_ble_eq_true rfl, Nat.le_of_ble_eq_true rfl⟩ dX8_size_47 (fun r4 u H locs hw hP hD hS => ?_)
        obtain ⟨y5, y6⟩ := u
        try dsimp only at hw
        have hP : va_P (dC, dI) vwCl (wdX8_size cI cJ cT cII cJJ ad mN mStep mSeen mPlans mBooks mTexted mIsKept mSpot mKeeps mMindStep mAt mWhat mWhole mIsBroken mWorth y5 y6 mPrice) H := hP
        have hD : va_D A (wdX8_size cI cJ cT cII cJJ ad mN mStep mSeen mPlans mBooks mTexted mIsKept mSpot mKeeps mMindStep mAt mWhat mWhole mIsBroken mWorth y5 y6 mPrice) := hD
        refine lv_pop hx hb dX8_size_50 rfl ?_
        refine lv_aload_n hx hb dX8_size_51 rfl (lv_at hl 0 rfl) ?_
        refine bw_wvv (wc := (wdX8_free cI cJ cT cII cJJ ad mN mStep mSeen mPlans mBooks mTexted mIsKept mSpot mKeeps mMindStep mAt mWhat mWhole mIsBroken mPrice)) (w1 := (fun (u : (Nat → Int32)) => wdX8_free cI cJ cT cII cJJ ad mN mStep mSeen mPlans mBooks mTexted mIsKept mSpot mKeeps mMindStep mAt mWhat mWhole mIsBroken u)) (As := []) (rest := []) ⟨hx, hb, hml, hown, hts⟩ (mX8_free l dC dI cI cJ cT cII cJJ ad _ mN mStep mSeen mPlans mBooks mTexted mIsKept mSpot mKeeps mMindStep mAt mWhat mWhole mIsBroken mPrice _ hw) (cwV 0 hts gX8_size_X8_free rfl rfl rfl hdX8_free ⟨Nat.le_of_ble_eq_true rfl, Nat.le_of_ble_eq_true rfl⟩) hK hP hD hS hA [0, 4] rfl (by decide) (fun _ => rfl) rfl rfl rfl rfl hl.1 rfl (Nat.le_of_ble_eq_true rfl) ⟨Nat.le_of_ble_eq_true rfl, Nat.le_of_ble_eq_true rfl⟩ dX8_size_52 (fun u H locs hw hP hD hS => ?_)
        obtain ⟨y7, rfl⟩ : ∃ z, z = u := ⟨_, rfl⟩
        try dsimp only at hw
        have hP : va_P (dC, dI) vwCl (wdX8_size cI cJ cT cII cJJ ad mN mStep mSeen mPlans mBooks mTexted mIsKept mSpot mKeeps mMindStep mAt mWhat mWhole mIsBroken mWorth y5 y6 y7) H := hP
        have hD : va_D A (wdX8_size cI cJ cT cII cJJ ad mN mStep mSeen mPlans mBooks mTexted mIsKept mSpot mKeeps mMindStep mAt mWhat mWhole mIsBroken mWorth y5 y6 y7) := hD
        refine lv_aload_n hx hb dX8_size_55 rfl (lv_at hl 0 rfl) ?_
        refine lv_iconst (v := 0) hx hb dX8_size_56 (by decide) ?_
        refine va_put (D := (dC, dI)) (ci := 8) (v := .int 0) (ty := .int) (C := RX8) (T := TX8) (N := 36) hx hb hts (fun w h => List.mem_cons_of_mem _ (List.mem_append_right _ h)) tyX8 tyX8_ok nmX8 hown hK hP hD hS 0 rfl rfl 12 (by decide) (hts (.fieldLink RX8 111 "BidMarketModel" "seen" "I") (List.mem_of_getElem? (i := 4) rfl)) (fun _ h9 => h9) rfl (by decide +kernel) rfl rfl (Nat.le_of_ble_eq_true rfl) dX8_size_57 (fun H locs hP hD hS => ?_)
        have hP : va_P (dC, dI) vwCl (wdX8_size cI cJ cT cII cJJ ad mN mStep 0 mPlans mBooks mTexted mIsKept mSpot mKeeps mMindStep mAt mWhat mWhole mIsBroken mWorth y5 y6 y7) H := hP
        have hD : va_D A (wdX8_size cI cJ cT cII cJJ ad mN mStep 0 mPlans mBooks mTexted mIsKept mSpot mKeeps mMindStep mAt mWhat mWhole mIsBroken mWorth y5 y6 y7) := hD
        refine lv_aload_n hx hb dX8_size_60 rfl (lv_at hl 0 rfl) ?_
        refine lv_iconst (v := 0) hx hb dX8_size_61 (by decide) ?_
        refine va_put (D := (dC, dI)) (ci := 8) (v := .int 0) (ty := .int) (C := RX8) (T := TX8) (N := 36) hx hb hts (fun w h => List.mem_cons_of_mem _ (List.mem_append_right _ h)) tyX8 tyX8_ok nmX8 hown hK hP hD hS 0 rfl rfl 13 (by decide) (hts (.fieldLink RX8 114 "BidMarketModel" "plans" "I") (List.mem_of_getElem? (i := 5) rfl)) (fun _ h9 => h9) rfl (by decide +kernel) rfl rfl (Nat.le_of_ble_eq_true rfl) dX8_size_62 (fun H locs hP hD hS => ?_)
        have hP : va_P (dC, dI) vwCl (wdX8_size cI cJ cT cII cJJ ad mN mStep 0 0 mBooks mTexted mIsKept mSpot mKeeps mMindStep mAt mWhat mWhole mIsBroken mWorth y5 y6 y7) H := hP
        have hD : va_D A (wdX8_size cI cJ cT cII cJJ ad mN mStep 0 0 mBooks mTexted mIsKept mSpot mKeeps mMindStep mAt mWhat mWhole mIsBroken mWorth y5 y6 y7) := hD
        refine lv_aload_n hx hb dX8_size_65 rfl (lv_at hl 0 rfl) ?_
        refine lv_iconst (v := 0) hx hb dX8_size_66 (by decide) ?_
        refine va_put (D := (dC, dI)) (ci := 8) (v := .int 0) (ty := .int) (C := RX8) (T := TX8) (N := 36) hx hb hts (fun w h => List.mem_cons_of_mem _ (List.mem_append_right _ h)) tyX8 tyX8_ok nmX8 hown hK hP hD hS 0 rfl rfl 14 (by decide) (hts (.fieldLink RX8 117 "BidMarketModel" "books" "I") (List.mem_of_getElem? (i := 6) rfl)) (fun _ h9 => h9) rfl (by decide +kernel) rfl rfl (Nat.le_of_ble_eq_true rfl) dX8_size_67 (fun H locs hP hD hS => ?_)
        have hP : va_P (dC, dI) vwCl (wdX8_size cI cJ cT cII cJJ ad mN mStep 0 0 0 mTexted mIsKept mSpot mKeeps mMindStep mAt mWhat mWhole mIsBroken mWorth y5 y6 y7) H := hP
        have hD : va_D A (wdX8_size cI cJ cT cII cJJ ad mN mStep 0 0 0 mTexted mIsKept mSpot mKeeps mMindStep mAt mWhat mWhole mIsBroken mWorth y5 y6 y7) := hD
        refine lv_iload_n hx hb dX8_size_70 rfl (lv_at hl 1 rfl) ?_
        exact W.iret (v := v2) hx hb hr (fun t ht hW => ⟨⟨v2, (mN, 0, 0, 0, mWorth, y5, y6, y7), rfl, hw, by show va_P _ _ _ t.heap; rw [ht]; exact hP⟩, hS.F ht⟩) hS.2.2 dX8_size_71
      · have hw := hw.2 c3
        refine lv_aload_n hx hb dX8_size_33 rfl (lv_at hl 0 rfl) ?_
        refine va_get (D := (dC, dI)) (ci := 8) (v := .ref (ad 1)) (C := RX8) (T := TX8) (N := 36) hx hb hts (fun w h => List.mem_cons_of_mem _ (List.mem_append_right _ h)) hown hK hP 0 rfl rfl 2 (by decide) (hts (.fieldLink RX8 18 "BidMarketModel" "worth" "[I") (List.mem_of_getElem? (i := 3) rfl)) (fun _ h9 => h9) rfl dX8_size_34 ?_
        refine lv_iload_n hx hb dX8_size_37 rfl (lv_at hl 2 rfl) ?_
        refine lv_iconst (v := 0) hx hb dX8_size_38 (by decide) ?_
        have h8 := hw.1
        have hw := hw.2
        refine va_iast hx hb hK hP hD hS 1 0 rfl rfl h8 dX8_size_39 (fun H locs hP hD hS => ?_)
        have hP : va_P (dC, dI) vwCl (wdX8_size cI cJ cT cII cJJ ad mN mStep mSeen mPlans mBooks mTexted mIsKept mSpot mKeeps mMindStep mAt mWhat mWhole mIsBroken (upd mWorth v3.toNatClampNeg 0) mHas mOwner mPrice) H := hP
        have hD : va_D A (wdX8_size cI cJ cT cII cJJ ad mN mStep mSeen mPlans mBooks mTexted mIsKept mSpot mKeeps mMindStep mAt mWhat mWhole mIsBroken (upd mWorth v3.toNatClampNeg 0) mHas mOwner mPrice) := hD
        obtain ⟨x9, ex9⟩ : ∃ y : Int32, y = v3 + 1 := ⟨_, rfl⟩
        have hw := hw x9 ex9
        refine lv_iinc (v := x9) (lv' := [(3, .int x9), (0, .ref (ad 0)), (2, .int v2)]) hx hb dX8_size_40 hl (k := 2) rfl (by rw [ex9]; rfl) (by decide) rfl (fun ls hl => ?_)
        refine lv_goto (tgt := 27) hx hb dX8_size_43 (by decide) ?_
        exact ih v2 x9 mN mSeen mPlans mBooks (upd mWorth v3.toNatClampNeg 0) mHas mOwner mPrice _ _ hP hD hS ls (lv_sub hl [1, 2, 0] rfl) hw
  unfold wpX8_size at hw
  refine lv_iload_n hx hb dX8_size_0 rfl (lv_at hl 1 rfl) ?_
  refine lv_i2l hx hb dX8_size_1 rfl ?_
  refine lv_lconst (v := 1) hx hb dX8_size_2 (by decide) ?_
  refine lv_ldc2 hx hb hown (hts (.constantLong RX8 159 (8)) (List.mem_of_getElem? (i := 1) rfl)) dX8_size_3 ?_
  refine bw_psi (wc := []) (As := [.long a1.toInt64, .long 1, .long 8]) (rest := []) ⟨hx, hb, hml, hown, hts⟩ (mX8_in l dC dI cI cJ cT cII cJJ a1.toInt64 1 8 _ hw) (va_cwS 3 hts gX8_size_X8_in rfl rfl rfl hdX8_in ⟨Nat.le_of_ble_eq_true rfl, Nat.le_of_ble_eq_true rfl⟩) hK hP [] rfl rfl hl.1 rfl (Nat.le_of_ble_eq_true rfl) ⟨Nat.le_of_ble_eq_true rfl, Nat.le_of_ble_eq_true rfl⟩ dX8_size_6 (fun r1 hw => ?_)
  refine lv_if_ne (tgt := 15) hx hb dX8_size_9 (by decide) (fun c2 => ?_) (fun c2 => ?_)
  · have hw := hw.1 c2
    refine lv_aload_n hx hb dX8_size_15 rfl (lv_at hl 0 rfl) ?_
    refine va_get (D := (dC, dI)) (ci := 8) (v := .int mN) (C := RX8) (T := TX8) (N := 36) hx hb hts (fun w h => List.mem_cons_of_mem _ (List.mem_append_right _ h)) hown hK hP 0 rfl rfl 0 (by decide) (hts (.fieldLink RX8 9 "BidMarketModel" "n" "I") (List.mem_of_getElem? (i := 2) rfl)) (fun _ h9 => h9) rfl dX8_size_16 ?_
    refine lv_istore_n (lv' := [(2, .int mN), (0, .ref (ad 0)), (1, .int a1)]) hx hb dX8_size_19 rfl hl (by decide) rfl (fun ls hl => ?_)
    refine lv_aload_n hx hb dX8_size_20 rfl (lv_at hl 1 rfl) ?_
    refine lv_iload_n hx hb dX8_size_21 rfl (lv_at hl 2 rfl) ?_
    refine va_put (D := (dC, dI)) (ci := 8) (v := .int a1) (ty := .int) (C := RX8) (T := TX8) (N := 36) hx hb hts (fun w h => List.mem_cons_of_mem _ (List.mem_append_right _ h)) tyX8 tyX8_ok nmX8 hown hK hP hD hS 0 rfl rfl 0 (by decide) (hts (.fieldLink RX8 9 "BidMarketModel" "n" "I") (List.mem_of_getElem? (i := 2) rfl)) (fun _ h9 => h9) rfl (by decide +kernel) rfl rfl (Nat.le_of_ble_eq_true rfl) dX8_size_22 (fun H locs hP hD hS => ?_)
    have hP : va_P (dC, dI) vwCl (wdX8_size cI cJ cT cII cJJ ad a1 mStep mSeen mPlans mBooks mTexted mIsKept mSpot mKeeps mMindStep mAt mWhat mWhole mIsBroken mWorth mHas mOwner mPrice) H := hP
    have hD : va_D A (wdX8_size cI cJ cT cII cJJ ad a1 mStep mSeen mPlans mBooks mTexted mIsKept mSpot mKeeps mMindStep mAt mWhat mWhole mIsBroken mWorth mHas mOwner mPrice) := hD
    refine lv_iconst (v := 0) hx hb dX8_size_25 (by decide) ?_
    refine lv_istore_n (lv' := [(3, .int 0), (2, .int mN), (0, .ref (ad 0)), (1, .int a1)]) hx hb dX8_size_26 rfl hl (by decide) rfl (fun ls hl => ?_)
    obtain ⟨f1, hw⟩ := hw
    exact kB27 f1 mN 0 a1 mSeen mPlans mBooks mWorth mHas mOwner mPrice _ _ hP hD hS ls (lv_sub hl [2, 1, 0] rfl) hw
  · have hw := hw.2 c2
    refine lv_bipush (v := (-2)) hx hb dX8_size_12 (by decide) ?_
    exact W.iret (v := (-2)) hx hb hr (fun t ht hW => ⟨⟨(-2), (mN, mSeen, mPlans, mBooks, mWorth, mHas, mOwner, mPrice), rfl, hw, by show va_P _ _ _ t.heap; rw [ht]; exact hP⟩, hS.F ht⟩) hS.2.2 dX8_size_14
set_option maxHeartbeats 4000000 in
set_option maxRecDepth 100000 in
theorem mX8_becomes (l : Launch) (dC : Nat → ClassId) (dI : Nat → Nat → Nat) (cI cJ cT cII cJJ : ClassId) (ad : Nat → Nat) (sz : Nat) (mN : Int32) (mStep : Int32) (mSeen : Int32) (mPlans : Int32) (mBooks : Int32) (mTexted : Int32) (mIsKept : Int32) (mSpot : Int32) (mKeeps : Int32) (mMindStep : Int32) (mAt : Int32) (mWhat : Int32) (mWhole : Int32) (mIsBroken : Int32) (mWorth : Nat → Int32) (mHas : Nat → Int32) (mOwner : Nat → Int32) (a1 : Int32) (a2 : Int32) (a3 : Int32) (Post : Int32 → (Nat → Int32) → (Nat → Int32) → (Nat → Int32) → Prop) (hw : wpX8_becomes mWorth mHas mOwner a1 a2 a3 Post) : Met l yX8_becomes wsX8_becomes ({ frames := 1, cells := 0, slots := 0, locals := 21 } : Room) (va_Pc [.ref (ad 0), .int a1, .int a2, .int a3] (fun U => U.heap.size = sz ∧ va_P (dC, dI) vwCl (wdX8_becomes cI cJ cT cII cJJ ad mN mStep mSeen mPlans mBooks mTexted mIsKept mSpot mKeeps mMindStep mAt mWhat mWhole mIsBroken mWorth mHas mOwner) U.heap ∧ va_K (dC, dI) vwCl (bw_tys cI cJ cT cII cJJ) U ∧ va_D (fun _ => True) (wdX8_becomes cI cJ cT cII cJJ ad mN mStep mSeen mPlans mBooks mTexted mIsKept mSpot mKeeps mMindStep mAt mWhat mWhole mIsBroken mWorth mHas mOwner))) (va_Qi (fun (r : Int32) (u : (Nat → Int32) × (Nat → Int32) × (Nat → Int32)) => Post r u.1 u.2.1 u.2.2) (fun (u : (Nat → Int32) × (Nat → Int32) × (Nat → Int32)) t => va_P (dC, dI) vwCl (wdX8_becomes cI cJ cT cII cJJ ad mN mStep mSeen mPlans mBooks mTexted mIsKept mSpot mKeeps mMindStep mAt mWhat mWhole mIsBroken u.1 u.2.1 u.2.2) t.heap) (va_A (wdX8_becomes cI cJ cT cII cJJ ad mN mStep mSeen mPlans mBooks mTexted mIsKept mSpot mKeeps mMindStep mAt mWhat mWhole mIsBroken mWorth mHas mOwner) sz)) 0 0 (va_A (wdX8_becomes cI cJ cT cII cJJ ad mN mStep mSeen mPlans mBooks mTexted mIsKept mSpot mKeeps mMindStep mAt mWhat mWhole mIsBroken mWorth mHas mOwner) sz) := by
  refine Met.ofW (cc := cX8_becomes) (maxL := 5) (ret := (some .int)) (by decide) rfl ?_
  intro p e s m args below meth c s₁ B hml hv
  obtain ⟨rfl, hsz, hP, hK, hD0⟩ := hv
  have hx := B.exec
  have hb := B.bytes
  have hr := B.returns
  have hts := atoms_spec (ws := wsX8_becomes) B.pre
  have hown : s.vm.findClass RX8 = some m.cls := findClass_of_methodNamed B.named
  have hlocks := B.notSynchronized
  subst hsz
  have hD := hD0.self (sz := s.heap.size)
  generalize hAe : va_A (wdX8_becomes cI cJ cT cII cJJ ad mN mStep mSeen mPlans mBooks mTexted mIsKept mSpot mKeeps mMindStep mAt mWhat mWhole mIsBroken mWorth mHas mOwner) s.heap.size = A at hD ⊢
  have hA : ∀ q : Nat, s.heap.size ≤ q → A q := fun q h => by rw [← hAe]; exact Or.inr h
  have hS : va_S A s.heap s.heap [] := va_S.rf
  have hl := lv_entry ([.ref (ad 0), .int a1, .int a2, .int a3]) (n := 5) (Nat.le_of_ble_eq_true rfl)
  rw [lg_entry_eq]
  generalize (lg_sl ([.ref (ad 0), .int a1, .int a2, .int a3]) ++ List.replicate (5 - (lg_sl ([.ref (ad 0), .int a1, .int a2, .int a3])).length) Slot.unset).toArray = ls at hl ⊢
  have hl : lv_has ls 5 [(0, .ref (ad 0)), (1, .int a1), (2, .int a2), (3, .int a3)] := hl
  unfold wpX8_becomes at hw
  refine lv_aload_n hx hb dX8_becomes_0 rfl (lv_at hl 0 rfl) ?_
  refine va_get (D := (dC, dI)) (ci := 8) (v := .ref (ad 1)) (C := RX8) (T := TX8) (N := 36) hx hb hts (fun w h => List.mem_cons_of_mem _ (List.mem_append_right _ h)) hown hK hP 0 rfl rfl 2 (by decide) (hts (.fieldLink RX8 18 "BidMarketModel" "worth" "[I") (List.mem_of_getElem? (i := 1) rfl)) (fun _ h9 => h9) rfl dX8_becomes_1 ?_
  refine lv_bipush (v := 8) hx hb dX8_becomes_4 (by decide) ?_
  refine lv_iload_n hx hb dX8_becomes_6 rfl (lv_at hl 1 rfl) ?_
  refine lv_imul hx hb dX8_becomes_7 ?_
  refine lv_iload_n hx hb dX8_becomes_8 rfl (lv_at hl 2 rfl) ?_
  refine lv_iadd hx hb dX8_becomes_9 ?_
  have h1 := hw.1
  have hw := hw.2
  refine va_iald hx hb hK hP 1 0 rfl rfl h1 dX8_becomes_10 ?_
  refine lv_topi (fun x2 ex2 => ?_)
  have hw := hw x2 ex2
  refine lv_istore (lv' := [(4, .int x2), (0, .ref (ad 0)), (1, .int a1), (2, .int a2), (3, .int a3)]) hx hb dX8_becomes_11 hl (by decide) rfl (fun ls hl => ?_)
  refine lv_aload_n hx hb dX8_becomes_13 rfl (lv_at hl 1 rfl) ?_
  refine va_get (D := (dC, dI)) (ci := 8) (v := .ref (ad 1)) (C := RX8) (T := TX8) (N := 36) hx hb hts (fun w h => List.mem_cons_of_mem _ (List.mem_append_right _ h)) hown hK hP 0 rfl rfl 2 (by decide) (hts (.fieldLink RX8 18 "BidMarketModel" "worth" "[I") (List.mem_of_getElem? (i := 1) rfl)) (fun _ h9 => h9) rfl dX8_becomes_14 ?_
  refine lv_bipush (v := 8) hx hb dX8_becomes_17 (by decide) ?_
  refine lv_iload_n hx hb dX8_becomes_19 rfl (lv_at hl 2 rfl) ?_
  refine lv_imul hx hb dX8_becomes_20 ?_
  refine lv_iload_n hx hb dX8_becomes_21 rfl (lv_at hl 3 rfl) ?_
  refine lv_iadd hx hb dX8_becomes_22 ?_
  refine lv_iload_n hx hb dX8_becomes_23 rfl (lv_at hl 4 rfl) ?_
  have h3 := hw.1
  have hw := hw.2
  refine va_iast hx hb hK hP hD hS 1 0 rfl rfl h3 dX8_becomes_24 (fun H locs hP hD hS => ?_)
  have hP : va_P (dC, dI) vwCl (wdX8_becomes cI cJ cT cII cJJ ad mN mStep mSeen mPlans mBooks mTexted mIsKept mSpot mKeeps mMindStep mAt mWhat mWhole mIsBroken (upd mWorth ((8 * a1) + a2).toNatClampNeg a3) mHas mOwner) H := hP
  have hD : va_D A (wdX8_becomes cI cJ cT cII cJJ ad mN mStep mSeen mPlans mBooks mTexted mIsKept mSpot mKeeps mMindStep mAt mWhat mWhole mIsBroken (upd mWorth ((8 * a1) + a2).toNatClampNeg a3) mHas mOwner) := hD
  refine lv_aload_n hx hb dX8_becomes_25 rfl (lv_at hl 1 rfl) ?_
  refine lv_iload_n hx hb dX8_becomes_26 rfl (lv_at hl 2 rfl) ?_
  refine bw_wvv (wc := (wdX8_loses cI cJ cT cII cJJ ad mN mStep mSeen mPlans mBooks mTexted mIsKept mSpot mKeeps mMindStep mAt mWhat mWhole mIsBroken mHas mOwner)) (w1 := (fun (u : (Nat → Int32) × (Nat → Int32)) => wdX8_loses cI cJ cT cII cJJ ad mN mStep mSeen mPlans mBooks mTexted mIsKept mSpot mKeeps mMindStep mAt mWhat mWhole mIsBroken u.1 u.2)) (As := [.int a1]) (rest := []) ⟨hx, hb, hml, hown, hts⟩ (mX8_loses l dC dI cI cJ cT cII cJJ ad _ mN mStep mSeen mPlans mBooks mTexted mIsKept mSpot mKeeps mMindStep mAt mWhat mWhole mIsBroken mHas mOwner a1 _ hw) (cwV 1 hts gX8_becomes_X8_loses rfl rfl rfl hdX8_loses ⟨Nat.le_of_ble_eq_true rfl, Nat.le_of_ble_eq_true rfl⟩) hK hP hD hS hA [0, 2, 3] rfl (by decide) (fun _ => rfl) rfl rfl rfl rfl hl.1 rfl (Nat.le_of_ble_eq_true rfl) ⟨Nat.le_of_ble_eq_true rfl, Nat.le_of_ble_eq_true rfl⟩ dX8_becomes_27 (fun u H locs hw hP hD hS => ?_)
  obtain ⟨y4, y5⟩ := u
  try dsimp only at hw
  have hP : va_P (dC, dI) vwCl (wdX8_becomes cI cJ cT cII cJJ ad mN mStep mSeen mPlans mBooks mTexted mIsKept mSpot mKeeps mMindStep mAt mWhat mWhole mIsBroken (upd mWorth ((8 * a1) + a2).toNatClampNeg a3) y4 y5) H := hP
  have hD : va_D A (wdX8_becomes cI cJ cT cII cJJ ad mN mStep mSeen mPlans mBooks mTexted mIsKept mSpot mKeeps mMindStep mAt mWhat mWhole mIsBroken (upd mWorth ((8 * a1) + a2).toNatClampNeg a3) y4 y5) := hD
  refine lv_iload hx hb dX8_becomes_30 (lv_at hl 0 rfl) ?_
  refine lv_if_ge (tgt := 40) hx hb dX8_becomes_32 (by decide) (fun c6 => ?_) (fun c6 => ?_)
  · have hw := hw.1 c6
    refine lv_iload hx hb dX8_becomes_40 (lv_at hl 0 rfl) ?_
    exact W.iret (v := x2) hx hb hr (fun t ht hW => ⟨⟨x2, (upd mWorth ((8 * a1) + a2).toNatClampNeg a3, y4, y5), rfl, hw, by show va_P _ _ _ t.heap; rw [ht]; exact hP⟩, hS.F ht⟩) hS.2.2 dX8_becomes_42
  · have hw := hw.2 c6
    refine lv_bipush (v := (-5)) hx hb dX8_becomes_35 (by decide) ?_
    refine lv_goto (tgt := 42) hx hb dX8_becomes_37 (by decide) ?_
    exact W.iret (v := (-5)) hx hb hr (fun t ht hW => ⟨⟨(-5), (upd mWorth ((8 * a1) + a2).toNatClampNeg a3, y4, y5), rfl, hw, by show va_P _ _ _ t.heap; rw [ht]; exact hP⟩, hS.F ht⟩) hS.2.2 dX8_becomes_42
set_option maxHeartbeats 4000000 in
set_option maxRecDepth 100000 in
theorem mX8_worth (l : Launch) (dC : Nat → ClassId) (dI : Nat → Nat → Nat) (cI cJ cT cII cJJ : ClassId) (ad : Nat → Nat) (sz : Nat) (mN : Int32) (mStep : Int32) (mSeen : Int32) (mPlans : Int32) (mBooks : Int32) (mTexted : Int32) (mIsKept : Int32) (mSpot : Int32) (mKeeps : Int32) (mMindStep : Int32) (mAt : Int32) (mWhat : Int32) (mWhole : Int32) (mIsBroken : Int32) (mWorth : Nat → Int32) (mHas : Nat → Int32) (mOwner : Nat → Int32) (a1 : Int32) (a2 : Int32) (a3 : Int32) (Post : Int32 → (Nat → Int32) → (Nat → Int32) → (Nat → Int32) → Prop) (hw : wpX8_worth mN mWorth mHas mOwner a1 a2 a3 Post) : Met l yX8_worth wsX8_worth ({ frames := 3, cells := 0, slots := 0, locals := 68 } : Room) (va_Pc [.ref (ad 0), .int a1, .int a2, .int a3] (fun U => U.heap.size = sz ∧ va_P (dC, dI) vwCl (wdX8_worth cI cJ cT cII cJJ ad mN mStep mSeen mPlans mBooks mTexted mIsKept mSpot mKeeps mMindStep mAt mWhat mWhole mIsBroken mWorth mHas mOwner) U.heap ∧ va_K (dC, dI) vwCl (bw_tys cI cJ cT cII cJJ) U ∧ va_D (fun _ => True) (wdX8_worth cI cJ cT cII cJJ ad mN mStep mSeen mPlans mBooks mTexted mIsKept mSpot mKeeps mMindStep mAt mWhat mWhole mIsBroken mWorth mHas mOwner))) (va_Qi (fun (r : Int32) (u : (Nat → Int32) × (Nat → Int32) × (Nat → Int32)) => Post r u.1 u.2.1 u.2.2) (fun (u : (Nat → Int32) × (Nat → Int32) × (Nat → Int32)) t => va_P (dC, dI) vwCl (wdX8_worth cI cJ cT cII cJJ ad mN mStep mSeen mPlans mBooks mTexted mIsKept mSpot mKeeps mMindStep mAt mWhat mWhole mIsBroken u.1 u.2.1 u.2.2) t.heap) (va_A (wdX8_worth cI cJ cT cII cJJ ad mN mStep mSeen mPlans mBooks mTexted mIsKept mSpot mKeeps mMindStep mAt mWhat mWhole mIsBroken mWorth mHas mOwner) sz)) 0 0 (va_A (wdX8_worth cI cJ cT cII cJJ ad mN mStep mSeen mPlans mBooks mTexted mIsKept mSpot mKeeps mMindStep mAt mWhat mWhole mIsBroken mWorth mHas mOwner) sz) := by
  refine Met.ofW (cc := cX8_worth) (maxL := 4) (ret := (some .int)) (by decide) rfl ?_
  intro p e s m args below meth c s₁ B hml hv
  obtain ⟨rfl, hsz, hP, hK, hD0⟩ := hv
  have hx := B.exec
  have hb := B.bytes
  have hr := B.returns
  have hts := atoms_spec (ws := wsX8_worth) B.pre
  have hown : s.vm.findClass RX8 = some m.cls := findClass_of_methodNamed B.named
  have hlocks := B.notSynchronized
  subst hsz
  have hD := hD0.self (sz := s.heap.size)
  generalize hAe : va_A (wdX8_worth cI cJ cT cII cJJ ad mN mStep mSeen mPlans mBooks mTexted mIsKept mSpot mKeeps mMindStep mAt mWhat mWhole mIsBroken mWorth mHas mOwner) s.heap.size = A at hD ⊢
  have hA : ∀ q : Nat, s.heap.size ≤ q → A q := fun q h => by rw [← hAe]; exact Or.inr h
  have hS : va_S A s.heap s.heap [] := va_S.rf
  have hl := lv_entry ([.ref (ad 0), .int a1, .int a2, .int a3]) (n := 4) (Nat.le_of_ble_eq_true rfl)
  rw [lg_entry_eq]
  generalize (lg_sl ([.ref (ad 0), .int a1, .int a2, .int a3]) ++ List.replicate (4 - (lg_sl ([.ref (ad 0), .int a1, .int a2, .int a3])).length) Slot.unset).toArray = ls at hl ⊢
  have hl : lv_has ls 4 [(0, .ref (ad 0)), (1, .int a1), (2, .int a2), (3, .int a3)] := hl
  unfold wpX8_worth at hw
  refine lv_aload_n hx hb dX8_worth_0 rfl (lv_at hl 0 rfl) ?_
  refine lv_iload_n hx hb dX8_worth_1 rfl (lv_at hl 1 rfl) ?_
  refine lv_iload_n hx hb dX8_worth_2 rfl (lv_at hl 2 rfl) ?_
  refine bw_pvi (wc := (wdX8_isPair cI cJ cT cII cJJ ad mN mStep mSeen mPlans mBooks mTexted mIsKept mSpot mKeeps mMindStep mAt mWhat mWhole mIsBroken)) (As := [.int a1, .int a2]) (rest := []) ⟨hx, hb, hml, hown, hts⟩ (mX8_isPair l dC dI cI cJ cT cII cJJ ad mN mStep mSeen mPlans mBooks mTexted mIsKept mSpot mKeeps mMindStep mAt mWhat mWhole mIsBroken a1 a2 _ hw) (cwV 2 hts gX8_worth_X8_isPair rfl rfl rfl hdX8_isPair ⟨Nat.le_of_ble_eq_true rfl, Nat.le_of_ble_eq_true rfl⟩) hK hP [0] rfl rfl rfl rfl rfl hl.1 rfl (Nat.le_of_ble_eq_true rfl) ⟨Nat.le_of_ble_eq_true rfl, Nat.le_of_ble_eq_true rfl⟩ dX8_worth_3 (fun r1 hw => ?_)
  refine lv_if_ne (tgt := 11) hx hb dX8_worth_6 (by decide) (fun c2 => ?_) (fun c2 => ?_)
  · have hw := hw.1 c2
    refine lv_iload_n hx hb dX8_worth_11 rfl (lv_at hl 3 rfl) ?_
    refine lv_i2l hx hb dX8_worth_12 rfl ?_
    refine lv_ldc2 hx hb hown (hts (.constantLong RX8 167 (-1)) (List.mem_of_getElem? (i := 1) rfl)) dX8_worth_13 ?_
    refine lv_ldc2 hx hb hown (hts (.constantLong RX8 169 (99)) (List.mem_of_getElem? (i := 2) rfl)) dX8_worth_16 ?_
    refine bw_psi (wc := []) (As := [.long a3.toInt64, .long ((-1)), .long 99]) (rest := []) ⟨hx, hb, hml, hown, hts⟩ (mX8_in l dC dI cI cJ cT cII cJJ a3.toInt64 ((-1)) 99 _ hw) (va_cwS 3 hts gX8_worth_X8_in rfl rfl rfl hdX8_in ⟨Nat.le_of_ble_eq_true rfl, Nat.le_of_ble_eq_true rfl⟩) hK hP [] rfl rfl hl.1 rfl (Nat.le_of_ble_eq_true rfl) ⟨Nat.le_of_ble_eq_true rfl, Nat.le_of_ble_eq_true rfl⟩ dX8_worth_19 (fun r3 hw => ?_)
    refine lv_if_eq (tgt := 35) hx hb dX8_worth_22 (by decide) (fun c4 => ?_) (fun c4 => ?_)
    · have hw := hw.1 c4
      refine lv_bipush (v := (-2)) hx hb dX8_worth_35 (by decide) ?_
      exact W.iret (v := (-2)) hx hb hr (fun t ht hW => ⟨⟨(-2), (mWorth, mHas, mOwner), rfl, hw, by show va_P _ _ _ t.heap; rw [ht]; exact hP⟩, hS.F ht⟩) hS.2.2 dX8_worth_37
    · have hw := hw.2 c4
      refine lv_aload_n hx hb dX8_worth_25 rfl (lv_at hl 0 rfl) ?_
      refine lv_iload_n hx hb dX8_worth_26 rfl (lv_at hl 1 rfl) ?_
      refine lv_iload_n hx hb dX8_worth_27 rfl (lv_at hl 2 rfl) ?_
      refine lv_iload_n hx hb dX8_worth_28 rfl (lv_at hl 3 rfl) ?_
      refine bw_wvi (wc := (wdX8_becomes cI cJ cT cII cJJ ad mN mStep mSeen mPlans mBooks mTexted mIsKept mSpot mKeeps mMindStep mAt mWhat mWhole mIsBroken mWorth mHas mOwner)) (w1 := (fun (u : (Nat → Int32) × (Nat → Int32) × (Nat → Int32)) => wdX8_becomes cI cJ cT cII cJJ ad mN mStep mSeen mPlans mBooks mTexted mIsKept mSpot mKeeps mMindStep mAt mWhat mWhole mIsBroken u.1 u.2.1 u.2.2)) (As := [.int a1, .int a2, .int a3]) (rest := []) ⟨hx, hb, hml, hown, hts⟩ (mX8_becomes l dC dI cI cJ cT cII cJJ ad _ mN mStep mSeen mPlans mBooks mTexted mIsKept mSpot mKeeps mMindStep mAt mWhat mWhole mIsBroken mWorth mHas mOwner a1 a2 a3 _ hw) (cwV 3 hts gX8_worth_X8_becomes rfl rfl rfl hdX8_becomes ⟨Nat.le_of_ble_eq_true rfl, Nat.le_of_ble_eq_true rfl⟩) hK hP hD hS hA [0, 1, 2, 3] rfl (by decide) (fun _ => rfl) rfl rfl rfl rfl hl.1 rfl (Nat.le_of_ble_eq_true rfl) ⟨Nat.le_of_ble_eq_true rfl, Nat.le_of_ble_eq_true rfl⟩ dX8_worth_29 (fun r5 u H locs hw hP hD hS => ?_)
      obtain ⟨y6, y7, y8⟩ := u
      try dsimp only at hw
      have hP : va_P (dC, dI) vwCl (wdX8_worth cI cJ cT cII cJJ ad mN mStep mSeen mPlans mBooks mTexted mIsKept mSpot mKeeps mMindStep mAt mWhat mWhole mIsBroken y6 y7 y8) H := hP
      have hD : va_D A (wdX8_worth cI cJ cT cII cJJ ad mN mStep mSeen mPlans mBooks mTexted mIsKept mSpot mKeeps mMindStep mAt mWhat mWhole mIsBroken y6 y7 y8) := hD
      refine lv_goto (tgt := 37) hx hb dX8_worth_32 (by decide) ?_
      exact W.iret (v := r5) hx hb hr (fun t ht hW => ⟨⟨r5, (y6, y7, y8), rfl, hw, by show va_P _ _ _ t.heap; rw [ht]; exact hP⟩, hS.F ht⟩) hS.2.2 dX8_worth_37
  · have hw := hw.2 c2
    refine lv_iconst (v := (-1)) hx hb dX8_worth_9 (by decide) ?_
    exact W.iret (v := (-1)) hx hb hr (fun t ht hW => ⟨⟨(-1), (mWorth, mHas, mOwner), rfl, hw, by show va_P _ _ _ t.heap; rw [ht]; exact hP⟩, hS.F ht⟩) hS.2.2 dX8_worth_10
set_option maxHeartbeats 4000000 in
set_option maxRecDepth 100000 in
theorem mX8_step (l : Launch) (dC : Nat → ClassId) (dI : Nat → Nat → Nat) (cI cJ cT cII cJJ : ClassId) (ad : Nat → Nat) (sz : Nat) (mN : Int32) (mStep : Int32) (mSeen : Int32) (mPlans : Int32) (mBooks : Int32) (mTexted : Int32) (mIsKept : Int32) (mSpot : Int32) (mKeeps : Int32) (mMindStep : Int32) (mAt : Int32) (mWhat : Int32) (mWhole : Int32) (mIsBroken : Int32) (a1 : Int32) (Post : Int32 → Int32 → Prop) (hw : wpX8_step mStep a1 Post) : Met l yX8_step wsX8_step ({ frames := 1, cells := 0, slots := 0, locals := 25 } : Room) (va_Pc [.ref (ad 0), .int a1] (fun U => U.heap.size = sz ∧ va_P (dC, dI) vwCl (wdX8_step cI cJ cT cII cJJ ad mN mStep mSeen mPlans mBooks mTexted mIsKept mSpot mKeeps mMindStep mAt mWhat mWhole mIsBroken) U.heap ∧ va_K (dC, dI) vwCl (bw_tys cI cJ cT cII cJJ) U ∧ va_D (fun _ => True) (wdX8_step cI cJ cT cII cJJ ad mN mStep mSeen mPlans mBooks mTexted mIsKept mSpot mKeeps mMindStep mAt mWhat mWhole mIsBroken))) (va_Qi (fun (r : Int32) (u : Int32) => Post r u) (fun (u : Int32) t => va_P (dC, dI) vwCl (wdX8_step cI cJ cT cII cJJ ad mN u mSeen mPlans mBooks mTexted mIsKept mSpot mKeeps mMindStep mAt mWhat mWhole mIsBroken) t.heap) (va_A (wdX8_step cI cJ cT cII cJJ ad mN mStep mSeen mPlans mBooks mTexted mIsKept mSpot mKeeps mMindStep mAt mWhat mWhole mIsBroken) sz)) 0 0 (va_A (wdX8_step cI cJ cT cII cJJ ad mN mStep mSeen mPlans mBooks mTexted mIsKept mSpot mKeeps mMindStep mAt mWhat mWhole mIsBroken) sz) := by
  refine Met.ofW (cc := cX8_step) (maxL := 3) (ret := (some .int)) (by decide) rfl ?_
  intro p e s m args below meth c s₁ B hml hv
  obtain ⟨rfl, hsz, hP, hK, hD0⟩ := hv
  have hx := B.exec
  have hb := B.bytes
  have hr := B.returns
  have hts := atoms_spec (ws := wsX8_step) B.pre
  have hown : s.vm.findClass RX8 = some m.cls := findClass_of_methodNamed B.named
  have hlocks := B.notSynchronized
  subst hsz
  have hD := hD0.self (sz := s.heap.size)
  generalize hAe : va_A (wdX8_step cI cJ cT cII cJJ ad mN mStep mSeen mPlans mBooks mTexted mIsKept mSpot mKeeps mMindStep mAt mWhat mWhole mIsBroken) s.heap.size = A at hD ⊢
  have hA : ∀ q : Nat, s.heap.size ≤ q → A q := fun q h => by rw [← hAe]; exact Or.inr h
  have hS : va_S A s.heap s.heap [] := va_S.rf
  have hl := lv_entry ([.ref (ad 0), .int a1]) (n := 3) (Nat.le_of_ble_eq_true rfl)
  rw [lg_entry_eq]
  generalize (lg_sl ([.ref (ad 0), .int a1]) ++ List.replicate (3 - (lg_sl ([.ref (ad 0), .int a1])).length) Slot.unset).toArray = ls at hl ⊢
  have hl : lv_has ls 3 [(0, .ref (ad 0)), (1, .int a1)] := hl
  unfold wpX8_step at hw
  refine lv_iload_n hx hb dX8_step_0 rfl (lv_at hl 1 rfl) ?_
  refine lv_i2l hx hb dX8_step_1 rfl ?_
  refine lv_lconst (v := 1) hx hb dX8_step_2 (by decide) ?_
  refine lv_ldc2 hx hb hown (hts (.constantLong RX8 175 (50)) (List.mem_of_getElem? (i := 1) rfl)) dX8_step_3 ?_
  refine bw_psi (wc := []) (As := [.long a1.toInt64, .long 1, .long 50]) (rest := []) ⟨hx, hb, hml, hown, hts⟩ (mX8_in l dC dI cI cJ cT cII cJJ a1.toInt64 1 50 _ hw) (va_cwS 3 hts gX8_step_X8_in rfl rfl rfl hdX8_in ⟨Nat.le_of_ble_eq_true rfl, Nat.le_of_ble_eq_true rfl⟩) hK hP [] rfl rfl hl.1 rfl (Nat.le_of_ble_eq_true rfl) ⟨Nat.le_of_ble_eq_true rfl, Nat.le_of_ble_eq_true rfl⟩ dX8_step_6 (fun r1 hw => ?_)
  refine lv_if_ne (tgt := 15) hx hb dX8_step_9 (by decide) (fun c2 => ?_) (fun c2 => ?_)
  · have hw := hw.1 c2
    refine lv_aload_n hx hb dX8_step_15 rfl (lv_at hl 0 rfl) ?_
    refine va_get (D := (dC, dI)) (ci := 8) (v := .int mStep) (C := RX8) (T := TX8) (N := 36) hx hb hts (fun w h => List.mem_cons_of_mem _ (List.mem_append_right _ h)) hown hK hP 0 rfl rfl 1 (by decide) (hts (.fieldLink RX8 15 "BidMarketModel" "step" "I") (List.mem_of_getElem? (i := 2) rfl)) (fun _ h9 => h9) rfl dX8_step_16 ?_
    refine lv_istore_n (lv' := [(2, .int mStep), (0, .ref (ad 0)), (1, .int a1)]) hx hb dX8_step_19 rfl hl (by decide) rfl (fun ls hl => ?_)
    refine lv_aload_n hx hb dX8_step_20 rfl (lv_at hl 1 rfl) ?_
    refine lv_iload_n hx hb dX8_step_21 rfl (lv_at hl 2 rfl) ?_
    refine va_put (D := (dC, dI)) (ci := 8) (v := .int a1) (ty := .int) (C := RX8) (T := TX8) (N := 36) hx hb hts (fun w h => List.mem_cons_of_mem _ (List.mem_append_right _ h)) tyX8 tyX8_ok nmX8 hown hK hP hD hS 0 rfl rfl 1 (by decide) (hts (.fieldLink RX8 15 "BidMarketModel" "step" "I") (List.mem_of_getElem? (i := 2) rfl)) (fun _ h9 => h9) rfl (by decide +kernel) rfl rfl (Nat.le_of_ble_eq_true rfl) dX8_step_22 (fun H locs hP hD hS => ?_)
    have hP : va_P (dC, dI) vwCl (wdX8_step cI cJ cT cII cJJ ad mN a1 mSeen mPlans mBooks mTexted mIsKept mSpot mKeeps mMindStep mAt mWhat mWhole mIsBroken) H := hP
    have hD : va_D A (wdX8_step cI cJ cT cII cJJ ad mN a1 mSeen mPlans mBooks mTexted mIsKept mSpot mKeeps mMindStep mAt mWhat mWhole mIsBroken) := hD
    refine lv_iload_n hx hb dX8_step_25 rfl (lv_at hl 0 rfl) ?_
    exact W.iret (v := mStep) hx hb hr (fun t ht hW => ⟨⟨mStep, a1, rfl, hw, by show va_P _ _ _ t.heap; rw [ht]; exact hP⟩, hS.F ht⟩) hS.2.2 dX8_step_26
  · have hw := hw.2 c2
    refine lv_bipush (v := (-2)) hx hb dX8_step_12 (by decide) ?_
    exact W.iret (v := (-2)) hx hb hr (fun t ht hW => ⟨⟨(-2), mStep, rfl, hw, by show va_P _ _ _ t.heap; rw [ht]; exact hP⟩, hS.F ht⟩) hS.2.2 dX8_step_14
set_option maxHeartbeats 4000000 in
set_option maxRecDepth 100000 in
theorem mX8_here (l : Launch) (dC : Nat → ClassId) (dI : Nat → Nat → Nat) (cI cJ cT cII cJJ : ClassId) (ad : Nat → Nat) (mN : Int32) (mStep : Int32) (mSeen : Int32) (mPlans : Int32) (mBooks : Int32) (mTexted : Int32) (mIsKept : Int32) (mSpot : Int32) (mKeeps : Int32) (mMindStep : Int32) (mAt : Int32) (mWhat : Int32) (mWhole : Int32) (mIsBroken : Int32) (mText : Nat → Int32) (Post : Int32 → Prop) (hw : wpX8_here mTexted mAt mText Post) : Met l yX8_here wsX8_here ({ frames := 0, cells := 0, slots := 0, locals := 0 } : Room) (va_Pc [.ref (ad 0)] (fun U => va_P (dC, dI) vwCl (wdX8_here cI cJ cT cII cJJ ad mN mStep mSeen mPlans mBooks mTexted mIsKept mSpot mKeeps mMindStep mAt mWhat mWhole mIsBroken mText) U.heap ∧ va_K (dC, dI) vwCl (bw_tys cI cJ cT cII cJJ) U)) (vp_Si Post) 0 0 (fun _ => False) := by
  refine Met.ofW (cc := cX8_here) (maxL := 1) (ret := (some .int)) (by decide) rfl ?_
  intro p e s m args below meth c s₁ B hml hv
  obtain ⟨rfl, hP, hK⟩ := hv
  have hx := B.exec
  have hb := B.bytes
  have hr := B.returns
  have hts := atoms_spec (ws := wsX8_here) B.pre
  have hown : s.vm.findClass RX8 = some m.cls := findClass_of_methodNamed B.named
  have hlocks := B.notSynchronized
  have hl := lv_entry ([.ref (ad 0)]) (n := 1) (Nat.le_of_ble_eq_true rfl)
  rw [lg_entry_eq]
  generalize (lg_sl ([.ref (ad 0)]) ++ List.replicate (1 - (lg_sl ([.ref (ad 0)])).length) Slot.unset).toArray = ls at hl ⊢
  have hl : lv_has ls 1 [(0, .ref (ad 0))] := hl
  unfold wpX8_here at hw
  refine lv_aload_n hx hb dX8_here_0 rfl (lv_at hl 0 rfl) ?_
  refine va_get (D := (dC, dI)) (ci := 8) (v := .int mAt) (C := RX8) (T := TX8) (N := 36) hx hb hts (fun w h => List.mem_cons_of_mem _ (List.mem_append_right _ h)) hown hK hP 0 rfl rfl 27 (by decide) (hts (.fieldLink RX8 177 "BidMarketModel" "at" "I") (List.mem_of_getElem? (i := 1) rfl)) (fun _ h9 => h9) rfl dX8_here_1 ?_
  refine lv_aload_n hx hb dX8_here_4 rfl (lv_at hl 0 rfl) ?_
  refine va_get (D := (dC, dI)) (ci := 8) (v := .int mTexted) (C := RX8) (T := TX8) (N := 36) hx hb hts (fun w h => List.mem_cons_of_mem _ (List.mem_append_right _ h)) hown hK hP 0 rfl rfl 17 (by decide) (hts (.fieldLink RX8 180 "BidMarketModel" "texted" "I") (List.mem_of_getElem? (i := 2) rfl)) (fun _ h9 => h9) rfl dX8_here_5 ?_
  refine lv_icmp_ge (tgt := 23) hx hb dX8_here_8 (by decide) (fun c1 => ?_) (fun c1 => ?_)
  · have hw := hw.1 c1
    refine lv_iconst (v := (-1)) hx hb dX8_here_23 (by decide) ?_
    exact W.iret (v := (-1)) hx hb hr (fun t ht hW => ⟨(-1), rfl, hw, ht⟩) (fun _ h => by cases h) dX8_here_24
  · have hw := hw.2 c1
    refine lv_aload_n hx hb dX8_here_11 rfl (lv_at hl 0 rfl) ?_
    refine va_get (D := (dC, dI)) (ci := 8) (v := .ref (ad 12)) (C := RX8) (T := TX8) (N := 36) hx hb hts (fun w h => List.mem_cons_of_mem _ (List.mem_append_right _ h)) hown hK hP 0 rfl rfl 16 (by decide) (hts (.fieldLink RX8 52 "BidMarketModel" "text" "[I") (List.mem_of_getElem? (i := 3) rfl)) (fun _ h9 => h9) rfl dX8_here_12 ?_
    refine lv_aload_n hx hb dX8_here_15 rfl (lv_at hl 0 rfl) ?_
    refine va_get (D := (dC, dI)) (ci := 8) (v := .int mAt) (C := RX8) (T := TX8) (N := 36) hx hb hts (fun w h => List.mem_cons_of_mem _ (List.mem_append_right _ h)) hown hK hP 0 rfl rfl 27 (by decide) (hts (.fieldLink RX8 177 "BidMarketModel" "at" "I") (List.mem_of_getElem? (i := 1) rfl)) (fun _ h9 => h9) rfl dX8_here_16 ?_
    have h2 := hw.1
    have hw := hw.2
    refine va_iald hx hb hK hP 1 0 rfl rfl h2 dX8_here_19 ?_
    refine lv_goto (tgt := 24) hx hb dX8_here_20 (by decide) ?_
    exact W.iret (v := mText mAt.toNatClampNeg) hx hb hr (fun t ht hW => ⟨mText mAt.toNatClampNeg, rfl, hw, ht⟩) (fun _ h => by cases h) dX8_here_24
set_option maxHeartbeats 4000000 in
set_option maxRecDepth 100000 in
theorem mX8_takes (l : Launch) (dC : Nat → ClassId) (dI : Nat → Nat → Nat) (cI cJ cT cII cJJ : ClassId) (ad : Nat → Nat) (sz : Nat) (mN : Int32) (mStep : Int32) (mSeen : Int32) (mPlans : Int32) (mBooks : Int32) (mTexted : Int32) (mIsKept : Int32) (mSpot : Int32) (mKeeps : Int32) (mMindStep : Int32) (mAt : Int32) (mWhat : Int32) (mWhole : Int32) (mIsBroken : Int32) (mText : Nat → Int32) (a1 : Int32) (a2 : Int32) (Post : Int32 → Int32 → Int32 → Prop) (hw : wpX8_takes mTexted mAt mWhat mText a1 a2 Post) : Met l yX8_takes wsX8_takes ({ frames := 1, cells := 0, slots := 0, locals := 25 } : Room) (va_Pc [.ref (ad 0), .int a1, .int a2] (fun U => U.heap.size = sz ∧ va_P (dC, dI) vwCl (wdX8_takes cI cJ cT cII cJJ ad mN mStep mSeen mPlans mBooks mTexted mIsKept mSpot mKeeps mMindStep mAt mWhat mWhole mIsBroken mText) U.heap ∧ va_K (dC, dI) vwCl (bw_tys cI cJ cT cII cJJ) U ∧ va_D (fun _ => True) (wdX8_takes cI cJ cT cII cJJ ad mN mStep mSeen mPlans mBooks mTexted mIsKept mSpot mKeeps mMindStep mAt mWhat mWhole mIsBroken mText))) (va_Qi (fun (r : Int32) (u : Int32 × Int32) => Post r u.1 u.2) (fun (u : Int32 × Int32) t => va_P (dC, dI) vwCl (wdX8_takes cI cJ cT cII cJJ ad mN mStep mSeen mPlans mBooks mTexted mIsKept mSpot mKeeps mMindStep u.1 u.2 mWhole mIsBroken mText) t.heap) (va_A (wdX8_takes cI cJ cT cII cJJ ad mN mStep mSeen mPlans mBooks mTexted mIsKept mSpot mKeeps mMindStep mAt mWhat mWhole mIsBroken mText) sz)) 0 0 (va_A (wdX8_takes cI cJ cT cII cJJ ad mN mStep mSeen mPlans mBooks mTexted mIsKept mSpot mKeeps mMindStep mAt mWhat mWhole mIsBroken mText) sz) := by
  refine Met.ofW (cc := cX8_takes) (maxL := 4) (ret := (some .int)) (by decide) rfl ?_
  intro p e s m args below meth c s₁ B hml hv
  obtain ⟨rfl, hsz, hP, hK, hD0⟩ := hv
  have hx := B.exec
  have hb := B.bytes
  have hr := B.returns
  have hts := atoms_spec (ws := wsX8_takes) B.pre
  have hown : s.vm.findClass RX8 = some m.cls := findClass_of_methodNamed B.named
  have hlocks := B.notSynchronized
  subst hsz
  have hD := hD0.self (sz := s.heap.size)
  generalize hAe : va_A (wdX8_takes cI cJ cT cII cJJ ad mN mStep mSeen mPlans mBooks mTexted mIsKept mSpot mKeeps mMindStep mAt mWhat mWhole mIsBroken mText) s.heap.size = A at hD ⊢
  have hA : ∀ q : Nat, s.heap.size ≤ q → A q := fun q h => by rw [← hAe]; exact Or.inr h
  have hS : va_S A s.heap s.heap [] := va_S.rf
  have hl := lv_entry ([.ref (ad 0), .int a1, .int a2]) (n := 4) (Nat.le_of_ble_eq_true rfl)
  rw [lg_entry_eq]
  generalize (lg_sl ([.ref (ad 0), .int a1, .int a2]) ++ List.replicate (4 - (lg_sl ([.ref (ad 0), .int a1, .int a2])).length) Slot.unset).toArray = ls at hl ⊢
  have hl : lv_has ls 4 [(0, .ref (ad 0)), (1, .int a1), (2, .int a2)] := hl
  have kB40 : ∀ (s1 : Int32) (mAt : Int32) (mWhat : Int32), ∀ (H : Heap) (locs : List Loc), va_P (dC, dI) vwCl (wdX8_takes cI cJ cT cII cJJ ad mN mStep mSeen mPlans mBooks mTexted mIsKept mSpot mKeeps mMindStep mAt mWhat mWhole mIsBroken mText) H → va_D A (wdX8_takes cI cJ cT cII cJJ ad mN mStep mSeen mPlans mBooks mTexted mIsKept mSpot mKeeps mMindStep mAt mWhat mWhole mIsBroken mText) → va_S A s.heap H locs → ∀ ls : Array Slot, lv_has ls 4 [] → wpX8_takes_B40 mTexted mText a1 a2 Post s1 mAt mWhat → W p l e (headSpec wsX8_takes ({ frames := 1, cells := 0, slots := 0, locals := 25 } : Room)).room s m ([.ref (ad 0), .int a1, .int a2] : List Value).toArray below meth c H locs 0 0 (MQ below (va_Qi (fun (r : Int32) (u : Int32 × Int32) => Post r u.1 u.2) (fun (u : Int32 × Int32) t => va_P (dC, dI) vwCl (wdX8_takes cI cJ cT cII cJJ ad mN mStep mSeen mPlans mBooks mTexted mIsKept mSpot mKeeps mMindStep u.1 u.2 mWhole mIsBroken mText) t.heap) A) ([.ref (ad 0), .int a1, .int a2] : List Value).toArray s 0 0 A) (F0 m 40 ls [.int s1, .ref (ad 0)]) := by
    intro s1 mAt mWhat H locs hP hD hS ls hl hw
    unfold wpX8_takes_B40 at hw
    refine va_put (D := (dC, dI)) (ci := 8) (v := .int s1) (ty := .int) (C := RX8) (T := TX8) (N := 36) hx hb hts (fun w h => List.mem_cons_of_mem _ (List.mem_append_right _ h)) tyX8 tyX8_ok nmX8 hown hK hP hD hS 0 rfl rfl 28 (by decide) (hts (.fieldLink RX8 186 "BidMarketModel" "what" "I") (List.mem_of_getElem? (i := 1) rfl)) (fun _ h9 => h9) rfl (by decide +kernel) rfl rfl (Nat.le_of_ble_eq_true rfl) dX8_takes_40 (fun H locs hP hD hS => ?_)
    have hP : va_P (dC, dI) vwCl (wdX8_takes cI cJ cT cII cJJ ad mN mStep mSeen mPlans mBooks mTexted mIsKept mSpot mKeeps mMindStep mAt s1 mWhole mIsBroken mText) H := hP
    have hD : va_D A (wdX8_takes cI cJ cT cII cJJ ad mN mStep mSeen mPlans mBooks mTexted mIsKept mSpot mKeeps mMindStep mAt s1 mWhole mIsBroken mText) := hD
    refine lv_iconst (v := (-1)) hx hb dX8_takes_43 (by decide) ?_
    exact W.iret (v := (-1)) hx hb hr (fun t ht hW => ⟨⟨(-1), (mAt, s1), rfl, hw, by show va_P _ _ _ t.heap; rw [ht]; exact hP⟩, hS.F ht⟩) hS.2.2 dX8_takes_44
  have kB24 : ∀ (mAt : Int32) (mWhat : Int32), ∀ (H : Heap) (locs : List Loc), va_P (dC, dI) vwCl (wdX8_takes cI cJ cT cII cJJ ad mN mStep mSeen mPlans mBooks mTexted mIsKept mSpot mKeeps mMindStep mAt mWhat mWhole mIsBroken mText) H → va_D A (wdX8_takes cI cJ cT cII cJJ ad mN mStep mSeen mPlans mBooks mTexted mIsKept mSpot mKeeps mMindStep mAt mWhat mWhole mIsBroken mText) → va_S A s.heap H locs → ∀ ls : Array Slot, lv_has ls 4 [(0, .ref (ad 0))] → wpX8_takes_B24 mTexted mText a1 a2 Post mAt mWhat → W p l e (headSpec wsX8_takes ({ frames := 1, cells := 0, slots := 0, locals := 25 } : Room)).room s m ([.ref (ad 0), .int a1, .int a2] : List Value).toArray below meth c H locs 0 0 (MQ below (va_Qi (fun (r : Int32) (u : Int32 × Int32) => Post r u.1 u.2) (fun (u : Int32 × Int32) t => va_P (dC, dI) vwCl (wdX8_takes cI cJ cT cII cJJ ad mN mStep mSeen mPlans mBooks mTexted mIsKept mSpot mKeeps mMindStep u.1 u.2 mWhole mIsBroken mText) t.heap) A) ([.ref (ad 0), .int a1, .int a2] : List Value).toArray s 0 0 A) (F0 m 24 ls []) := by
    intro mAt mWhat H locs hP hD hS ls hl hw
    unfold wpX8_takes_B24 at hw
    refine lv_aload_n hx hb dX8_takes_24 rfl (lv_at hl 0 rfl) ?_
    refine lv_aload_n hx hb dX8_takes_25 rfl (lv_at hl 0 rfl) ?_
    refine va_get (D := (dC, dI)) (ci := 8) (v := .int mWhat) (C := RX8) (T := TX8) (N := 36) hx hb hts (fun w h => List.mem_cons_of_mem _ (List.mem_append_right _ h)) hown hK hP 0 rfl rfl 28 (by decide) (hts (.fieldLink RX8 186 "BidMarketModel" "what" "I") (List.mem_of_getElem? (i := 1) rfl)) (fun _ h9 => h9) rfl dX8_takes_26 ?_
    refine lv_if_ne (tgt := 36) hx hb dX8_takes_29 (by decide) (fun c3 => ?_) (fun c3 => ?_)
    · have hw := hw.1 c3
      refine lv_aload_n hx hb dX8_takes_36 rfl (lv_at hl 0 rfl) ?_
      refine va_get (D := (dC, dI)) (ci := 8) (v := .int mWhat) (C := RX8) (T := TX8) (N := 36) hx hb hts (fun w h => List.mem_cons_of_mem _ (List.mem_append_right _ h)) hown hK hP 0 rfl rfl 28 (by decide) (hts (.fieldLink RX8 186 "BidMarketModel" "what" "I") (List.mem_of_getElem? (i := 1) rfl)) (fun _ h9 => h9) rfl dX8_takes_37 ?_
      exact kB40 mWhat mAt mWhat _ _ hP hD hS ls (lv_sub hl [] rfl) hw
    · have hw := hw.2 c3
      refine lv_iconst (v := 1) hx hb dX8_takes_32 (by decide) ?_
      refine lv_goto (tgt := 40) hx hb dX8_takes_33 (by decide) ?_
      exact kB40 1 mAt mWhat _ _ hP hD hS ls (lv_sub hl [] rfl) hw
  unfold wpX8_takes at hw
  refine lv_aload_n hx hb dX8_takes_0 rfl (lv_at hl 0 rfl) ?_
  refine bw_pvi (wc := (wdX8_here cI cJ cT cII cJJ ad mN mStep mSeen mPlans mBooks mTexted mIsKept mSpot mKeeps mMindStep mAt mWhat mWhole mIsBroken mText)) (As := []) (rest := []) ⟨hx, hb, hml, hown, hts⟩ (mX8_here l dC dI cI cJ cT cII cJJ ad mN mStep mSeen mPlans mBooks mTexted mIsKept mSpot mKeeps mMindStep mAt mWhat mWhole mIsBroken mText _ hw) (cwV 0 hts gX8_takes_X8_here rfl rfl rfl hdX8_here ⟨Nat.le_of_ble_eq_true rfl, Nat.le_of_ble_eq_true rfl⟩) hK hP [0, 1] rfl rfl rfl rfl rfl hl.1 rfl (Nat.le_of_ble_eq_true rfl) ⟨Nat.le_of_ble_eq_true rfl, Nat.le_of_ble_eq_true rfl⟩ dX8_takes_1 (fun r1 hw => ?_)
  refine lv_istore_n (lv' := [(3, .int r1), (0, .ref (ad 0)), (1, .int a1), (2, .int a2)]) hx hb dX8_takes_4 rfl hl (by decide) rfl (fun ls hl => ?_)
  refine lv_aload_n hx hb dX8_takes_5 rfl (lv_at hl 1 rfl) ?_
  refine va_get (D := (dC, dI)) (ci := 8) (v := .int mWhat) (C := RX8) (T := TX8) (N := 36) hx hb hts (fun w h => List.mem_cons_of_mem _ (List.mem_append_right _ h)) hown hK hP 0 rfl rfl 28 (by decide) (hts (.fieldLink RX8 186 "BidMarketModel" "what" "I") (List.mem_of_getElem? (i := 1) rfl)) (fun _ h9 => h9) rfl dX8_takes_6 ?_
  refine lv_if_ne (tgt := 24) hx hb dX8_takes_9 (by decide) (fun c2 => ?_) (fun c2 => ?_)
  · have hw := hw.1 c2
    exact kB24 mAt mWhat _ _ hP hD hS ls (lv_sub hl [1] rfl) hw
  · have hw := hw.2 c2
    refine lv_iload_n hx hb dX8_takes_12 rfl (lv_at hl 0 rfl) ?_
    refine lv_i2l hx hb dX8_takes_13 rfl ?_
    refine lv_iload_n hx hb dX8_takes_14 rfl (lv_at hl 2 rfl) ?_
    refine lv_i2l hx hb dX8_takes_15 rfl ?_
    refine lv_iload_n hx hb dX8_takes_16 rfl (lv_at hl 3 rfl) ?_
    refine lv_i2l hx hb dX8_takes_17 rfl ?_
    refine bw_psi (wc := []) (As := [.long r1.toInt64, .long a1.toInt64, .long a2.toInt64]) (rest := []) ⟨hx, hb, hml, hown, hts⟩ (mX8_in l dC dI cI cJ cT cII cJJ r1.toInt64 a1.toInt64 a2.toInt64 _ hw) (va_cwS 3 hts gX8_takes_X8_in rfl rfl rfl hdX8_in ⟨Nat.le_of_ble_eq_true rfl, Nat.le_of_ble_eq_true rfl⟩) hK hP [] rfl rfl hl.1 rfl (Nat.le_of_ble_eq_true rfl) ⟨Nat.le_of_ble_eq_true rfl, Nat.le_of_ble_eq_true rfl⟩ dX8_takes_18 (fun r4 hw => ?_)
    refine lv_if_ne (tgt := 45) hx hb dX8_takes_21 (by decide) (fun c5 => ?_) (fun c5 => ?_)
    · have hw := hw.1 c5
      refine lv_aload_n hx hb dX8_takes_45 rfl (lv_at hl 1 rfl) ?_
      refine lv_dup hx hb dX8_takes_46 rfl ?_
      refine va_get (D := (dC, dI)) (ci := 8) (v := .int mAt) (C := RX8) (T := TX8) (N := 36) hx hb hts (fun w h => List.mem_cons_of_mem _ (List.mem_append_right _ h)) hown hK hP 0 rfl rfl 27 (by decide) (hts (.fieldLink RX8 177 "BidMarketModel" "at" "I") (List.mem_of_getElem? (i := 2) rfl)) (fun _ h9 => h9) rfl dX8_takes_47 ?_
      refine lv_iconst (v := 1) hx hb dX8_takes_50 (by decide) ?_
      refine lv_iadd hx hb dX8_takes_51 ?_
      refine va_put (D := (dC, dI)) (ci := 8) (v := .int (mAt + 1)) (ty := .int) (C := RX8) (T := TX8) (N := 36) hx hb hts (fun w h => List.mem_cons_of_mem _ (List.mem_append_right _ h)) tyX8 tyX8_ok nmX8 hown hK hP hD hS 0 rfl rfl 27 (by decide) (hts (.fieldLink RX8 177 "BidMarketModel" "at" "I") (List.mem_of_getElem? (i := 2) rfl)) (fun _ h9 => h9) rfl (by decide +kernel) rfl rfl (Nat.le_of_ble_eq_true rfl) dX8_takes_52 (fun H locs hP hD hS => ?_)
      have hP : va_P (dC, dI) vwCl (wdX8_takes cI cJ cT cII cJJ ad mN mStep mSeen mPlans mBooks mTexted mIsKept mSpot mKeeps mMindStep (mAt + 1) mWhat mWhole mIsBroken mText) H := hP
      have hD : va_D A (wdX8_takes cI cJ cT cII cJJ ad mN mStep mSeen mPlans mBooks mTexted mIsKept mSpot mKeeps mMindStep (mAt + 1) mWhat mWhole mIsBroken mText) := hD
      refine lv_iload_n hx hb dX8_takes_55 rfl (lv_at hl 0 rfl) ?_
      refine lv_iload_n hx hb dX8_takes_56 rfl (lv_at hl 2 rfl) ?_
      refine lv_isub hx hb dX8_takes_57 ?_
      exact W.iret (v := r1 - a1) hx hb hr (fun t ht hW => ⟨⟨r1 - a1, (mAt + 1, mWhat), rfl, hw, by show va_P _ _ _ t.heap; rw [ht]; exact hP⟩, hS.F ht⟩) hS.2.2 dX8_takes_58
    · have hw := hw.2 c5
      exact kB24 mAt mWhat _ _ hP hD hS ls (lv_sub hl [1] rfl) hw
set_option maxHeartbeats 4000000 in
set_option maxRecDepth 100000 in
theorem mX8_takesOne (l : Launch) (dC : Nat → ClassId) (dI : Nat → Nat → Nat) (cI cJ cT cII cJJ : ClassId) (ad : Nat → Nat) (sz : Nat) (mN : Int32) (mStep : Int32) (mSeen : Int32) (mPlans : Int32) (mBooks : Int32) (mTexted : Int32) (mIsKept : Int32) (mSpot : Int32) (mKeeps : Int32) (mMindStep : Int32) (mAt : Int32) (mWhat : Int32) (mWhole : Int32) (mIsBroken : Int32) (mText : Nat → Int32) (a1 : Int32) (a2 : Int32) (a3 : Int32) (Post : Int32 → Int32 → Int32 → Prop) (hw : wpX8_takesOne mN mTexted mAt mWhat mText a1 a2 a3 Post) : Met l yX8_takesOne wsX8_takesOne ({ frames := 2, cells := 0, slots := 0, locals := 48 } : Room) (va_Pc [.ref (ad 0), .int a1, .int a2, .int a3] (fun U => U.heap.size = sz ∧ va_P (dC, dI) vwCl (wdX8_takesOne cI cJ cT cII cJJ ad mN mStep mSeen mPlans mBooks mTexted mIsKept mSpot mKeeps mMindStep mAt mWhat mWhole mIsBroken mText) U.heap ∧ va_K (dC, dI) vwCl (bw_tys cI cJ cT cII cJJ) U ∧ va_D (fun _ => True) (wdX8_takesOne cI cJ cT cII cJJ ad mN mStep mSeen mPlans mBooks mTexted mIsKept mSpot mKeeps mMindStep mAt mWhat mWhole mIsBroken mText))) (va_Qi (fun (r : Int32) (u : Int32 × Int32) => Post r u.1 u.2) (fun (u : Int32 × Int32) t => va_P (dC, dI) vwCl (wdX8_takesOne cI cJ cT cII cJJ ad mN mStep mSeen mPlans mBooks mTexted mIsKept mSpot mKeeps mMindStep u.1 u.2 mWhole mIsBroken mText) t.heap) (va_A (wdX8_takesOne cI cJ cT cII cJJ ad mN mStep mSeen mPlans mBooks mTexted mIsKept mSpot mKeeps mMindStep mAt mWhat mWhole mIsBroken mText) sz)) 0 0 (va_A (wdX8_takesOne cI cJ cT cII cJJ ad mN mStep mSeen mPlans mBooks mTexted mIsKept mSpot mKeeps mMindStep mAt mWhat mWhole mIsBroken mText) sz) := by
  refine Met.ofW (cc := cX8_takesOne) (maxL := 5) (ret := (some .int)) (by decide) rfl ?_
  intro p e s m args below meth c s₁ B hml hv
  obtain ⟨rfl, hsz, hP, hK, hD0⟩ := hv
  have hx := B.exec
  have hb := B.bytes
  have hr := B.returns
  have hts := atoms_spec (ws := wsX8_takesOne) B.pre
  have hown : s.vm.findClass RX8 = some m.cls := findClass_of_methodNamed B.named
  have hlocks := B.notSynchronized
  subst hsz
  have hD := hD0.self (sz := s.heap.size)
  generalize hAe : va_A (wdX8_takesOne cI cJ cT cII cJJ ad mN mStep mSeen mPlans mBooks mTexted mIsKept mSpot mKeeps mMindStep mAt mWhat mWhole mIsBroken mText) s.heap.size = A at hD ⊢
  have hA : ∀ q : Nat, s.heap.size ≤ q → A q := fun q h => by rw [← hAe]; exact Or.inr h
  have hS : va_S A s.heap s.heap [] := va_S.rf
  have hl := lv_entry ([.ref (ad 0), .int a1, .int a2, .int a3]) (n := 5) (Nat.le_of_ble_eq_true rfl)
  rw [lg_entry_eq]
  generalize (lg_sl ([.ref (ad 0), .int a1, .int a2, .int a3]) ++ List.replicate (5 - (lg_sl ([.ref (ad 0), .int a1, .int a2, .int a3])).length) Slot.unset).toArray = ls at hl ⊢
  have hl : lv_has ls 5 [(0, .ref (ad 0)), (1, .int a1), (2, .int a2), (3, .int a3)] := hl
  unfold wpX8_takesOne at hw
  refine lv_aload_n hx hb dX8_takesOne_0 rfl (lv_at hl 0 rfl) ?_
  refine lv_iload_n hx hb dX8_takesOne_1 rfl (lv_at hl 1 rfl) ?_
  refine lv_iload_n hx hb dX8_takesOne_2 rfl (lv_at hl 2 rfl) ?_
  refine bw_wvi (wc := (wdX8_takes cI cJ cT cII cJJ ad mN mStep mSeen mPlans mBooks mTexted mIsKept mSpot mKeeps mMindStep mAt mWhat mWhole mIsBroken mText)) (w1 := (fun (u : Int32 × Int32) => wdX8_takes cI cJ cT cII cJJ ad mN mStep mSeen mPlans mBooks mTexted mIsKept mSpot mKeeps mMindStep u.1 u.2 mWhole mIsBroken mText)) (As := [.int a1, .int a2]) (rest := []) ⟨hx, hb, hml, hown, hts⟩ (mX8_takes l dC dI cI cJ cT cII cJJ ad _ mN mStep mSeen mPlans mBooks mTexted mIsKept mSpot mKeeps mMindStep mAt mWhat mWhole mIsBroken mText a1 a2 _ hw) (cwV 2 hts gX8_takesOne_X8_takes rfl rfl rfl hdX8_takes ⟨Nat.le_of_ble_eq_true rfl, Nat.le_of_ble_eq_true rfl⟩) hK hP hD hS hA [0, 1] rfl (by decide) (fun _ => rfl) rfl rfl rfl rfl hl.1 rfl (Nat.le_of_ble_eq_true rfl) ⟨Nat.le_of_ble_eq_true rfl, Nat.le_of_ble_eq_true rfl⟩ dX8_takesOne_3 (fun r1 u H locs hw hP hD hS => ?_)
  obtain ⟨y2, y3⟩ := u
  try dsimp only at hw
  have hP : va_P (dC, dI) vwCl (wdX8_takesOne cI cJ cT cII cJJ ad mN mStep mSeen mPlans mBooks mTexted mIsKept mSpot mKeeps mMindStep y2 y3 mWhole mIsBroken mText) H := hP
  have hD : va_D A (wdX8_takesOne cI cJ cT cII cJJ ad mN mStep mSeen mPlans mBooks mTexted mIsKept mSpot mKeeps mMindStep y2 y3 mWhole mIsBroken mText) := hD
  refine lv_istore (lv' := [(4, .int r1), (0, .ref (ad 0)), (1, .int a1), (2, .int a2), (3, .int a3)]) hx hb dX8_takesOne_6 hl (by decide) rfl (fun ls hl => ?_)
  refine lv_aload_n hx hb dX8_takesOne_8 rfl (lv_at hl 1 rfl) ?_
  refine va_get (D := (dC, dI)) (ci := 8) (v := .int y3) (C := RX8) (T := TX8) (N := 36) hx hb hts (fun w h => List.mem_cons_of_mem _ (List.mem_append_right _ h)) hown hK hP 0 rfl rfl 28 (by decide) (hts (.fieldLink RX8 186 "BidMarketModel" "what" "I") (List.mem_of_getElem? (i := 1) rfl)) (fun _ h9 => h9) rfl dX8_takesOne_9 ?_
  refine lv_if_ne (tgt := 39) hx hb dX8_takesOne_12 (by decide) (fun c4 => ?_) (fun c4 => ?_)
  · have hw := hw.1 c4
    refine lv_iload hx hb dX8_takesOne_39 (lv_at hl 0 rfl) ?_
    exact W.iret (v := r1) hx hb hr (fun t ht hW => ⟨⟨r1, (y2, y3), rfl, hw, by show va_P _ _ _ t.heap; rw [ht]; exact hP⟩, hS.F ht⟩) hS.2.2 dX8_takesOne_41
  · have hw := hw.2 c4
    refine lv_iload hx hb dX8_takesOne_15 (lv_at hl 0 rfl) ?_
    refine lv_aload_n hx hb dX8_takesOne_17 rfl (lv_at hl 1 rfl) ?_
    refine va_get (D := (dC, dI)) (ci := 8) (v := .int mN) (C := RX8) (T := TX8) (N := 36) hx hb hts (fun w h => List.mem_cons_of_mem _ (List.mem_append_right _ h)) hown hK hP 0 rfl rfl 0 (by decide) (hts (.fieldLink RX8 9 "BidMarketModel" "n" "I") (List.mem_of_getElem? (i := 2) rfl)) (fun _ h9 => h9) rfl dX8_takesOne_18 ?_
    refine lv_icmp_lt (tgt := 39) hx hb dX8_takesOne_21 (by decide) (fun c5 => ?_) (fun c5 => ?_)
    · have hw := hw.1 c5
      refine lv_iload hx hb dX8_takesOne_39 (lv_at hl 0 rfl) ?_
      exact W.iret (v := r1) hx hb hr (fun t ht hW => ⟨⟨r1, (y2, y3), rfl, hw, by show va_P _ _ _ t.heap; rw [ht]; exact hP⟩, hS.F ht⟩) hS.2.2 dX8_takesOne_41
    · have hw := hw.2 c5
      refine lv_aload_n hx hb dX8_takesOne_24 rfl (lv_at hl 1 rfl) ?_
      refine lv_dup hx hb dX8_takesOne_25 rfl ?_
      refine va_get (D := (dC, dI)) (ci := 8) (v := .int y2) (C := RX8) (T := TX8) (N := 36) hx hb hts (fun w h => List.mem_cons_of_mem _ (List.mem_append_right _ h)) hown hK hP 0 rfl rfl 27 (by decide) (hts (.fieldLink RX8 177 "BidMarketModel" "at" "I") (List.mem_of_getElem? (i := 3) rfl)) (fun _ h9 => h9) rfl dX8_takesOne_26 ?_
      refine lv_iconst (v := 1) hx hb dX8_takesOne_29 (by decide) ?_
      refine lv_isub hx hb dX8_takesOne_30 ?_
      refine va_put (D := (dC, dI)) (ci := 8) (v := .int (y2 - 1)) (ty := .int) (C := RX8) (T := TX8) (N := 36) hx hb hts (fun w h => List.mem_cons_of_mem _ (List.mem_append_right _ h)) tyX8 tyX8_ok nmX8 hown hK hP hD hS 0 rfl rfl 27 (by decide) (hts (.fieldLink RX8 177 "BidMarketModel" "at" "I") (List.mem_of_getElem? (i := 3) rfl)) (fun _ h9 => h9) rfl (by decide +kernel) rfl rfl (Nat.le_of_ble_eq_true rfl) dX8_takesOne_31 (fun H locs hP hD hS => ?_)
      have hP : va_P (dC, dI) vwCl (wdX8_takesOne cI cJ cT cII cJJ ad mN mStep mSeen mPlans mBooks mTexted mIsKept mSpot mKeeps mMindStep (y2 - 1) y3 mWhole mIsBroken mText) H := hP
      have hD : va_D A (wdX8_takesOne cI cJ cT cII cJJ ad mN mStep mSeen mPlans mBooks mTexted mIsKept mSpot mKeeps mMindStep (y2 - 1) y3 mWhole mIsBroken mText) := hD
      refine lv_aload_n hx hb dX8_takesOne_34 rfl (lv_at hl 1 rfl) ?_
      refine lv_iload_n hx hb dX8_takesOne_35 rfl (lv_at hl 4 rfl) ?_
      refine va_put (D := (dC, dI)) (ci := 8) (v := .int a3) (ty := .int) (C := RX8) (T := TX8) (N := 36) hx hb hts (fun w h => List.mem_cons_of_mem _ (List.mem_append_right _ h)) tyX8 tyX8_ok nmX8 hown hK hP hD hS 0 rfl rfl 28 (by decide) (hts (.fieldLink RX8 186 "BidMarketModel" "what" "I") (List.mem_of_getElem? (i := 1) rfl)) (fun _ h9 => h9) rfl (by decide +kernel) rfl rfl (Nat.le_of_ble_eq_true rfl) dX8_takesOne_36 (fun H locs hP hD hS => ?_)
      have hP : va_P (dC, dI) vwCl (wdX8_takesOne cI cJ cT cII cJJ ad mN mStep mSeen mPlans mBooks mTexted mIsKept mSpot mKeeps mMindStep (y2 - 1) a3 mWhole mIsBroken mText) H := hP
      have hD : va_D A (wdX8_takesOne cI cJ cT cII cJJ ad mN mStep mSeen mPlans mBooks mTexted mIsKept mSpot mKeeps mMindStep (y2 - 1) a3 mWhole mIsBroken mText) := hD
      refine lv_iload hx hb dX8_takesOne_39 (lv_at hl 0 rfl) ?_
      exact W.iret (v := r1) hx hb hr (fun t ht hW => ⟨⟨r1, (y2 - 1, a3), rfl, hw, by show va_P _ _ _ t.heap; rw [ht]; exact hP⟩, hS.F ht⟩) hS.2.2 dX8_takesOne_41
set_option maxHeartbeats 4000000 in
set_option maxRecDepth 100000 in
theorem mX8_takesWorth (l : Launch) (dC : Nat → ClassId) (dI : Nat → Nat → Nat) (cI cJ cT cII cJJ : ClassId) (ad : Nat → Nat) (sz : Nat) (mN : Int32) (mStep : Int32) (mSeen : Int32) (mPlans : Int32) (mBooks : Int32) (mTexted : Int32) (mIsKept : Int32) (mSpot : Int32) (mKeeps : Int32) (mMindStep : Int32) (mAt : Int32) (mWhat : Int32) (mWhole : Int32) (mIsBroken : Int32) (mText : Nat → Int32) (Post : Int32 → Int32 → Int32 → Prop) (hw : wpX8_takesWorth mTexted mAt mWhat mText Post) : Met l yX8_takesWorth wsX8_takesWorth ({ frames := 2, cells := 0, slots := 0, locals := 48 } : Room) (va_Pc [.ref (ad 0)] (fun U => U.heap.size = sz ∧ va_P (dC, dI) vwCl (wdX8_takesWorth cI cJ cT cII cJJ ad mN mStep mSeen mPlans mBooks mTexted mIsKept mSpot mKeeps mMindStep mAt mWhat mWhole mIsBroken mText) U.heap ∧ va_K (dC, dI) vwCl (bw_tys cI cJ cT cII cJJ) U ∧ va_D (fun _ => True) (wdX8_takesWorth cI cJ cT cII cJJ ad mN mStep mSeen mPlans mBooks mTexted mIsKept mSpot mKeeps mMindStep mAt mWhat mWhole mIsBroken mText))) (va_Qi (fun (r : Int32) (u : Int32 × Int32) => Post r u.1 u.2) (fun (u : Int32 × Int32) t => va_P (dC, dI) vwCl (wdX8_takesWorth cI cJ cT cII cJJ ad mN mStep mSeen mPlans mBooks mTexted mIsKept mSpot mKeeps mMindStep u.1 u.2 mWhole mIsBroken mText) t.heap) (va_A (wdX8_takesWorth cI cJ cT cII cJJ ad mN mStep mSeen mPlans mBooks mTexted mIsKept mSpot mKeeps mMindStep mAt mWhat mWhole mIsBroken mText) sz)) 0 0 (va_A (wdX8_takesWorth cI cJ cT cII cJJ ad mN mStep mSeen mPlans mBooks mTexted mIsKept mSpot mKeeps mMindStep mAt mWhat mWhole mIsBroken mText) sz) := by
  refine Met.ofW (cc := cX8_takesWorth) (maxL := 2) (ret := (some .int)) (by decide) rfl ?_
  intro p e s m args below meth c s₁ B hml hv
  obtain ⟨rfl, hsz, hP, hK, hD0⟩ := hv
  have hx := B.exec
  have hb := B.bytes
  have hr := B.returns
  have hts := atoms_spec (ws := wsX8_takesWorth) B.pre
  have hown : s.vm.findClass RX8 = some m.cls := findClass_of_methodNamed B.named
  have hlocks := B.notSynchronized
  subst hsz
  have hD := hD0.self (sz := s.heap.size)
  generalize hAe : va_A (wdX8_takesWorth cI cJ cT cII cJJ ad mN mStep mSeen mPlans mBooks mTexted mIsKept mSpot mKeeps mMindStep mAt mWhat mWhole mIsBroken mText) s.heap.size = A at hD ⊢
  have hA : ∀ q : Nat, s.heap.size ≤ q → A q := fun q h => by rw [← hAe]; exact Or.inr h
  have hS : va_S A s.heap s.heap [] := va_S.rf
  have hl := lv_entry ([.ref (ad 0)]) (n := 2) (Nat.le_of_ble_eq_true rfl)
  rw [lg_entry_eq]
  generalize (lg_sl ([.ref (ad 0)]) ++ List.replicate (2 - (lg_sl ([.ref (ad 0)])).length) Slot.unset).toArray = ls at hl ⊢
  have hl : lv_has ls 2 [(0, .ref (ad 0))] := hl
  unfold wpX8_takesWorth at hw
  refine lv_aload_n hx hb dX8_takesWorth_0 rfl (lv_at hl 0 rfl) ?_
  refine bw_pvi (wc := (wdX8_here cI cJ cT cII cJJ ad mN mStep mSeen mPlans mBooks mTexted mIsKept mSpot mKeeps mMindStep mAt mWhat mWhole mIsBroken mText)) (As := []) (rest := []) ⟨hx, hb, hml, hown, hts⟩ (mX8_here l dC dI cI cJ cT cII cJJ ad mN mStep mSeen mPlans mBooks mTexted mIsKept mSpot mKeeps mMindStep mAt mWhat mWhole mIsBroken mText _ hw) (cwV 0 hts gX8_takesWorth_X8_here rfl rfl rfl hdX8_here ⟨Nat.le_of_ble_eq_true rfl, Nat.le_of_ble_eq_true rfl⟩) hK hP [0, 1] rfl rfl rfl rfl rfl hl.1 rfl (Nat.le_of_ble_eq_true rfl) ⟨Nat.le_of_ble_eq_true rfl, Nat.le_of_ble_eq_true rfl⟩ dX8_takesWorth_1 (fun r1 hw => ?_)
  refine lv_bipush (v := 33) hx hb dX8_takesWorth_4 (by decide) ?_
  refine lv_icmp_ne (tgt := 21) hx hb dX8_takesWorth_6 (by decide) (fun c2 => ?_) (fun c2 => ?_)
  · have hw := hw.1 c2
    refine lv_aload_n hx hb dX8_takesWorth_21 rfl (lv_at hl 0 rfl) ?_
    refine lv_bipush (v := 61) hx hb dX8_takesWorth_22 (by decide) ?_
    refine lv_bipush (v := 61) hx hb dX8_takesWorth_24 (by decide) ?_
    refine bw_wvi (wc := (wdX8_takes cI cJ cT cII cJJ ad mN mStep mSeen mPlans mBooks mTexted mIsKept mSpot mKeeps mMindStep mAt mWhat mWhole mIsBroken mText)) (w1 := (fun (u : Int32 × Int32) => wdX8_takes cI cJ cT cII cJJ ad mN mStep mSeen mPlans mBooks mTexted mIsKept mSpot mKeeps mMindStep u.1 u.2 mWhole mIsBroken mText)) (As := [.int 61, .int 61]) (rest := []) ⟨hx, hb, hml, hown, hts⟩ (mX8_takes l dC dI cI cJ cT cII cJJ ad _ mN mStep mSeen mPlans mBooks mTexted mIsKept mSpot mKeeps mMindStep mAt mWhat mWhole mIsBroken mText 61 61 _ hw) (cwV 2 hts gX8_takesWorth_X8_takes rfl rfl rfl hdX8_takes ⟨Nat.le_of_ble_eq_true rfl, Nat.le_of_ble_eq_true rfl⟩) hK hP hD hS hA [0, 1] rfl (by decide) (fun _ => rfl) rfl rfl rfl rfl hl.1 rfl (Nat.le_of_ble_eq_true rfl) ⟨Nat.le_of_ble_eq_true rfl, Nat.le_of_ble_eq_true rfl⟩ dX8_takesWorth_26 (fun r3 u H locs hw hP hD hS => ?_)
    obtain ⟨y4, y5⟩ := u
    try dsimp only at hw
    have hP : va_P (dC, dI) vwCl (wdX8_takesWorth cI cJ cT cII cJJ ad mN mStep mSeen mPlans mBooks mTexted mIsKept mSpot mKeeps mMindStep y4 y5 mWhole mIsBroken mText) H := hP
    have hD : va_D A (wdX8_takesWorth cI cJ cT cII cJJ ad mN mStep mSeen mPlans mBooks mTexted mIsKept mSpot mKeeps mMindStep y4 y5 mWhole mIsBroken mText) := hD
    refine lv_pop hx hb dX8_takesWorth_29 rfl ?_
    refine lv_aload_n hx hb dX8_takesWorth_30 rfl (lv_at hl 0 rfl) ?_
    refine lv_bipush (v := 48) hx hb dX8_takesWorth_31 (by decide) ?_
    refine lv_bipush (v := 57) hx hb dX8_takesWorth_33 (by decide) ?_
    refine bw_wvi (wc := (wdX8_takes cI cJ cT cII cJJ ad mN mStep mSeen mPlans mBooks mTexted mIsKept mSpot mKeeps mMindStep y4 y5 mWhole mIsBroken mText)) (w1 := (fun (u : Int32 × Int32) => wdX8_takes cI cJ cT cII cJJ ad mN mStep mSeen mPlans mBooks mTexted mIsKept mSpot mKeeps mMindStep u.1 u.2 mWhole mIsBroken mText)) (As := [.int 48, .int 57]) (rest := []) ⟨hx, hb, hml, hown, hts⟩ (mX8_takes l dC dI cI cJ cT cII cJJ ad _ mN mStep mSeen mPlans mBooks mTexted mIsKept mSpot mKeeps mMindStep y4 y5 mWhole mIsBroken mText 48 57 _ hw) (cwV 2 hts gX8_takesWorth_X8_takes rfl rfl rfl hdX8_takes ⟨Nat.le_of_ble_eq_true rfl, Nat.le_of_ble_eq_true rfl⟩) hK hP hD hS hA [0, 1] rfl (by decide) (fun _ => rfl) rfl rfl rfl rfl hl.1 rfl (Nat.le_of_ble_eq_true rfl) ⟨Nat.le_of_ble_eq_true rfl, Nat.le_of_ble_eq_true rfl⟩ dX8_takesWorth_35 (fun r6 u H locs hw hP hD hS => ?_)
    obtain ⟨y7, y8⟩ := u
    try dsimp only at hw
    have hP : va_P (dC, dI) vwCl (wdX8_takesWorth cI cJ cT cII cJJ ad mN mStep mSeen mPlans mBooks mTexted mIsKept mSpot mKeeps mMindStep y7 y8 mWhole mIsBroken mText) H := hP
    have hD : va_D A (wdX8_takesWorth cI cJ cT cII cJJ ad mN mStep mSeen mPlans mBooks mTexted mIsKept mSpot mKeeps mMindStep y7 y8 mWhole mIsBroken mText) := hD
    refine lv_istore_n (lv' := [(1, .int r6), (0, .ref (ad 0))]) hx hb dX8_takesWorth_38 rfl hl (by decide) rfl (fun ls hl => ?_)
    refine lv_aload_n hx hb dX8_takesWorth_39 rfl (lv_at hl 1 rfl) ?_
    refine va_get (D := (dC, dI)) (ci := 8) (v := .int y8) (C := RX8) (T := TX8) (N := 36) hx hb hts (fun w h => List.mem_cons_of_mem _ (List.mem_append_right _ h)) hown hK hP 0 rfl rfl 28 (by decide) (hts (.fieldLink RX8 186 "BidMarketModel" "what" "I") (List.mem_of_getElem? (i := 2) rfl)) (fun _ h9 => h9) rfl dX8_takesWorth_40 ?_
    refine lv_if_ne (tgt := 77) hx hb dX8_takesWorth_43 (by decide) (fun c9 => ?_) (fun c9 => ?_)
    · have hw := hw.1 c9
      refine lv_iload_n hx hb dX8_takesWorth_77 rfl (lv_at hl 0 rfl) ?_
      exact W.iret (v := r6) hx hb hr (fun t ht hW => ⟨⟨r6, (y7, y8), rfl, hw, by show va_P _ _ _ t.heap; rw [ht]; exact hP⟩, hS.F ht⟩) hS.2.2 dX8_takesWorth_78
    · have hw := hw.2 c9
      refine lv_aload_n hx hb dX8_takesWorth_46 rfl (lv_at hl 1 rfl) ?_
      refine bw_pvi (wc := (wdX8_here cI cJ cT cII cJJ ad mN mStep mSeen mPlans mBooks mTexted mIsKept mSpot mKeeps mMindStep y7 y8 mWhole mIsBroken mText)) (As := []) (rest := []) ⟨hx, hb, hml, hown, hts⟩ (mX8_here l dC dI cI cJ cT cII cJJ ad mN mStep mSeen mPlans mBooks mTexted mIsKept mSpot mKeeps mMindStep y7 y8 mWhole mIsBroken mText _ hw) (cwV 0 hts gX8_takesWorth_X8_here rfl rfl rfl hdX8_here ⟨Nat.le_of_ble_eq_true rfl, Nat.le_of_ble_eq_true rfl⟩) hK hP [0, 1] rfl rfl rfl rfl rfl hl.1 rfl (Nat.le_of_ble_eq_true rfl) ⟨Nat.le_of_ble_eq_true rfl, Nat.le_of_ble_eq_true rfl⟩ dX8_takesWorth_47 (fun r10 hw => ?_)
      refine lv_i2l hx hb dX8_takesWorth_50 rfl ?_
      refine lv_ldc2 hx hb hown (hts (.constantLong RX8 192 (48)) (List.mem_of_getElem? (i := 3) rfl)) dX8_takesWorth_51 ?_
      refine lv_ldc2 hx hb hown (hts (.constantLong RX8 194 (57)) (List.mem_of_getElem? (i := 4) rfl)) dX8_takesWorth_54 ?_
      refine bw_psi (wc := []) (As := [.long r10.toInt64, .long 48, .long 57]) (rest := []) ⟨hx, hb, hml, hown, hts⟩ (mX8_in l dC dI cI cJ cT cII cJJ r10.toInt64 48 57 _ hw) (va_cwS 3 hts gX8_takesWorth_X8_in rfl rfl rfl hdX8_in ⟨Nat.le_of_ble_eq_true rfl, Nat.le_of_ble_eq_true rfl⟩) hK hP [] rfl rfl hl.1 rfl (Nat.le_of_ble_eq_true rfl) ⟨Nat.le_of_ble_eq_true rfl, Nat.le_of_ble_eq_true rfl⟩ dX8_takesWorth_57 (fun r11 hw => ?_)
      refine lv_if_eq (tgt := 77) hx hb dX8_takesWorth_60 (by decide) (fun c12 => ?_) (fun c12 => ?_)
      · have hw := hw.1 c12
        refine lv_iload_n hx hb dX8_takesWorth_77 rfl (lv_at hl 0 rfl) ?_
        exact W.iret (v := r6) hx hb hr (fun t ht hW => ⟨⟨r6, (y7, y8), rfl, hw, by show va_P _ _ _ t.heap; rw [ht]; exact hP⟩, hS.F ht⟩) hS.2.2 dX8_takesWorth_78
      · have hw := hw.2 c12
        refine lv_bipush (v := 10) hx hb dX8_takesWorth_63 (by decide) ?_
        refine lv_iload_n hx hb dX8_takesWorth_65 rfl (lv_at hl 0 rfl) ?_
        refine lv_imul hx hb dX8_takesWorth_66 ?_
        refine lv_aload_n hx hb dX8_takesWorth_67 rfl (lv_at hl 1 rfl) ?_
        refine lv_bipush (v := 48) hx hb dX8_takesWorth_68 (by decide) ?_
        refine lv_bipush (v := 57) hx hb dX8_takesWorth_70 (by decide) ?_
        refine bw_wvi (wc := (wdX8_takes cI cJ cT cII cJJ ad mN mStep mSeen mPlans mBooks mTexted mIsKept mSpot mKeeps mMindStep y7 y8 mWhole mIsBroken mText)) (w1 := (fun (u : Int32 × Int32) => wdX8_takes cI cJ cT cII cJJ ad mN mStep mSeen mPlans mBooks mTexted mIsKept mSpot mKeeps mMindStep u.1 u.2 mWhole mIsBroken mText)) (As := [.int 48, .int 57]) (rest := [.int (10 * r6)]) ⟨hx, hb, hml, hown, hts⟩ (mX8_takes l dC dI cI cJ cT cII cJJ ad _ mN mStep mSeen mPlans mBooks mTexted mIsKept mSpot mKeeps mMindStep y7 y8 mWhole mIsBroken mText 48 57 _ hw) (cwV 2 hts gX8_takesWorth_X8_takes rfl rfl rfl hdX8_takes ⟨Nat.le_of_ble_eq_true rfl, Nat.le_of_ble_eq_true rfl⟩) hK hP hD hS hA [0, 1] rfl (by decide) (fun _ => rfl) rfl rfl rfl rfl hl.1 rfl (Nat.le_of_ble_eq_true rfl) ⟨Nat.le_of_ble_eq_true rfl, Nat.le_of_ble_eq_true rfl⟩ dX8_takesWorth_72 (fun r13 u H locs hw hP hD hS => ?_)
        obtain ⟨y14, y15⟩ := u
        try dsimp only at hw
        have hP : va_P (dC, dI) vwCl (wdX8_takesWorth cI cJ cT cII cJJ ad mN mStep mSeen mPlans mBooks mTexted mIsKept mSpot mKeeps mMindStep y14 y15 mWhole mIsBroken mText) H := hP
        have hD : va_D A (wdX8_takesWorth cI cJ cT cII cJJ ad mN mStep mSeen mPlans mBooks mTexted mIsKept mSpot mKeeps mMindStep y14 y15 mWhole mIsBroken mText) := hD
        refine lv_iadd hx hb dX8_takesWorth_75 ?_
        refine lv_topi (fun x16 ex16 => ?_)
        have hw := hw x16 ex16
        refine lv_istore_n (lv' := [(1, .int x16), (0, .ref (ad 0))]) hx hb dX8_takesWorth_76 rfl hl (by decide) rfl (fun ls hl => ?_)
        refine lv_iload_n hx hb dX8_takesWorth_77 rfl (lv_at hl 0 rfl) ?_
        exact W.iret (v := x16) hx hb hr (fun t ht hW => ⟨⟨x16, (y14, y15), rfl, hw, by show va_P _ _ _ t.heap; rw [ht]; exact hP⟩, hS.F ht⟩) hS.2.2 dX8_takesWorth_78
  · have hw := hw.2 c2
    refine lv_aload_n hx hb dX8_takesWorth_9 rfl (lv_at hl 0 rfl) ?_
    refine lv_dup hx hb dX8_takesWorth_10 rfl ?_
    refine va_get (D := (dC, dI)) (ci := 8) (v := .int mAt) (C := RX8) (T := TX8) (N := 36) hx hb hts (fun w h => List.mem_cons_of_mem _ (List.mem_append_right _ h)) hown hK hP 0 rfl rfl 27 (by decide) (hts (.fieldLink RX8 177 "BidMarketModel" "at" "I") (List.mem_of_getElem? (i := 1) rfl)) (fun _ h9 => h9) rfl dX8_takesWorth_11 ?_
    refine lv_iconst (v := 1) hx hb dX8_takesWorth_14 (by decide) ?_
    refine lv_iadd hx hb dX8_takesWorth_15 ?_
    refine va_put (D := (dC, dI)) (ci := 8) (v := .int (mAt + 1)) (ty := .int) (C := RX8) (T := TX8) (N := 36) hx hb hts (fun w h => List.mem_cons_of_mem _ (List.mem_append_right _ h)) tyX8 tyX8_ok nmX8 hown hK hP hD hS 0 rfl rfl 27 (by decide) (hts (.fieldLink RX8 177 "BidMarketModel" "at" "I") (List.mem_of_getElem? (i := 1) rfl)) (fun _ h9 => h9) rfl (by decide +kernel) rfl rfl (Nat.le_of_ble_eq_true rfl) dX8_takesWorth_16 (fun H locs hP hD hS => ?_)
    have hP : va_P (dC, dI) vwCl (wdX8_takesWorth cI cJ cT cII cJJ ad mN mStep mSeen mPlans mBooks mTexted mIsKept mSpot mKeeps mMindStep (mAt + 1) mWhat mWhole mIsBroken mText) H := hP
    have hD : va_D A (wdX8_takesWorth cI cJ cT cII cJJ ad mN mStep mSeen mPlans mBooks mTexted mIsKept mSpot mKeeps mMindStep (mAt + 1) mWhat mWhole mIsBroken mText) := hD
    refine lv_iconst (v := (-1)) hx hb dX8_takesWorth_19 (by decide) ?_
    exact W.iret (v := (-1)) hx hb hr (fun t ht hW => ⟨⟨(-1), (mAt + 1, mWhat), rfl, hw, by show va_P _ _ _ t.heap; rw [ht]; exact hP⟩, hS.F ht⟩) hS.2.2 dX8_takesWorth_20
set_option maxHeartbeats 4000000 in
set_option maxRecDepth 100000 in
theorem mX8_clause (l : Launch) (dC : Nat → ClassId) (dI : Nat → Nat → Nat) (cI cJ cT cII cJJ : ClassId) (ad : Nat → Nat) (sz : Nat) (mN : Int32) (mStep : Int32) (mSeen : Int32) (mPlans : Int32) (mBooks : Int32) (mTexted : Int32) (mIsKept : Int32) (mSpot : Int32) (mKeeps : Int32) (mMindStep : Int32) (mAt : Int32) (mWhat : Int32) (mWhole : Int32) (mIsBroken : Int32) (mWorth : Nat → Int32) (mHas : Nat → Int32) (mOwner : Nat → Int32) (mText : Nat → Int32) (a1 : Int32) (Post : Int32 → Int32 → Int32 → (Nat → Int32) → (Nat → Int32) → (Nat → Int32) → Prop) (hw : wpX8_clause mN mTexted mAt mWhat mWhole mWorth mHas mOwner mText a1 Post) : Met l yX8_clause wsX8_clause ({ frames := 3, cells := 0, slots := 0, locals := 72 } : Room) (va_Pc [.ref (ad 0), .int a1] (fun U => U.heap.size = sz ∧ va_P (dC, dI) vwCl (wdX8_clause cI cJ cT cII cJJ ad mN mStep mSeen mPlans mBooks mTexted mIsKept mSpot mKeeps mMindStep mAt mWhat mWhole mIsBroken mWorth mHas mOwner mText) U.heap ∧ va_K (dC, dI) vwCl (bw_tys cI cJ cT cII cJJ) U ∧ va_D (fun _ => True) (wdX8_clause cI cJ cT cII cJJ ad mN mStep mSeen mPlans mBooks mTexted mIsKept mSpot mKeeps mMindStep mAt mWhat mWhole mIsBroken mWorth mHas mOwner mText))) (va_Qv (fun (u : Int32 × Int32 × Int32 × (Nat → Int32) × (Nat → Int32) × (Nat → Int32)) => Post u.1 u.2.1 u.2.2.1 u.2.2.2.1 u.2.2.2.2.1 u.2.2.2.2.2) (fun (u : Int32 × Int32 × Int32 × (Nat → Int32) × (Nat → Int32) × (Nat → Int32)) t => va_P (dC, dI) vwCl (wdX8_clause cI cJ cT cII cJJ ad mN mStep mSeen mPlans mBooks mTexted mIsKept mSpot mKeeps mMindStep u.1 u.2.1 u.2.2.1 mIsBroken u.2.2.2.1 u.2.2.2.2.1 u.2.2.2.2.2 mText) t.heap) (va_A (wdX8_clause cI cJ cT cII cJJ ad mN mStep mSeen mPlans mBooks mTexted mIsKept mSpot mKeeps mMindStep mAt mWhat mWhole mIsBroken mWorth mHas mOwner mText) sz)) 0 0 (va_A (wdX8_clause cI cJ cT cII cJJ ad mN mStep mSeen mPlans mBooks mTexted mIsKept mSpot mKeeps mMindStep mAt mWhat mWhole mIsBroken mWorth mHas mOwner mText) sz) := by
  refine Met.ofW (cc := cX8_clause) (maxL := 5) (ret := none) (by decide) rfl ?_
  intro p e s m args below meth c s₁ B hml hv
  obtain ⟨rfl, hsz, hP, hK, hD0⟩ := hv
  have hx := B.exec
  have hb := B.bytes
  have hr := B.returns
  have hts := atoms_spec (ws := wsX8_clause) B.pre
  have hown : s.vm.findClass RX8 = some m.cls := findClass_of_methodNamed B.named
  have hlocks := B.notSynchronized
  subst hsz
  have hD := hD0.self (sz := s.heap.size)
  generalize hAe : va_A (wdX8_clause cI cJ cT cII cJJ ad mN mStep mSeen mPlans mBooks mTexted mIsKept mSpot mKeeps mMindStep mAt mWhat mWhole mIsBroken mWorth mHas mOwner mText) s.heap.size = A at hD ⊢
  have hA : ∀ q : Nat, s.heap.size ≤ q → A q := fun q h => by rw [← hAe]; exact Or.inr h
  have hS : va_S A s.heap s.heap [] := va_S.rf
  have hl := lv_entry ([.ref (ad 0), .int a1]) (n := 5) (Nat.le_of_ble_eq_true rfl)
  rw [lg_entry_eq]
  generalize (lg_sl ([.ref (ad 0), .int a1]) ++ List.replicate (5 - (lg_sl ([.ref (ad 0), .int a1])).length) Slot.unset).toArray = ls at hl ⊢
  have hl : lv_has ls 5 [(0, .ref (ad 0)), (1, .int a1)] := hl
  have kB46 : ∀ (v2 : Int32) (v3 : Int32) (s0 : Int32) (mAt : Int32) (mWhat : Int32) (mWhole : Int32) (mWorth : Nat → Int32) (mHas : Nat → Int32) (mOwner : Nat → Int32), ∀ (H : Heap) (locs : List Loc), va_P (dC, dI) vwCl (wdX8_clause cI cJ cT cII cJJ ad mN mStep mSeen mPlans mBooks mTexted mIsKept mSpot mKeeps mMindStep mAt mWhat mWhole mIsBroken mWorth mHas mOwner mText) H → va_D A (wdX8_clause cI cJ cT cII cJJ ad mN mStep mSeen mPlans mBooks mTexted mIsKept mSpot mKeeps mMindStep mAt mWhat mWhole mIsBroken mWorth mHas mOwner mText) → va_S A s.heap H locs → ∀ ls : Array Slot, lv_has ls 5 [(0, .ref (ad 0)), (1, .int a1), (2, .int v2), (3, .int v3)] → wpX8_clause_B46 mN mTexted mText a1 Post v2 v3 s0 mAt mWhat mWhole mWorth mHas mOwner → W p l e (headSpec wsX8_clause ({ frames := 3, cells := 0, slots := 0, locals := 72 } : Room)).room s m ([.ref (ad 0), .int a1] : List Value).toArray below meth c H locs 0 0 (MQ below (va_Qv (fun (u : Int32 × Int32 × Int32 × (Nat → Int32) × (Nat → Int32) × (Nat → Int32)) => Post u.1 u.2.1 u.2.2.1 u.2.2.2.1 u.2.2.2.2.1 u.2.2.2.2.2) (fun (u : Int32 × Int32 × Int32 × (Nat → Int32) × (Nat → Int32) × (Nat → Int32)) t => va_P (dC, dI) vwCl (wdX8_clause cI cJ cT cII cJJ ad mN mStep mSeen mPlans mBooks mTexted mIsKept mSpot mKeeps mMindStep u.1 u.2.1 u.2.2.1 mIsBroken u.2.2.2.1 u.2.2.2.2.1 u.2.2.2.2.2 mText) t.heap) A) ([.ref (ad 0), .int a1] : List Value).toArray s 0 0 A) (F0 m 46 ls [.int s0]) := by
    intro v2 v3 s0 mAt mWhat mWhole mWorth mHas mOwner H locs hP hD hS ls hl hw
    unfold wpX8_clause_B46 at hw
    refine lv_istore (lv' := [(4, .int s0), (0, .ref (ad 0)), (1, .int a1), (2, .int v2), (3, .int v3)]) hx hb dX8_clause_46 hl (by decide) rfl (fun ls hl => ?_)
    refine lv_aload_n hx hb dX8_clause_48 rfl (lv_at hl 1 rfl) ?_
    refine va_get (D := (dC, dI)) (ci := 8) (v := .int mWhat) (C := RX8) (T := TX8) (N := 36) hx hb hts (fun w h => List.mem_cons_of_mem _ (List.mem_append_right _ h)) hown hK hP 0 rfl rfl 28 (by decide) (hts (.fieldLink RX8 186 "BidMarketModel" "what" "I") (List.mem_of_getElem? (i := 1) rfl)) (fun _ h9 => h9) rfl dX8_clause_49 ?_
    refine lv_if_eq (tgt := 56) hx hb dX8_clause_52 (by decide) (fun c6 => ?_) (fun c6 => ?_)
    · have hw := hw.1 c6
      refine lv_aload_n hx hb dX8_clause_56 rfl (lv_at hl 1 rfl) ?_
      refine lv_dup hx hb dX8_clause_57 rfl ?_
      refine va_get (D := (dC, dI)) (ci := 8) (v := .int mWhole) (C := RX8) (T := TX8) (N := 36) hx hb hts (fun w h => List.mem_cons_of_mem _ (List.mem_append_right _ h)) hown hK hP 0 rfl rfl 29 (by decide) (hts (.fieldLink RX8 202 "BidMarketModel" "whole" "I") (List.mem_of_getElem? (i := 2) rfl)) (fun _ h9 => h9) rfl dX8_clause_58 ?_
      refine lv_iconst (v := 1) hx hb dX8_clause_61 (by decide) ?_
      refine lv_iadd hx hb dX8_clause_62 ?_
      refine va_put (D := (dC, dI)) (ci := 8) (v := .int (mWhole + 1)) (ty := .int) (C := RX8) (T := TX8) (N := 36) hx hb hts (fun w h => List.mem_cons_of_mem _ (List.mem_append_right _ h)) tyX8 tyX8_ok nmX8 hown hK hP hD hS 0 rfl rfl 29 (by decide) (hts (.fieldLink RX8 202 "BidMarketModel" "whole" "I") (List.mem_of_getElem? (i := 2) rfl)) (fun _ h9 => h9) rfl (by decide +kernel) rfl rfl (Nat.le_of_ble_eq_true rfl) dX8_clause_63 (fun H locs hP hD hS => ?_)
      have hP : va_P (dC, dI) vwCl (wdX8_clause cI cJ cT cII cJJ ad mN mStep mSeen mPlans mBooks mTexted mIsKept mSpot mKeeps mMindStep mAt mWhat (mWhole + 1) mIsBroken mWorth mHas mOwner mText) H := hP
      have hD : va_D A (wdX8_clause cI cJ cT cII cJJ ad mN mStep mSeen mPlans mBooks mTexted mIsKept mSpot mKeeps mMindStep mAt mWhat (mWhole + 1) mIsBroken mWorth mHas mOwner mText) := hD
      refine lv_iload_n hx hb dX8_clause_66 rfl (lv_at hl 2 rfl) ?_
      refine lv_if_eq (tgt := 79) hx hb dX8_clause_67 (by decide) (fun c7 => ?_) (fun c7 => ?_)
      · have hw := hw.1 c7
        exact W.vret hx hb hr (fun t ht hW => ⟨⟨(mAt, mWhat, mWhole + 1, mWorth, mHas, mOwner), rfl, hw, by show va_P _ _ _ t.heap; rw [ht]; exact hP⟩, hS.F ht⟩) hS.2.2 dX8_clause_79
      · have hw := hw.2 c7
        refine lv_aload_n hx hb dX8_clause_70 rfl (lv_at hl 1 rfl) ?_
        refine lv_iload_n hx hb dX8_clause_71 rfl (lv_at hl 3 rfl) ?_
        refine lv_iload_n hx hb dX8_clause_72 rfl (lv_at hl 4 rfl) ?_
        refine lv_iload hx hb dX8_clause_73 (lv_at hl 0 rfl) ?_
        refine bw_wvi (wc := (wdX8_becomes cI cJ cT cII cJJ ad mN mStep mSeen mPlans mBooks mTexted mIsKept mSpot mKeeps mMindStep mAt mWhat (mWhole + 1) mIsBroken mWorth mHas mOwner)) (w1 := (fun (u : (Nat → Int32) × (Nat → Int32) × (Nat → Int32)) => wdX8_becomes cI cJ cT cII cJJ ad mN mStep mSeen mPlans mBooks mTexted mIsKept mSpot mKeeps mMindStep mAt mWhat (mWhole + 1) mIsBroken u.1 u.2.1 u.2.2)) (As := [.int v2, .int v3, .int s0]) (rest := []) ⟨hx, hb, hml, hown, hts⟩ (mX8_becomes l dC dI cI cJ cT cII cJJ ad _ mN mStep mSeen mPlans mBooks mTexted mIsKept mSpot mKeeps mMindStep mAt mWhat (mWhole + 1) mIsBroken mWorth mHas mOwner v2 v3 s0 _ hw) (cwV 3 hts gX8_clause_X8_becomes rfl rfl rfl hdX8_becomes ⟨Nat.le_of_ble_eq_true rfl, Nat.le_of_ble_eq_true rfl⟩) hK hP hD hS hA [0, 1, 2, 3] rfl (by decide) (fun _ => rfl) rfl rfl rfl rfl hl.1 rfl (Nat.le_of_ble_eq_true rfl) ⟨Nat.le_of_ble_eq_true rfl, Nat.le_of_ble_eq_true rfl⟩ dX8_clause_75 (fun r8 u H locs hw hP hD hS => ?_)
        obtain ⟨y9, y10, y11⟩ := u
        try dsimp only at hw
        have hP : va_P (dC, dI) vwCl (wdX8_clause cI cJ cT cII cJJ ad mN mStep mSeen mPlans mBooks mTexted mIsKept mSpot mKeeps mMindStep mAt mWhat (mWhole + 1) mIsBroken y9 y10 y11 mText) H := hP
        have hD : va_D A (wdX8_clause cI cJ cT cII cJJ ad mN mStep mSeen mPlans mBooks mTexted mIsKept mSpot mKeeps mMindStep mAt mWhat (mWhole + 1) mIsBroken y9 y10 y11 mText) := hD
        refine lv_pop hx hb dX8_clause_78 rfl ?_
        exact W.vret hx hb hr (fun t ht hW => ⟨⟨(mAt, mWhat, mWhole + 1, y9, y10, y11), rfl, hw, by show va_P _ _ _ t.heap; rw [ht]; exact hP⟩, hS.F ht⟩) hS.2.2 dX8_clause_79
    · have hw := hw.2 c6
      exact W.vret hx hb hr (fun t ht hW => ⟨⟨(mAt, mWhat, mWhole, mWorth, mHas, mOwner), rfl, hw, by show va_P _ _ _ t.heap; rw [ht]; exact hP⟩, hS.F ht⟩) hS.2.2 dX8_clause_55
  have kB30 : ∀ (v2 : Int32) (s0 : Int32) (mAt : Int32) (mWhat : Int32) (mWhole : Int32) (mWorth : Nat → Int32) (mHas : Nat → Int32) (mOwner : Nat → Int32), ∀ (H : Heap) (locs : List Loc), va_P (dC, dI) vwCl (wdX8_clause cI cJ cT cII cJJ ad mN mStep mSeen mPlans mBooks mTexted mIsKept mSpot mKeeps mMindStep mAt mWhat mWhole mIsBroken mWorth mHas mOwner mText) H → va_D A (wdX8_clause cI cJ cT cII cJJ ad mN mStep mSeen mPlans mBooks mTexted mIsKept mSpot mKeeps mMindStep mAt mWhat mWhole mIsBroken mWorth mHas mOwner mText) → va_S A s.heap H locs → ∀ ls : Array Slot, lv_has ls 5 [(0, .ref (ad 0)), (1, .int a1), (2, .int v2)] → wpX8_clause_B30 mN mTexted mText a1 Post v2 s0 mAt mWhat mWhole mWorth mHas mOwner → W p l e (headSpec wsX8_clause ({ frames := 3, cells := 0, slots := 0, locals := 72 } : Room)).room s m ([.ref (ad 0), .int a1] : List Value).toArray below meth c H locs 0 0 (MQ below (va_Qv (fun (u : Int32 × Int32 × Int32 × (Nat → Int32) × (Nat → Int32) × (Nat → Int32)) => Post u.1 u.2.1 u.2.2.1 u.2.2.2.1 u.2.2.2.2.1 u.2.2.2.2.2) (fun (u : Int32 × Int32 × Int32 × (Nat → Int32) × (Nat → Int32) × (Nat → Int32)) t => va_P (dC, dI) vwCl (wdX8_clause cI cJ cT cII cJJ ad mN mStep mSeen mPlans mBooks mTexted mIsKept mSpot mKeeps mMindStep u.1 u.2.1 u.2.2.1 mIsBroken u.2.2.2.1 u.2.2.2.2.1 u.2.2.2.2.2 mText) t.heap) A) ([.ref (ad 0), .int a1] : List Value).toArray s 0 0 A) (F0 m 30 ls [.int s0]) := by
    intro v2 s0 mAt mWhat mWhole mWorth mHas mOwner H locs hP hD hS ls hl hw
    unfold wpX8_clause_B30 at hw
    refine lv_istore_n (lv' := [(3, .int s0), (0, .ref (ad 0)), (1, .int a1), (2, .int v2)]) hx hb dX8_clause_30 rfl hl (by decide) rfl (fun ls hl => ?_)
    refine lv_aload_n hx hb dX8_clause_31 rfl (lv_at hl 1 rfl) ?_
    refine va_get (D := (dC, dI)) (ci := 8) (v := .int mWhat) (C := RX8) (T := TX8) (N := 36) hx hb hts (fun w h => List.mem_cons_of_mem _ (List.mem_append_right _ h)) hown hK hP 0 rfl rfl 28 (by decide) (hts (.fieldLink RX8 186 "BidMarketModel" "what" "I") (List.mem_of_getElem? (i := 1) rfl)) (fun _ h9 => h9) rfl dX8_clause_32 ?_
    refine lv_if_ne (tgt := 45) hx hb dX8_clause_35 (by decide) (fun c5 => ?_) (fun c5 => ?_)
    · have hw := hw.1 c5
      refine lv_iconst (v := (-1)) hx hb dX8_clause_45 (by decide) ?_
      exact kB46 v2 s0 ((-1)) mAt mWhat mWhole mWorth mHas mOwner _ _ hP hD hS ls (lv_sub hl [1, 2, 3, 0] rfl) hw
    · have hw := hw.2 c5
      refine lv_aload_n hx hb dX8_clause_38 rfl (lv_at hl 1 rfl) ?_
      refine bw_wvi (wc := (wdX8_takesWorth cI cJ cT cII cJJ ad mN mStep mSeen mPlans mBooks mTexted mIsKept mSpot mKeeps mMindStep mAt mWhat mWhole mIsBroken mText)) (w1 := (fun (u : Int32 × Int32) => wdX8_takesWorth cI cJ cT cII cJJ ad mN mStep mSeen mPlans mBooks mTexted mIsKept mSpot mKeeps mMindStep u.1 u.2 mWhole mIsBroken mText)) (As := []) (rest := []) ⟨hx, hb, hml, hown, hts⟩ (mX8_takesWorth l dC dI cI cJ cT cII cJJ ad _ mN mStep mSeen mPlans mBooks mTexted mIsKept mSpot mKeeps mMindStep mAt mWhat mWhole mIsBroken mText _ hw) (cwV 0 hts gX8_clause_X8_takesWorth rfl rfl rfl hdX8_takesWorth ⟨Nat.le_of_ble_eq_true rfl, Nat.le_of_ble_eq_true rfl⟩) hK hP hD hS hA [0, 4] rfl (by decide) (fun _ => rfl) rfl rfl rfl rfl hl.1 rfl (Nat.le_of_ble_eq_true rfl) ⟨Nat.le_of_ble_eq_true rfl, Nat.le_of_ble_eq_true rfl⟩ dX8_clause_39 (fun r12 u H locs hw hP hD hS => ?_)
      obtain ⟨y13, y14⟩ := u
      try dsimp only at hw
      have hP : va_P (dC, dI) vwCl (wdX8_clause cI cJ cT cII cJJ ad mN mStep mSeen mPlans mBooks mTexted mIsKept mSpot mKeeps mMindStep y13 y14 mWhole mIsBroken mWorth mHas mOwner mText) H := hP
      have hD : va_D A (wdX8_clause cI cJ cT cII cJJ ad mN mStep mSeen mPlans mBooks mTexted mIsKept mSpot mKeeps mMindStep y13 y14 mWhole mIsBroken mWorth mHas mOwner mText) := hD
      refine lv_goto (tgt := 46) hx hb dX8_clause_42 (by decide) ?_
      exact kB46 v2 s0 r12 y13 y14 mWhole mWorth mHas mOwner _ _ hP hD hS ls (lv_sub hl [1, 2, 3, 0] rfl) hw
  unfold wpX8_clause at hw
  refine lv_aload_n hx hb dX8_clause_0 rfl (lv_at hl 0 rfl) ?_
  refine lv_bipush (v := 97) hx hb dX8_clause_1 (by decide) ?_
  refine lv_bipush (v := 104) hx hb dX8_clause_3 (by decide) ?_
  refine lv_iconst (v := 2) hx hb dX8_clause_5 (by decide) ?_
  refine bw_wvi (wc := (wdX8_takesOne cI cJ cT cII cJJ ad mN mStep mSeen mPlans mBooks mTexted mIsKept mSpot mKeeps mMindStep mAt mWhat mWhole mIsBroken mText)) (w1 := (fun (u : Int32 × Int32) => wdX8_takesOne cI cJ cT cII cJJ ad mN mStep mSeen mPlans mBooks mTexted mIsKept mSpot mKeeps mMindStep u.1 u.2 mWhole mIsBroken mText)) (As := [.int 97, .int 104, .int 2]) (rest := []) ⟨hx, hb, hml, hown, hts⟩ (mX8_takesOne l dC dI cI cJ cT cII cJJ ad _ mN mStep mSeen mPlans mBooks mTexted mIsKept mSpot mKeeps mMindStep mAt mWhat mWhole mIsBroken mText 97 104 2 _ hw) (cwV 3 hts gX8_clause_X8_takesOne rfl rfl rfl hdX8_takesOne ⟨Nat.le_of_ble_eq_true rfl, Nat.le_of_ble_eq_true rfl⟩) hK hP hD hS hA [0, 4] rfl (by decide) (fun _ => rfl) rfl rfl rfl rfl hl.1 rfl (Nat.le_of_ble_eq_true rfl) ⟨Nat.le_of_ble_eq_true rfl, Nat.le_of_ble_eq_true rfl⟩ dX8_clause_6 (fun r1 u H locs hw hP hD hS => ?_)
  obtain ⟨y2, y3⟩ := u
  try dsimp only at hw
  have hP : va_P (dC, dI) vwCl (wdX8_clause cI cJ cT cII cJJ ad mN mStep mSeen mPlans mBooks mTexted mIsKept mSpot mKeeps mMindStep y2 y3 mWhole mIsBroken mWorth mHas mOwner mText) H := hP
  have hD : va_D A (wdX8_clause cI cJ cT cII cJJ ad mN mStep mSeen mPlans mBooks mTexted mIsKept mSpot mKeeps mMindStep y2 y3 mWhole mIsBroken mWorth mHas mOwner mText) := hD
  refine lv_istore_n (lv' := [(2, .int r1), (0, .ref (ad 0)), (1, .int a1)]) hx hb dX8_clause_9 rfl hl (by decide) rfl (fun ls hl => ?_)
  refine lv_aload_n hx hb dX8_clause_10 rfl (lv_at hl 1 rfl) ?_
  refine va_get (D := (dC, dI)) (ci := 8) (v := .int y3) (C := RX8) (T := TX8) (N := 36) hx hb hts (fun w h => List.mem_cons_of_mem _ (List.mem_append_right _ h)) hown hK hP 0 rfl rfl 28 (by decide) (hts (.fieldLink RX8 186 "BidMarketModel" "what" "I") (List.mem_of_getElem? (i := 1) rfl)) (fun _ h9 => h9) rfl dX8_clause_11 ?_
  refine lv_if_ne (tgt := 29) hx hb dX8_clause_14 (by decide) (fun c4 => ?_) (fun c4 => ?_)
  · have hw := hw.1 c4
    refine lv_iconst (v := (-1)) hx hb dX8_clause_29 (by decide) ?_
    exact kB30 r1 ((-1)) y2 y3 mWhole mWorth mHas mOwner _ _ hP hD hS ls (lv_sub hl [1, 2, 0] rfl) hw
  · have hw := hw.2 c4
    refine lv_aload_n hx hb dX8_clause_17 rfl (lv_at hl 1 rfl) ?_
    refine lv_bipush (v := 48) hx hb dX8_clause_18 (by decide) ?_
    refine lv_bipush (v := 55) hx hb dX8_clause_20 (by decide) ?_
    refine lv_iconst (v := 3) hx hb dX8_clause_22 (by decide) ?_
    refine bw_wvi (wc := (wdX8_takesOne cI cJ cT cII cJJ ad mN mStep mSeen mPlans mBooks mTexted mIsKept mSpot mKeeps mMindStep y2 y3 mWhole mIsBroken mText)) (w1 := (fun (u : Int32 × Int32) => wdX8_takesOne cI cJ cT cII cJJ ad mN mStep mSeen mPlans mBooks mTexted mIsKept mSpot mKeeps mMindStep u.1 u.2 mWhole mIsBroken mText)) (As := [.int 48, .int 55, .int 3]) (rest := []) ⟨hx, hb, hml, hown, hts⟩ (mX8_takesOne l dC dI cI cJ cT cII cJJ ad _ mN mStep mSeen mPlans mBooks mTexted mIsKept mSpot mKeeps mMindStep y2 y3 mWhole mIsBroken mText 48 55 3 _ hw) (cwV 3 hts gX8_clause_X8_takesOne rfl rfl rfl hdX8_takesOne ⟨Nat.le_of_ble_eq_true rfl, Nat.le_of_ble_eq_true rfl⟩) hK hP hD hS hA [0, 4] rfl (by decide) (fun _ => rfl) rfl rfl rfl rfl hl.1 rfl (Nat.le_of_ble_eq_true rfl) ⟨Nat.le_of_ble_eq_true rfl, Nat.le_of_ble_eq_true rfl⟩ dX8_clause_23 (fun r15 u H locs hw hP hD hS => ?_)
    obtain ⟨y16, y17⟩ := u
    try dsimp only at hw
    have hP : va_P (dC, dI) vwCl (wdX8_clause cI cJ cT cII cJJ ad mN mStep mSeen mPlans mBooks mTexted mIsKept mSpot mKeeps mMindStep y16 y17 mWhole mIsBroken mWorth mHas mOwner mText) H := hP
    have hD : va_D A (wdX8_clause cI cJ cT cII cJJ ad mN mStep mSeen mPlans mBooks mTexted mIsKept mSpot mKeeps mMindStep y16 y17 mWhole mIsBroken mWorth mHas mOwner mText) := hD
    refine lv_goto (tgt := 30) hx hb dX8_clause_26 (by decide) ?_
    exact kB30 r1 r15 y16 y17 mWhole mWorth mHas mOwner _ _ hP hD hS ls (lv_sub hl [1, 2, 0] rfl) hw
set_option maxHeartbeats 4000000 in
set_option maxRecDepth 100000 in
theorem mX8_goesThrough (l : Launch) (dC : Nat → ClassId) (dI : Nat → Nat → Nat) (cI cJ cT cII cJJ : ClassId) (ad : Nat → Nat) (sz : Nat) (mN : Int32) (mStep : Int32) (mSeen : Int32) (mPlans : Int32) (mBooks : Int32) (mTexted : Int32) (mIsKept : Int32) (mSpot : Int32) (mKeeps : Int32) (mMindStep : Int32) (mAt : Int32) (mWhat : Int32) (mWhole : Int32) (mIsBroken : Int32) (mWorth : Nat → Int32) (mHas : Nat → Int32) (mOwner : Nat → Int32) (mText : Nat → Int32) (a1 : Int32) (Post : Int32 → Int32 → Int32 → (Nat → Int32) → (Nat → Int32) → (Nat → Int32) → Prop) (hw : wpX8_goesThrough mN mTexted mAt mWhat mWhole mWorth mHas mOwner mText a1 Post) : Met l yX8_goesThrough wsX8_goesThrough ({ frames := 4, cells := 0, slots := 0, locals := 96 } : Room) (va_Pc [.ref (ad 0), .int a1] (fun U => U.heap.size = sz ∧ va_P (dC, dI) vwCl (wdX8_goesThrough cI cJ cT cII cJJ ad mN mStep mSeen mPlans mBooks mTexted mIsKept mSpot mKeeps mMindStep mAt mWhat mWhole mIsBroken mWorth mHas mOwner mText) U.heap ∧ va_K (dC, dI) vwCl (bw_tys cI cJ cT cII cJJ) U ∧ va_D (fun _ => True) (wdX8_goesThrough cI cJ cT cII cJJ ad mN mStep mSeen mPlans mBooks mTexted mIsKept mSpot mKeeps mMindStep mAt mWhat mWhole mIsBroken mWorth mHas mOwner mText))) (va_Qv (fun (u : Int32 × Int32 × Int32 × (Nat → Int32) × (Nat → Int32) × (Nat → Int32)) => Post u.1 u.2.1 u.2.2.1 u.2.2.2.1 u.2.2.2.2.1 u.2.2.2.2.2) (fun (u : Int32 × Int32 × Int32 × (Nat → Int32) × (Nat → Int32) × (Nat → Int32)) t => va_P (dC, dI) vwCl (wdX8_goesThrough cI cJ cT cII cJJ ad mN mStep mSeen mPlans mBooks mTexted mIsKept mSpot mKeeps mMindStep u.1 u.2.1 u.2.2.1 mIsBroken u.2.2.2.1 u.2.2.2.2.1 u.2.2.2.2.2 mText) t.heap) (va_A (wdX8_goesThrough cI cJ cT cII cJJ ad mN mStep mSeen mPlans mBooks mTexted mIsKept mSpot mKeeps mMindStep mAt mWhat mWhole mIsBroken mWorth mHas mOwner mText) sz)) 0 0 (va_A (wdX8_goesThrough cI cJ cT cII cJJ ad mN mStep mSeen mPlans mBooks mTexted mIsKept mSpot mKeeps mMindStep mAt mWhat mWhole mIsBroken mWorth mHas mOwner mText) sz) := by
  refine Met.ofW (cc := cX8_goesThrough) (maxL := 2) (ret := none) (by decide) rfl ?_
  intro p e s m args below meth c s₁ B hml hv
  obtain ⟨rfl, hsz, hP, hK, hD0⟩ := hv
  have hx := B.exec
  have hb := B.bytes
  have hr := B.returns
  have hts := atoms_spec (ws := wsX8_goesThrough) B.pre
  have hown : s.vm.findClass RX8 = some m.cls := findClass_of_methodNamed B.named
  have hlocks := B.notSynchronized
  subst hsz
  have hD := hD0.self (sz := s.heap.size)
  generalize hAe : va_A (wdX8_goesThrough cI cJ cT cII cJJ ad mN mStep mSeen mPlans mBooks mTexted mIsKept mSpot mKeeps mMindStep mAt mWhat mWhole mIsBroken mWorth mHas mOwner mText) s.heap.size = A at hD ⊢
  have hA : ∀ q : Nat, s.heap.size ≤ q → A q := fun q h => by rw [← hAe]; exact Or.inr h
  have hS : va_S A s.heap s.heap [] := va_S.rf
  have hl := lv_entry ([.ref (ad 0), .int a1]) (n := 2) (Nat.le_of_ble_eq_true rfl)
  rw [lg_entry_eq]
  generalize (lg_sl ([.ref (ad 0), .int a1]) ++ List.replicate (2 - (lg_sl ([.ref (ad 0), .int a1])).length) Slot.unset).toArray = ls at hl ⊢
  have hl : lv_has ls 2 [(0, .ref (ad 0)), (1, .int a1)] := hl
  have kB56 : ∀ (mAt : Int32) (mWhat : Int32) (mWhole : Int32) (mWorth : Nat → Int32) (mHas : Nat → Int32) (mOwner : Nat → Int32), ∀ (H : Heap) (locs : List Loc), va_P (dC, dI) vwCl (wdX8_goesThrough cI cJ cT cII cJJ ad mN mStep mSeen mPlans mBooks mTexted mIsKept mSpot mKeeps mMindStep mAt mWhat mWhole mIsBroken mWorth mHas mOwner mText) H → va_D A (wdX8_goesThrough cI cJ cT cII cJJ ad mN mStep mSeen mPlans mBooks mTexted mIsKept mSpot mKeeps mMindStep mAt mWhat mWhole mIsBroken mWorth mHas mOwner mText) → va_S A s.heap H locs → ∀ ls : Array Slot, lv_has ls 2 [(0, .ref (ad 0))] → wpX8_goesThrough_B56 mN mTexted mText a1 Post mAt mWhat mWhole mWorth mHas mOwner → W p l e (headSpec wsX8_goesThrough ({ frames := 4, cells := 0, slots := 0, locals := 96 } : Room)).room s m ([.ref (ad 0), .int a1] : List Value).toArray below meth c H locs 0 0 (MQ below (va_Qv (fun (u : Int32 × Int32 × Int32 × (Nat → Int32) × (Nat → Int32) × (Nat → Int32)) => Post u.1 u.2.1 u.2.2.1 u.2.2.2.1 u.2.2.2.2.1 u.2.2.2.2.2) (fun (u : Int32 × Int32 × Int32 × (Nat → Int32) × (Nat → Int32) × (Nat → Int32)) t => va_P (dC, dI) vwCl (wdX8_goesThrough cI cJ cT cII cJJ ad mN mStep mSeen mPlans mBooks mTexted mIsKept mSpot mKeeps mMindStep u.1 u.2.1 u.2.2.1 mIsBroken u.2.2.2.1 u.2.2.2.2.1 u.2.2.2.2.2 mText) t.heap) A) ([.ref (ad 0), .int a1] : List Value).toArray s 0 0 A) (F0 m 56 ls []) := by
    intro mAt mWhat mWhole mWorth mHas mOwner H locs hP hD hS ls hl hw
    unfold wpX8_goesThrough_B56 at hw
    refine lv_aload_n hx hb dX8_goesThrough_56 rfl (lv_at hl 0 rfl) ?_
    refine lv_iconst (v := 1) hx hb dX8_goesThrough_57 (by decide) ?_
    refine va_put (D := (dC, dI)) (ci := 8) (v := .int 1) (ty := .int) (C := RX8) (T := TX8) (N := 36) hx hb hts (fun w h => List.mem_cons_of_mem _ (List.mem_append_right _ h)) tyX8 tyX8_ok nmX8 hown hK hP hD hS 0 rfl rfl 28 (by decide) (hts (.fieldLink RX8 186 "BidMarketModel" "what" "I") (List.mem_of_getElem? (i := 2) rfl)) (fun _ h9 => h9) rfl (by decide +kernel) rfl rfl (Nat.le_of_ble_eq_true rfl) dX8_goesThrough_58 (fun H locs hP hD hS => ?_)
    have hP : va_P (dC, dI) vwCl (wdX8_goesThrough cI cJ cT cII cJJ ad mN mStep mSeen mPlans mBooks mTexted mIsKept mSpot mKeeps mMindStep mAt 1 mWhole mIsBroken mWorth mHas mOwner mText) H := hP
    have hD : va_D A (wdX8_goesThrough cI cJ cT cII cJJ ad mN mStep mSeen mPlans mBooks mTexted mIsKept mSpot mKeeps mMindStep mAt 1 mWhole mIsBroken mWorth mHas mOwner mText) := hD
    exact W.vret hx hb hr (fun t ht hW => ⟨⟨(mAt, 1, mWhole, mWorth, mHas, mOwner), rfl, hw, by show va_P _ _ _ t.heap; rw [ht]; exact hP⟩, hS.F ht⟩) hS.2.2 dX8_goesThrough_61
  have kB20 : ∀ f : Nat, ∀ (mAt : Int32) (mWhat : Int32) (mWhole : Int32) (mWorth : Nat → Int32) (mHas : Nat → Int32) (mOwner : Nat → Int32), ∀ (H : Heap) (locs : List Loc), va_P (dC, dI) vwCl (wdX8_goesThrough cI cJ cT cII cJJ ad mN mStep mSeen mPlans mBooks mTexted mIsKept mSpot mKeeps mMindStep mAt mWhat mWhole mIsBroken mWorth mHas mOwner mText) H → va_D A (wdX8_goesThrough cI cJ cT cII cJJ ad mN mStep mSeen mPlans mBooks mTexted mIsKept mSpot mKeeps mMindStep mAt mWhat mWhole mIsBroken mWorth mHas mOwner mText) → va_S A s.heap H locs → ∀ ls : Array Slot, lv_has ls 2 [(0, .ref (ad 0)), (1, .int a1)] → wpX8_goesThrough_B20 mN mTexted mText a1 Post f mAt mWhat mWhole mWorth mHas mOwner → W p l e (headSpec wsX8_goesThrough ({ frames := 4, cells := 0, slots := 0, locals := 96 } : Room)).room s m ([.ref (ad 0), .int a1] : List Value).toArray below meth c H locs 0 0 (MQ below (va_Qv (fun (u : Int32 × Int32 × Int32 × (Nat → Int32) × (Nat → Int32) × (Nat → Int32)) => Post u.1 u.2.1 u.2.2.1 u.2.2.2.1 u.2.2.2.2.1 u.2.2.2.2.2) (fun (u : Int32 × Int32 × Int32 × (Nat → Int32) × (Nat → Int32) × (Nat → Int32)) t => va_P (dC, dI) vwCl (wdX8_goesThrough cI cJ cT cII cJJ ad mN mStep mSeen mPlans mBooks mTexted mIsKept mSpot mKeeps mMindStep u.1 u.2.1 u.2.2.1 mIsBroken u.2.2.2.1 u.2.2.2.2.1 u.2.2.2.2.2 mText) t.heap) A) ([.ref (ad 0), .int a1] : List Value).toArray s 0 0 A) (F0 m 20 ls []) := by
    intro  f
    induction f with
    | zero => intro mAt mWhat mWhole mWorth mHas mOwner H locs hP hD hS ls hl hw; exact (show False from hw).elim
    | succ f ih =>
      intro mAt mWhat mWhole mWorth mHas mOwner H locs hP hD hS ls hl hw
      rw [wpX8_goesThrough_B20] at hw
      refine lv_aload_n hx hb dX8_goesThrough_20 rfl (lv_at hl 0 rfl) ?_
      refine va_get (D := (dC, dI)) (ci := 8) (v := .int mWhat) (C := RX8) (T := TX8) (N := 36) hx hb hts (fun w h => List.mem_cons_of_mem _ (List.mem_append_right _ h)) hown hK hP 0 rfl rfl 28 (by decide) (hts (.fieldLink RX8 186 "BidMarketModel" "what" "I") (List.mem_of_getElem? (i := 2) rfl)) (fun _ h9 => h9) rfl dX8_goesThrough_21 ?_
      refine lv_if_ne (tgt := 80) hx hb dX8_goesThrough_24 (by decide) (fun c7 => ?_) (fun c7 => ?_)
      · have hw := hw.1 c7
        exact W.vret hx hb hr (fun t ht hW => ⟨⟨(mAt, mWhat, mWhole, mWorth, mHas, mOwner), rfl, hw, by show va_P _ _ _ t.heap; rw [ht]; exact hP⟩, hS.F ht⟩) hS.2.2 dX8_goesThrough_80
      · have hw := hw.2 c7
        refine lv_aload_n hx hb dX8_goesThrough_27 rfl (lv_at hl 0 rfl) ?_
        refine va_get (D := (dC, dI)) (ci := 8) (v := .int mAt) (C := RX8) (T := TX8) (N := 36) hx hb hts (fun w h => List.mem_cons_of_mem _ (List.mem_append_right _ h)) hown hK hP 0 rfl rfl 27 (by decide) (hts (.fieldLink RX8 177 "BidMarketModel" "at" "I") (List.mem_of_getElem? (i := 1) rfl)) (fun _ h9 => h9) rfl dX8_goesThrough_28 ?_
        refine lv_aload_n hx hb dX8_goesThrough_31 rfl (lv_at hl 0 rfl) ?_
        refine va_get (D := (dC, dI)) (ci := 8) (v := .int mTexted) (C := RX8) (T := TX8) (N := 36) hx hb hts (fun w h => List.mem_cons_of_mem _ (List.mem_append_right _ h)) hown hK hP 0 rfl rfl 17 (by decide) (hts (.fieldLink RX8 180 "BidMarketModel" "texted" "I") (List.mem_of_getElem? (i := 4) rfl)) (fun _ h9 => h9) rfl dX8_goesThrough_32 ?_
        refine lv_icmp_ge (tgt := 80) hx hb dX8_goesThrough_35 (by decide) (fun c8 => ?_) (fun c8 => ?_)
        · have hw := hw.1 c8
          exact W.vret hx hb hr (fun t ht hW => ⟨⟨(mAt, mWhat, mWhole, mWorth, mHas, mOwner), rfl, hw, by show va_P _ _ _ t.heap; rw [ht]; exact hP⟩, hS.F ht⟩) hS.2.2 dX8_goesThrough_80
        · have hw := hw.2 c8
          refine lv_aload_n hx hb dX8_goesThrough_38 rfl (lv_at hl 0 rfl) ?_
          refine va_get (D := (dC, dI)) (ci := 8) (v := .int mWhole) (C := RX8) (T := TX8) (N := 36) hx hb hts (fun w h => List.mem_cons_of_mem _ (List.mem_append_right _ h)) hown hK hP 0 rfl rfl 29 (by decide) (hts (.fieldLink RX8 202 "BidMarketModel" "whole" "I") (List.mem_of_getElem? (i := 3) rfl)) (fun _ h9 => h9) rfl dX8_goesThrough_39 ?_
          refine lv_bipush (v := 16) hx hb dX8_goesThrough_42 (by decide) ?_
          refine lv_icmp_eq (tgt := 56) hx hb dX8_goesThrough_44 (by decide) (fun c9 => ?_) (fun c9 => ?_)
          · have hw := hw.1 c9
            exact kB56 mAt mWhat mWhole mWorth mHas mOwner _ _ hP hD hS ls (lv_sub hl [0] rfl) hw
          · have hw := hw.2 c9
            refine lv_aload_n hx hb dX8_goesThrough_47 rfl (lv_at hl 0 rfl) ?_
            refine bw_pvi (wc := (wdX8_here cI cJ cT cII cJJ ad mN mStep mSeen mPlans mBooks mTexted mIsKept mSpot mKeeps mMindStep mAt mWhat mWhole mIsBroken mText)) (As := []) (rest := []) ⟨hx, hb, hml, hown, hts⟩ (mX8_here l dC dI cI cJ cT cII cJJ ad mN mStep mSeen mPlans mBooks mTexted mIsKept mSpot mKeeps mMindStep mAt mWhat mWhole mIsBroken mText _ hw) (cwV 0 hts gX8_goesThrough_X8_here rfl rfl rfl hdX8_here ⟨Nat.le_of_ble_eq_true rfl, Nat.le_of_ble_eq_true rfl⟩) hK hP [0, 4] rfl rfl rfl rfl rfl hl.1 rfl (Nat.le_of_ble_eq_true rfl) ⟨Nat.le_of_ble_eq_true rfl, Nat.le_of_ble_eq_true rfl⟩ dX8_goesThrough_48 (fun r10 hw => ?_)
            refine lv_bipush (v := 59) hx hb dX8_goesThrough_51 (by decide) ?_
            refine lv_icmp_eq (tgt := 62) hx hb dX8_goesThrough_53 (by decide) (fun c11 => ?_) (fun c11 => ?_)
            · have hw := hw.1 c11
              refine lv_aload_n hx hb dX8_goesThrough_62 rfl (lv_at hl 0 rfl) ?_
              refine lv_dup hx hb dX8_goesThrough_63 rfl ?_
              refine va_get (D := (dC, dI)) (ci := 8) (v := .int mAt) (C := RX8) (T := TX8) (N := 36) hx hb hts (fun w h => List.mem_cons_of_mem _ (List.mem_append_right _ h)) hown hK hP 0 rfl rfl 27 (by decide) (hts (.fieldLink RX8 177 "BidMarketModel" "at" "I") (List.mem_of_getElem? (i := 1) rfl)) (fun _ h9 => h9) rfl dX8_goesThrough_64 ?_
              refine lv_iconst (v := 1) hx hb dX8_goesThrough_67 (by decide) ?_
              refine lv_iadd hx hb dX8_goesThrough_68 ?_
              refine va_put (D := (dC, dI)) (ci := 8) (v := .int (mAt + 1)) (ty := .int) (C := RX8) (T := TX8) (N := 36) hx hb hts (fun w h => List.mem_cons_of_mem _ (List.mem_append_right _ h)) tyX8 tyX8_ok nmX8 hown hK hP hD hS 0 rfl rfl 27 (by decide) (hts (.fieldLink RX8 177 "BidMarketModel" "at" "I") (List.mem_of_getElem? (i := 1) rfl)) (fun _ h9 => h9) rfl (by decide +kernel) rfl rfl (Nat.le_of_ble_eq_true rfl) dX8_goesThrough_69 (fun H locs hP hD hS => ?_)
              have hP : va_P (dC, dI) vwCl (wdX8_goesThrough cI cJ cT cII cJJ ad mN mStep mSeen mPlans mBooks mTexted mIsKept mSpot mKeeps mMindStep (mAt + 1) mWhat mWhole mIsBroken mWorth mHas mOwner mText) H := hP
              have hD : va_D A (wdX8_goesThrough cI cJ cT cII cJJ ad mN mStep mSeen mPlans mBooks mTexted mIsKept mSpot mKeeps mMindStep (mAt + 1) mWhat mWhole mIsBroken mWorth mHas mOwner mText) := hD
              refine lv_aload_n hx hb dX8_goesThrough_72 rfl (lv_at hl 0 rfl) ?_
              refine lv_iload_n hx hb dX8_goesThrough_73 rfl (lv_at hl 1 rfl) ?_
              refine bw_wvv (wc := (wdX8_clause cI cJ cT cII cJJ ad mN mStep mSeen mPlans mBooks mTexted mIsKept mSpot mKeeps mMindStep (mAt + 1) mWhat mWhole mIsBroken mWorth mHas mOwner mText)) (w1 := (fun (u : Int32 × Int32 × Int32 × (Nat → Int32) × (Nat → Int32) × (Nat → Int32)) => wdX8_clause cI cJ cT cII cJJ ad mN mStep mSeen mPlans mBooks mTexted mIsKept mSpot mKeeps mMindStep u.1 u.2.1 u.2.2.1 mIsBroken u.2.2.2.1 u.2.2.2.2.1 u.2.2.2.2.2 mText)) (As := [.int a1]) (rest := []) ⟨hx, hb, hml, hown, hts⟩ (mX8_clause l dC dI cI cJ cT cII cJJ ad _ mN mStep mSeen mPlans mBooks mTexted mIsKept mSpot mKeeps mMindStep (mAt + 1) mWhat mWhole mIsBroken mWorth mHas mOwner mText a1 _ hw) (cwV 1 hts gX8_goesThrough_X8_clause rfl rfl rfl hdX8_clause ⟨Nat.le_of_ble_eq_true rfl, Nat.le_of_ble_eq_true rfl⟩) hK hP hD hS hA [0, 1, 2, 3, 4] rfl (by decide) (fun _ => rfl) rfl rfl rfl rfl hl.1 rfl (Nat.le_of_ble_eq_true rfl) ⟨Nat.le_of_ble_eq_true rfl, Nat.le_of_ble_eq_true rfl⟩ dX8_goesThrough_74 (fun u H locs hw hP hD hS => ?_)
              obtain ⟨y12, y13, y14, y15, y16, y17⟩ := u
              try dsimp only at hw
              have hP : va_P (dC, dI) vwCl (wdX8_goesThrough cI cJ cT cII cJJ ad mN mStep mSeen mPlans mBooks mTexted mIsKept mSpot mKeeps mMindStep y12 y13 y14 mIsBroken y15 y16 y17 mText) H := hP
              have hD : va_D A (wdX8_goesThrough cI cJ cT cII cJJ ad mN mStep mSeen mPlans mBooks mTexted mIsKept mSpot mKeeps mMindStep y12 y13 y14 mIsBroken y15 y16 y17 mText) := hD
              refine lv_goto (tgt := 20) hx hb dX8_goesThrough_77 (by decide) ?_
              exact ih y12 y13 y14 y15 y16 y17 _ _ hP hD hS ls hl hw
            · have hw := hw.2 c11
              exact kB56 mAt mWhat mWhole mWorth mHas mOwner _ _ hP hD hS ls (lv_sub hl [0] rfl) hw
  unfold wpX8_goesThrough at hw
  refine lv_aload_n hx hb dX8_goesThrough_0 rfl (lv_at hl 0 rfl) ?_
  refine lv_iconst (v := 0) hx hb dX8_goesThrough_1 (by decide) ?_
  refine va_put (D := (dC, dI)) (ci := 8) (v := .int 0) (ty := .int) (C := RX8) (T := TX8) (N := 36) hx hb hts (fun w h => List.mem_cons_of_mem _ (List.mem_append_right _ h)) tyX8 tyX8_ok nmX8 hown hK hP hD hS 0 rfl rfl 27 (by decide) (hts (.fieldLink RX8 177 "BidMarketModel" "at" "I") (List.mem_of_getElem? (i := 1) rfl)) (fun _ h9 => h9) rfl (by decide +kernel) rfl rfl (Nat.le_of_ble_eq_true rfl) dX8_goesThrough_2 (fun H locs hP hD hS => ?_)
  have hP : va_P (dC, dI) vwCl (wdX8_goesThrough cI cJ cT cII cJJ ad mN mStep mSeen mPlans mBooks mTexted mIsKept mSpot mKeeps mMindStep 0 mWhat mWhole mIsBroken mWorth mHas mOwner mText) H := hP
  have hD : va_D A (wdX8_goesThrough cI cJ cT cII cJJ ad mN mStep mSeen mPlans mBooks mTexted mIsKept mSpot mKeeps mMindStep 0 mWhat mWhole mIsBroken mWorth mHas mOwner mText) := hD
  refine lv_aload_n hx hb dX8_goesThrough_5 rfl (lv_at hl 0 rfl) ?_
  refine lv_iconst (v := 0) hx hb dX8_goesThrough_6 (by decide) ?_
  refine va_put (D := (dC, dI)) (ci := 8) (v := .int 0) (ty := .int) (C := RX8) (T := TX8) (N := 36) hx hb hts (fun w h => List.mem_cons_of_mem _ (List.mem_append_right _ h)) tyX8 tyX8_ok nmX8 hown hK hP hD hS 0 rfl rfl 28 (by decide) (hts (.fieldLink RX8 186 "BidMarketModel" "what" "I") (List.mem_of_getElem? (i := 2) rfl)) (fun _ h9 => h9) rfl (by decide +kernel) rfl rfl (Nat.le_of_ble_eq_true rfl) dX8_goesThrough_7 (fun H locs hP hD hS => ?_)
  have hP : va_P (dC, dI) vwCl (wdX8_goesThrough cI cJ cT cII cJJ ad mN mStep mSeen mPlans mBooks mTexted mIsKept mSpot mKeeps mMindStep 0 0 mWhole mIsBroken mWorth mHas mOwner mText) H := hP
  have hD : va_D A (wdX8_goesThrough cI cJ cT cII cJJ ad mN mStep mSeen mPlans mBooks mTexted mIsKept mSpot mKeeps mMindStep 0 0 mWhole mIsBroken mWorth mHas mOwner mText) := hD
  refine lv_aload_n hx hb dX8_goesThrough_10 rfl (lv_at hl 0 rfl) ?_
  refine lv_iconst (v := 0) hx hb dX8_goesThrough_11 (by decide) ?_
  refine va_put (D := (dC, dI)) (ci := 8) (v := .int 0) (ty := .int) (C := RX8) (T := TX8) (N := 36) hx hb hts (fun w h => List.mem_cons_of_mem _ (List.mem_append_right _ h)) tyX8 tyX8_ok nmX8 hown hK hP hD hS 0 rfl rfl 29 (by decide) (hts (.fieldLink RX8 202 "BidMarketModel" "whole" "I") (List.mem_of_getElem? (i := 3) rfl)) (fun _ h9 => h9) rfl (by decide +kernel) rfl rfl (Nat.le_of_ble_eq_true rfl) dX8_goesThrough_12 (fun H locs hP hD hS => ?_)
  have hP : va_P (dC, dI) vwCl (wdX8_goesThrough cI cJ cT cII cJJ ad mN mStep mSeen mPlans mBooks mTexted mIsKept mSpot mKeeps mMindStep 0 0 0 mIsBroken mWorth mHas mOwner mText) H := hP
  have hD : va_D A (wdX8_goesThrough cI cJ cT cII cJJ ad mN mStep mSeen mPlans mBooks mTexted mIsKept mSpot mKeeps mMindStep 0 0 0 mIsBroken mWorth mHas mOwner mText) := hD
  refine lv_aload_n hx hb dX8_goesThrough_15 rfl (lv_at hl 0 rfl) ?_
  refine lv_iload_n hx hb dX8_goesThrough_16 rfl (lv_at hl 1 rfl) ?_
  refine bw_wvv (wc := (wdX8_clause cI cJ cT cII cJJ ad mN mStep mSeen mPlans mBooks mTexted mIsKept mSpot mKeeps mMindStep 0 0 0 mIsBroken mWorth mHas mOwner mText)) (w1 := (fun (u : Int32 × Int32 × Int32 × (Nat → Int32) × (Nat → Int32) × (Nat → Int32)) => wdX8_clause cI cJ cT cII cJJ ad mN mStep mSeen mPlans mBooks mTexted mIsKept mSpot mKeeps mMindStep u.1 u.2.1 u.2.2.1 mIsBroken u.2.2.2.1 u.2.2.2.2.1 u.2.2.2.2.2 mText)) (As := [.int a1]) (rest := []) ⟨hx, hb, hml, hown, hts⟩ (mX8_clause l dC dI cI cJ cT cII cJJ ad _ mN mStep mSeen mPlans mBooks mTexted mIsKept mSpot mKeeps mMindStep 0 0 0 mIsBroken mWorth mHas mOwner mText a1 _ hw) (cwV 1 hts gX8_goesThrough_X8_clause rfl rfl rfl hdX8_clause ⟨Nat.le_of_ble_eq_true rfl, Nat.le_of_ble_eq_true rfl⟩) hK hP hD hS hA [0, 1, 2, 3, 4] rfl (by decide) (fun _ => rfl) rfl rfl rfl rfl hl.1 rfl (Nat.le_of_ble_eq_true rfl) ⟨Nat.le_of_ble_eq_true rfl, Nat.le_of_ble_eq_true rfl⟩ dX8_goesThrough_17 (fun u H locs hw hP hD hS => ?_)
  obtain ⟨y1, y2, y3, y4, y5, y6⟩ := u
  try dsimp only at hw
  have hP : va_P (dC, dI) vwCl (wdX8_goesThrough cI cJ cT cII cJJ ad mN mStep mSeen mPlans mBooks mTexted mIsKept mSpot mKeeps mMindStep y1 y2 y3 mIsBroken y4 y5 y6 mText) H := hP
  have hD : va_D A (wdX8_goesThrough cI cJ cT cII cJJ ad mN mStep mSeen mPlans mBooks mTexted mIsKept mSpot mKeeps mMindStep y1 y2 y3 mIsBroken y4 y5 y6 mText) := hD
  obtain ⟨f1, hw⟩ := hw
  exact kB20 f1 y1 y2 y3 y4 y5 y6 _ _ hP hD hS ls hl hw
set_option maxHeartbeats 4000000 in
set_option maxRecDepth 100000 in
theorem mX8_feed (l : Launch) (dC : Nat → ClassId) (dI : Nat → Nat → Nat) (cI cJ cT cII cJJ : ClassId) (ad : Nat → Nat) (sz : Nat) (mN : Int32) (mStep : Int32) (mSeen : Int32) (mPlans : Int32) (mBooks : Int32) (mTexted : Int32) (mIsKept : Int32) (mSpot : Int32) (mKeeps : Int32) (mMindStep : Int32) (mAt : Int32) (mWhat : Int32) (mWhole : Int32) (mIsBroken : Int32) (mText : Nat → Int32) (a1 : Int32) (Post : Int32 → Int32 → (Nat → Int32) → Prop) (hw : wpX8_feed mTexted mText a1 Post) : Met l yX8_feed wsX8_feed ({ frames := 1, cells := 0, slots := 0, locals := 25 } : Room) (va_Pc [.ref (ad 0), .int a1] (fun U => U.heap.size = sz ∧ va_P (dC, dI) vwCl (wdX8_feed cI cJ cT cII cJJ ad mN mStep mSeen mPlans mBooks mTexted mIsKept mSpot mKeeps mMindStep mAt mWhat mWhole mIsBroken mText) U.heap ∧ va_K (dC, dI) vwCl (bw_tys cI cJ cT cII cJJ) U ∧ va_D (fun _ => True) (wdX8_feed cI cJ cT cII cJJ ad mN mStep mSeen mPlans mBooks mTexted mIsKept mSpot mKeeps mMindStep mAt mWhat mWhole mIsBroken mText))) (va_Qi (fun (r : Int32) (u : Int32 × (Nat → Int32)) => Post r u.1 u.2) (fun (u : Int32 × (Nat → Int32)) t => va_P (dC, dI) vwCl (wdX8_feed cI cJ cT cII cJJ ad mN mStep mSeen mPlans mBooks u.1 mIsKept mSpot mKeeps mMindStep mAt mWhat mWhole mIsBroken u.2) t.heap) (va_A (wdX8_feed cI cJ cT cII cJJ ad mN mStep mSeen mPlans mBooks mTexted mIsKept mSpot mKeeps mMindStep mAt mWhat mWhole mIsBroken mText) sz)) 0 0 (va_A (wdX8_feed cI cJ cT cII cJJ ad mN mStep mSeen mPlans mBooks mTexted mIsKept mSpot mKeeps mMindStep mAt mWhat mWhole mIsBroken mText) sz) := by
  refine Met.ofW (cc := cX8_feed) (maxL := 2) (ret := (some .int)) (by decide) rfl ?_
  intro p e s m args below meth c s₁ B hml hv
  obtain ⟨rfl, hsz, hP, hK, hD0⟩ := hv
  have hx := B.exec
  have hb := B.bytes
  have hr := B.returns
  have hts := atoms_spec (ws := wsX8_feed) B.pre
  have hown : s.vm.findClass RX8 = some m.cls := findClass_of_methodNamed B.named
  have hlocks := B.notSynchronized
  subst hsz
  have hD := hD0.self (sz := s.heap.size)
  generalize hAe : va_A (wdX8_feed cI cJ cT cII cJJ ad mN mStep mSeen mPlans mBooks mTexted mIsKept mSpot mKeeps mMindStep mAt mWhat mWhole mIsBroken mText) s.heap.size = A at hD ⊢
  have hA : ∀ q : Nat, s.heap.size ≤ q → A q := fun q h => by rw [← hAe]; exact Or.inr h
  have hS : va_S A s.heap s.heap [] := va_S.rf
  have hl := lv_entry ([.ref (ad 0), .int a1]) (n := 2) (Nat.le_of_ble_eq_true rfl)
  rw [lg_entry_eq]
  generalize (lg_sl ([.ref (ad 0), .int a1]) ++ List.replicate (2 - (lg_sl ([.ref (ad 0), .int a1])).length) Slot.unset).toArray = ls at hl ⊢
  have hl : lv_has ls 2 [(0, .ref (ad 0)), (1, .int a1)] := hl
  unfold wpX8_feed at hw
  refine lv_iload_n hx hb dX8_feed_0 rfl (lv_at hl 1 rfl) ?_
  refine lv_i2l hx hb dX8_feed_1 rfl ?_
  refine lv_lconst (v := 0) hx hb dX8_feed_2 (by decide) ?_
  refine lv_ldc2 hx hb hown (hts (.constantLong RX8 209 (127)) (List.mem_of_getElem? (i := 1) rfl)) dX8_feed_3 ?_
  refine bw_psi (wc := []) (As := [.long a1.toInt64, .long 0, .long 127]) (rest := []) ⟨hx, hb, hml, hown, hts⟩ (mX8_in l dC dI cI cJ cT cII cJJ a1.toInt64 0 127 _ hw) (va_cwS 3 hts gX8_feed_X8_in rfl rfl rfl hdX8_in ⟨Nat.le_of_ble_eq_true rfl, Nat.le_of_ble_eq_true rfl⟩) hK hP [] rfl rfl hl.1 rfl (Nat.le_of_ble_eq_true rfl) ⟨Nat.le_of_ble_eq_true rfl, Nat.le_of_ble_eq_true rfl⟩ dX8_feed_6 (fun r1 hw => ?_)
  refine lv_if_ne (tgt := 15) hx hb dX8_feed_9 (by decide) (fun c2 => ?_) (fun c2 => ?_)
  · have hw := hw.1 c2
    refine lv_aload_n hx hb dX8_feed_15 rfl (lv_at hl 0 rfl) ?_
    refine va_get (D := (dC, dI)) (ci := 8) (v := .int mTexted) (C := RX8) (T := TX8) (N := 36) hx hb hts (fun w h => List.mem_cons_of_mem _ (List.mem_append_right _ h)) hown hK hP 0 rfl rfl 17 (by decide) (hts (.fieldLink RX8 180 "BidMarketModel" "texted" "I") (List.mem_of_getElem? (i := 2) rfl)) (fun _ h9 => h9) rfl dX8_feed_16 ?_
    refine lv_bipush (v := 100) hx hb dX8_feed_19 (by decide) ?_
    refine lv_icmp_ne (tgt := 27) hx hb dX8_feed_21 (by decide) (fun c3 => ?_) (fun c3 => ?_)
    · have hw := hw.1 c3
      refine lv_aload_n hx hb dX8_feed_27 rfl (lv_at hl 0 rfl) ?_
      refine va_get (D := (dC, dI)) (ci := 8) (v := .ref (ad 12)) (C := RX8) (T := TX8) (N := 36) hx hb hts (fun w h => List.mem_cons_of_mem _ (List.mem_append_right _ h)) hown hK hP 0 rfl rfl 16 (by decide) (hts (.fieldLink RX8 52 "BidMarketModel" "text" "[I") (List.mem_of_getElem? (i := 3) rfl)) (fun _ h9 => h9) rfl dX8_feed_28 ?_
      refine lv_aload_n hx hb dX8_feed_31 rfl (lv_at hl 0 rfl) ?_
      refine va_get (D := (dC, dI)) (ci := 8) (v := .int mTexted) (C := RX8) (T := TX8) (N := 36) hx hb hts (fun w h => List.mem_cons_of_mem _ (List.mem_append_right _ h)) hown hK hP 0 rfl rfl 17 (by decide) (hts (.fieldLink RX8 180 "BidMarketModel" "texted" "I") (List.mem_of_getElem? (i := 2) rfl)) (fun _ h9 => h9) rfl dX8_feed_32 ?_
      refine lv_iload_n hx hb dX8_feed_35 rfl (lv_at hl 1 rfl) ?_
      have h4 := hw.1
      have hw := hw.2
      refine va_iast hx hb hK hP hD hS 1 0 rfl rfl h4 dX8_feed_36 (fun H locs hP hD hS => ?_)
      have hP : va_P (dC, dI) vwCl (wdX8_feed cI cJ cT cII cJJ ad mN mStep mSeen mPlans mBooks mTexted mIsKept mSpot mKeeps mMindStep mAt mWhat mWhole mIsBroken (upd mText mTexted.toNatClampNeg a1)) H := hP
      have hD : va_D A (wdX8_feed cI cJ cT cII cJJ ad mN mStep mSeen mPlans mBooks mTexted mIsKept mSpot mKeeps mMindStep mAt mWhat mWhole mIsBroken (upd mText mTexted.toNatClampNeg a1)) := hD
      refine lv_aload_n hx hb dX8_feed_37 rfl (lv_at hl 0 rfl) ?_
      refine lv_dup hx hb dX8_feed_38 rfl ?_
      refine va_get (D := (dC, dI)) (ci := 8) (v := .int mTexted) (C := RX8) (T := TX8) (N := 36) hx hb hts (fun w h => List.mem_cons_of_mem _ (List.mem_append_right _ h)) hown hK hP 0 rfl rfl 17 (by decide) (hts (.fieldLink RX8 180 "BidMarketModel" "texted" "I") (List.mem_of_getElem? (i := 2) rfl)) (fun _ h9 => h9) rfl dX8_feed_39 ?_
      refine lv_iconst (v := 1) hx hb dX8_feed_42 (by decide) ?_
      refine lv_iadd hx hb dX8_feed_43 ?_
      refine va_put (D := (dC, dI)) (ci := 8) (v := .int (mTexted + 1)) (ty := .int) (C := RX8) (T := TX8) (N := 36) hx hb hts (fun w h => List.mem_cons_of_mem _ (List.mem_append_right _ h)) tyX8 tyX8_ok nmX8 hown hK hP hD hS 0 rfl rfl 17 (by decide) (hts (.fieldLink RX8 180 "BidMarketModel" "texted" "I") (List.mem_of_getElem? (i := 2) rfl)) (fun _ h9 => h9) rfl (by decide +kernel) rfl rfl (Nat.le_of_ble_eq_true rfl) dX8_feed_44 (fun H locs hP hD hS => ?_)
      have hP : va_P (dC, dI) vwCl (wdX8_feed cI cJ cT cII cJJ ad mN mStep mSeen mPlans mBooks (mTexted + 1) mIsKept mSpot mKeeps mMindStep mAt mWhat mWhole mIsBroken (upd mText mTexted.toNatClampNeg a1)) H := hP
      have hD : va_D A (wdX8_feed cI cJ cT cII cJJ ad mN mStep mSeen mPlans mBooks (mTexted + 1) mIsKept mSpot mKeeps mMindStep mAt mWhat mWhole mIsBroken (upd mText mTexted.toNatClampNeg a1)) := hD
      refine lv_aload_n hx hb dX8_feed_47 rfl (lv_at hl 0 rfl) ?_
      refine va_get (D := (dC, dI)) (ci := 8) (v := .int (mTexted + 1)) (C := RX8) (T := TX8) (N := 36) hx hb hts (fun w h => List.mem_cons_of_mem _ (List.mem_append_right _ h)) hown hK hP 0 rfl rfl 17 (by decide) (hts (.fieldLink RX8 180 "BidMarketModel" "texted" "I") (List.mem_of_getElem? (i := 2) rfl)) (fun _ h9 => h9) rfl dX8_feed_48 ?_
      exact W.iret (v := mTexted + 1) hx hb hr (fun t ht hW => ⟨⟨mTexted + 1, (mTexted + 1, upd mText mTexted.toNatClampNeg a1), rfl, hw, by show va_P _ _ _ t.heap; rw [ht]; exact hP⟩, hS.F ht⟩) hS.2.2 dX8_feed_51
    · have hw := hw.2 c3
      refine lv_bipush (v := (-4)) hx hb dX8_feed_24 (by decide) ?_
      exact W.iret (v := (-4)) hx hb hr (fun t ht hW => ⟨⟨(-4), (mTexted, mText), rfl, hw, by show va_P _ _ _ t.heap; rw [ht]; exact hP⟩, hS.F ht⟩) hS.2.2 dX8_feed_26
  · have hw := hw.2 c2
    refine lv_bipush (v := (-2)) hx hb dX8_feed_12 (by decide) ?_
    exact W.iret (v := (-2)) hx hb hr (fun t ht hW => ⟨⟨(-2), (mTexted, mText), rfl, hw, by show va_P _ _ _ t.heap; rw [ht]; exact hP⟩, hS.F ht⟩) hS.2.2 dX8_feed_14
set_option maxHeartbeats 4000000 in
set_option maxRecDepth 100000 in
theorem mX8_tellsWrong (l : Launch) (dC : Nat → ClassId) (dI : Nat → Nat → Nat) (cI cJ cT cII cJJ : ClassId) (ad : Nat → Nat) (sz : Nat) (mN : Int32) (mStep : Int32) (mSeen : Int32) (mPlans : Int32) (mBooks : Int32) (mTexted : Int32) (mIsKept : Int32) (mSpot : Int32) (mKeeps : Int32) (mMindStep : Int32) (mAt : Int32) (mWhat : Int32) (mWhole : Int32) (mIsBroken : Int32) (mWrong : Nat → Int32) (a1 : Int32) (a2 : Int32) (a3 : Int32) (Post : (Nat → Int32) → Prop) (hw : wpX8_tellsWrong mWrong a1 a2 a3 Post) : Met l yX8_tellsWrong wsX8_tellsWrong ({ frames := 0, cells := 0, slots := 0, locals := 0 } : Room) (va_Pc [.ref (ad 0), .int a1, .int a2, .int a3] (fun U => U.heap.size = sz ∧ va_P (dC, dI) vwCl (wdX8_tellsWrong cI cJ cT cII cJJ ad mN mStep mSeen mPlans mBooks mTexted mIsKept mSpot mKeeps mMindStep mAt mWhat mWhole mIsBroken mWrong) U.heap ∧ va_K (dC, dI) vwCl (bw_tys cI cJ cT cII cJJ) U ∧ va_D (fun _ => True) (wdX8_tellsWrong cI cJ cT cII cJJ ad mN mStep mSeen mPlans mBooks mTexted mIsKept mSpot mKeeps mMindStep mAt mWhat mWhole mIsBroken mWrong))) (va_Qv (fun (u : (Nat → Int32)) => Post u) (fun (u : (Nat → Int32)) t => va_P (dC, dI) vwCl (wdX8_tellsWrong cI cJ cT cII cJJ ad mN mStep mSeen mPlans mBooks mTexted mIsKept mSpot mKeeps mMindStep mAt mWhat mWhole mIsBroken u) t.heap) (va_A (wdX8_tellsWrong cI cJ cT cII cJJ ad mN mStep mSeen mPlans mBooks mTexted mIsKept mSpot mKeeps mMindStep mAt mWhat mWhole mIsBroken mWrong) sz)) 0 0 (va_A (wdX8_tellsWrong cI cJ cT cII cJJ ad mN mStep mSeen mPlans mBooks mTexted mIsKept mSpot mKeeps mMindStep mAt mWhat mWhole mIsBroken mWrong) sz) := by
  refine Met.ofW (cc := cX8_tellsWrong) (maxL := 4) (ret := none) (by decide) rfl ?_
  intro p e s m args below meth c s₁ B hml hv
  obtain ⟨rfl, hsz, hP, hK, hD0⟩ := hv
  have hx := B.exec
  have hb := B.bytes
  have hr := B.returns
  have hts := atoms_spec (ws := wsX8_tellsWrong) B.pre
  have hown : s.vm.findClass RX8 = some m.cls := findClass_of_methodNamed B.named
  have hlocks := B.notSynchronized
  subst hsz
  have hD := hD0.self (sz := s.heap.size)
  generalize hAe : va_A (wdX8_tellsWrong cI cJ cT cII cJJ ad mN mStep mSeen mPlans mBooks mTexted mIsKept mSpot mKeeps mMindStep mAt mWhat mWhole mIsBroken mWrong) s.heap.size = A at hD ⊢
  have hA : ∀ q : Nat, s.heap.size ≤ q → A q := fun q h => by rw [← hAe]; exact Or.inr h
  have hS : va_S A s.heap s.heap [] := va_S.rf
  have hl := lv_entry ([.ref (ad 0), .int a1, .int a2, .int a3]) (n := 4) (Nat.le_of_ble_eq_true rfl)
  rw [lg_entry_eq]
  generalize (lg_sl ([.ref (ad 0), .int a1, .int a2, .int a3]) ++ List.replicate (4 - (lg_sl ([.ref (ad 0), .int a1, .int a2, .int a3])).length) Slot.unset).toArray = ls at hl ⊢
  have hl : lv_has ls 4 [(0, .ref (ad 0)), (1, .int a1), (2, .int a2), (3, .int a3)] := hl
  unfold wpX8_tellsWrong at hw
  refine lv_aload_n hx hb dX8_tellsWrong_0 rfl (lv_at hl 0 rfl) ?_
  refine va_get (D := (dC, dI)) (ci := 8) (v := .ref (ad 11)) (C := RX8) (T := TX8) (N := 36) hx hb hts (fun w h => List.mem_cons_of_mem _ (List.mem_append_right _ h)) hown hK hP 0 rfl rfl 15 (by decide) (hts (.fieldLink RX8 49 "BidMarketModel" "wrong" "[I") (List.mem_of_getElem? (i := 1) rfl)) (fun _ h9 => h9) rfl dX8_tellsWrong_1 ?_
  refine lv_iconst (v := 0) hx hb dX8_tellsWrong_4 (by decide) ?_
  refine lv_iload_n hx hb dX8_tellsWrong_5 rfl (lv_at hl 1 rfl) ?_
  have h1 := hw.1
  have hw := hw.2
  refine va_iast hx hb hK hP hD hS 1 0 rfl rfl h1 dX8_tellsWrong_6 (fun H locs hP hD hS => ?_)
  have hP : va_P (dC, dI) vwCl (wdX8_tellsWrong cI cJ cT cII cJJ ad mN mStep mSeen mPlans mBooks mTexted mIsKept mSpot mKeeps mMindStep mAt mWhat mWhole mIsBroken (upd mWrong (0 : Int32).toNatClampNeg a1)) H := hP
  have hD : va_D A (wdX8_tellsWrong cI cJ cT cII cJJ ad mN mStep mSeen mPlans mBooks mTexted mIsKept mSpot mKeeps mMindStep mAt mWhat mWhole mIsBroken (upd mWrong (0 : Int32).toNatClampNeg a1)) := hD
  refine lv_aload_n hx hb dX8_tellsWrong_7 rfl (lv_at hl 0 rfl) ?_
  refine va_get (D := (dC, dI)) (ci := 8) (v := .ref (ad 11)) (C := RX8) (T := TX8) (N := 36) hx hb hts (fun w h => List.mem_cons_of_mem _ (List.mem_append_right _ h)) hown hK hP 0 rfl rfl 15 (by decide) (hts (.fieldLink RX8 49 "BidMarketModel" "wrong" "[I") (List.mem_of_getElem? (i := 1) rfl)) (fun _ h9 => h9) rfl dX8_tellsWrong_8 ?_
  refine lv_iconst (v := 1) hx hb dX8_tellsWrong_11 (by decide) ?_
  refine lv_iload_n hx hb dX8_tellsWrong_12 rfl (lv_at hl 2 rfl) ?_
  have h2 := hw.1
  have hw := hw.2
  refine va_iast hx hb hK hP hD hS 1 0 rfl rfl h2 dX8_tellsWrong_13 (fun H locs hP hD hS => ?_)
  have hP : va_P (dC, dI) vwCl (wdX8_tellsWrong cI cJ cT cII cJJ ad mN mStep mSeen mPlans mBooks mTexted mIsKept mSpot mKeeps mMindStep mAt mWhat mWhole mIsBroken (upd (upd mWrong (0 : Int32).toNatClampNeg a1) (1 : Int32).toNatClampNeg a2)) H := hP
  have hD : va_D A (wdX8_tellsWrong cI cJ cT cII cJJ ad mN mStep mSeen mPlans mBooks mTexted mIsKept mSpot mKeeps mMindStep mAt mWhat mWhole mIsBroken (upd (upd mWrong (0 : Int32).toNatClampNeg a1) (1 : Int32).toNatClampNeg a2)) := hD
  refine lv_aload_n hx hb dX8_tellsWrong_14 rfl (lv_at hl 0 rfl) ?_
  refine va_get (D := (dC, dI)) (ci := 8) (v := .ref (ad 11)) (C := RX8) (T := TX8) (N := 36) hx hb hts (fun w h => List.mem_cons_of_mem _ (List.mem_append_right _ h)) hown hK hP 0 rfl rfl 15 (by decide) (hts (.fieldLink RX8 49 "BidMarketModel" "wrong" "[I") (List.mem_of_getElem? (i := 1) rfl)) (fun _ h9 => h9) rfl dX8_tellsWrong_15 ?_
  refine lv_iconst (v := 2) hx hb dX8_tellsWrong_18 (by decide) ?_
  refine lv_iload_n hx hb dX8_tellsWrong_19 rfl (lv_at hl 3 rfl) ?_
  have h3 := hw.1
  have hw := hw.2
  refine va_iast hx hb hK hP hD hS 1 0 rfl rfl h3 dX8_tellsWrong_20 (fun H locs hP hD hS => ?_)
  have hP : va_P (dC, dI) vwCl (wdX8_tellsWrong cI cJ cT cII cJJ ad mN mStep mSeen mPlans mBooks mTexted mIsKept mSpot mKeeps mMindStep mAt mWhat mWhole mIsBroken (upd (upd (upd mWrong (0 : Int32).toNatClampNeg a1) (1 : Int32).toNatClampNeg a2) (2 : Int32).toNatClampNeg a3)) H := hP
  have hD : va_D A (wdX8_tellsWrong cI cJ cT cII cJJ ad mN mStep mSeen mPlans mBooks mTexted mIsKept mSpot mKeeps mMindStep mAt mWhat mWhole mIsBroken (upd (upd (upd mWrong (0 : Int32).toNatClampNeg a1) (1 : Int32).toNatClampNeg a2) (2 : Int32).toNatClampNeg a3)) := hD
  exact W.vret hx hb hr (fun t ht hW => ⟨⟨upd (upd (upd mWrong (0 : Int32).toNatClampNeg a1) (1 : Int32).toNatClampNeg a2) (2 : Int32).toNatClampNeg a3, rfl, hw, by show va_P _ _ _ t.heap; rw [ht]; exact hP⟩, hS.F ht⟩) hS.2.2 dX8_tellsWrong_21
set_option maxHeartbeats 4000000 in
set_option maxRecDepth 100000 in
theorem mX8_read (l : Launch) (dC : Nat → ClassId) (dI : Nat → Nat → Nat) (cI cJ cT cII cJJ : ClassId) (ad : Nat → Nat) (sz : Nat) (mN : Int32) (mStep : Int32) (mSeen : Int32) (mPlans : Int32) (mBooks : Int32) (mTexted : Int32) (mIsKept : Int32) (mSpot : Int32) (mKeeps : Int32) (mMindStep : Int32) (mAt : Int32) (mWhat : Int32) (mWhole : Int32) (mIsBroken : Int32) (mWorth : Nat → Int32) (mHas : Nat → Int32) (mOwner : Nat → Int32) (mWrong : Nat → Int32) (mText : Nat → Int32) (Post : Int32 → Int32 → Int32 → Int32 → Int32 → (Nat → Int32) → (Nat → Int32) → (Nat → Int32) → (Nat → Int32) → Prop) (hw : wpX8_read mN mTexted mAt mWhat mWhole mWorth mHas mOwner mWrong mText Post) : Met l yX8_read wsX8_read ({ frames := 5, cells := 0, slots := 0, locals := 117 } : Room) (va_Pc [.ref (ad 0)] (fun U => U.heap.size = sz ∧ va_P (dC, dI) vwCl (wdX8_read cI cJ cT cII cJJ ad mN mStep mSeen mPlans mBooks mTexted mIsKept mSpot mKeeps mMindStep mAt mWhat mWhole mIsBroken mWorth mHas mOwner mWrong mText) U.heap ∧ va_K (dC, dI) vwCl (bw_tys cI cJ cT cII cJJ) U ∧ va_D (fun _ => True) (wdX8_read cI cJ cT cII cJJ ad mN mStep mSeen mPlans mBooks mTexted mIsKept mSpot mKeeps mMindStep mAt mWhat mWhole mIsBroken mWorth mHas mOwner mWrong mText))) (va_Qi (fun (r : Int32) (u : Int32 × Int32 × Int32 × Int32 × (Nat → Int32) × (Nat → Int32) × (Nat → Int32) × (Nat → Int32)) => Post r u.1 u.2.1 u.2.2.1 u.2.2.2.1 u.2.2.2.2.1 u.2.2.2.2.2.1 u.2.2.2.2.2.2.1 u.2.2.2.2.2.2.2) (fun (u : Int32 × Int32 × Int32 × Int32 × (Nat → Int32) × (Nat → Int32) × (Nat → Int32) × (Nat → Int32)) t => va_P (dC, dI) vwCl (wdX8_read cI cJ cT cII cJJ ad mN mStep mSeen mPlans mBooks u.1 mIsKept mSpot mKeeps mMindStep u.2.1 u.2.2.1 u.2.2.2.1 mIsBroken u.2.2.2.2.1 u.2.2.2.2.2.1 u.2.2.2.2.2.2.1 u.2.2.2.2.2.2.2 mText) t.heap) (va_A (wdX8_read cI cJ cT cII cJJ ad mN mStep mSeen mPlans mBooks mTexted mIsKept mSpot mKeeps mMindStep mAt mWhat mWhole mIsBroken mWorth mHas mOwner mWrong mText) sz)) 0 0 (va_A (wdX8_read cI cJ cT cII cJJ ad mN mStep mSeen mPlans mBooks mTexted mIsKept mSpot mKeeps mMindStep mAt mWhat mWhole mIsBroken mWorth mHas mOwner mWrong mText) sz) := by
  refine Met.ofW (cc := cX8_read) (maxL := 1) (ret := (some .int)) (by decide) rfl ?_
  intro p e s m args below meth c s₁ B hml hv
  obtain ⟨rfl, hsz, hP, hK, hD0⟩ := hv
  have hx := B.exec
  have hb := B.bytes
  have hr := B.returns
  have hts := atoms_spec (ws := wsX8_read) B.pre
  have hown : s.vm.findClass RX8 = some m.cls := findClass_of_methodNamed B.named
  have hlocks := B.notSynchronized
  subst hsz
  have hD := hD0.self (sz := s.heap.size)
  generalize hAe : va_A (wdX8_read cI cJ cT cII cJJ ad mN mStep mSeen mPlans mBooks mTexted mIsKept mSpot mKeeps mMindStep mAt mWhat mWhole mIsBroken mWorth mHas mOwner mWrong mText) s.heap.size = A at hD ⊢
  have hA : ∀ q : Nat, s.heap.size ≤ q → A q := fun q h => by rw [← hAe]; exact Or.inr h
  have hS : va_S A s.heap s.heap [] := va_S.rf
  have hl := lv_entry ([.ref (ad 0)]) (n := 1) (Nat.le_of_ble_eq_true rfl)
  rw [lg_entry_eq]
  generalize (lg_sl ([.ref (ad 0)]) ++ List.replicate (1 - (lg_sl ([.ref (ad 0)])).length) Slot.unset).toArray = ls at hl ⊢
  have hl : lv_has ls 1 [(0, .ref (ad 0))] := hl
  unfold wpX8_read at hw
  refine lv_aload_n hx hb dX8_read_0 rfl (lv_at hl 0 rfl) ?_
  refine lv_iconst (v := 0) hx hb dX8_read_1 (by decide) ?_
  refine bw_wvv (wc := (wdX8_goesThrough cI cJ cT cII cJJ ad mN mStep mSeen mPlans mBooks mTexted mIsKept mSpot mKeeps mMindStep mAt mWhat mWhole mIsBroken mWorth mHas mOwner mText)) (w1 := (fun (u : Int32 × Int32 × Int32 × (Nat → Int32) × (Nat → Int32) × (Nat → Int32)) => wdX8_goesThrough cI cJ cT cII cJJ ad mN mStep mSeen mPlans mBooks mTexted mIsKept mSpot mKeeps mMindStep u.1 u.2.1 u.2.2.1 mIsBroken u.2.2.2.1 u.2.2.2.2.1 u.2.2.2.2.2 mText)) (As := [.int 0]) (rest := []) ⟨hx, hb, hml, hown, hts⟩ (mX8_goesThrough l dC dI cI cJ cT cII cJJ ad _ mN mStep mSeen mPlans mBooks mTexted mIsKept mSpot mKeeps mMindStep mAt mWhat mWhole mIsBroken mWorth mHas mOwner mText 0 _ hw) (cwV 1 hts gX8_read_X8_goesThrough rfl rfl rfl hdX8_goesThrough ⟨Nat.le_of_ble_eq_true rfl, Nat.le_of_ble_eq_true rfl⟩) hK hP hD hS hA [0, 1, 2, 3, 5] rfl (by decide) (fun _ => rfl) rfl rfl rfl rfl hl.1 rfl (Nat.le_of_ble_eq_true rfl) ⟨Nat.le_of_ble_eq_true rfl, Nat.le_of_ble_eq_true rfl⟩ dX8_read_2 (fun u H locs hw hP hD hS => ?_)
  obtain ⟨y1, y2, y3, y4, y5, y6⟩ := u
  try dsimp only at hw
  have hP : va_P (dC, dI) vwCl (wdX8_read cI cJ cT cII cJJ ad mN mStep mSeen mPlans mBooks mTexted mIsKept mSpot mKeeps mMindStep y1 y2 y3 mIsBroken y4 y5 y6 mWrong mText) H := hP
  have hD : va_D A (wdX8_read cI cJ cT cII cJJ ad mN mStep mSeen mPlans mBooks mTexted mIsKept mSpot mKeeps mMindStep y1 y2 y3 mIsBroken y4 y5 y6 mWrong mText) := hD
  refine lv_aload_n hx hb dX8_read_5 rfl (lv_at hl 0 rfl) ?_
  refine va_get (D := (dC, dI)) (ci := 8) (v := .int y2) (C := RX8) (T := TX8) (N := 36) hx hb hts (fun w h => List.mem_cons_of_mem _ (List.mem_append_right _ h)) hown hK hP 0 rfl rfl 28 (by decide) (hts (.fieldLink RX8 186 "BidMarketModel" "what" "I") (List.mem_of_getElem? (i := 1) rfl)) (fun _ h9 => h9) rfl dX8_read_6 ?_
  refine lv_if_ne (tgt := 27) hx hb dX8_read_9 (by decide) (fun c7 => ?_) (fun c7 => ?_)
  · have hw := hw.1 c7
    refine lv_aload_n hx hb dX8_read_27 rfl (lv_at hl 0 rfl) ?_
    refine lv_aload_n hx hb dX8_read_28 rfl (lv_at hl 0 rfl) ?_
    refine va_get (D := (dC, dI)) (ci := 8) (v := .int y2) (C := RX8) (T := TX8) (N := 36) hx hb hts (fun w h => List.mem_cons_of_mem _ (List.mem_append_right _ h)) hown hK hP 0 rfl rfl 28 (by decide) (hts (.fieldLink RX8 186 "BidMarketModel" "what" "I") (List.mem_of_getElem? (i := 1) rfl)) (fun _ h9 => h9) rfl dX8_read_29 ?_
    refine lv_bipush (v := 100) hx hb dX8_read_32 (by decide) ?_
    refine lv_aload_n hx hb dX8_read_34 rfl (lv_at hl 0 rfl) ?_
    refine va_get (D := (dC, dI)) (ci := 8) (v := .int y3) (C := RX8) (T := TX8) (N := 36) hx hb hts (fun w h => List.mem_cons_of_mem _ (List.mem_append_right _ h)) hown hK hP 0 rfl rfl 29 (by decide) (hts (.fieldLink RX8 202 "BidMarketModel" "whole" "I") (List.mem_of_getElem? (i := 3) rfl)) (fun _ h9 => h9) rfl dX8_read_35 ?_
    refine lv_iadd hx hb dX8_read_38 ?_
    refine lv_bipush (v := (-5)) hx hb dX8_read_39 (by decide) ?_
    refine bw_wvv (wc := (wdX8_tellsWrong cI cJ cT cII cJJ ad mN mStep mSeen mPlans mBooks mTexted mIsKept mSpot mKeeps mMindStep y1 y2 y3 mIsBroken mWrong)) (w1 := (fun (u : (Nat → Int32)) => wdX8_tellsWrong cI cJ cT cII cJJ ad mN mStep mSeen mPlans mBooks mTexted mIsKept mSpot mKeeps mMindStep y1 y2 y3 mIsBroken u)) (As := [.int y2, .int (100 + y3), .int ((-5))]) (rest := []) ⟨hx, hb, hml, hown, hts⟩ (mX8_tellsWrong l dC dI cI cJ cT cII cJJ ad _ mN mStep mSeen mPlans mBooks mTexted mIsKept mSpot mKeeps mMindStep y1 y2 y3 mIsBroken mWrong y2 (100 + y3) ((-5)) _ hw) (cwV 3 hts gX8_read_X8_tellsWrong rfl rfl rfl hdX8_tellsWrong ⟨Nat.le_of_ble_eq_true rfl, Nat.le_of_ble_eq_true rfl⟩) hK hP hD hS hA [0, 4] rfl (by decide) (fun _ => rfl) rfl rfl rfl rfl hl.1 rfl (Nat.le_of_ble_eq_true rfl) ⟨Nat.le_of_ble_eq_true rfl, Nat.le_of_ble_eq_true rfl⟩ dX8_read_41 (fun u H locs hw hP hD hS => ?_)
    obtain ⟨y8, rfl⟩ : ∃ z, z = u := ⟨_, rfl⟩
    try dsimp only at hw
    have hP : va_P (dC, dI) vwCl (wdX8_read cI cJ cT cII cJJ ad mN mStep mSeen mPlans mBooks mTexted mIsKept mSpot mKeeps mMindStep y1 y2 y3 mIsBroken y4 y5 y6 y8 mText) H := hP
    have hD : va_D A (wdX8_read cI cJ cT cII cJJ ad mN mStep mSeen mPlans mBooks mTexted mIsKept mSpot mKeeps mMindStep y1 y2 y3 mIsBroken y4 y5 y6 y8 mText) := hD
    refine lv_aload_n hx hb dX8_read_44 rfl (lv_at hl 0 rfl) ?_
    refine lv_iconst (v := 0) hx hb dX8_read_45 (by decide) ?_
    refine va_put (D := (dC, dI)) (ci := 8) (v := .int 0) (ty := .int) (C := RX8) (T := TX8) (N := 36) hx hb hts (fun w h => List.mem_cons_of_mem _ (List.mem_append_right _ h)) tyX8 tyX8_ok nmX8 hown hK hP hD hS 0 rfl rfl 17 (by decide) (hts (.fieldLink RX8 180 "BidMarketModel" "texted" "I") (List.mem_of_getElem? (i := 2) rfl)) (fun _ h9 => h9) rfl (by decide +kernel) rfl rfl (Nat.le_of_ble_eq_true rfl) dX8_read_46 (fun H locs hP hD hS => ?_)
    have hP : va_P (dC, dI) vwCl (wdX8_read cI cJ cT cII cJJ ad mN mStep mSeen mPlans mBooks 0 mIsKept mSpot mKeeps mMindStep y1 y2 y3 mIsBroken y4 y5 y6 y8 mText) H := hP
    have hD : va_D A (wdX8_read cI cJ cT cII cJJ ad mN mStep mSeen mPlans mBooks 0 mIsKept mSpot mKeeps mMindStep y1 y2 y3 mIsBroken y4 y5 y6 y8 mText) := hD
    refine lv_bipush (v := (-10)) hx hb dX8_read_49 (by decide) ?_
    refine lv_aload_n hx hb dX8_read_51 rfl (lv_at hl 0 rfl) ?_
    refine va_get (D := (dC, dI)) (ci := 8) (v := .int y1) (C := RX8) (T := TX8) (N := 36) hx hb hts (fun w h => List.mem_cons_of_mem _ (List.mem_append_right _ h)) hown hK hP 0 rfl rfl 27 (by decide) (hts (.fieldLink RX8 177 "BidMarketModel" "at" "I") (List.mem_of_getElem? (i := 4) rfl)) (fun _ h9 => h9) rfl dX8_read_52 ?_
    refine lv_isub hx hb dX8_read_55 ?_
    exact W.iret (v := ((-10)) - y1) hx hb hr (fun t ht hW => ⟨⟨((-10)) - y1, (0, y1, y2, y3, y4, y5, y6, y8), rfl, hw, by show va_P _ _ _ t.heap; rw [ht]; exact hP⟩, hS.F ht⟩) hS.2.2 dX8_read_56
  · have hw := hw.2 c7
    refine lv_aload_n hx hb dX8_read_12 rfl (lv_at hl 0 rfl) ?_
    refine lv_iconst (v := 1) hx hb dX8_read_13 (by decide) ?_
    refine bw_wvv (wc := (wdX8_goesThrough cI cJ cT cII cJJ ad mN mStep mSeen mPlans mBooks mTexted mIsKept mSpot mKeeps mMindStep y1 y2 y3 mIsBroken y4 y5 y6 mText)) (w1 := (fun (u : Int32 × Int32 × Int32 × (Nat → Int32) × (Nat → Int32) × (Nat → Int32)) => wdX8_goesThrough cI cJ cT cII cJJ ad mN mStep mSeen mPlans mBooks mTexted mIsKept mSpot mKeeps mMindStep u.1 u.2.1 u.2.2.1 mIsBroken u.2.2.2.1 u.2.2.2.2.1 u.2.2.2.2.2 mText)) (As := [.int 1]) (rest := []) ⟨hx, hb, hml, hown, hts⟩ (mX8_goesThrough l dC dI cI cJ cT cII cJJ ad _ mN mStep mSeen mPlans mBooks mTexted mIsKept mSpot mKeeps mMindStep y1 y2 y3 mIsBroken y4 y5 y6 mText 1 _ hw) (cwV 1 hts gX8_read_X8_goesThrough rfl rfl rfl hdX8_goesThrough ⟨Nat.le_of_ble_eq_true rfl, Nat.le_of_ble_eq_true rfl⟩) hK hP hD hS hA [0, 1, 2, 3, 5] rfl (by decide) (fun _ => rfl) rfl rfl rfl rfl hl.1 rfl (Nat.le_of_ble_eq_true rfl) ⟨Nat.le_of_ble_eq_true rfl, Nat.le_of_ble_eq_true rfl⟩ dX8_read_14 (fun u H locs hw hP hD hS => ?_)
    obtain ⟨y9, y10, y11, y12, y13, y14⟩ := u
    try dsimp only at hw
    have hP : va_P (dC, dI) vwCl (wdX8_read cI cJ cT cII cJJ ad mN mStep mSeen mPlans mBooks mTexted mIsKept mSpot mKeeps mMindStep y9 y10 y11 mIsBroken y12 y13 y14 mWrong mText) H := hP
    have hD : va_D A (wdX8_read cI cJ cT cII cJJ ad mN mStep mSeen mPlans mBooks mTexted mIsKept mSpot mKeeps mMindStep y9 y10 y11 mIsBroken y12 y13 y14 mWrong mText) := hD
    refine lv_aload_n hx hb dX8_read_17 rfl (lv_at hl 0 rfl) ?_
    refine lv_iconst (v := 0) hx hb dX8_read_18 (by decide) ?_
    refine va_put (D := (dC, dI)) (ci := 8) (v := .int 0) (ty := .int) (C := RX8) (T := TX8) (N := 36) hx hb hts (fun w h => List.mem_cons_of_mem _ (List.mem_append_right _ h)) tyX8 tyX8_ok nmX8 hown hK hP hD hS 0 rfl rfl 17 (by decide) (hts (.fieldLink RX8 180 "BidMarketModel" "texted" "I") (List.mem_of_getElem? (i := 2) rfl)) (fun _ h9 => h9) rfl (by decide +kernel) rfl rfl (Nat.le_of_ble_eq_true rfl) dX8_read_19 (fun H locs hP hD hS => ?_)
    have hP : va_P (dC, dI) vwCl (wdX8_read cI cJ cT cII cJJ ad mN mStep mSeen mPlans mBooks 0 mIsKept mSpot mKeeps mMindStep y9 y10 y11 mIsBroken y12 y13 y14 mWrong mText) H := hP
    have hD : va_D A (wdX8_read cI cJ cT cII cJJ ad mN mStep mSeen mPlans mBooks 0 mIsKept mSpot mKeeps mMindStep y9 y10 y11 mIsBroken y12 y13 y14 mWrong mText) := hD
    refine lv_aload_n hx hb dX8_read_22 rfl (lv_at hl 0 rfl) ?_
    refine va_get (D := (dC, dI)) (ci := 8) (v := .int y11) (C := RX8) (T := TX8) (N := 36) hx hb hts (fun w h => List.mem_cons_of_mem _ (List.mem_append_right _ h)) hown hK hP 0 rfl rfl 29 (by decide) (hts (.fieldLink RX8 202 "BidMarketModel" "whole" "I") (List.mem_of_getElem? (i := 3) rfl)) (fun _ h9 => h9) rfl dX8_read_23 ?_
    exact W.iret (v := y11) hx hb hr (fun t ht hW => ⟨⟨y11, (0, y9, y10, y11, y12, y13, y14, mWrong), rfl, hw, by show va_P _ _ _ t.heap; rw [ht]; exact hP⟩, hS.F ht⟩) hS.2.2 dX8_read_26
set_option maxHeartbeats 4000000 in
set_option maxRecDepth 100000 in
theorem mX8_wrong (l : Launch) (dC : Nat → ClassId) (dI : Nat → Nat → Nat) (cI cJ cT cII cJJ : ClassId) (ad : Nat → Nat) (mN : Int32) (mStep : Int32) (mSeen : Int32) (mPlans : Int32) (mBooks : Int32) (mTexted : Int32) (mIsKept : Int32) (mSpot : Int32) (mKeeps : Int32) (mMindStep : Int32) (mAt : Int32) (mWhat : Int32) (mWhole : Int32) (mIsBroken : Int32) (mWrong : Nat → Int32) (a1 : Int32) (Post : Int32 → Prop) (hw : wpX8_wrong mWrong a1 Post) : Met l yX8_wrong wsX8_wrong ({ frames := 0, cells := 0, slots := 0, locals := 0 } : Room) (va_Pc [.ref (ad 0), .int a1] (fun U => va_P (dC, dI) vwCl (wdX8_wrong cI cJ cT cII cJJ ad mN mStep mSeen mPlans mBooks mTexted mIsKept mSpot mKeeps mMindStep mAt mWhat mWhole mIsBroken mWrong) U.heap ∧ va_K (dC, dI) vwCl (bw_tys cI cJ cT cII cJJ) U)) (vp_Si Post) 0 0 (fun _ => False) := by
  refine Met.ofW (cc := cX8_wrong) (maxL := 2) (ret := (some .int)) (by decide) rfl ?_
  intro p e s m args below meth c s₁ B hml hv
  obtain ⟨rfl, hP, hK⟩ := hv
  have hx := B.exec
  have hb := B.bytes
  have hr := B.returns
  have hts := atoms_spec (ws := wsX8_wrong) B.pre
  have hown : s.vm.findClass RX8 = some m.cls := findClass_of_methodNamed B.named
  have hlocks := B.notSynchronized
  have hl := lv_entry ([.ref (ad 0), .int a1]) (n := 2) (Nat.le_of_ble_eq_true rfl)
  rw [lg_entry_eq]
  generalize (lg_sl ([.ref (ad 0), .int a1]) ++ List.replicate (2 - (lg_sl ([.ref (ad 0), .int a1])).length) Slot.unset).toArray = ls at hl ⊢
  have hl : lv_has ls 2 [(0, .ref (ad 0)), (1, .int a1)] := hl
  unfold wpX8_wrong at hw
  refine lv_iload_n hx hb dX8_wrong_0 rfl (lv_at hl 1 rfl) ?_
  refine lv_if_ge (tgt := 6) hx hb dX8_wrong_1 (by decide) (fun c1 => ?_) (fun c1 => ?_)
  · have hw := hw.1 c1
    refine lv_iload_n hx hb dX8_wrong_6 rfl (lv_at hl 1 rfl) ?_
    refine lv_iconst (v := 3) hx hb dX8_wrong_7 (by decide) ?_
    refine lv_icmp_ge (tgt := 20) hx hb dX8_wrong_8 (by decide) (fun c2 => ?_) (fun c2 => ?_)
    · have hw := hw.1 c2
      refine lv_bipush (v := (-5)) hx hb dX8_wrong_20 (by decide) ?_
      exact W.iret (v := (-5)) hx hb hr (fun t ht hW => ⟨(-5), rfl, hw, ht⟩) (fun _ h => by cases h) dX8_wrong_22
    · have hw := hw.2 c2
      refine lv_aload_n hx hb dX8_wrong_11 rfl (lv_at hl 0 rfl) ?_
      refine va_get (D := (dC, dI)) (ci := 8) (v := .ref (ad 11)) (C := RX8) (T := TX8) (N := 36) hx hb hts (fun w h => List.mem_cons_of_mem _ (List.mem_append_right _ h)) hown hK hP 0 rfl rfl 15 (by decide) (hts (.fieldLink RX8 49 "BidMarketModel" "wrong" "[I") (List.mem_of_getElem? (i := 1) rfl)) (fun _ h9 => h9) rfl dX8_wrong_12 ?_
      refine lv_iload_n hx hb dX8_wrong_15 rfl (lv_at hl 1 rfl) ?_
      have h3 := hw.1
      have hw := hw.2
      refine va_iald hx hb hK hP 1 0 rfl rfl h3 dX8_wrong_16 ?_
      refine lv_goto (tgt := 22) hx hb dX8_wrong_17 (by decide) ?_
      exact W.iret (v := mWrong a1.toNatClampNeg) hx hb hr (fun t ht hW => ⟨mWrong a1.toNatClampNeg, rfl, hw, ht⟩) (fun _ h => by cases h) dX8_wrong_22
  · have hw := hw.2 c1
    refine lv_iconst (v := (-1)) hx hb dX8_wrong_4 (by decide) ?_
    exact W.iret (v := (-1)) hx hb hr (fun t ht hW => ⟨(-1), rfl, hw, ht⟩) (fun _ h => by cases h) dX8_wrong_5
set_option maxHeartbeats 4000000 in
set_option maxRecDepth 100000 in
theorem mX8_tellsLeft (l : Launch) (dC : Nat → ClassId) (dI : Nat → Nat → Nat) (cI cJ cT cII cJJ : ClassId) (ad : Nat → Nat) (sz : Nat) (mN : Int32) (mStep : Int32) (mSeen : Int32) (mPlans : Int32) (mBooks : Int32) (mTexted : Int32) (mIsKept : Int32) (mSpot : Int32) (mKeeps : Int32) (mMindStep : Int32) (mAt : Int32) (mWhat : Int32) (mWhole : Int32) (mIsBroken : Int32) (mHas : Nat → Int32) (mWrong : Nat → Int32) (Post : (Nat → Int32) → Prop) (hw : wpX8_tellsLeft mN mHas mWrong Post) : Met l yX8_tellsLeft wsX8_tellsLeft ({ frames := 1, cells := 0, slots := 0, locals := 23 } : Room) (va_Pc [.ref (ad 0)] (fun U => U.heap.size = sz ∧ va_P (dC, dI) vwCl (wdX8_tellsLeft cI cJ cT cII cJJ ad mN mStep mSeen mPlans mBooks mTexted mIsKept mSpot mKeeps mMindStep mAt mWhat mWhole mIsBroken mHas mWrong) U.heap ∧ va_K (dC, dI) vwCl (bw_tys cI cJ cT cII cJJ) U ∧ va_D (fun _ => True) (wdX8_tellsLeft cI cJ cT cII cJJ ad mN mStep mSeen mPlans mBooks mTexted mIsKept mSpot mKeeps mMindStep mAt mWhat mWhole mIsBroken mHas mWrong))) (va_Qv (fun (u : (Nat → Int32)) => Post u) (fun (u : (Nat → Int32)) t => va_P (dC, dI) vwCl (wdX8_tellsLeft cI cJ cT cII cJJ ad mN mStep mSeen mPlans mBooks mTexted mIsKept mSpot mKeeps mMindStep mAt mWhat mWhole mIsBroken mHas u) t.heap) (va_A (wdX8_tellsLeft cI cJ cT cII cJJ ad mN mStep mSeen mPlans mBooks mTexted mIsKept mSpot mKeeps mMindStep mAt mWhat mWhole mIsBroken mHas mWrong) sz)) 0 0 (va_A (wdX8_tellsLeft cI cJ cT cII cJJ ad mN mStep mSeen mPlans mBooks mTexted mIsKept mSpot mKeeps mMindStep mAt mWhat mWhole mIsBroken mHas mWrong) sz) := by
  refine Met.ofW (cc := cX8_tellsLeft) (maxL := 4) (ret := none) (by decide) rfl ?_
  intro p e s m args below meth c s₁ B hml hv
  obtain ⟨rfl, hsz, hP, hK, hD0⟩ := hv
  have hx := B.exec
  have hb := B.bytes
  have hr := B.returns
  have hts := atoms_spec (ws := wsX8_tellsLeft) B.pre
  have hown : s.vm.findClass RX8 = some m.cls := findClass_of_methodNamed B.named
  have hlocks := B.notSynchronized
  subst hsz
  have hD := hD0.self (sz := s.heap.size)
  generalize hAe : va_A (wdX8_tellsLeft cI cJ cT cII cJJ ad mN mStep mSeen mPlans mBooks mTexted mIsKept mSpot mKeeps mMindStep mAt mWhat mWhole mIsBroken mHas mWrong) s.heap.size = A at hD ⊢
  have hA : ∀ q : Nat, s.heap.size ≤ q → A q := fun q h => by rw [← hAe]; exact Or.inr h
  have hS : va_S A s.heap s.heap [] := va_S.rf
  have hl := lv_entry ([.ref (ad 0)]) (n := 4) (Nat.le_of_ble_eq_true rfl)
  rw [lg_entry_eq]
  generalize (lg_sl ([.ref (ad 0)]) ++ List.replicate (4 - (lg_sl ([.ref (ad 0)])).length) Slot.unset).toArray = ls at hl ⊢
  have hl : lv_has ls 4 [(0, .ref (ad 0))] := hl
  have kB46 : ∀ (K11 : Int32 → Int32 → Int32 → (Nat → Int32) → Prop), (∀ (v1 : Int32) (v2 : Int32) (v3 : Int32) (mWrong : Nat → Int32), ∀ (H : Heap) (locs : List Loc), va_P (dC, dI) vwCl (wdX8_tellsLeft cI cJ cT cII cJJ ad mN mStep mSeen mPlans mBooks mTexted mIsKept mSpot mKeeps mMindStep mAt mWhat mWhole mIsBroken mHas mWrong) H → va_D A (wdX8_tellsLeft cI cJ cT cII cJJ ad mN mStep mSeen mPlans mBooks mTexted mIsKept mSpot mKeeps mMindStep mAt mWhat mWhole mIsBroken mHas mWrong) → va_S A s.heap H locs → ∀ ls : Array Slot, lv_has ls 4 [(0, .ref (ad 0)), (1, .int v1), (2, .int v2), (3, .int v3)] → K11 v1 v2 v3 mWrong → W p l e (headSpec wsX8_tellsLeft ({ frames := 1, cells := 0, slots := 0, locals := 23 } : Room)).room s m ([.ref (ad 0)] : List Value).toArray below meth c H locs 0 0 (MQ below (va_Qv (fun (u : (Nat → Int32)) => Post u) (fun (u : (Nat → Int32)) t => va_P (dC, dI) vwCl (wdX8_tellsLeft cI cJ cT cII cJJ ad mN mStep mSeen mPlans mBooks mTexted mIsKept mSpot mKeeps mMindStep mAt mWhat mWhole mIsBroken mHas u) t.heap) A) ([.ref (ad 0)] : List Value).toArray s 0 0 A) (F0 m 11 ls [])) → ∀ (v1 : Int32) (v3 : Int32) (s0 : Int32) (mWrong : Nat → Int32), ∀ (H : Heap) (locs : List Loc), va_P (dC, dI) vwCl (wdX8_tellsLeft cI cJ cT cII cJJ ad mN mStep mSeen mPlans mBooks mTexted mIsKept mSpot mKeeps mMindStep mAt mWhat mWhole mIsBroken mHas mWrong) H → va_D A (wdX8_tellsLeft cI cJ cT cII cJJ ad mN mStep mSeen mPlans mBooks mTexted mIsKept mSpot mKeeps mMindStep mAt mWhat mWhole mIsBroken mHas mWrong) → va_S A s.heap H locs → ∀ ls : Array Slot, lv_has ls 4 [(0, .ref (ad 0)), (1, .int v1), (3, .int v3)] → wpX8_tellsLeft_B46 mN mHas K11 Post v1 v3 s0 mWrong → W p l e (headSpec wsX8_tellsLeft ({ frames := 1, cells := 0, slots := 0, locals := 23 } : Room)).room s m ([.ref (ad 0)] : List Value).toArray below meth c H locs 0 0 (MQ below (va_Qv (fun (u : (Nat → Int32)) => Post u) (fun (u : (Nat → Int32)) t => va_P (dC, dI) vwCl (wdX8_tellsLeft cI cJ cT cII cJJ ad mN mStep mSeen mPlans mBooks mTexted mIsKept mSpot mKeeps mMindStep mAt mWhat mWhole mIsBroken mHas u) t.heap) A) ([.ref (ad 0)] : List Value).toArray s 0 0 A) (F0 m 46 ls [.int s0]) := by
    intro K11 hK11 v1 v3 s0 mWrong H locs hP hD hS ls hl hw
    unfold wpX8_tellsLeft_B46 at hw
    refine lv_istore_n (lv' := [(2, .int s0), (0, .ref (ad 0)), (1, .int v1), (3, .int v3)]) hx hb dX8_tellsLeft_46 rfl hl (by decide) rfl (fun ls hl => ?_)
    obtain ⟨x11, ex11⟩ : ∃ y : Int32, y = v3 + (-1) := ⟨_, rfl⟩
    have hw := hw x11 ex11
    refine lv_iinc (v := x11) (lv' := [(3, .int x11), (2, .int s0), (0, .ref (ad 0)), (1, .int v1)]) hx hb dX8_tellsLeft_47 hl (k := 3) rfl (by rw [ex11]; rfl) (by decide) rfl (fun ls hl => ?_)
    refine lv_goto (tgt := 11) hx hb dX8_tellsLeft_50 (by decide) ?_
    exact hK11 v1 s0 x11 mWrong _ _ hP hD hS ls (lv_sub hl [2, 3, 1, 0] rfl) hw
  have kB30 : ∀ (K11 : Int32 → Int32 → Int32 → (Nat → Int32) → Prop), (∀ (v1 : Int32) (v2 : Int32) (v3 : Int32) (mWrong : Nat → Int32), ∀ (H : Heap) (locs : List Loc), va_P (dC, dI) vwCl (wdX8_tellsLeft cI cJ cT cII cJJ ad mN mStep mSeen mPlans mBooks mTexted mIsKept mSpot mKeeps mMindStep mAt mWhat mWhole mIsBroken mHas mWrong) H → va_D A (wdX8_tellsLeft cI cJ cT cII cJJ ad mN mStep mSeen mPlans mBooks mTexted mIsKept mSpot mKeeps mMindStep mAt mWhat mWhole mIsBroken mHas mWrong) → va_S A s.heap H locs → ∀ ls : Array Slot, lv_has ls 4 [(0, .ref (ad 0)), (1, .int v1), (2, .int v2), (3, .int v3)] → K11 v1 v2 v3 mWrong → W p l e (headSpec wsX8_tellsLeft ({ frames := 1, cells := 0, slots := 0, locals := 23 } : Room)).room s m ([.ref (ad 0)] : List Value).toArray below meth c H locs 0 0 (MQ below (va_Qv (fun (u : (Nat → Int32)) => Post u) (fun (u : (Nat → Int32)) t => va_P (dC, dI) vwCl (wdX8_tellsLeft cI cJ cT cII cJJ ad mN mStep mSeen mPlans mBooks mTexted mIsKept mSpot mKeeps mMindStep mAt mWhat mWhole mIsBroken mHas u) t.heap) A) ([.ref (ad 0)] : List Value).toArray s 0 0 A) (F0 m 11 ls [])) → ∀ (v2 : Int32) (v3 : Int32) (s0 : Int32) (s1 : Int32) (mWrong : Nat → Int32), ∀ (H : Heap) (locs : List Loc), va_P (dC, dI) vwCl (wdX8_tellsLeft cI cJ cT cII cJJ ad mN mStep mSeen mPlans mBooks mTexted mIsKept mSpot mKeeps mMindStep mAt mWhat mWhole mIsBroken mHas mWrong) H → va_D A (wdX8_tellsLeft cI cJ cT cII cJJ ad mN mStep mSeen mPlans mBooks mTexted mIsKept mSpot mKeeps mMindStep mAt mWhat mWhole mIsBroken mHas mWrong) → va_S A s.heap H locs → ∀ ls : Array Slot, lv_has ls 4 [(0, .ref (ad 0)), (2, .int v2), (3, .int v3)] → wpX8_tellsLeft_B30 mN mHas K11 Post v2 v3 s0 s1 mWrong → W p l e (headSpec wsX8_tellsLeft ({ frames := 1, cells := 0, slots := 0, locals := 23 } : Room)).room s m ([.ref (ad 0)] : List Value).toArray below meth c H locs 0 0 (MQ below (va_Qv (fun (u : (Nat → Int32)) => Post u) (fun (u : (Nat → Int32)) t => va_P (dC, dI) vwCl (wdX8_tellsLeft cI cJ cT cII cJJ ad mN mStep mSeen mPlans mBooks mTexted mIsKept mSpot mKeeps mMindStep mAt mWhat mWhole mIsBroken mHas u) t.heap) A) ([.ref (ad 0)] : List Value).toArray s 0 0 A) (F0 m 30 ls [.int s1, .int s0]) := by
    intro K11 hK11 v2 v3 s0 s1 mWrong H locs hP hD hS ls hl hw
    unfold wpX8_tellsLeft_B30 at hw
    refine lv_iadd hx hb dX8_tellsLeft_30 ?_
    refine lv_topi (fun x8 ex8 => ?_)
    have hw := hw x8 ex8
    refine lv_istore_n (lv' := [(1, .int x8), (0, .ref (ad 0)), (2, .int v2), (3, .int v3)]) hx hb dX8_tellsLeft_31 rfl hl (by decide) rfl (fun ls hl => ?_)
    refine lv_aload_n hx hb dX8_tellsLeft_32 rfl (lv_at hl 1 rfl) ?_
    refine va_get (D := (dC, dI)) (ci := 8) (v := .ref (ad 2)) (C := RX8) (T := TX8) (N := 36) hx hb hts (fun w h => List.mem_cons_of_mem _ (List.mem_append_right _ h)) hown hK hP 0 rfl rfl 3 (by decide) (hts (.fieldLink RX8 22 "BidMarketModel" "has" "[I") (List.mem_of_getElem? (i := 2) rfl)) (fun _ h9 => h9) rfl dX8_tellsLeft_33 ?_
    refine lv_iload_n hx hb dX8_tellsLeft_36 rfl (lv_at hl 3 rfl) ?_
    have h9 := hw.1
    have hw := hw.2
    refine va_iald hx hb hK hP 1 0 rfl rfl h9 dX8_tellsLeft_37 ?_
    refine lv_if_ge (tgt := 45) hx hb dX8_tellsLeft_38 (by decide) (fun c10 => ?_) (fun c10 => ?_)
    · have hw := hw.1 c10
      refine lv_iload_n hx hb dX8_tellsLeft_45 rfl (lv_at hl 2 rfl) ?_
      exact kB46 K11 hK11 x8 v3 v2 mWrong _ _ hP hD hS ls (lv_sub hl [1, 0, 3] rfl) hw
    · have hw := hw.2 c10
      refine lv_iload_n hx hb dX8_tellsLeft_41 rfl (lv_at hl 3 rfl) ?_
      refine lv_goto (tgt := 46) hx hb dX8_tellsLeft_42 (by decide) ?_
      exact kB46 K11 hK11 x8 v3 v3 mWrong _ _ hP hD hS ls (lv_sub hl [1, 0, 3] rfl) hw
  have kB11 : ∀ f : Nat, ∀ (v1 : Int32) (v2 : Int32) (v3 : Int32) (mWrong : Nat → Int32), ∀ (H : Heap) (locs : List Loc), va_P (dC, dI) vwCl (wdX8_tellsLeft cI cJ cT cII cJJ ad mN mStep mSeen mPlans mBooks mTexted mIsKept mSpot mKeeps mMindStep mAt mWhat mWhole mIsBroken mHas mWrong) H → va_D A (wdX8_tellsLeft cI cJ cT cII cJJ ad mN mStep mSeen mPlans mBooks mTexted mIsKept mSpot mKeeps mMindStep mAt mWhat mWhole mIsBroken mHas mWrong) → va_S A s.heap H locs → ∀ ls : Array Slot, lv_has ls 4 [(0, .ref (ad 0)), (1, .int v1), (2, .int v2), (3, .int v3)] → wpX8_tellsLeft_B11 mN mHas Post f v1 v2 v3 mWrong → W p l e (headSpec wsX8_tellsLeft ({ frames := 1, cells := 0, slots := 0, locals := 23 } : Room)).room s m ([.ref (ad 0)] : List Value).toArray below meth c H locs 0 0 (MQ below (va_Qv (fun (u : (Nat → Int32)) => Post u) (fun (u : (Nat → Int32)) t => va_P (dC, dI) vwCl (wdX8_tellsLeft cI cJ cT cII cJJ ad mN mStep mSeen mPlans mBooks mTexted mIsKept mSpot mKeeps mMindStep mAt mWhat mWhole mIsBroken mHas u) t.heap) A) ([.ref (ad 0)] : List Value).toArray s 0 0 A) (F0 m 11 ls []) := by
    intro  f
    induction f with
    | zero => intro v1 v2 v3 mWrong H locs hP hD hS ls hl hw; exact (show False from hw).elim
    | succ f ih =>
      intro v1 v2 v3 mWrong H locs hP hD hS ls hl hw
      rw [wpX8_tellsLeft_B11] at hw
      refine lv_iload_n hx hb dX8_tellsLeft_11 rfl (lv_at hl 3 rfl) ?_
      refine lv_if_lt (tgt := 53) hx hb dX8_tellsLeft_12 (by decide) (fun c3 => ?_) (fun c3 => ?_)
      · have hw := hw.1 c3
        refine lv_iload_n hx hb dX8_tellsLeft_53 rfl (lv_at hl 1 rfl) ?_
        refine lv_if_le (tgt := 72) hx hb dX8_tellsLeft_54 (by decide) (fun c4 => ?_) (fun c4 => ?_)
        · have hw := hw.1 c4
          exact W.vret hx hb hr (fun t ht hW => ⟨⟨mWrong, rfl, hw, by show va_P _ _ _ t.heap; rw [ht]; exact hP⟩, hS.F ht⟩) hS.2.2 dX8_tellsLeft_72
        · have hw := hw.2 c4
          refine lv_aload_n hx hb dX8_tellsLeft_57 rfl (lv_at hl 0 rfl) ?_
          refine lv_iconst (v := 5) hx hb dX8_tellsLeft_58 (by decide) ?_
          refine lv_sipush (v := 200) hx hb dX8_tellsLeft_59 (by decide) ?_
          refine lv_iload_n hx hb dX8_tellsLeft_62 rfl (lv_at hl 2 rfl) ?_
          refine lv_iadd hx hb dX8_tellsLeft_63 ?_
          refine lv_sipush (v := 300) hx hb dX8_tellsLeft_64 (by decide) ?_
          refine lv_iload_n hx hb dX8_tellsLeft_67 rfl (lv_at hl 1 rfl) ?_
          refine lv_iadd hx hb dX8_tellsLeft_68 ?_
          refine bw_wvv (wc := (wdX8_tellsWrong cI cJ cT cII cJJ ad mN mStep mSeen mPlans mBooks mTexted mIsKept mSpot mKeeps mMindStep mAt mWhat mWhole mIsBroken mWrong)) (w1 := (fun (u : (Nat → Int32)) => wdX8_tellsWrong cI cJ cT cII cJJ ad mN mStep mSeen mPlans mBooks mTexted mIsKept mSpot mKeeps mMindStep mAt mWhat mWhole mIsBroken u)) (As := [.int 5, .int (200 + v2), .int (300 + v1)]) (rest := []) ⟨hx, hb, hml, hown, hts⟩ (mX8_tellsWrong l dC dI cI cJ cT cII cJJ ad _ mN mStep mSeen mPlans mBooks mTexted mIsKept mSpot mKeeps mMindStep mAt mWhat mWhole mIsBroken mWrong 5 (200 + v2) (300 + v1) _ hw) (cwV 3 hts gX8_tellsLeft_X8_tellsWrong rfl rfl rfl hdX8_tellsWrong ⟨Nat.le_of_ble_eq_true rfl, Nat.le_of_ble_eq_true rfl⟩) hK hP hD hS hA [0, 2] rfl (by decide) (fun _ => rfl) rfl rfl rfl rfl hl.1 rfl (Nat.le_of_ble_eq_true rfl) ⟨Nat.le_of_ble_eq_true rfl, Nat.le_of_ble_eq_true rfl⟩ dX8_tellsLeft_69 (fun u H locs hw hP hD hS => ?_)
          obtain ⟨y5, rfl⟩ : ∃ z, z = u := ⟨_, rfl⟩
          try dsimp only at hw
          have hP : va_P (dC, dI) vwCl (wdX8_tellsLeft cI cJ cT cII cJJ ad mN mStep mSeen mPlans mBooks mTexted mIsKept mSpot mKeeps mMindStep mAt mWhat mWhole mIsBroken mHas y5) H := hP
          have hD : va_D A (wdX8_tellsLeft cI cJ cT cII cJJ ad mN mStep mSeen mPlans mBooks mTexted mIsKept mSpot mKeeps mMindStep mAt mWhat mWhole mIsBroken mHas y5) := hD
          exact W.vret hx hb hr (fun t ht hW => ⟨⟨y5, rfl, hw, by show va_P _ _ _ t.heap; rw [ht]; exact hP⟩, hS.F ht⟩) hS.2.2 dX8_tellsLeft_72
      · have hw := hw.2 c3
        refine lv_iload_n hx hb dX8_tellsLeft_15 rfl (lv_at hl 1 rfl) ?_
        refine lv_aload_n hx hb dX8_tellsLeft_16 rfl (lv_at hl 0 rfl) ?_
        refine va_get (D := (dC, dI)) (ci := 8) (v := .ref (ad 2)) (C := RX8) (T := TX8) (N := 36) hx hb hts (fun w h => List.mem_cons_of_mem _ (List.mem_append_right _ h)) hown hK hP 0 rfl rfl 3 (by decide) (hts (.fieldLink RX8 22 "BidMarketModel" "has" "[I") (List.mem_of_getElem? (i := 2) rfl)) (fun _ h9 => h9) rfl dX8_tellsLeft_17 ?_
        refine lv_iload_n hx hb dX8_tellsLeft_20 rfl (lv_at hl 3 rfl) ?_
        have h6 := hw.1
        have hw := hw.2
        refine va_iald hx hb hK hP 1 0 rfl rfl h6 dX8_tellsLeft_21 ?_
        refine lv_if_ge (tgt := 29) hx hb dX8_tellsLeft_22 (by decide) (fun c7 => ?_) (fun c7 => ?_)
        · have hw := hw.1 c7
          refine lv_iconst (v := 0) hx hb dX8_tellsLeft_29 (by decide) ?_
          exact kB30 (wpX8_tellsLeft_B11 mN mHas Post f) ih v2 v3 v1 0 mWrong _ _ hP hD hS ls (lv_sub hl [0, 2, 3] rfl) hw
        · have hw := hw.2 c7
          refine lv_iconst (v := 1) hx hb dX8_tellsLeft_25 (by decide) ?_
          refine lv_goto (tgt := 30) hx hb dX8_tellsLeft_26 (by decide) ?_
          exact kB30 (wpX8_tellsLeft_B11 mN mHas Post f) ih v2 v3 v1 1 mWrong _ _ hP hD hS ls (lv_sub hl [0, 2, 3] rfl) hw
  unfold wpX8_tellsLeft at hw
  refine lv_iconst (v := 0) hx hb dX8_tellsLeft_0 (by decide) ?_
  refine lv_istore_n (lv' := [(1, .int 0), (0, .ref (ad 0))]) hx hb dX8_tellsLeft_1 rfl hl (by decide) rfl (fun ls hl => ?_)
  refine lv_iconst (v := (-1)) hx hb dX8_tellsLeft_2 (by decide) ?_
  refine lv_topi (fun x1 ex1 => ?_)
  have hw := hw x1 ex1
  refine lv_istore_n (lv' := [(2, .int x1), (1, .int 0), (0, .ref (ad 0))]) hx hb dX8_tellsLeft_3 rfl hl (by decide) rfl (fun ls hl => ?_)
  refine lv_aload_n hx hb dX8_tellsLeft_4 rfl (lv_at hl 2 rfl) ?_
  refine va_get (D := (dC, dI)) (ci := 8) (v := .int mN) (C := RX8) (T := TX8) (N := 36) hx hb hts (fun w h => List.mem_cons_of_mem _ (List.mem_append_right _ h)) hown hK hP 0 rfl rfl 0 (by decide) (hts (.fieldLink RX8 9 "BidMarketModel" "n" "I") (List.mem_of_getElem? (i := 1) rfl)) (fun _ h9 => h9) rfl dX8_tellsLeft_5 ?_
  refine lv_iconst (v := 1) hx hb dX8_tellsLeft_8 (by decide) ?_
  refine lv_isub hx hb dX8_tellsLeft_9 ?_
  refine lv_topi (fun x2 ex2 => ?_)
  have hw := hw x2 ex2
  refine lv_istore_n (lv' := [(3, .int x2), (2, .int x1), (1, .int 0), (0, .ref (ad 0))]) hx hb dX8_tellsLeft_10 rfl hl (by decide) rfl (fun ls hl => ?_)
  obtain ⟨f1, hw⟩ := hw
  exact kB11 f1 0 x1 x2 mWrong _ _ hP hD hS ls (lv_sub hl [3, 2, 1, 0] rfl) hw
set_option maxHeartbeats 4000000 in
set_option maxRecDepth 100000 in
theorem mX8_bidsAll (l : Launch) (dC : Nat → ClassId) (dI : Nat → Nat → Nat) (cI cJ cT cII cJJ : ClassId) (ad : Nat → Nat) (sz : Nat) (mN : Int32) (mStep : Int32) (mSeen : Int32) (mPlans : Int32) (mBooks : Int32) (mTexted : Int32) (mIsKept : Int32) (mSpot : Int32) (mKeeps : Int32) (mMindStep : Int32) (mAt : Int32) (mWhat : Int32) (mWhole : Int32) (mIsBroken : Int32) (mWorth : Nat → Int32) (mHas : Nat → Int32) (mOwner : Nat → Int32) (mPrice : Nat → Int32) (mWrong : Nat → Int32) (Post : Int32 → Int32 → (Nat → Int32) → (Nat → Int32) → (Nat → Int32) → (Nat → Int32) → Prop) (hw : wpX8_bidsAll mN mStep mIsBroken mWorth mHas mOwner mPrice mWrong Post) : Met l yX8_bidsAll wsX8_bidsAll ({ frames := 4, cells := 0, slots := 0, locals := 90 } : Room) (va_Pc [.ref (ad 0)] (fun U => U.heap.size = sz ∧ va_P (dC, dI) vwCl (wdX8_bidsAll cI cJ cT cII cJJ ad mN mStep mSeen mPlans mBooks mTexted mIsKept mSpot mKeeps mMindStep mAt mWhat mWhole mIsBroken mWorth mHas mOwner mPrice mWrong) U.heap ∧ va_K (dC, dI) vwCl (bw_tys cI cJ cT cII cJJ) U ∧ va_D (fun _ => True) (wdX8_bidsAll cI cJ cT cII cJJ ad mN mStep mSeen mPlans mBooks mTexted mIsKept mSpot mKeeps mMindStep mAt mWhat mWhole mIsBroken mWorth mHas mOwner mPrice mWrong))) (va_Qi (fun (r : Int32) (u : Int32 × (Nat → Int32) × (Nat → Int32) × (Nat → Int32) × (Nat → Int32)) => Post r u.1 u.2.1 u.2.2.1 u.2.2.2.1 u.2.2.2.2) (fun (u : Int32 × (Nat → Int32) × (Nat → Int32) × (Nat → Int32) × (Nat → Int32)) t => va_P (dC, dI) vwCl (wdX8_bidsAll cI cJ cT cII cJJ ad mN mStep mSeen mPlans mBooks mTexted mIsKept mSpot mKeeps mMindStep mAt mWhat mWhole u.1 mWorth u.2.1 u.2.2.1 u.2.2.2.1 u.2.2.2.2) t.heap) (va_A (wdX8_bidsAll cI cJ cT cII cJJ ad mN mStep mSeen mPlans mBooks mTexted mIsKept mSpot mKeeps mMindStep mAt mWhat mWhole mIsBroken mWorth mHas mOwner mPrice mWrong) sz)) 0 0 (va_A (wdX8_bidsAll cI cJ cT cII cJJ ad mN mStep mSeen mPlans mBooks mTexted mIsKept mSpot mKeeps mMindStep mAt mWhat mWhole mIsBroken mWorth mHas mOwner mPrice mWrong) sz) := by
  refine Met.ofW (cc := cX8_bidsAll) (maxL := 4) (ret := (some .int)) (by decide) rfl ?_
  intro p e s m args below meth c s₁ B hml hv
  obtain ⟨rfl, hsz, hP, hK, hD0⟩ := hv
  have hx := B.exec
  have hb := B.bytes
  have hr := B.returns
  have hts := atoms_spec (ws := wsX8_bidsAll) B.pre
  have hown : s.vm.findClass RX8 = some m.cls := findClass_of_methodNamed B.named
  have hlocks := B.notSynchronized
  subst hsz
  have hD := hD0.self (sz := s.heap.size)
  generalize hAe : va_A (wdX8_bidsAll cI cJ cT cII cJJ ad mN mStep mSeen mPlans mBooks mTexted mIsKept mSpot mKeeps mMindStep mAt mWhat mWhole mIsBroken mWorth mHas mOwner mPrice mWrong) s.heap.size = A at hD ⊢
  have hA : ∀ q : Nat, s.heap.size ≤ q → A q := fun q h => by rw [← hAe]; exact Or.inr h
  have hS : va_S A s.heap s.heap [] := va_S.rf
  have hl := lv_entry ([.ref (ad 0)]) (n := 4) (Nat.le_of_ble_eq_true rfl)
  rw [lg_entry_eq]
  generalize (lg_sl ([.ref (ad 0)]) ++ List.replicate (4 - (lg_sl ([.ref (ad 0)])).length) Slot.unset).toArray = ls at hl ⊢
  have hl : lv_has ls 4 [(0, .ref (ad 0))] := hl
  have kB80 : ∀ (v1 : Int32) (mIsBroken : Int32) (mHas : Nat → Int32) (mOwner : Nat → Int32) (mPrice : Nat → Int32) (mWrong : Nat → Int32), ∀ (H : Heap) (locs : List Loc), va_P (dC, dI) vwCl (wdX8_bidsAll cI cJ cT cII cJJ ad mN mStep mSeen mPlans mBooks mTexted mIsKept mSpot mKeeps mMindStep mAt mWhat mWhole mIsBroken mWorth mHas mOwner mPrice mWrong) H → va_D A (wdX8_bidsAll cI cJ cT cII cJJ ad mN mStep mSeen mPlans mBooks mTexted mIsKept mSpot mKeeps mMindStep mAt mWhat mWhole mIsBroken mWorth mHas mOwner mPrice mWrong) → va_S A s.heap H locs → ∀ ls : Array Slot, lv_has ls 4 [(0, .ref (ad 0)), (1, .int v1)] → wpX8_bidsAll_B80 mN mStep mWorth Post v1 mIsBroken mHas mOwner mPrice mWrong → W p l e (headSpec wsX8_bidsAll ({ frames := 4, cells := 0, slots := 0, locals := 90 } : Room)).room s m ([.ref (ad 0)] : List Value).toArray below meth c H locs 0 0 (MQ below (va_Qi (fun (r : Int32) (u : Int32 × (Nat → Int32) × (Nat → Int32) × (Nat → Int32) × (Nat → Int32)) => Post r u.1 u.2.1 u.2.2.1 u.2.2.2.1 u.2.2.2.2) (fun (u : Int32 × (Nat → Int32) × (Nat → Int32) × (Nat → Int32) × (Nat → Int32)) t => va_P (dC, dI) vwCl (wdX8_bidsAll cI cJ cT cII cJJ ad mN mStep mSeen mPlans mBooks mTexted mIsKept mSpot mKeeps mMindStep mAt mWhat mWhole u.1 mWorth u.2.1 u.2.2.1 u.2.2.2.1 u.2.2.2.2) t.heap) A) ([.ref (ad 0)] : List Value).toArray s 0 0 A) (F0 m 80 ls []) := by
    intro v1 mIsBroken mHas mOwner mPrice mWrong H locs hP hD hS ls hl hw
    unfold wpX8_bidsAll_B80 at hw
    refine lv_aload_n hx hb dX8_bidsAll_80 rfl (lv_at hl 0 rfl) ?_
    refine va_get (D := (dC, dI)) (ci := 8) (v := .int mIsBroken) (C := RX8) (T := TX8) (N := 36) hx hb hts (fun w h => List.mem_cons_of_mem _ (List.mem_append_right _ h)) hown hK hP 0 rfl rfl 30 (by decide) (hts (.fieldLink RX8 218 "BidMarketModel" "isBroken" "Z") (List.mem_of_getElem? (i := 1) rfl)) (fun _ h9 => h9) rfl dX8_bidsAll_81 ?_
    refine lv_if_ne (tgt := 91) hx hb dX8_bidsAll_84 (by decide) (fun c3 => ?_) (fun c3 => ?_)
    · have hw := hw.1 c3
      refine lv_iload_n hx hb dX8_bidsAll_91 rfl (lv_at hl 1 rfl) ?_
      exact W.iret (v := v1) hx hb hr (fun t ht hW => ⟨⟨v1, (mIsBroken, mHas, mOwner, mPrice, mWrong), rfl, hw, by show va_P _ _ _ t.heap; rw [ht]; exact hP⟩, hS.F ht⟩) hS.2.2 dX8_bidsAll_92
    · have hw := hw.2 c3
      refine lv_aload_n hx hb dX8_bidsAll_87 rfl (lv_at hl 0 rfl) ?_
      refine bw_wvv (wc := (wdX8_tellsLeft cI cJ cT cII cJJ ad mN mStep mSeen mPlans mBooks mTexted mIsKept mSpot mKeeps mMindStep mAt mWhat mWhole mIsBroken mHas mWrong)) (w1 := (fun (u : (Nat → Int32)) => wdX8_tellsLeft cI cJ cT cII cJJ ad mN mStep mSeen mPlans mBooks mTexted mIsKept mSpot mKeeps mMindStep mAt mWhat mWhole mIsBroken mHas u)) (As := []) (rest := []) ⟨hx, hb, hml, hown, hts⟩ (mX8_tellsLeft l dC dI cI cJ cT cII cJJ ad _ mN mStep mSeen mPlans mBooks mTexted mIsKept mSpot mKeeps mMindStep mAt mWhat mWhole mIsBroken mHas mWrong _ hw) (cwV 0 hts gX8_bidsAll_X8_tellsLeft rfl rfl rfl hdX8_tellsLeft ⟨Nat.le_of_ble_eq_true rfl, Nat.le_of_ble_eq_true rfl⟩) hK hP hD hS hA [0, 2, 5] rfl (by decide) (fun _ => rfl) rfl rfl rfl rfl hl.1 rfl (Nat.le_of_ble_eq_true rfl) ⟨Nat.le_of_ble_eq_true rfl, Nat.le_of_ble_eq_true rfl⟩ dX8_bidsAll_88 (fun u H locs hw hP hD hS => ?_)
      obtain ⟨y4, rfl⟩ : ∃ z, z = u := ⟨_, rfl⟩
      try dsimp only at hw
      have hP : va_P (dC, dI) vwCl (wdX8_bidsAll cI cJ cT cII cJJ ad mN mStep mSeen mPlans mBooks mTexted mIsKept mSpot mKeeps mMindStep mAt mWhat mWhole mIsBroken mWorth mHas mOwner mPrice y4) H := hP
      have hD : va_D A (wdX8_bidsAll cI cJ cT cII cJJ ad mN mStep mSeen mPlans mBooks mTexted mIsKept mSpot mKeeps mMindStep mAt mWhat mWhole mIsBroken mWorth mHas mOwner mPrice y4) := hD
      refine lv_iload_n hx hb dX8_bidsAll_91 rfl (lv_at hl 1 rfl) ?_
      exact W.iret (v := v1) hx hb hr (fun t ht hW => ⟨⟨v1, (mIsBroken, mHas, mOwner, mPrice, y4), rfl, hw, by show va_P _ _ _ t.heap; rw [ht]; exact hP⟩, hS.F ht⟩) hS.2.2 dX8_bidsAll_92
  have kB72 : ∀ (K12 : Int32 → Int32 → Int32 → (Nat → Int32) → (Nat → Int32) → (Nat → Int32) → (Nat → Int32) → Prop), (∀ (v1 : Int32) (v2 : Int32) (mIsBroken : Int32) (mHas : Nat → Int32) (mOwner : Nat → Int32) (mPrice : Nat → Int32) (mWrong : Nat → Int32), ∀ (H : Heap) (locs : List Loc), va_P (dC, dI) vwCl (wdX8_bidsAll cI cJ cT cII cJJ ad mN mStep mSeen mPlans mBooks mTexted mIsKept mSpot mKeeps mMindStep mAt mWhat mWhole mIsBroken mWorth mHas mOwner mPrice mWrong) H → va_D A (wdX8_bidsAll cI cJ cT cII cJJ ad mN mStep mSeen mPlans mBooks mTexted mIsKept mSpot mKeeps mMindStep mAt mWhat mWhole mIsBroken mWorth mHas mOwner mPrice mWrong) → va_S A s.heap H locs → ∀ ls : Array Slot, lv_has ls 4 [(0, .ref (ad 0)), (1, .int v1), (2, .int v2)] → K12 v1 v2 mIsBroken mHas mOwner mPrice mWrong → W p l e (headSpec wsX8_bidsAll ({ frames := 4, cells := 0, slots := 0, locals := 90 } : Room)).room s m ([.ref (ad 0)] : List Value).toArray below meth c H locs 0 0 (MQ below (va_Qi (fun (r : Int32) (u : Int32 × (Nat → Int32) × (Nat → Int32) × (Nat → Int32) × (Nat → Int32)) => Post r u.1 u.2.1 u.2.2.1 u.2.2.2.1 u.2.2.2.2) (fun (u : Int32 × (Nat → Int32) × (Nat → Int32) × (Nat → Int32) × (Nat → Int32)) t => va_P (dC, dI) vwCl (wdX8_bidsAll cI cJ cT cII cJJ ad mN mStep mSeen mPlans mBooks mTexted mIsKept mSpot mKeeps mMindStep mAt mWhat mWhole u.1 mWorth u.2.1 u.2.2.1 u.2.2.2.1 u.2.2.2.2) t.heap) A) ([.ref (ad 0)] : List Value).toArray s 0 0 A) (F0 m 12 ls [])) → ∀ (v1 : Int32) (mIsBroken : Int32) (mHas : Nat → Int32) (mOwner : Nat → Int32) (mPrice : Nat → Int32) (mWrong : Nat → Int32), ∀ (H : Heap) (locs : List Loc), va_P (dC, dI) vwCl (wdX8_bidsAll cI cJ cT cII cJJ ad mN mStep mSeen mPlans mBooks mTexted mIsKept mSpot mKeeps mMindStep mAt mWhat mWhole mIsBroken mWorth mHas mOwner mPrice mWrong) H → va_D A (wdX8_bidsAll cI cJ cT cII cJJ ad mN mStep mSeen mPlans mBooks mTexted mIsKept mSpot mKeeps mMindStep mAt mWhat mWhole mIsBroken mWorth mHas mOwner mPrice mWrong) → va_S A s.heap H locs → ∀ ls : Array Slot, lv_has ls 4 [(0, .ref (ad 0)), (1, .int v1)] → wpX8_bidsAll_B72 mN mStep mWorth K12 Post v1 mIsBroken mHas mOwner mPrice mWrong → W p l e (headSpec wsX8_bidsAll ({ frames := 4, cells := 0, slots := 0, locals := 90 } : Room)).room s m ([.ref (ad 0)] : List Value).toArray below meth c H locs 0 0 (MQ below (va_Qi (fun (r : Int32) (u : Int32 × (Nat → Int32) × (Nat → Int32) × (Nat → Int32) × (Nat → Int32)) => Post r u.1 u.2.1 u.2.2.1 u.2.2.2.1 u.2.2.2.2) (fun (u : Int32 × (Nat → Int32) × (Nat → Int32) × (Nat → Int32) × (Nat → Int32)) t => va_P (dC, dI) vwCl (wdX8_bidsAll cI cJ cT cII cJJ ad mN mStep mSeen mPlans mBooks mTexted mIsKept mSpot mKeeps mMindStep mAt mWhat mWhole u.1 mWorth u.2.1 u.2.2.1 u.2.2.2.1 u.2.2.2.2) t.heap) A) ([.ref (ad 0)] : List Value).toArray s 0 0 A) (F0 m 72 ls []) := by
    intro K12 hK12 v1 mIsBroken mHas mOwner mPrice mWrong H locs hP hD hS ls hl hw
    unfold wpX8_bidsAll_B72 at hw
    refine lv_aload_n hx hb dX8_bidsAll_72 rfl (lv_at hl 0 rfl) ?_
    refine bw_pvi (wc := (wdX8_next cI cJ cT cII cJJ ad mN mStep mSeen mPlans mBooks mTexted mIsKept mSpot mKeeps mMindStep mAt mWhat mWhole mIsBroken mWorth mHas mPrice)) (As := []) (rest := []) ⟨hx, hb, hml, hown, hts⟩ (mX8_next l dC dI cI cJ cT cII cJJ ad mN mStep mSeen mPlans mBooks mTexted mIsKept mSpot mKeeps mMindStep mAt mWhat mWhole mIsBroken mWorth mHas mPrice _ hw) (cwV 0 hts gX8_bidsAll_X8_next rfl rfl rfl hdX8_next ⟨Nat.le_of_ble_eq_true rfl, Nat.le_of_ble_eq_true rfl⟩) hK hP [0, 1, 2, 4] rfl rfl rfl rfl rfl hl.1 rfl (Nat.le_of_ble_eq_true rfl) ⟨Nat.le_of_ble_eq_true rfl, Nat.le_of_ble_eq_true rfl⟩ dX8_bidsAll_73 (fun r15 hw => ?_)
    refine lv_istore_n (lv' := [(2, .int r15), (0, .ref (ad 0)), (1, .int v1)]) hx hb dX8_bidsAll_76 rfl hl (by decide) rfl (fun ls hl => ?_)
    refine lv_goto (tgt := 12) hx hb dX8_bidsAll_77 (by decide) ?_
    exact hK12 v1 r15 mIsBroken mHas mOwner mPrice mWrong _ _ hP hD hS ls (lv_sub hl [1, 2, 0] rfl) hw
  have kB50 : ∀ (K12 : Int32 → Int32 → Int32 → (Nat → Int32) → (Nat → Int32) → (Nat → Int32) → (Nat → Int32) → Prop), (∀ (v1 : Int32) (v2 : Int32) (mIsBroken : Int32) (mHas : Nat → Int32) (mOwner : Nat → Int32) (mPrice : Nat → Int32) (mWrong : Nat → Int32), ∀ (H : Heap) (locs : List Loc), va_P (dC, dI) vwCl (wdX8_bidsAll cI cJ cT cII cJJ ad mN mStep mSeen mPlans mBooks mTexted mIsKept mSpot mKeeps mMindStep mAt mWhat mWhole mIsBroken mWorth mHas mOwner mPrice mWrong) H → va_D A (wdX8_bidsAll cI cJ cT cII cJJ ad mN mStep mSeen mPlans mBooks mTexted mIsKept mSpot mKeeps mMindStep mAt mWhat mWhole mIsBroken mWorth mHas mOwner mPrice mWrong) → va_S A s.heap H locs → ∀ ls : Array Slot, lv_has ls 4 [(0, .ref (ad 0)), (1, .int v1), (2, .int v2)] → K12 v1 v2 mIsBroken mHas mOwner mPrice mWrong → W p l e (headSpec wsX8_bidsAll ({ frames := 4, cells := 0, slots := 0, locals := 90 } : Room)).room s m ([.ref (ad 0)] : List Value).toArray below meth c H locs 0 0 (MQ below (va_Qi (fun (r : Int32) (u : Int32 × (Nat → Int32) × (Nat → Int32) × (Nat → Int32) × (Nat → Int32)) => Post r u.1 u.2.1 u.2.2.1 u.2.2.2.1 u.2.2.2.2) (fun (u : Int32 × (Nat → Int32) × (Nat → Int32) × (Nat → Int32) × (Nat → Int32)) t => va_P (dC, dI) vwCl (wdX8_bidsAll cI cJ cT cII cJJ ad mN mStep mSeen mPlans mBooks mTexted mIsKept mSpot mKeeps mMindStep mAt mWhat mWhole u.1 mWorth u.2.1 u.2.2.1 u.2.2.2.1 u.2.2.2.2) t.heap) A) ([.ref (ad 0)] : List Value).toArray s 0 0 A) (F0 m 12 ls [])) → ∀ (v1 : Int32) (v2 : Int32) (s1 : Int32) (mIsBroken : Int32) (mHas : Nat → Int32) (mOwner : Nat → Int32) (mPrice : Nat → Int32) (mWrong : Nat → Int32), ∀ (H : Heap) (locs : List Loc), va_P (dC, dI) vwCl (wdX8_bidsAll cI cJ cT cII cJJ ad mN mStep mSeen mPlans mBooks mTexted mIsKept mSpot mKeeps mMindStep mAt mWhat mWhole mIsBroken mWorth mHas mOwner mPrice mWrong) H → va_D A (wdX8_bidsAll cI cJ cT cII cJJ ad mN mStep mSeen mPlans mBooks mTexted mIsKept mSpot mKeeps mMindStep mAt mWhat mWhole mIsBroken mWorth mHas mOwner mPrice mWrong) → va_S A s.heap H locs → ∀ ls : Array Slot, lv_has ls 4 [(0, .ref (ad 0)), (1, .int v1), (2, .int v2)] → wpX8_bidsAll_B50 mN mStep mWorth K12 Post v1 v2 s1 mIsBroken mHas mOwner mPrice mWrong → W p l e (headSpec wsX8_bidsAll ({ frames := 4, cells := 0, slots := 0, locals := 90 } : Room)).room s m ([.ref (ad 0)] : List Value).toArray below meth c H locs 0 0 (MQ below (va_Qi (fun (r : Int32) (u : Int32 × (Nat → Int32) × (Nat → Int32) × (Nat → Int32) × (Nat → Int32)) => Post r u.1 u.2.1 u.2.2.1 u.2.2.2.1 u.2.2.2.2) (fun (u : Int32 × (Nat → Int32) × (Nat → Int32) × (Nat → Int32) × (Nat → Int32)) t => va_P (dC, dI) vwCl (wdX8_bidsAll cI cJ cT cII cJJ ad mN mStep mSeen mPlans mBooks mTexted mIsKept mSpot mKeeps mMindStep mAt mWhat mWhole u.1 mWorth u.2.1 u.2.2.1 u.2.2.2.1 u.2.2.2.2) t.heap) A) ([.ref (ad 0)] : List Value).toArray s 0 0 A) (F0 m 50 ls [.int s1, .ref (ad 0)]) := by
    intro K12 hK12 v1 v2 s1 mIsBroken mHas mOwner mPrice mWrong H locs hP hD hS ls hl hw
    unfold wpX8_bidsAll_B50 at hw
    have h13 := hw.1
    have hw := hw.2
    refine va_put (D := (dC, dI)) (ci := 8) (v := .int s1) (ty := .boolean) (C := RX8) (T := TX8) (N := 36) hx hb hts (fun w h => List.mem_cons_of_mem _ (List.mem_append_right _ h)) tyX8 tyX8_ok nmX8 hown hK hP hD hS 0 rfl rfl 30 (by decide) (hts (.fieldLink RX8 218 "BidMarketModel" "isBroken" "Z") (List.mem_of_getElem? (i := 1) rfl)) (fun _ h9 => h9) rfl (by decide +kernel) (bw_z h13) (bw_zf h13) (Nat.le_of_ble_eq_true rfl) dX8_bidsAll_50 (fun H locs hP hD hS => ?_)
    have hP : va_P (dC, dI) vwCl (wdX8_bidsAll cI cJ cT cII cJJ ad mN mStep mSeen mPlans mBooks mTexted mIsKept mSpot mKeeps mMindStep mAt mWhat mWhole s1 mWorth mHas mOwner mPrice mWrong) H := hP
    have hD : va_D A (wdX8_bidsAll cI cJ cT cII cJJ ad mN mStep mSeen mPlans mBooks mTexted mIsKept mSpot mKeeps mMindStep mAt mWhat mWhole s1 mWorth mHas mOwner mPrice mWrong) := hD
    refine lv_aload_n hx hb dX8_bidsAll_53 rfl (lv_at hl 0 rfl) ?_
    refine va_get (D := (dC, dI)) (ci := 8) (v := .int s1) (C := RX8) (T := TX8) (N := 36) hx hb hts (fun w h => List.mem_cons_of_mem _ (List.mem_append_right _ h)) hown hK hP 0 rfl rfl 30 (by decide) (hts (.fieldLink RX8 218 "BidMarketModel" "isBroken" "Z") (List.mem_of_getElem? (i := 1) rfl)) (fun _ h9 => h9) rfl dX8_bidsAll_54 ?_
    refine lv_if_eq (tgt := 72) hx hb dX8_bidsAll_57 (by decide) (fun c14 => ?_) (fun c14 => ?_)
    · have hw := hw.1 c14
      exact kB72 K12 hK12 v1 s1 mHas mOwner mPrice mWrong _ _ hP hD hS ls (lv_sub hl [0, 1] rfl) hw
    · have hw := hw.2 c14
      refine lv_aload_n hx hb dX8_bidsAll_60 rfl (lv_at hl 0 rfl) ?_
      refine lv_iconst (v := 4) hx hb dX8_bidsAll_61 (by decide) ?_
      refine lv_sipush (v := 200) hx hb dX8_bidsAll_62 (by decide) ?_
      refine lv_iload_n hx hb dX8_bidsAll_65 rfl (lv_at hl 2 rfl) ?_
      refine lv_iadd hx hb dX8_bidsAll_66 ?_
      refine lv_bipush (v := (-5)) hx hb dX8_bidsAll_67 (by decide) ?_
      refine bw_wvv (wc := (wdX8_tellsWrong cI cJ cT cII cJJ ad mN mStep mSeen mPlans mBooks mTexted mIsKept mSpot mKeeps mMindStep mAt mWhat mWhole s1 mWrong)) (w1 := (fun (u : (Nat → Int32)) => wdX8_tellsWrong cI cJ cT cII cJJ ad mN mStep mSeen mPlans mBooks mTexted mIsKept mSpot mKeeps mMindStep mAt mWhat mWhole s1 u)) (As := [.int 4, .int (200 + v2), .int ((-5))]) (rest := []) ⟨hx, hb, hml, hown, hts⟩ (mX8_tellsWrong l dC dI cI cJ cT cII cJJ ad _ mN mStep mSeen mPlans mBooks mTexted mIsKept mSpot mKeeps mMindStep mAt mWhat mWhole s1 mWrong 4 (200 + v2) ((-5)) _ hw) (cwV 3 hts gX8_bidsAll_X8_tellsWrong rfl rfl rfl hdX8_tellsWrong ⟨Nat.le_of_ble_eq_true rfl, Nat.le_of_ble_eq_true rfl⟩) hK hP hD hS hA [0, 5] rfl (by decide) (fun _ => rfl) rfl rfl rfl rfl hl.1 rfl (Nat.le_of_ble_eq_true rfl) ⟨Nat.le_of_ble_eq_true rfl, Nat.le_of_ble_eq_true rfl⟩ dX8_bidsAll_69 (fun u H locs hw hP hD hS => ?_)
      obtain ⟨y16, rfl⟩ : ∃ z, z = u := ⟨_, rfl⟩
      try dsimp only at hw
      have hP : va_P (dC, dI) vwCl (wdX8_bidsAll cI cJ cT cII cJJ ad mN mStep mSeen mPlans mBooks mTexted mIsKept mSpot mKeeps mMindStep mAt mWhat mWhole s1 mWorth mHas mOwner mPrice y16) H := hP
      have hD : va_D A (wdX8_bidsAll cI cJ cT cII cJJ ad mN mStep mSeen mPlans mBooks mTexted mIsKept mSpot mKeeps mMindStep mAt mWhat mWhole s1 mWorth mHas mOwner mPrice y16) := hD
      exact kB72 K12 hK12 v1 s1 mHas mOwner mPrice y16 _ _ hP hD hS ls (lv_sub hl [0, 1] rfl) hw
  have kB12 : ∀ f : Nat, ∀ (v1 : Int32) (v2 : Int32) (mIsBroken : Int32) (mHas : Nat → Int32) (mOwner : Nat → Int32) (mPrice : Nat → Int32) (mWrong : Nat → Int32), ∀ (H : Heap) (locs : List Loc), va_P (dC, dI) vwCl (wdX8_bidsAll cI cJ cT cII cJJ ad mN mStep mSeen mPlans mBooks mTexted mIsKept mSpot mKeeps mMindStep mAt mWhat mWhole mIsBroken mWorth mHas mOwner mPrice mWrong) H → va_D A (wdX8_bidsAll cI cJ cT cII cJJ ad mN mStep mSeen mPlans mBooks mTexted mIsKept mSpot mKeeps mMindStep mAt mWhat mWhole mIsBroken mWorth mHas mOwner mPrice mWrong) → va_S A s.heap H locs → ∀ ls : Array Slot, lv_has ls 4 [(0, .ref (ad 0)), (1, .int v1), (2, .int v2)] → wpX8_bidsAll_B12 mN mStep mWorth Post f v1 v2 mIsBroken mHas mOwner mPrice mWrong → W p l e (headSpec wsX8_bidsAll ({ frames := 4, cells := 0, slots := 0, locals := 90 } : Room)).room s m ([.ref (ad 0)] : List Value).toArray below meth c H locs 0 0 (MQ below (va_Qi (fun (r : Int32) (u : Int32 × (Nat → Int32) × (Nat → Int32) × (Nat → Int32) × (Nat → Int32)) => Post r u.1 u.2.1 u.2.2.1 u.2.2.2.1 u.2.2.2.2) (fun (u : Int32 × (Nat → Int32) × (Nat → Int32) × (Nat → Int32) × (Nat → Int32)) t => va_P (dC, dI) vwCl (wdX8_bidsAll cI cJ cT cII cJJ ad mN mStep mSeen mPlans mBooks mTexted mIsKept mSpot mKeeps mMindStep mAt mWhat mWhole u.1 mWorth u.2.1 u.2.2.1 u.2.2.2.1 u.2.2.2.2) t.heap) A) ([.ref (ad 0)] : List Value).toArray s 0 0 A) (F0 m 12 ls []) := by
    intro  f
    induction f with
    | zero => intro v1 v2 mIsBroken mHas mOwner mPrice mWrong H locs hP hD hS ls hl hw; exact (show False from hw).elim
    | succ f ih =>
      intro v1 v2 mIsBroken mHas mOwner mPrice mWrong H locs hP hD hS ls hl hw
      rw [wpX8_bidsAll_B12] at hw
      refine lv_iload_n hx hb dX8_bidsAll_12 rfl (lv_at hl 2 rfl) ?_
      refine lv_if_lt (tgt := 80) hx hb dX8_bidsAll_13 (by decide) (fun c2 => ?_) (fun c2 => ?_)
      · have hw := hw.1 c2
        exact kB80 v1 mIsBroken mHas mOwner mPrice mWrong _ _ hP hD hS ls (lv_sub hl [0, 1] rfl) hw
      · have hw := hw.2 c2
        refine lv_aload_n hx hb dX8_bidsAll_16 rfl (lv_at hl 0 rfl) ?_
        refine va_get (D := (dC, dI)) (ci := 8) (v := .int mIsBroken) (C := RX8) (T := TX8) (N := 36) hx hb hts (fun w h => List.mem_cons_of_mem _ (List.mem_append_right _ h)) hown hK hP 0 rfl rfl 30 (by decide) (hts (.fieldLink RX8 218 "BidMarketModel" "isBroken" "Z") (List.mem_of_getElem? (i := 1) rfl)) (fun _ h9 => h9) rfl dX8_bidsAll_17 ?_
        refine lv_if_ne (tgt := 80) hx hb dX8_bidsAll_20 (by decide) (fun c5 => ?_) (fun c5 => ?_)
        · have hw := hw.1 c5
          exact kB80 v1 mIsBroken mHas mOwner mPrice mWrong _ _ hP hD hS ls (lv_sub hl [0, 1] rfl) hw
        · have hw := hw.2 c5
          refine lv_aload_n hx hb dX8_bidsAll_23 rfl (lv_at hl 0 rfl) ?_
          refine lv_iload_n hx hb dX8_bidsAll_24 rfl (lv_at hl 2 rfl) ?_
          refine bw_wvi (wc := (wdX8_bids cI cJ cT cII cJJ ad mN mStep mSeen mPlans mBooks mTexted mIsKept mSpot mKeeps mMindStep mAt mWhat mWhole mIsBroken mWorth mHas mOwner mPrice)) (w1 := (fun (u : (Nat → Int32) × (Nat → Int32) × (Nat → Int32)) => wdX8_bids cI cJ cT cII cJJ ad mN mStep mSeen mPlans mBooks mTexted mIsKept mSpot mKeeps mMindStep mAt mWhat mWhole mIsBroken mWorth u.1 u.2.1 u.2.2)) (As := [.int v2]) (rest := []) ⟨hx, hb, hml, hown, hts⟩ (mX8_bids l dC dI cI cJ cT cII cJJ ad _ mN mStep mSeen mPlans mBooks mTexted mIsKept mSpot mKeeps mMindStep mAt mWhat mWhole mIsBroken mWorth mHas mOwner mPrice v2 _ hw) (cwV 1 hts gX8_bidsAll_X8_bids rfl rfl rfl hdX8_bids ⟨Nat.le_of_ble_eq_true rfl, Nat.le_of_ble_eq_true rfl⟩) hK hP hD hS hA [0, 1, 2, 3, 4] rfl (by decide) (fun _ => rfl) rfl rfl rfl rfl hl.1 rfl (Nat.le_of_ble_eq_true rfl) ⟨Nat.le_of_ble_eq_true rfl, Nat.le_of_ble_eq_true rfl⟩ dX8_bidsAll_25 (fun r6 u H locs hw hP hD hS => ?_)
          obtain ⟨y7, y8, y9⟩ := u
          try dsimp only at hw
          have hP : va_P (dC, dI) vwCl (wdX8_bidsAll cI cJ cT cII cJJ ad mN mStep mSeen mPlans mBooks mTexted mIsKept mSpot mKeeps mMindStep mAt mWhat mWhole mIsBroken mWorth y7 y8 y9 mWrong) H := hP
          have hD : va_D A (wdX8_bidsAll cI cJ cT cII cJJ ad mN mStep mSeen mPlans mBooks mTexted mIsKept mSpot mKeeps mMindStep mAt mWhat mWhole mIsBroken mWorth y7 y8 y9 mWrong) := hD
          refine lv_istore_n (lv' := [(3, .int r6), (0, .ref (ad 0)), (1, .int v1), (2, .int v2)]) hx hb dX8_bidsAll_28 rfl hl (by decide) rfl (fun ls hl => ?_)
          obtain ⟨x10, ex10⟩ : ∃ y : Int32, y = v1 + 1 := ⟨_, rfl⟩
          have hw := hw x10 ex10
          refine lv_iinc (v := x10) (lv' := [(1, .int x10), (3, .int r6), (0, .ref (ad 0)), (2, .int v2)]) hx hb dX8_bidsAll_29 hl (k := 2) rfl (by rw [ex10]; rfl) (by decide) rfl (fun ls hl => ?_)
          refine lv_aload_n hx hb dX8_bidsAll_32 rfl (lv_at hl 2 rfl) ?_
          refine lv_aload_n hx hb dX8_bidsAll_33 rfl (lv_at hl 2 rfl) ?_
          refine va_get (D := (dC, dI)) (ci := 8) (v := .ref (ad 4)) (C := RX8) (T := TX8) (N := 36) hx hb hts (fun w h => List.mem_cons_of_mem _ (List.mem_append_right _ h)) hown hK hP 0 rfl rfl 5 (by decide) (hts (.fieldLink RX8 28 "BidMarketModel" "price" "[I") (List.mem_of_getElem? (i := 2) rfl)) (fun _ h9 => h9) rfl dX8_bidsAll_34 ?_
          refine lv_iload_n hx hb dX8_bidsAll_37 rfl (lv_at hl 1 rfl) ?_
          have h11 := hw.1
          have hw := hw.2
          refine va_iald hx hb hK hP 4 0 rfl rfl h11 dX8_bidsAll_38 ?_
          refine lv_sipush (v := 2000) hx hb dX8_bidsAll_39 (by decide) ?_
          refine lv_icmp_le (tgt := 49) hx hb dX8_bidsAll_42 (by decide) (fun c12 => ?_) (fun c12 => ?_)
          · have hw := hw.1 c12
            refine lv_iconst (v := 0) hx hb dX8_bidsAll_49 (by decide) ?_
            exact kB50 (wpX8_bidsAll_B12 mN mStep mWorth Post f) ih x10 v2 0 mIsBroken y7 y8 y9 mWrong _ _ hP hD hS ls (lv_sub hl [2, 0, 3] rfl) hw
          · have hw := hw.2 c12
            refine lv_iconst (v := 1) hx hb dX8_bidsAll_45 (by decide) ?_
            refine lv_goto (tgt := 50) hx hb dX8_bidsAll_46 (by decide) ?_
            exact kB50 (wpX8_bidsAll_B12 mN mStep mWorth Post f) ih x10 v2 1 mIsBroken y7 y8 y9 mWrong _ _ hP hD hS ls (lv_sub hl [2, 0, 3] rfl) hw
  unfold wpX8_bidsAll at hw
  refine lv_iconst (v := 0) hx hb dX8_bidsAll_0 (by decide) ?_
  refine lv_istore_n (lv' := [(1, .int 0), (0, .ref (ad 0))]) hx hb dX8_bidsAll_1 rfl hl (by decide) rfl (fun ls hl => ?_)
  refine lv_aload_n hx hb dX8_bidsAll_2 rfl (lv_at hl 1 rfl) ?_
  refine lv_iconst (v := 0) hx hb dX8_bidsAll_3 (by decide) ?_
  refine va_put (D := (dC, dI)) (ci := 8) (v := .int 0) (ty := .boolean) (C := RX8) (T := TX8) (N := 36) hx hb hts (fun w h => List.mem_cons_of_mem _ (List.mem_append_right _ h)) tyX8 tyX8_ok nmX8 hown hK hP hD hS 0 rfl rfl 30 (by decide) (hts (.fieldLink RX8 218 "BidMarketModel" "isBroken" "Z") (List.mem_of_getElem? (i := 1) rfl)) (fun _ h9 => h9) rfl (by decide +kernel) rfl rfl (Nat.le_of_ble_eq_true rfl) dX8_bidsAll_4 (fun H locs hP hD hS => ?_)
  have hP : va_P (dC, dI) vwCl (wdX8_bidsAll cI cJ cT cII cJJ ad mN mStep mSeen mPlans mBooks mTexted mIsKept mSpot mKeeps mMindStep mAt mWhat mWhole 0 mWorth mHas mOwner mPrice mWrong) H := hP
  have hD : va_D A (wdX8_bidsAll cI cJ cT cII cJJ ad mN mStep mSeen mPlans mBooks mTexted mIsKept mSpot mKeeps mMindStep mAt mWhat mWhole 0 mWorth mHas mOwner mPrice mWrong) := hD
  refine lv_aload_n hx hb dX8_bidsAll_7 rfl (lv_at hl 1 rfl) ?_
  refine bw_pvi (wc := (wdX8_next cI cJ cT cII cJJ ad mN mStep mSeen mPlans mBooks mTexted mIsKept mSpot mKeeps mMindStep mAt mWhat mWhole 0 mWorth mHas mPrice)) (As := []) (rest := []) ⟨hx, hb, hml, hown, hts⟩ (mX8_next l dC dI cI cJ cT cII cJJ ad mN mStep mSeen mPlans mBooks mTexted mIsKept mSpot mKeeps mMindStep mAt mWhat mWhole 0 mWorth mHas mPrice _ hw) (cwV 0 hts gX8_bidsAll_X8_next rfl rfl rfl hdX8_next ⟨Nat.le_of_ble_eq_true rfl, Nat.le_of_ble_eq_true rfl⟩) hK hP [0, 1, 2, 4] rfl rfl rfl rfl rfl hl.1 rfl (Nat.le_of_ble_eq_true rfl) ⟨Nat.le_of_ble_eq_true rfl, Nat.le_of_ble_eq_true rfl⟩ dX8_bidsAll_8 (fun r1 hw => ?_)
  refine lv_istore_n (lv' := [(2, .int r1), (1, .int 0), (0, .ref (ad 0))]) hx hb dX8_bidsAll_11 rfl hl (by decide) rfl (fun ls hl => ?_)
  obtain ⟨f1, hw⟩ := hw
  exact kB12 f1 0 r1 0 mHas mOwner mPrice mWrong _ _ hP hD hS ls (lv_sub hl [2, 1, 0] rfl) hw
set_option maxHeartbeats 4000000 in
set_option maxRecDepth 100000 in
theorem mX8_bid (l : Launch) (dC : Nat → ClassId) (dI : Nat → Nat → Nat) (cI cJ cT cII cJJ : ClassId) (ad : Nat → Nat) (sz : Nat) (mN : Int32) (mStep : Int32) (mSeen : Int32) (mPlans : Int32) (mBooks : Int32) (mTexted : Int32) (mIsKept : Int32) (mSpot : Int32) (mKeeps : Int32) (mMindStep : Int32) (mAt : Int32) (mWhat : Int32) (mWhole : Int32) (mIsBroken : Int32) (mWorth : Nat → Int32) (mHas : Nat → Int32) (mOwner : Nat → Int32) (mPrice : Nat → Int32) (Post : Int32 → (Nat → Int32) → (Nat → Int32) → (Nat → Int32) → Prop) (hw : wpX8_bid mN mStep mWorth mHas mOwner mPrice Post) : Met l yX8_bid wsX8_bid ({ frames := 4, cells := 0, slots := 0, locals := 90 } : Room) (va_Pc [.ref (ad 0)] (fun U => U.heap.size = sz ∧ va_P (dC, dI) vwCl (wdX8_bid cI cJ cT cII cJJ ad mN mStep mSeen mPlans mBooks mTexted mIsKept mSpot mKeeps mMindStep mAt mWhat mWhole mIsBroken mWorth mHas mOwner mPrice) U.heap ∧ va_K (dC, dI) vwCl (bw_tys cI cJ cT cII cJJ) U ∧ va_D (fun _ => True) (wdX8_bid cI cJ cT cII cJJ ad mN mStep mSeen mPlans mBooks mTexted mIsKept mSpot mKeeps mMindStep mAt mWhat mWhole mIsBroken mWorth mHas mOwner mPrice))) (va_Qi (fun (r : Int32) (u : (Nat → Int32) × (Nat → Int32) × (Nat → Int32)) => Post r u.1 u.2.1 u.2.2) (fun (u : (Nat → Int32) × (Nat → Int32) × (Nat → Int32)) t => va_P (dC, dI) vwCl (wdX8_bid cI cJ cT cII cJJ ad mN mStep mSeen mPlans mBooks mTexted mIsKept mSpot mKeeps mMindStep mAt mWhat mWhole mIsBroken mWorth u.1 u.2.1 u.2.2) t.heap) (va_A (wdX8_bid cI cJ cT cII cJJ ad mN mStep mSeen mPlans mBooks mTexted mIsKept mSpot mKeeps mMindStep mAt mWhat mWhole mIsBroken mWorth mHas mOwner mPrice) sz)) 0 0 (va_A (wdX8_bid cI cJ cT cII cJJ ad mN mStep mSeen mPlans mBooks mTexted mIsKept mSpot mKeeps mMindStep mAt mWhat mWhole mIsBroken mWorth mHas mOwner mPrice) sz) := by
  refine Met.ofW (cc := cX8_bid) (maxL := 2) (ret := (some .int)) (by decide) rfl ?_
  intro p e s m args below meth c s₁ B hml hv
  obtain ⟨rfl, hsz, hP, hK, hD0⟩ := hv
  have hx := B.exec
  have hb := B.bytes
  have hr := B.returns
  have hts := atoms_spec (ws := wsX8_bid) B.pre
  have hown : s.vm.findClass RX8 = some m.cls := findClass_of_methodNamed B.named
  have hlocks := B.notSynchronized
  subst hsz
  have hD := hD0.self (sz := s.heap.size)
  generalize hAe : va_A (wdX8_bid cI cJ cT cII cJJ ad mN mStep mSeen mPlans mBooks mTexted mIsKept mSpot mKeeps mMindStep mAt mWhat mWhole mIsBroken mWorth mHas mOwner mPrice) s.heap.size = A at hD ⊢
  have hA : ∀ q : Nat, s.heap.size ≤ q → A q := fun q h => by rw [← hAe]; exact Or.inr h
  have hS : va_S A s.heap s.heap [] := va_S.rf
  have hl := lv_entry ([.ref (ad 0)]) (n := 2) (Nat.le_of_ble_eq_true rfl)
  rw [lg_entry_eq]
  generalize (lg_sl ([.ref (ad 0)]) ++ List.replicate (2 - (lg_sl ([.ref (ad 0)])).length) Slot.unset).toArray = ls at hl ⊢
  have hl : lv_has ls 2 [(0, .ref (ad 0))] := hl
  unfold wpX8_bid at hw
  refine lv_aload_n hx hb dX8_bid_0 rfl (lv_at hl 0 rfl) ?_
  refine bw_pvi (wc := (wdX8_next cI cJ cT cII cJJ ad mN mStep mSeen mPlans mBooks mTexted mIsKept mSpot mKeeps mMindStep mAt mWhat mWhole mIsBroken mWorth mHas mPrice)) (As := []) (rest := []) ⟨hx, hb, hml, hown, hts⟩ (mX8_next l dC dI cI cJ cT cII cJJ ad mN mStep mSeen mPlans mBooks mTexted mIsKept mSpot mKeeps mMindStep mAt mWhat mWhole mIsBroken mWorth mHas mPrice _ hw) (cwV 0 hts gX8_bid_X8_next rfl rfl rfl hdX8_next ⟨Nat.le_of_ble_eq_true rfl, Nat.le_of_ble_eq_true rfl⟩) hK hP [0, 1, 2, 4] rfl rfl rfl rfl rfl hl.1 rfl (Nat.le_of_ble_eq_true rfl) ⟨Nat.le_of_ble_eq_true rfl, Nat.le_of_ble_eq_true rfl⟩ dX8_bid_1 (fun r1 hw => ?_)
  refine lv_istore_n (lv' := [(1, .int r1), (0, .ref (ad 0))]) hx hb dX8_bid_4 rfl hl (by decide) rfl (fun ls hl => ?_)
  refine lv_iload_n hx hb dX8_bid_5 rfl (lv_at hl 0 rfl) ?_
  refine lv_if_ge (tgt := 14) hx hb dX8_bid_6 (by decide) (fun c2 => ?_) (fun c2 => ?_)
  · have hw := hw.1 c2
    refine lv_aload_n hx hb dX8_bid_14 rfl (lv_at hl 1 rfl) ?_
    refine lv_iload_n hx hb dX8_bid_15 rfl (lv_at hl 0 rfl) ?_
    refine bw_wvi (wc := (wdX8_bids cI cJ cT cII cJJ ad mN mStep mSeen mPlans mBooks mTexted mIsKept mSpot mKeeps mMindStep mAt mWhat mWhole mIsBroken mWorth mHas mOwner mPrice)) (w1 := (fun (u : (Nat → Int32) × (Nat → Int32) × (Nat → Int32)) => wdX8_bids cI cJ cT cII cJJ ad mN mStep mSeen mPlans mBooks mTexted mIsKept mSpot mKeeps mMindStep mAt mWhat mWhole mIsBroken mWorth u.1 u.2.1 u.2.2)) (As := [.int r1]) (rest := []) ⟨hx, hb, hml, hown, hts⟩ (mX8_bids l dC dI cI cJ cT cII cJJ ad _ mN mStep mSeen mPlans mBooks mTexted mIsKept mSpot mKeeps mMindStep mAt mWhat mWhole mIsBroken mWorth mHas mOwner mPrice r1 _ hw) (cwV 1 hts gX8_bid_X8_bids rfl rfl rfl hdX8_bids ⟨Nat.le_of_ble_eq_true rfl, Nat.le_of_ble_eq_true rfl⟩) hK hP hD hS hA [0, 1, 2, 3, 4] rfl (by decide) (fun _ => rfl) rfl rfl rfl rfl hl.1 rfl (Nat.le_of_ble_eq_true rfl) ⟨Nat.le_of_ble_eq_true rfl, Nat.le_of_ble_eq_true rfl⟩ dX8_bid_16 (fun r3 u H locs hw hP hD hS => ?_)
    obtain ⟨y4, y5, y6⟩ := u
    try dsimp only at hw
    have hP : va_P (dC, dI) vwCl (wdX8_bid cI cJ cT cII cJJ ad mN mStep mSeen mPlans mBooks mTexted mIsKept mSpot mKeeps mMindStep mAt mWhat mWhole mIsBroken mWorth y4 y5 y6) H := hP
    have hD : va_D A (wdX8_bid cI cJ cT cII cJJ ad mN mStep mSeen mPlans mBooks mTexted mIsKept mSpot mKeeps mMindStep mAt mWhat mWhole mIsBroken mWorth y4 y5 y6) := hD
    exact W.iret (v := r3) hx hb hr (fun t ht hW => ⟨⟨r3, (y4, y5, y6), rfl, hw, by show va_P _ _ _ t.heap; rw [ht]; exact hP⟩, hS.F ht⟩) hS.2.2 dX8_bid_19
  · have hw := hw.2 c2
    refine lv_bipush (v := (-5)) hx hb dX8_bid_9 (by decide) ?_
    refine lv_goto (tgt := 19) hx hb dX8_bid_11 (by decide) ?_
    exact W.iret (v := (-5)) hx hb hr (fun t ht hW => ⟨⟨(-5), (mHas, mOwner, mPrice), rfl, hw, by show va_P _ _ _ t.heap; rw [ht]; exact hP⟩, hS.F ht⟩) hS.2.2 dX8_bid_19
set_option maxHeartbeats 4000000 in
set_option maxRecDepth 100000 in
theorem mX8_auction (l : Launch) (dC : Nat → ClassId) (dI : Nat → Nat → Nat) (cI cJ cT cII cJJ : ClassId) (ad : Nat → Nat) (sz : Nat) (mN : Int32) (mStep : Int32) (mSeen : Int32) (mPlans : Int32) (mBooks : Int32) (mTexted : Int32) (mIsKept : Int32) (mSpot : Int32) (mKeeps : Int32) (mMindStep : Int32) (mAt : Int32) (mWhat : Int32) (mWhole : Int32) (mIsBroken : Int32) (mWorth : Nat → Int32) (mHas : Nat → Int32) (mOwner : Nat → Int32) (mPrice : Nat → Int32) (mWrong : Nat → Int32) (Post : Int32 → Int32 → (Nat → Int32) → (Nat → Int32) → (Nat → Int32) → (Nat → Int32) → Prop) (hw : wpX8_auction mN mStep mIsBroken mWorth mHas mOwner mPrice mWrong Post) : Met l yX8_auction wsX8_auction ({ frames := 5, cells := 0, slots := 0, locals := 113 } : Room) (va_Pc [.ref (ad 0)] (fun U => U.heap.size = sz ∧ va_P (dC, dI) vwCl (wdX8_auction cI cJ cT cII cJJ ad mN mStep mSeen mPlans mBooks mTexted mIsKept mSpot mKeeps mMindStep mAt mWhat mWhole mIsBroken mWorth mHas mOwner mPrice mWrong) U.heap ∧ va_K (dC, dI) vwCl (bw_tys cI cJ cT cII cJJ) U ∧ va_D (fun _ => True) (wdX8_auction cI cJ cT cII cJJ ad mN mStep mSeen mPlans mBooks mTexted mIsKept mSpot mKeeps mMindStep mAt mWhat mWhole mIsBroken mWorth mHas mOwner mPrice mWrong))) (va_Qi (fun (r : Int32) (u : Int32 × (Nat → Int32) × (Nat → Int32) × (Nat → Int32) × (Nat → Int32)) => Post r u.1 u.2.1 u.2.2.1 u.2.2.2.1 u.2.2.2.2) (fun (u : Int32 × (Nat → Int32) × (Nat → Int32) × (Nat → Int32) × (Nat → Int32)) t => va_P (dC, dI) vwCl (wdX8_auction cI cJ cT cII cJJ ad mN mStep mSeen mPlans mBooks mTexted mIsKept mSpot mKeeps mMindStep mAt mWhat mWhole u.1 mWorth u.2.1 u.2.2.1 u.2.2.2.1 u.2.2.2.2) t.heap) (va_A (wdX8_auction cI cJ cT cII cJJ ad mN mStep mSeen mPlans mBooks mTexted mIsKept mSpot mKeeps mMindStep mAt mWhat mWhole mIsBroken mWorth mHas mOwner mPrice mWrong) sz)) 0 0 (va_A (wdX8_auction cI cJ cT cII cJJ ad mN mStep mSeen mPlans mBooks mTexted mIsKept mSpot mKeeps mMindStep mAt mWhat mWhole mIsBroken mWorth mHas mOwner mPrice mWrong) sz) := by
  refine Met.ofW (cc := cX8_auction) (maxL := 2) (ret := (some .int)) (by decide) rfl ?_
  intro p e s m args below meth c s₁ B hml hv
  obtain ⟨rfl, hsz, hP, hK, hD0⟩ := hv
  have hx := B.exec
  have hb := B.bytes
  have hr := B.returns
  have hts := atoms_spec (ws := wsX8_auction) B.pre
  have hown : s.vm.findClass RX8 = some m.cls := findClass_of_methodNamed B.named
  have hlocks := B.notSynchronized
  subst hsz
  have hD := hD0.self (sz := s.heap.size)
  generalize hAe : va_A (wdX8_auction cI cJ cT cII cJJ ad mN mStep mSeen mPlans mBooks mTexted mIsKept mSpot mKeeps mMindStep mAt mWhat mWhole mIsBroken mWorth mHas mOwner mPrice mWrong) s.heap.size = A at hD ⊢
  have hA : ∀ q : Nat, s.heap.size ≤ q → A q := fun q h => by rw [← hAe]; exact Or.inr h
  have hS : va_S A s.heap s.heap [] := va_S.rf
  have hl := lv_entry ([.ref (ad 0)]) (n := 2) (Nat.le_of_ble_eq_true rfl)
  rw [lg_entry_eq]
  generalize (lg_sl ([.ref (ad 0)]) ++ List.replicate (2 - (lg_sl ([.ref (ad 0)])).length) Slot.unset).toArray = ls at hl ⊢
  have hl : lv_has ls 2 [(0, .ref (ad 0))] := hl
  unfold wpX8_auction at hw
  refine lv_aload_n hx hb dX8_auction_0 rfl (lv_at hl 0 rfl) ?_
  refine bw_wvi (wc := (wdX8_bidsAll cI cJ cT cII cJJ ad mN mStep mSeen mPlans mBooks mTexted mIsKept mSpot mKeeps mMindStep mAt mWhat mWhole mIsBroken mWorth mHas mOwner mPrice mWrong)) (w1 := (fun (u : Int32 × (Nat → Int32) × (Nat → Int32) × (Nat → Int32) × (Nat → Int32)) => wdX8_bidsAll cI cJ cT cII cJJ ad mN mStep mSeen mPlans mBooks mTexted mIsKept mSpot mKeeps mMindStep mAt mWhat mWhole u.1 mWorth u.2.1 u.2.2.1 u.2.2.2.1 u.2.2.2.2)) (As := []) (rest := []) ⟨hx, hb, hml, hown, hts⟩ (mX8_bidsAll l dC dI cI cJ cT cII cJJ ad _ mN mStep mSeen mPlans mBooks mTexted mIsKept mSpot mKeeps mMindStep mAt mWhat mWhole mIsBroken mWorth mHas mOwner mPrice mWrong _ hw) (cwV 0 hts gX8_auction_X8_bidsAll rfl rfl rfl hdX8_bidsAll ⟨Nat.le_of_ble_eq_true rfl, Nat.le_of_ble_eq_true rfl⟩) hK hP hD hS hA [0, 1, 2, 3, 4, 5] rfl (by decide) (fun _ => rfl) rfl rfl rfl rfl hl.1 rfl (Nat.le_of_ble_eq_true rfl) ⟨Nat.le_of_ble_eq_true rfl, Nat.le_of_ble_eq_true rfl⟩ dX8_auction_1 (fun r1 u H locs hw hP hD hS => ?_)
  obtain ⟨y2, y3, y4, y5, y6⟩ := u
  try dsimp only at hw
  have hP : va_P (dC, dI) vwCl (wdX8_auction cI cJ cT cII cJJ ad mN mStep mSeen mPlans mBooks mTexted mIsKept mSpot mKeeps mMindStep mAt mWhat mWhole y2 mWorth y3 y4 y5 y6) H := hP
  have hD : va_D A (wdX8_auction cI cJ cT cII cJJ ad mN mStep mSeen mPlans mBooks mTexted mIsKept mSpot mKeeps mMindStep mAt mWhat mWhole y2 mWorth y3 y4 y5 y6) := hD
  refine lv_istore_n (lv' := [(1, .int r1), (0, .ref (ad 0))]) hx hb dX8_auction_4 rfl hl (by decide) rfl (fun ls hl => ?_)
  refine lv_aload_n hx hb dX8_auction_5 rfl (lv_at hl 1 rfl) ?_
  refine va_get (D := (dC, dI)) (ci := 8) (v := .int y2) (C := RX8) (T := TX8) (N := 36) hx hb hts (fun w h => List.mem_cons_of_mem _ (List.mem_append_right _ h)) hown hK hP 0 rfl rfl 30 (by decide) (hts (.fieldLink RX8 218 "BidMarketModel" "isBroken" "Z") (List.mem_of_getElem? (i := 1) rfl)) (fun _ h9 => h9) rfl dX8_auction_6 ?_
  refine lv_if_eq (tgt := 19) hx hb dX8_auction_9 (by decide) (fun c7 => ?_) (fun c7 => ?_)
  · have hw := hw.1 c7
    refine lv_iload_n hx hb dX8_auction_19 rfl (lv_at hl 0 rfl) ?_
    exact W.iret (v := r1) hx hb hr (fun t ht hW => ⟨⟨r1, (y2, y3, y4, y5, y6), rfl, hw, by show va_P _ _ _ t.heap; rw [ht]; exact hP⟩, hS.F ht⟩) hS.2.2 dX8_auction_20
  · have hw := hw.2 c7
    refine lv_bipush (v := (-10)) hx hb dX8_auction_12 (by decide) ?_
    refine lv_iload_n hx hb dX8_auction_14 rfl (lv_at hl 0 rfl) ?_
    refine lv_isub hx hb dX8_auction_15 ?_
    refine lv_goto (tgt := 20) hx hb dX8_auction_16 (by decide) ?_
    exact W.iret (v := ((-10)) - r1) hx hb hr (fun t ht hW => ⟨⟨((-10)) - r1, (y2, y3, y4, y5, y6), rfl, hw, by show va_P _ _ _ t.heap; rw [ht]; exact hP⟩, hS.F ht⟩) hS.2.2 dX8_auction_20
set_option maxHeartbeats 4000000 in
set_option maxRecDepth 100000 in
theorem mX8_scaled (l : Launch) (dC : Nat → ClassId) (dI : Nat → Nat → Nat) (cI cJ cT cII cJJ : ClassId) (ad : Nat → Nat) (sz : Nat) (mN : Int32) (mStep : Int32) (mSeen : Int32) (mPlans : Int32) (mBooks : Int32) (mTexted : Int32) (mIsKept : Int32) (mSpot : Int32) (mKeeps : Int32) (mMindStep : Int32) (mAt : Int32) (mWhat : Int32) (mWhole : Int32) (mIsBroken : Int32) (mWorth : Nat → Int32) (mHas : Nat → Int32) (mOwner : Nat → Int32) (mPrice : Nat → Int32) (mWrong : Nat → Int32) (Post : Int32 → Int32 → Int32 → (Nat → Int32) → (Nat → Int32) → (Nat → Int32) → (Nat → Int32) → Prop) (hw : wpX8_scaled mN mStep mIsBroken mWorth mHas mOwner mPrice mWrong Post) : Met l yX8_scaled wsX8_scaled ({ frames := 5, cells := 0, slots := 0, locals := 113 } : Room) (va_Pc [.ref (ad 0)] (fun U => U.heap.size = sz ∧ va_P (dC, dI) vwCl (wdX8_scaled cI cJ cT cII cJJ ad mN mStep mSeen mPlans mBooks mTexted mIsKept mSpot mKeeps mMindStep mAt mWhat mWhole mIsBroken mWorth mHas mOwner mPrice mWrong) U.heap ∧ va_K (dC, dI) vwCl (bw_tys cI cJ cT cII cJJ) U ∧ va_D (fun _ => True) (wdX8_scaled cI cJ cT cII cJJ ad mN mStep mSeen mPlans mBooks mTexted mIsKept mSpot mKeeps mMindStep mAt mWhat mWhole mIsBroken mWorth mHas mOwner mPrice mWrong))) (va_Qi (fun (r : Int32) (u : Int32 × Int32 × (Nat → Int32) × (Nat → Int32) × (Nat → Int32) × (Nat → Int32)) => Post r u.1 u.2.1 u.2.2.1 u.2.2.2.1 u.2.2.2.2.1 u.2.2.2.2.2) (fun (u : Int32 × Int32 × (Nat → Int32) × (Nat → Int32) × (Nat → Int32) × (Nat → Int32)) t => va_P (dC, dI) vwCl (wdX8_scaled cI cJ cT cII cJJ ad mN u.1 mSeen mPlans mBooks mTexted mIsKept mSpot mKeeps mMindStep mAt mWhat mWhole u.2.1 mWorth u.2.2.1 u.2.2.2.1 u.2.2.2.2.1 u.2.2.2.2.2) t.heap) (va_A (wdX8_scaled cI cJ cT cII cJJ ad mN mStep mSeen mPlans mBooks mTexted mIsKept mSpot mKeeps mMindStep mAt mWhat mWhole mIsBroken mWorth mHas mOwner mPrice mWrong) sz)) 0 0 (va_A (wdX8_scaled cI cJ cT cII cJJ ad mN mStep mSeen mPlans mBooks mTexted mIsKept mSpot mKeeps mMindStep mAt mWhat mWhole mIsBroken mWorth mHas mOwner mPrice mWrong) sz) := by
  refine Met.ofW (cc := cX8_scaled) (maxL := 5) (ret := (some .int)) (by decide) rfl ?_
  intro p e s m args below meth c s₁ B hml hv
  obtain ⟨rfl, hsz, hP, hK, hD0⟩ := hv
  have hx := B.exec
  have hb := B.bytes
  have hr := B.returns
  have hts := atoms_spec (ws := wsX8_scaled) B.pre
  have hown : s.vm.findClass RX8 = some m.cls := findClass_of_methodNamed B.named
  have hlocks := B.notSynchronized
  subst hsz
  have hD := hD0.self (sz := s.heap.size)
  generalize hAe : va_A (wdX8_scaled cI cJ cT cII cJJ ad mN mStep mSeen mPlans mBooks mTexted mIsKept mSpot mKeeps mMindStep mAt mWhat mWhole mIsBroken mWorth mHas mOwner mPrice mWrong) s.heap.size = A at hD ⊢
  have hA : ∀ q : Nat, s.heap.size ≤ q → A q := fun q h => by rw [← hAe]; exact Or.inr h
  have hS : va_S A s.heap s.heap [] := va_S.rf
  have hl := lv_entry ([.ref (ad 0)]) (n := 5) (Nat.le_of_ble_eq_true rfl)
  rw [lg_entry_eq]
  generalize (lg_sl ([.ref (ad 0)]) ++ List.replicate (5 - (lg_sl ([.ref (ad 0)])).length) Slot.unset).toArray = ls at hl ⊢
  have hl : lv_has ls 5 [(0, .ref (ad 0))] := hl
  have kB89 : ∀ (v1 : Int32) (v2 : Int32) (mStep : Int32) (mIsBroken : Int32) (mHas : Nat → Int32) (mOwner : Nat → Int32) (mPrice : Nat → Int32) (mWrong : Nat → Int32), ∀ (H : Heap) (locs : List Loc), va_P (dC, dI) vwCl (wdX8_scaled cI cJ cT cII cJJ ad mN mStep mSeen mPlans mBooks mTexted mIsKept mSpot mKeeps mMindStep mAt mWhat mWhole mIsBroken mWorth mHas mOwner mPrice mWrong) H → va_D A (wdX8_scaled cI cJ cT cII cJJ ad mN mStep mSeen mPlans mBooks mTexted mIsKept mSpot mKeeps mMindStep mAt mWhat mWhole mIsBroken mWorth mHas mOwner mPrice mWrong) → va_S A s.heap H locs → ∀ ls : Array Slot, lv_has ls 5 [(0, .ref (ad 0)), (1, .int v1), (2, .int v2)] → wpX8_scaled_B89 mN mWorth Post v1 v2 mStep mIsBroken mHas mOwner mPrice mWrong → W p l e (headSpec wsX8_scaled ({ frames := 5, cells := 0, slots := 0, locals := 113 } : Room)).room s m ([.ref (ad 0)] : List Value).toArray below meth c H locs 0 0 (MQ below (va_Qi (fun (r : Int32) (u : Int32 × Int32 × (Nat → Int32) × (Nat → Int32) × (Nat → Int32) × (Nat → Int32)) => Post r u.1 u.2.1 u.2.2.1 u.2.2.2.1 u.2.2.2.2.1 u.2.2.2.2.2) (fun (u : Int32 × Int32 × (Nat → Int32) × (Nat → Int32) × (Nat → Int32) × (Nat → Int32)) t => va_P (dC, dI) vwCl (wdX8_scaled cI cJ cT cII cJJ ad mN u.1 mSeen mPlans mBooks mTexted mIsKept mSpot mKeeps mMindStep mAt mWhat mWhole u.2.1 mWorth u.2.2.1 u.2.2.2.1 u.2.2.2.2.1 u.2.2.2.2.2) t.heap) A) ([.ref (ad 0)] : List Value).toArray s 0 0 A) (F0 m 89 ls []) := by
    intro v1 v2 mStep mIsBroken mHas mOwner mPrice mWrong H locs hP hD hS ls hl hw
    unfold wpX8_scaled_B89 at hw
    refine lv_aload_n hx hb dX8_scaled_89 rfl (lv_at hl 0 rfl) ?_
    refine lv_iload_n hx hb dX8_scaled_90 rfl (lv_at hl 1 rfl) ?_
    refine va_put (D := (dC, dI)) (ci := 8) (v := .int v1) (ty := .int) (C := RX8) (T := TX8) (N := 36) hx hb hts (fun w h => List.mem_cons_of_mem _ (List.mem_append_right _ h)) tyX8 tyX8_ok nmX8 hown hK hP hD hS 0 rfl rfl 1 (by decide) (hts (.fieldLink RX8 15 "BidMarketModel" "step" "I") (List.mem_of_getElem? (i := 1) rfl)) (fun _ h9 => h9) rfl (by decide +kernel) rfl rfl (Nat.le_of_ble_eq_true rfl) dX8_scaled_91 (fun H locs hP hD hS => ?_)
    have hP : va_P (dC, dI) vwCl (wdX8_scaled cI cJ cT cII cJJ ad mN v1 mSeen mPlans mBooks mTexted mIsKept mSpot mKeeps mMindStep mAt mWhat mWhole mIsBroken mWorth mHas mOwner mPrice mWrong) H := hP
    have hD : va_D A (wdX8_scaled cI cJ cT cII cJJ ad mN v1 mSeen mPlans mBooks mTexted mIsKept mSpot mKeeps mMindStep mAt mWhat mWhole mIsBroken mWorth mHas mOwner mPrice mWrong) := hD
    refine lv_aload_n hx hb dX8_scaled_94 rfl (lv_at hl 0 rfl) ?_
    refine va_get (D := (dC, dI)) (ci := 8) (v := .int mIsBroken) (C := RX8) (T := TX8) (N := 36) hx hb hts (fun w h => List.mem_cons_of_mem _ (List.mem_append_right _ h)) hown hK hP 0 rfl rfl 30 (by decide) (hts (.fieldLink RX8 218 "BidMarketModel" "isBroken" "Z") (List.mem_of_getElem? (i := 2) rfl)) (fun _ h9 => h9) rfl dX8_scaled_95 ?_
    refine lv_if_eq (tgt := 108) hx hb dX8_scaled_98 (by decide) (fun c2 => ?_) (fun c2 => ?_)
    · have hw := hw.1 c2
      refine lv_iload_n hx hb dX8_scaled_108 rfl (lv_at hl 2 rfl) ?_
      exact W.iret (v := v2) hx hb hr (fun t ht hW => ⟨⟨v2, (v1, mIsBroken, mHas, mOwner, mPrice, mWrong), rfl, hw, by show va_P _ _ _ t.heap; rw [ht]; exact hP⟩, hS.F ht⟩) hS.2.2 dX8_scaled_109
    · have hw := hw.2 c2
      refine lv_bipush (v := (-10)) hx hb dX8_scaled_101 (by decide) ?_
      refine lv_iload_n hx hb dX8_scaled_103 rfl (lv_at hl 2 rfl) ?_
      refine lv_isub hx hb dX8_scaled_104 ?_
      refine lv_goto (tgt := 109) hx hb dX8_scaled_105 (by decide) ?_
      exact W.iret (v := ((-10)) - v2) hx hb hr (fun t ht hW => ⟨⟨((-10)) - v2, (v1, mIsBroken, mHas, mOwner, mPrice, mWrong), rfl, hw, by show va_P _ _ _ t.heap; rw [ht]; exact hP⟩, hS.F ht⟩) hS.2.2 dX8_scaled_109
  have kB82 : ∀ (K12 : Int32 → Int32 → Int32 → Int32 → Int32 → Int32 → (Nat → Int32) → (Nat → Int32) → (Nat → Int32) → (Nat → Int32) → Prop), (∀ (v1 : Int32) (v2 : Int32) (v3 : Int32) (v4 : Int32) (mStep : Int32) (mIsBroken : Int32) (mHas : Nat → Int32) (mOwner : Nat → Int32) (mPrice : Nat → Int32) (mWrong : Nat → Int32), ∀ (H : Heap) (locs : List Loc), va_P (dC, dI) vwCl (wdX8_scaled cI cJ cT cII cJJ ad mN mStep mSeen mPlans mBooks mTexted mIsKept mSpot mKeeps mMindStep mAt mWhat mWhole mIsBroken mWorth mHas mOwner mPrice mWrong) H → va_D A (wdX8_scaled cI cJ cT cII cJJ ad mN mStep mSeen mPlans mBooks mTexted mIsKept mSpot mKeeps mMindStep mAt mWhat mWhole mIsBroken mWorth mHas mOwner mPrice mWrong) → va_S A s.heap H locs → ∀ ls : Array Slot, lv_has ls 5 [(0, .ref (ad 0)), (1, .int v1), (2, .int v2), (3, .int v3), (4, .int v4)] → K12 v1 v2 v3 v4 mStep mIsBroken mHas mOwner mPrice mWrong → W p l e (headSpec wsX8_scaled ({ frames := 5, cells := 0, slots := 0, locals := 113 } : Room)).room s m ([.ref (ad 0)] : List Value).toArray below meth c H locs 0 0 (MQ below (va_Qi (fun (r : Int32) (u : Int32 × Int32 × (Nat → Int32) × (Nat → Int32) × (Nat → Int32) × (Nat → Int32)) => Post r u.1 u.2.1 u.2.2.1 u.2.2.2.1 u.2.2.2.2.1 u.2.2.2.2.2) (fun (u : Int32 × Int32 × (Nat → Int32) × (Nat → Int32) × (Nat → Int32) × (Nat → Int32)) t => va_P (dC, dI) vwCl (wdX8_scaled cI cJ cT cII cJJ ad mN u.1 mSeen mPlans mBooks mTexted mIsKept mSpot mKeeps mMindStep mAt mWhat mWhole u.2.1 mWorth u.2.2.1 u.2.2.2.1 u.2.2.2.2.1 u.2.2.2.2.2) t.heap) A) ([.ref (ad 0)] : List Value).toArray s 0 0 A) (F0 m 12 ls [])) → ∀ (v1 : Int32) (v2 : Int32) (v4 : Int32) (s0 : Int32) (mStep : Int32) (mIsBroken : Int32) (mHas : Nat → Int32) (mOwner : Nat → Int32) (mPrice : Nat → Int32) (mWrong : Nat → Int32), ∀ (H : Heap) (locs : List Loc), va_P (dC, dI) vwCl (wdX8_scaled cI cJ cT cII cJJ ad mN mStep mSeen mPlans mBooks mTexted mIsKept mSpot mKeeps mMindStep mAt mWhat mWhole mIsBroken mWorth mHas mOwner mPrice mWrong) H → va_D A (wdX8_scaled cI cJ cT cII cJJ ad mN mStep mSeen mPlans mBooks mTexted mIsKept mSpot mKeeps mMindStep mAt mWhat mWhole mIsBroken mWorth mHas mOwner mPrice mWrong) → va_S A s.heap H locs → ∀ ls : Array Slot, lv_has ls 5 [(0, .ref (ad 0)), (1, .int v1), (2, .int v2), (4, .int v4)] → wpX8_scaled_B82 mN mWorth K12 Post v1 v2 v4 s0 mStep mIsBroken mHas mOwner mPrice mWrong → W p l e (headSpec wsX8_scaled ({ frames := 5, cells := 0, slots := 0, locals := 113 } : Room)).room s m ([.ref (ad 0)] : List Value).toArray below meth c H locs 0 0 (MQ below (va_Qi (fun (r : Int32) (u : Int32 × Int32 × (Nat → Int32) × (Nat → Int32) × (Nat → Int32) × (Nat → Int32)) => Post r u.1 u.2.1 u.2.2.1 u.2.2.2.1 u.2.2.2.2.1 u.2.2.2.2.2) (fun (u : Int32 × Int32 × (Nat → Int32) × (Nat → Int32) × (Nat → Int32) × (Nat → Int32)) t => va_P (dC, dI) vwCl (wdX8_scaled cI cJ cT cII cJJ ad mN u.1 mSeen mPlans mBooks mTexted mIsKept mSpot mKeeps mMindStep mAt mWhat mWhole u.2.1 mWorth u.2.2.1 u.2.2.2.1 u.2.2.2.2.1 u.2.2.2.2.2) t.heap) A) ([.ref (ad 0)] : List Value).toArray s 0 0 A) (F0 m 82 ls [.int s0]) := by
    intro K12 hK12 v1 v2 v4 s0 mStep mIsBroken mHas mOwner mPrice mWrong H locs hP hD hS ls hl hw
    unfold wpX8_scaled_B82 at hw
    refine lv_istore_n (lv' := [(3, .int s0), (0, .ref (ad 0)), (1, .int v1), (2, .int v2), (4, .int v4)]) hx hb dX8_scaled_82 rfl hl (by decide) rfl (fun ls hl => ?_)
    obtain ⟨x18, ex18⟩ : ∃ y : Int32, y = v4 + 1 := ⟨_, rfl⟩
    have hw := hw x18 ex18
    refine lv_iinc (v := x18) (lv' := [(4, .int x18), (3, .int s0), (0, .ref (ad 0)), (1, .int v1), (2, .int v2)]) hx hb dX8_scaled_83 hl (k := 4) rfl (by rw [ex18]; rfl) (by decide) rfl (fun ls hl => ?_)
    refine lv_goto (tgt := 12) hx hb dX8_scaled_86 (by decide) ?_
    exact hK12 v1 v2 s0 x18 mStep mIsBroken mHas mOwner mPrice mWrong _ _ hP hD hS ls (lv_sub hl [2, 3, 4, 1, 0] rfl) hw
  have kB55 : ∀ (K12 : Int32 → Int32 → Int32 → Int32 → Int32 → Int32 → (Nat → Int32) → (Nat → Int32) → (Nat → Int32) → (Nat → Int32) → Prop), (∀ (v1 : Int32) (v2 : Int32) (v3 : Int32) (v4 : Int32) (mStep : Int32) (mIsBroken : Int32) (mHas : Nat → Int32) (mOwner : Nat → Int32) (mPrice : Nat → Int32) (mWrong : Nat → Int32), ∀ (H : Heap) (locs : List Loc), va_P (dC, dI) vwCl (wdX8_scaled cI cJ cT cII cJJ ad mN mStep mSeen mPlans mBooks mTexted mIsKept mSpot mKeeps mMindStep mAt mWhat mWhole mIsBroken mWorth mHas mOwner mPrice mWrong) H → va_D A (wdX8_scaled cI cJ cT cII cJJ ad mN mStep mSeen mPlans mBooks mTexted mIsKept mSpot mKeeps mMindStep mAt mWhat mWhole mIsBroken mWorth mHas mOwner mPrice mWrong) → va_S A s.heap H locs → ∀ ls : Array Slot, lv_has ls 5 [(0, .ref (ad 0)), (1, .int v1), (2, .int v2), (3, .int v3), (4, .int v4)] → K12 v1 v2 v3 v4 mStep mIsBroken mHas mOwner mPrice mWrong → W p l e (headSpec wsX8_scaled ({ frames := 5, cells := 0, slots := 0, locals := 113 } : Room)).room s m ([.ref (ad 0)] : List Value).toArray below meth c H locs 0 0 (MQ below (va_Qi (fun (r : Int32) (u : Int32 × Int32 × (Nat → Int32) × (Nat → Int32) × (Nat → Int32) × (Nat → Int32)) => Post r u.1 u.2.1 u.2.2.1 u.2.2.2.1 u.2.2.2.2.1 u.2.2.2.2.2) (fun (u : Int32 × Int32 × (Nat → Int32) × (Nat → Int32) × (Nat → Int32) × (Nat → Int32)) t => va_P (dC, dI) vwCl (wdX8_scaled cI cJ cT cII cJJ ad mN u.1 mSeen mPlans mBooks mTexted mIsKept mSpot mKeeps mMindStep mAt mWhat mWhole u.2.1 mWorth u.2.2.1 u.2.2.2.1 u.2.2.2.2.1 u.2.2.2.2.2) t.heap) A) ([.ref (ad 0)] : List Value).toArray s 0 0 A) (F0 m 12 ls [])) → ∀ (v1 : Int32) (v2 : Int32) (v4 : Int32) (s1 : Int32) (mStep : Int32) (mIsBroken : Int32) (mHas : Nat → Int32) (mOwner : Nat → Int32) (mPrice : Nat → Int32) (mWrong : Nat → Int32), ∀ (H : Heap) (locs : List Loc), va_P (dC, dI) vwCl (wdX8_scaled cI cJ cT cII cJJ ad mN mStep mSeen mPlans mBooks mTexted mIsKept mSpot mKeeps mMindStep mAt mWhat mWhole mIsBroken mWorth mHas mOwner mPrice mWrong) H → va_D A (wdX8_scaled cI cJ cT cII cJJ ad mN mStep mSeen mPlans mBooks mTexted mIsKept mSpot mKeeps mMindStep mAt mWhat mWhole mIsBroken mWorth mHas mOwner mPrice mWrong) → va_S A s.heap H locs → ∀ ls : Array Slot, lv_has ls 5 [(0, .ref (ad 0)), (1, .int v1), (2, .int v2), (4, .int v4)] → wpX8_scaled_B55 mN mWorth K12 Post v1 v2 v4 s1 mStep mIsBroken mHas mOwner mPrice mWrong → W p l e (headSpec wsX8_scaled ({ frames := 5, cells := 0, slots := 0, locals := 113 } : Room)).room s m ([.ref (ad 0)] : List Value).toArray below meth c H locs 0 0 (MQ below (va_Qi (fun (r : Int32) (u : Int32 × Int32 × (Nat → Int32) × (Nat → Int32) × (Nat → Int32) × (Nat → Int32)) => Post r u.1 u.2.1 u.2.2.1 u.2.2.2.1 u.2.2.2.2.1 u.2.2.2.2.2) (fun (u : Int32 × Int32 × (Nat → Int32) × (Nat → Int32) × (Nat → Int32) × (Nat → Int32)) t => va_P (dC, dI) vwCl (wdX8_scaled cI cJ cT cII cJJ ad mN u.1 mSeen mPlans mBooks mTexted mIsKept mSpot mKeeps mMindStep mAt mWhat mWhole u.2.1 mWorth u.2.2.1 u.2.2.2.1 u.2.2.2.2.1 u.2.2.2.2.2) t.heap) A) ([.ref (ad 0)] : List Value).toArray s 0 0 A) (F0 m 55 ls [.int s1, .ref (ad 0)]) := by
    intro K12 hK12 v1 v2 v4 s1 mStep mIsBroken mHas mOwner mPrice mWrong H locs hP hD hS ls hl hw
    unfold wpX8_scaled_B55 at hw
    refine va_put (D := (dC, dI)) (ci := 8) (v := .int s1) (ty := .int) (C := RX8) (T := TX8) (N := 36) hx hb hts (fun w h => List.mem_cons_of_mem _ (List.mem_append_right _ h)) tyX8 tyX8_ok nmX8 hown hK hP hD hS 0 rfl rfl 1 (by decide) (hts (.fieldLink RX8 15 "BidMarketModel" "step" "I") (List.mem_of_getElem? (i := 1) rfl)) (fun _ h9 => h9) rfl (by decide +kernel) rfl rfl (Nat.le_of_ble_eq_true rfl) dX8_scaled_55 (fun H locs hP hD hS => ?_)
    have hP : va_P (dC, dI) vwCl (wdX8_scaled cI cJ cT cII cJJ ad mN s1 mSeen mPlans mBooks mTexted mIsKept mSpot mKeeps mMindStep mAt mWhat mWhole mIsBroken mWorth mHas mOwner mPrice mWrong) H := hP
    have hD : va_D A (wdX8_scaled cI cJ cT cII cJJ ad mN s1 mSeen mPlans mBooks mTexted mIsKept mSpot mKeeps mMindStep mAt mWhat mWhole mIsBroken mWorth mHas mOwner mPrice mWrong) := hD
    refine lv_aload_n hx hb dX8_scaled_58 rfl (lv_at hl 0 rfl) ?_
    refine bw_wvi (wc := (wdX8_empties cI cJ cT cII cJJ ad mN s1 mSeen mPlans mBooks mTexted mIsKept mSpot mKeeps mMindStep mAt mWhat mWhole mIsBroken mHas mOwner)) (w1 := (fun (u : (Nat → Int32) × (Nat → Int32)) => wdX8_empties cI cJ cT cII cJJ ad mN s1 mSeen mPlans mBooks mTexted mIsKept mSpot mKeeps mMindStep mAt mWhat mWhole mIsBroken u.1 u.2)) (As := []) (rest := []) ⟨hx, hb, hml, hown, hts⟩ (mX8_empties l dC dI cI cJ cT cII cJJ ad _ mN s1 mSeen mPlans mBooks mTexted mIsKept mSpot mKeeps mMindStep mAt mWhat mWhole mIsBroken mHas mOwner _ hw) (cwV 0 hts gX8_scaled_X8_empties rfl rfl rfl hdX8_empties ⟨Nat.le_of_ble_eq_true rfl, Nat.le_of_ble_eq_true rfl⟩) hK hP hD hS hA [0, 2, 3] rfl (by decide) (fun _ => rfl) rfl rfl rfl rfl hl.1 rfl (Nat.le_of_ble_eq_true rfl) ⟨Nat.le_of_ble_eq_true rfl, Nat.le_of_ble_eq_true rfl⟩ dX8_scaled_59 (fun r7 u H locs hw hP hD hS => ?_)
    obtain ⟨y8, y9⟩ := u
    try dsimp only at hw
    have hP : va_P (dC, dI) vwCl (wdX8_scaled cI cJ cT cII cJJ ad mN s1 mSeen mPlans mBooks mTexted mIsKept mSpot mKeeps mMindStep mAt mWhat mWhole mIsBroken mWorth y8 y9 mPrice mWrong) H := hP
    have hD : va_D A (wdX8_scaled cI cJ cT cII cJJ ad mN s1 mSeen mPlans mBooks mTexted mIsKept mSpot mKeeps mMindStep mAt mWhat mWhole mIsBroken mWorth y8 y9 mPrice mWrong) := hD
    refine lv_pop hx hb dX8_scaled_62 rfl ?_
    refine lv_iload_n hx hb dX8_scaled_63 rfl (lv_at hl 2 rfl) ?_
    refine lv_aload_n hx hb dX8_scaled_64 rfl (lv_at hl 0 rfl) ?_
    refine bw_wvi (wc := (wdX8_bidsAll cI cJ cT cII cJJ ad mN s1 mSeen mPlans mBooks mTexted mIsKept mSpot mKeeps mMindStep mAt mWhat mWhole mIsBroken mWorth y8 y9 mPrice mWrong)) (w1 := (fun (u : Int32 × (Nat → Int32) × (Nat → Int32) × (Nat → Int32) × (Nat → Int32)) => wdX8_bidsAll cI cJ cT cII cJJ ad mN s1 mSeen mPlans mBooks mTexted mIsKept mSpot mKeeps mMindStep mAt mWhat mWhole u.1 mWorth u.2.1 u.2.2.1 u.2.2.2.1 u.2.2.2.2)) (As := []) (rest := [.int v2]) ⟨hx, hb, hml, hown, hts⟩ (mX8_bidsAll l dC dI cI cJ cT cII cJJ ad _ mN s1 mSeen mPlans mBooks mTexted mIsKept mSpot mKeeps mMindStep mAt mWhat mWhole mIsBroken mWorth y8 y9 mPrice mWrong _ hw) (cwV 0 hts gX8_scaled_X8_bidsAll rfl rfl rfl hdX8_bidsAll ⟨Nat.le_of_ble_eq_true rfl, Nat.le_of_ble_eq_true rfl⟩) hK hP hD hS hA [0, 1, 2, 3, 4, 5] rfl (by decide) (fun _ => rfl) rfl rfl rfl rfl hl.1 rfl (Nat.le_of_ble_eq_true rfl) ⟨Nat.le_of_ble_eq_true rfl, Nat.le_of_ble_eq_true rfl⟩ dX8_scaled_65 (fun r10 u H locs hw hP hD hS => ?_)
    obtain ⟨y11, y12, y13, y14, y15⟩ := u
    try dsimp only at hw
    have hP : va_P (dC, dI) vwCl (wdX8_scaled cI cJ cT cII cJJ ad mN s1 mSeen mPlans mBooks mTexted mIsKept mSpot mKeeps mMindStep mAt mWhat mWhole y11 mWorth y12 y13 y14 y15) H := hP
    have hD : va_D A (wdX8_scaled cI cJ cT cII cJJ ad mN s1 mSeen mPlans mBooks mTexted mIsKept mSpot mKeeps mMindStep mAt mWhat mWhole y11 mWorth y12 y13 y14 y15) := hD
    refine lv_iadd hx hb dX8_scaled_68 ?_
    refine lv_topi (fun x16 ex16 => ?_)
    have hw := hw x16 ex16
    refine lv_istore_n (lv' := [(2, .int x16), (0, .ref (ad 0)), (1, .int v1), (4, .int v4)]) hx hb dX8_scaled_69 rfl hl (by decide) rfl (fun ls hl => ?_)
    refine lv_aload_n hx hb dX8_scaled_70 rfl (lv_at hl 1 rfl) ?_
    refine va_get (D := (dC, dI)) (ci := 8) (v := .int y11) (C := RX8) (T := TX8) (N := 36) hx hb hts (fun w h => List.mem_cons_of_mem _ (List.mem_append_right _ h)) hown hK hP 0 rfl rfl 30 (by decide) (hts (.fieldLink RX8 218 "BidMarketModel" "isBroken" "Z") (List.mem_of_getElem? (i := 2) rfl)) (fun _ h9 => h9) rfl dX8_scaled_71 ?_
    refine lv_if_ne (tgt := 81) hx hb dX8_scaled_74 (by decide) (fun c17 => ?_) (fun c17 => ?_)
    · have hw := hw.1 c17
      refine lv_iconst (v := 0) hx hb dX8_scaled_81 (by decide) ?_
      exact kB82 K12 hK12 v1 x16 v4 0 s1 y11 y12 y13 y14 y15 _ _ hP hD hS ls (lv_sub hl [1, 2, 0, 3] rfl) hw
    · have hw := hw.2 c17
      refine lv_iconst (v := 1) hx hb dX8_scaled_77 (by decide) ?_
      refine lv_goto (tgt := 82) hx hb dX8_scaled_78 (by decide) ?_
      exact kB82 K12 hK12 v1 x16 v4 1 s1 y11 y12 y13 y14 y15 _ _ hP hD hS ls (lv_sub hl [1, 2, 0, 3] rfl) hw
  have kB12 : ∀ f : Nat, ∀ (v1 : Int32) (v2 : Int32) (v3 : Int32) (v4 : Int32) (mStep : Int32) (mIsBroken : Int32) (mHas : Nat → Int32) (mOwner : Nat → Int32) (mPrice : Nat → Int32) (mWrong : Nat → Int32), ∀ (H : Heap) (locs : List Loc), va_P (dC, dI) vwCl (wdX8_scaled cI cJ cT cII cJJ ad mN mStep mSeen mPlans mBooks mTexted mIsKept mSpot mKeeps mMindStep mAt mWhat mWhole mIsBroken mWorth mHas mOwner mPrice mWrong) H → va_D A (wdX8_scaled cI cJ cT cII cJJ ad mN mStep mSeen mPlans mBooks mTexted mIsKept mSpot mKeeps mMindStep mAt mWhat mWhole mIsBroken mWorth mHas mOwner mPrice mWrong) → va_S A s.heap H locs → ∀ ls : Array Slot, lv_has ls 5 [(0, .ref (ad 0)), (1, .int v1), (2, .int v2), (3, .int v3), (4, .int v4)] → wpX8_scaled_B12 mN mWorth Post f v1 v2 v3 v4 mStep mIsBroken mHas mOwner mPrice mWrong → W p l e (headSpec wsX8_scaled ({ frames := 5, cells := 0, slots := 0, locals := 113 } : Room)).room s m ([.ref (ad 0)] : List Value).toArray below meth c H locs 0 0 (MQ below (va_Qi (fun (r : Int32) (u : Int32 × Int32 × (Nat → Int32) × (Nat → Int32) × (Nat → Int32) × (Nat → Int32)) => Post r u.1 u.2.1 u.2.2.1 u.2.2.2.1 u.2.2.2.2.1 u.2.2.2.2.2) (fun (u : Int32 × Int32 × (Nat → Int32) × (Nat → Int32) × (Nat → Int32) × (Nat → Int32)) t => va_P (dC, dI) vwCl (wdX8_scaled cI cJ cT cII cJJ ad mN u.1 mSeen mPlans mBooks mTexted mIsKept mSpot mKeeps mMindStep mAt mWhat mWhole u.2.1 mWorth u.2.2.1 u.2.2.2.1 u.2.2.2.2.1 u.2.2.2.2.2) t.heap) A) ([.ref (ad 0)] : List Value).toArray s 0 0 A) (F0 m 12 ls []) := by
    intro  f
    induction f with
    | zero => intro v1 v2 v3 v4 mStep mIsBroken mHas mOwner mPrice mWrong H locs hP hD hS ls hl hw; exact (show False from hw).elim
    | succ f ih =>
      intro v1 v2 v3 v4 mStep mIsBroken mHas mOwner mPrice mWrong H locs hP hD hS ls hl hw
      rw [wpX8_scaled_B12] at hw
      refine lv_iload hx hb dX8_scaled_12 (lv_at hl 4 rfl) ?_
      refine lv_iconst (v := 4) hx hb dX8_scaled_14 (by decide) ?_
      refine lv_icmp_ge (tgt := 89) hx hb dX8_scaled_15 (by decide) (fun c1 => ?_) (fun c1 => ?_)
      · have hw := hw.1 c1
        exact kB89 v1 v2 mStep mIsBroken mHas mOwner mPrice mWrong _ _ hP hD hS ls (lv_sub hl [0, 1, 2] rfl) hw
      · have hw := hw.2 c1
        refine lv_iload_n hx hb dX8_scaled_18 rfl (lv_at hl 3 rfl) ?_
        refine lv_if_eq (tgt := 89) hx hb dX8_scaled_19 (by decide) (fun c3 => ?_) (fun c3 => ?_)
        · have hw := hw.1 c3
          exact kB89 v1 v2 mStep mIsBroken mHas mOwner mPrice mWrong _ _ hP hD hS ls (lv_sub hl [0, 1, 2] rfl) hw
        · have hw := hw.2 c3
          refine lv_aload_n hx hb dX8_scaled_22 rfl (lv_at hl 0 rfl) ?_
          refine lv_iload hx hb dX8_scaled_23 (lv_at hl 4 rfl) ?_
          refine lv_if_ne (tgt := 33) hx hb dX8_scaled_25 (by decide) (fun c4 => ?_) (fun c4 => ?_)
          · have hw := hw.1 c4
            refine lv_iload hx hb dX8_scaled_33 (lv_at hl 4 rfl) ?_
            refine lv_iconst (v := 1) hx hb dX8_scaled_35 (by decide) ?_
            refine lv_icmp_ne (tgt := 44) hx hb dX8_scaled_36 (by decide) (fun c5 => ?_) (fun c5 => ?_)
            · have hw := hw.1 c5
              refine lv_iload hx hb dX8_scaled_44 (lv_at hl 4 rfl) ?_
              refine lv_iconst (v := 2) hx hb dX8_scaled_46 (by decide) ?_
              refine lv_icmp_ne (tgt := 54) hx hb dX8_scaled_47 (by decide) (fun c6 => ?_) (fun c6 => ?_)
              · have hw := hw.1 c6
                refine lv_iconst (v := 1) hx hb dX8_scaled_54 (by decide) ?_
                exact kB55 (wpX8_scaled_B12 mN mWorth Post f) ih v1 v2 v4 1 mStep mIsBroken mHas mOwner mPrice mWrong _ _ hP hD hS ls (lv_sub hl [0, 1, 2, 4] rfl) hw
              · have hw := hw.2 c6
                refine lv_iconst (v := 2) hx hb dX8_scaled_50 (by decide) ?_
                refine lv_goto (tgt := 55) hx hb dX8_scaled_51 (by decide) ?_
                exact kB55 (wpX8_scaled_B12 mN mWorth Post f) ih v1 v2 v4 2 mStep mIsBroken mHas mOwner mPrice mWrong _ _ hP hD hS ls (lv_sub hl [0, 1, 2, 4] rfl) hw
            · have hw := hw.2 c5
              refine lv_bipush (v := 10) hx hb dX8_scaled_39 (by decide) ?_
              refine lv_goto (tgt := 55) hx hb dX8_scaled_41 (by decide) ?_
              exact kB55 (wpX8_scaled_B12 mN mWorth Post f) ih v1 v2 v4 10 mStep mIsBroken mHas mOwner mPrice mWrong _ _ hP hD hS ls (lv_sub hl [0, 1, 2, 4] rfl) hw
          · have hw := hw.2 c4
            refine lv_bipush (v := 50) hx hb dX8_scaled_28 (by decide) ?_
            refine lv_goto (tgt := 55) hx hb dX8_scaled_30 (by decide) ?_
            exact kB55 (wpX8_scaled_B12 mN mWorth Post f) ih v1 v2 v4 50 mStep mIsBroken mHas mOwner mPrice mWrong _ _ hP hD hS ls (lv_sub hl [0, 1, 2, 4] rfl) hw
  unfold wpX8_scaled at hw
  refine lv_aload_n hx hb dX8_scaled_0 rfl (lv_at hl 0 rfl) ?_
  refine va_get (D := (dC, dI)) (ci := 8) (v := .int mStep) (C := RX8) (T := TX8) (N := 36) hx hb hts (fun w h => List.mem_cons_of_mem _ (List.mem_append_right _ h)) hown hK hP 0 rfl rfl 1 (by decide) (hts (.fieldLink RX8 15 "BidMarketModel" "step" "I") (List.mem_of_getElem? (i := 1) rfl)) (fun _ h9 => h9) rfl dX8_scaled_1 ?_
  refine lv_istore_n (lv' := [(1, .int mStep), (0, .ref (ad 0))]) hx hb dX8_scaled_4 rfl hl (by decide) rfl (fun ls hl => ?_)
  refine lv_iconst (v := 0) hx hb dX8_scaled_5 (by decide) ?_
  refine lv_istore_n (lv' := [(2, .int 0), (1, .int mStep), (0, .ref (ad 0))]) hx hb dX8_scaled_6 rfl hl (by decide) rfl (fun ls hl => ?_)
  refine lv_iconst (v := 1) hx hb dX8_scaled_7 (by decide) ?_
  refine lv_istore_n (lv' := [(3, .int 1), (2, .int 0), (1, .int mStep), (0, .ref (ad 0))]) hx hb dX8_scaled_8 rfl hl (by decide) rfl (fun ls hl => ?_)
  refine lv_iconst (v := 0) hx hb dX8_scaled_9 (by decide) ?_
  refine lv_istore (lv' := [(4, .int 0), (3, .int 1), (2, .int 0), (1, .int mStep), (0, .ref (ad 0))]) hx hb dX8_scaled_10 hl (by decide) rfl (fun ls hl => ?_)
  obtain ⟨f1, hw⟩ := hw
  exact kB12 f1 mStep 0 1 0 mStep mIsBroken mHas mOwner mPrice mWrong _ _ hP hD hS ls (lv_sub hl [4, 3, 2, 1, 0] rfl) hw
set_option maxHeartbeats 4000000 in
set_option maxRecDepth 100000 in
theorem mX8_fresh (l : Launch) (dC : Nat → ClassId) (dI : Nat → Nat → Nat) (cI cJ cT cII cJJ : ClassId) (ad : Nat → Nat) (sz : Nat) (mN : Int32) (mStep : Int32) (mSeen : Int32) (mPlans : Int32) (mBooks : Int32) (mTexted : Int32) (mIsKept : Int32) (mSpot : Int32) (mKeeps : Int32) (mMindStep : Int32) (mAt : Int32) (mWhat : Int32) (mWhole : Int32) (mIsBroken : Int32) (mHas : Nat → Int32) (mOwner : Nat → Int32) (mPrice : Nat → Int32) (Post : Int32 → (Nat → Int32) → (Nat → Int32) → (Nat → Int32) → Prop) (hw : wpX8_fresh mN mHas mOwner mPrice Post) : Met l yX8_fresh wsX8_fresh ({ frames := 1, cells := 0, slots := 0, locals := 22 } : Room) (va_Pc [.ref (ad 0)] (fun U => U.heap.size = sz ∧ va_P (dC, dI) vwCl (wdX8_fresh cI cJ cT cII cJJ ad mN mStep mSeen mPlans mBooks mTexted mIsKept mSpot mKeeps mMindStep mAt mWhat mWhole mIsBroken mHas mOwner mPrice) U.heap ∧ va_K (dC, dI) vwCl (bw_tys cI cJ cT cII cJJ) U ∧ va_D (fun _ => True) (wdX8_fresh cI cJ cT cII cJJ ad mN mStep mSeen mPlans mBooks mTexted mIsKept mSpot mKeeps mMindStep mAt mWhat mWhole mIsBroken mHas mOwner mPrice))) (va_Qi (fun (r : Int32) (u : (Nat → Int32) × (Nat → Int32) × (Nat → Int32)) => Post r u.1 u.2.1 u.2.2) (fun (u : (Nat → Int32) × (Nat → Int32) × (Nat → Int32)) t => va_P (dC, dI) vwCl (wdX8_fresh cI cJ cT cII cJJ ad mN mStep mSeen mPlans mBooks mTexted mIsKept mSpot mKeeps mMindStep mAt mWhat mWhole mIsBroken u.1 u.2.1 u.2.2) t.heap) (va_A (wdX8_fresh cI cJ cT cII cJJ ad mN mStep mSeen mPlans mBooks mTexted mIsKept mSpot mKeeps mMindStep mAt mWhat mWhole mIsBroken mHas mOwner mPrice) sz)) 0 0 (va_A (wdX8_fresh cI cJ cT cII cJJ ad mN mStep mSeen mPlans mBooks mTexted mIsKept mSpot mKeeps mMindStep mAt mWhat mWhole mIsBroken mHas mOwner mPrice) sz) := by
  refine Met.ofW (cc := cX8_fresh) (maxL := 1) (ret := (some .int)) (by decide) rfl ?_
  intro p e s m args below meth c s₁ B hml hv
  obtain ⟨rfl, hsz, hP, hK, hD0⟩ := hv
  have hx := B.exec
  have hb := B.bytes
  have hr := B.returns
  have hts := atoms_spec (ws := wsX8_fresh) B.pre
  have hown : s.vm.findClass RX8 = some m.cls := findClass_of_methodNamed B.named
  have hlocks := B.notSynchronized
  subst hsz
  have hD := hD0.self (sz := s.heap.size)
  generalize hAe : va_A (wdX8_fresh cI cJ cT cII cJJ ad mN mStep mSeen mPlans mBooks mTexted mIsKept mSpot mKeeps mMindStep mAt mWhat mWhole mIsBroken mHas mOwner mPrice) s.heap.size = A at hD ⊢
  have hA : ∀ q : Nat, s.heap.size ≤ q → A q := fun q h => by rw [← hAe]; exact Or.inr h
  have hS : va_S A s.heap s.heap [] := va_S.rf
  have hl := lv_entry ([.ref (ad 0)]) (n := 1) (Nat.le_of_ble_eq_true rfl)
  rw [lg_entry_eq]
  generalize (lg_sl ([.ref (ad 0)]) ++ List.replicate (1 - (lg_sl ([.ref (ad 0)])).length) Slot.unset).toArray = ls at hl ⊢
  have hl : lv_has ls 1 [(0, .ref (ad 0))] := hl
  unfold wpX8_fresh at hw
  refine lv_aload_n hx hb dX8_fresh_0 rfl (lv_at hl 0 rfl) ?_
  refine bw_wvv (wc := (wdX8_free cI cJ cT cII cJJ ad mN mStep mSeen mPlans mBooks mTexted mIsKept mSpot mKeeps mMindStep mAt mWhat mWhole mIsBroken mPrice)) (w1 := (fun (u : (Nat → Int32)) => wdX8_free cI cJ cT cII cJJ ad mN mStep mSeen mPlans mBooks mTexted mIsKept mSpot mKeeps mMindStep mAt mWhat mWhole mIsBroken u)) (As := []) (rest := []) ⟨hx, hb, hml, hown, hts⟩ (mX8_free l dC dI cI cJ cT cII cJJ ad _ mN mStep mSeen mPlans mBooks mTexted mIsKept mSpot mKeeps mMindStep mAt mWhat mWhole mIsBroken mPrice _ hw) (cwV 0 hts gX8_fresh_X8_free rfl rfl rfl hdX8_free ⟨Nat.le_of_ble_eq_true rfl, Nat.le_of_ble_eq_true rfl⟩) hK hP hD hS hA [0, 3] rfl (by decide) (fun _ => rfl) rfl rfl rfl rfl hl.1 rfl (Nat.le_of_ble_eq_true rfl) ⟨Nat.le_of_ble_eq_true rfl, Nat.le_of_ble_eq_true rfl⟩ dX8_fresh_1 (fun u H locs hw hP hD hS => ?_)
  obtain ⟨y1, rfl⟩ : ∃ z, z = u := ⟨_, rfl⟩
  try dsimp only at hw
  have hP : va_P (dC, dI) vwCl (wdX8_fresh cI cJ cT cII cJJ ad mN mStep mSeen mPlans mBooks mTexted mIsKept mSpot mKeeps mMindStep mAt mWhat mWhole mIsBroken mHas mOwner y1) H := hP
  have hD : va_D A (wdX8_fresh cI cJ cT cII cJJ ad mN mStep mSeen mPlans mBooks mTexted mIsKept mSpot mKeeps mMindStep mAt mWhat mWhole mIsBroken mHas mOwner y1) := hD
  refine lv_aload_n hx hb dX8_fresh_4 rfl (lv_at hl 0 rfl) ?_
  refine bw_wvi (wc := (wdX8_empties cI cJ cT cII cJJ ad mN mStep mSeen mPlans mBooks mTexted mIsKept mSpot mKeeps mMindStep mAt mWhat mWhole mIsBroken mHas mOwner)) (w1 := (fun (u : (Nat → Int32) × (Nat → Int32)) => wdX8_empties cI cJ cT cII cJJ ad mN mStep mSeen mPlans mBooks mTexted mIsKept mSpot mKeeps mMindStep mAt mWhat mWhole mIsBroken u.1 u.2)) (As := []) (rest := []) ⟨hx, hb, hml, hown, hts⟩ (mX8_empties l dC dI cI cJ cT cII cJJ ad _ mN mStep mSeen mPlans mBooks mTexted mIsKept mSpot mKeeps mMindStep mAt mWhat mWhole mIsBroken mHas mOwner _ hw) (cwV 0 hts gX8_fresh_X8_empties rfl rfl rfl hdX8_empties ⟨Nat.le_of_ble_eq_true rfl, Nat.le_of_ble_eq_true rfl⟩) hK hP hD hS hA [0, 1, 2] rfl (by decide) (fun _ => rfl) rfl rfl rfl rfl hl.1 rfl (Nat.le_of_ble_eq_true rfl) ⟨Nat.le_of_ble_eq_true rfl, Nat.le_of_ble_eq_true rfl⟩ dX8_fresh_5 (fun r2 u H locs hw hP hD hS => ?_)
  obtain ⟨y3, y4⟩ := u
  try dsimp only at hw
  have hP : va_P (dC, dI) vwCl (wdX8_fresh cI cJ cT cII cJJ ad mN mStep mSeen mPlans mBooks mTexted mIsKept mSpot mKeeps mMindStep mAt mWhat mWhole mIsBroken y3 y4 y1) H := hP
  have hD : va_D A (wdX8_fresh cI cJ cT cII cJJ ad mN mStep mSeen mPlans mBooks mTexted mIsKept mSpot mKeeps mMindStep mAt mWhat mWhole mIsBroken y3 y4 y1) := hD
  exact W.iret (v := r2) hx hb hr (fun t ht hW => ⟨⟨r2, (y3, y4, y1), rfl, hw, by show va_P _ _ _ t.heap; rw [ht]; exact hP⟩, hS.F ht⟩) hS.2.2 dX8_fresh_8
set_option maxHeartbeats 4000000 in
set_option maxRecDepth 100000 in
theorem mX8_leave (l : Launch) (dC : Nat → ClassId) (dI : Nat → Nat → Nat) (cI cJ cT cII cJJ : ClassId) (ad : Nat → Nat) (sz : Nat) (mN : Int32) (mStep : Int32) (mSeen : Int32) (mPlans : Int32) (mBooks : Int32) (mTexted : Int32) (mIsKept : Int32) (mSpot : Int32) (mKeeps : Int32) (mMindStep : Int32) (mAt : Int32) (mWhat : Int32) (mWhole : Int32) (mIsBroken : Int32) (mHas : Nat → Int32) (mOwner : Nat → Int32) (a1 : Int32) (Post : Int32 → (Nat → Int32) → (Nat → Int32) → Prop) (hw : wpX8_leave mN mHas mOwner a1 Post) : Met l yX8_leave wsX8_leave ({ frames := 2, cells := 0, slots := 0, locals := 46 } : Room) (va_Pc [.ref (ad 0), .int a1] (fun U => U.heap.size = sz ∧ va_P (dC, dI) vwCl (wdX8_leave cI cJ cT cII cJJ ad mN mStep mSeen mPlans mBooks mTexted mIsKept mSpot mKeeps mMindStep mAt mWhat mWhole mIsBroken mHas mOwner) U.heap ∧ va_K (dC, dI) vwCl (bw_tys cI cJ cT cII cJJ) U ∧ va_D (fun _ => True) (wdX8_leave cI cJ cT cII cJJ ad mN mStep mSeen mPlans mBooks mTexted mIsKept mSpot mKeeps mMindStep mAt mWhat mWhole mIsBroken mHas mOwner))) (va_Qi (fun (r : Int32) (u : (Nat → Int32) × (Nat → Int32)) => Post r u.1 u.2) (fun (u : (Nat → Int32) × (Nat → Int32)) t => va_P (dC, dI) vwCl (wdX8_leave cI cJ cT cII cJJ ad mN mStep mSeen mPlans mBooks mTexted mIsKept mSpot mKeeps mMindStep mAt mWhat mWhole mIsBroken u.1 u.2) t.heap) (va_A (wdX8_leave cI cJ cT cII cJJ ad mN mStep mSeen mPlans mBooks mTexted mIsKept mSpot mKeeps mMindStep mAt mWhat mWhole mIsBroken mHas mOwner) sz)) 0 0 (va_A (wdX8_leave cI cJ cT cII cJJ ad mN mStep mSeen mPlans mBooks mTexted mIsKept mSpot mKeeps mMindStep mAt mWhat mWhole mIsBroken mHas mOwner) sz) := by
  refine Met.ofW (cc := cX8_leave) (maxL := 3) (ret := (some .int)) (by decide) rfl ?_
  intro p e s m args below meth c s₁ B hml hv
  obtain ⟨rfl, hsz, hP, hK, hD0⟩ := hv
  have hx := B.exec
  have hb := B.bytes
  have hr := B.returns
  have hts := atoms_spec (ws := wsX8_leave) B.pre
  have hown : s.vm.findClass RX8 = some m.cls := findClass_of_methodNamed B.named
  have hlocks := B.notSynchronized
  subst hsz
  have hD := hD0.self (sz := s.heap.size)
  generalize hAe : va_A (wdX8_leave cI cJ cT cII cJJ ad mN mStep mSeen mPlans mBooks mTexted mIsKept mSpot mKeeps mMindStep mAt mWhat mWhole mIsBroken mHas mOwner) s.heap.size = A at hD ⊢
  have hA : ∀ q : Nat, s.heap.size ≤ q → A q := fun q h => by rw [← hAe]; exact Or.inr h
  have hS : va_S A s.heap s.heap [] := va_S.rf
  have hl := lv_entry ([.ref (ad 0), .int a1]) (n := 3) (Nat.le_of_ble_eq_true rfl)
  rw [lg_entry_eq]
  generalize (lg_sl ([.ref (ad 0), .int a1]) ++ List.replicate (3 - (lg_sl ([.ref (ad 0), .int a1])).length) Slot.unset).toArray = ls at hl ⊢
  have hl : lv_has ls 3 [(0, .ref (ad 0)), (1, .int a1)] := hl
  unfold wpX8_leave at hw
  refine lv_aload_n hx hb dX8_leave_0 rfl (lv_at hl 0 rfl) ?_
  refine lv_iload_n hx hb dX8_leave_1 rfl (lv_at hl 1 rfl) ?_
  refine bw_pvi (wc := (wdX8_isOne cI cJ cT cII cJJ ad mN mStep mSeen mPlans mBooks mTexted mIsKept mSpot mKeeps mMindStep mAt mWhat mWhole mIsBroken)) (As := [.int a1]) (rest := []) ⟨hx, hb, hml, hown, hts⟩ (mX8_isOne l dC dI cI cJ cT cII cJJ ad mN mStep mSeen mPlans mBooks mTexted mIsKept mSpot mKeeps mMindStep mAt mWhat mWhole mIsBroken a1 _ hw) (cwV 1 hts gX8_leave_X8_isOne rfl rfl rfl hdX8_isOne ⟨Nat.le_of_ble_eq_true rfl, Nat.le_of_ble_eq_true rfl⟩) hK hP [0] rfl rfl rfl rfl rfl hl.1 rfl (Nat.le_of_ble_eq_true rfl) ⟨Nat.le_of_ble_eq_true rfl, Nat.le_of_ble_eq_true rfl⟩ dX8_leave_2 (fun r1 hw => ?_)
  refine lv_if_ne (tgt := 10) hx hb dX8_leave_5 (by decide) (fun c2 => ?_) (fun c2 => ?_)
  · have hw := hw.1 c2
    refine lv_aload_n hx hb dX8_leave_10 rfl (lv_at hl 0 rfl) ?_
    refine va_get (D := (dC, dI)) (ci := 8) (v := .ref (ad 2)) (C := RX8) (T := TX8) (N := 36) hx hb hts (fun w h => List.mem_cons_of_mem _ (List.mem_append_right _ h)) hown hK hP 0 rfl rfl 3 (by decide) (hts (.fieldLink RX8 22 "BidMarketModel" "has" "[I") (List.mem_of_getElem? (i := 1) rfl)) (fun _ h9 => h9) rfl dX8_leave_11 ?_
    refine lv_iload_n hx hb dX8_leave_14 rfl (lv_at hl 1 rfl) ?_
    have h3 := hw.1
    have hw := hw.2
    refine va_iald hx hb hK hP 1 0 rfl rfl h3 dX8_leave_15 ?_
    refine lv_topi (fun x4 ex4 => ?_)
    have hw := hw x4 ex4
    refine lv_istore_n (lv' := [(2, .int x4), (0, .ref (ad 0)), (1, .int a1)]) hx hb dX8_leave_16 rfl hl (by decide) rfl (fun ls hl => ?_)
    refine lv_aload_n hx hb dX8_leave_17 rfl (lv_at hl 1 rfl) ?_
    refine lv_iload_n hx hb dX8_leave_18 rfl (lv_at hl 2 rfl) ?_
    refine bw_wvv (wc := (wdX8_loses cI cJ cT cII cJJ ad mN mStep mSeen mPlans mBooks mTexted mIsKept mSpot mKeeps mMindStep mAt mWhat mWhole mIsBroken mHas mOwner)) (w1 := (fun (u : (Nat → Int32) × (Nat → Int32)) => wdX8_loses cI cJ cT cII cJJ ad mN mStep mSeen mPlans mBooks mTexted mIsKept mSpot mKeeps mMindStep mAt mWhat mWhole mIsBroken u.1 u.2)) (As := [.int a1]) (rest := []) ⟨hx, hb, hml, hown, hts⟩ (mX8_loses l dC dI cI cJ cT cII cJJ ad _ mN mStep mSeen mPlans mBooks mTexted mIsKept mSpot mKeeps mMindStep mAt mWhat mWhole mIsBroken mHas mOwner a1 _ hw) (cwV 1 hts gX8_leave_X8_loses rfl rfl rfl hdX8_loses ⟨Nat.le_of_ble_eq_true rfl, Nat.le_of_ble_eq_true rfl⟩) hK hP hD hS hA [0, 1, 2] rfl (by decide) (fun _ => rfl) rfl rfl rfl rfl hl.1 rfl (Nat.le_of_ble_eq_true rfl) ⟨Nat.le_of_ble_eq_true rfl, Nat.le_of_ble_eq_true rfl⟩ dX8_leave_19 (fun u H locs hw hP hD hS => ?_)
    obtain ⟨y5, y6⟩ := u
    try dsimp only at hw
    have hP : va_P (dC, dI) vwCl (wdX8_leave cI cJ cT cII cJJ ad mN mStep mSeen mPlans mBooks mTexted mIsKept mSpot mKeeps mMindStep mAt mWhat mWhole mIsBroken y5 y6) H := hP
    have hD : va_D A (wdX8_leave cI cJ cT cII cJJ ad mN mStep mSeen mPlans mBooks mTexted mIsKept mSpot mKeeps mMindStep mAt mWhat mWhole mIsBroken y5 y6) := hD
    refine lv_iload_n hx hb dX8_leave_22 rfl (lv_at hl 0 rfl) ?_
    refine lv_if_ge (tgt := 31) hx hb dX8_leave_23 (by decide) (fun c7 => ?_) (fun c7 => ?_)
    · have hw := hw.1 c7
      refine lv_iload_n hx hb dX8_leave_31 rfl (lv_at hl 0 rfl) ?_
      exact W.iret (v := x4) hx hb hr (fun t ht hW => ⟨⟨x4, (y5, y6), rfl, hw, by show va_P _ _ _ t.heap; rw [ht]; exact hP⟩, hS.F ht⟩) hS.2.2 dX8_leave_32
    · have hw := hw.2 c7
      refine lv_bipush (v := (-3)) hx hb dX8_leave_26 (by decide) ?_
      refine lv_goto (tgt := 32) hx hb dX8_leave_28 (by decide) ?_
      exact W.iret (v := (-3)) hx hb hr (fun t ht hW => ⟨⟨(-3), (y5, y6), rfl, hw, by show va_P _ _ _ t.heap; rw [ht]; exact hP⟩, hS.F ht⟩) hS.2.2 dX8_leave_32
  · have hw := hw.2 c2
    refine lv_iconst (v := (-1)) hx hb dX8_leave_8 (by decide) ?_
    exact W.iret (v := (-1)) hx hb hr (fun t ht hW => ⟨⟨(-1), (mHas, mOwner), rfl, hw, by show va_P _ _ _ t.heap; rw [ht]; exact hP⟩, hS.F ht⟩) hS.2.2 dX8_leave_9
set_option maxHeartbeats 4000000 in
set_option maxRecDepth 100000 in
theorem mX8_of (l : Launch) (dC : Nat → ClassId) (dI : Nat → Nat → Nat) (cI cJ cT cII cJJ : ClassId) (ad : Nat → Nat) (mN : Int32) (mStep : Int32) (mSeen : Int32) (mPlans : Int32) (mBooks : Int32) (mTexted : Int32) (mIsKept : Int32) (mSpot : Int32) (mKeeps : Int32) (mMindStep : Int32) (mAt : Int32) (mWhat : Int32) (mWhole : Int32) (mIsBroken : Int32) (mWorth : Nat → Int32) (mPrice : Nat → Int32) (a1 : Int32) (a2 : Int32) (a3 : Int32) (Post : Int64 → Prop) (hw : wpX8_of mN mWorth mPrice a1 a2 a3 Post) : Met l yX8_of wsX8_of ({ frames := 3, cells := 0, slots := 0, locals := 68 } : Room) (va_Pc [.ref (ad 0), .int a1, .int a2, .int a3] (fun U => va_P (dC, dI) vwCl (wdX8_of cI cJ cT cII cJJ ad mN mStep mSeen mPlans mBooks mTexted mIsKept mSpot mKeeps mMindStep mAt mWhat mWhole mIsBroken mWorth mPrice) U.heap ∧ va_K (dC, dI) vwCl (bw_tys cI cJ cT cII cJJ) U)) (vp_Sl Post) 0 0 (fun _ => False) := by
  refine Met.ofW (cc := cX8_of) (maxL := 4) (ret := (some .long)) (by decide) rfl ?_
  intro p e s m args below meth c s₁ B hml hv
  obtain ⟨rfl, hP, hK⟩ := hv
  have hx := B.exec
  have hb := B.bytes
  have hr := B.returns
  have hts := atoms_spec (ws := wsX8_of) B.pre
  have hown : s.vm.findClass RX8 = some m.cls := findClass_of_methodNamed B.named
  have hlocks := B.notSynchronized
  have hl := lv_entry ([.ref (ad 0), .int a1, .int a2, .int a3]) (n := 4) (Nat.le_of_ble_eq_true rfl)
  rw [lg_entry_eq]
  generalize (lg_sl ([.ref (ad 0), .int a1, .int a2, .int a3]) ++ List.replicate (4 - (lg_sl ([.ref (ad 0), .int a1, .int a2, .int a3])).length) Slot.unset).toArray = ls at hl ⊢
  have hl : lv_has ls 4 [(0, .ref (ad 0)), (1, .int a1), (2, .int a2), (3, .int a3)] := hl
  unfold wpX8_of at hw
  refine lv_aload_n hx hb dX8_of_0 rfl (lv_at hl 0 rfl) ?_
  refine lv_iload_n hx hb dX8_of_1 rfl (lv_at hl 1 rfl) ?_
  refine lv_iload_n hx hb dX8_of_2 rfl (lv_at hl 2 rfl) ?_
  refine bw_pvi (wc := (wdX8_isPair cI cJ cT cII cJJ ad mN mStep mSeen mPlans mBooks mTexted mIsKept mSpot mKeeps mMindStep mAt mWhat mWhole mIsBroken)) (As := [.int a1, .int a2]) (rest := []) ⟨hx, hb, hml, hown, hts⟩ (mX8_isPair l dC dI cI cJ cT cII cJJ ad mN mStep mSeen mPlans mBooks mTexted mIsKept mSpot mKeeps mMindStep mAt mWhat mWhole mIsBroken a1 a2 _ hw) (cwV 2 hts gX8_of_X8_isPair rfl rfl rfl hdX8_isPair ⟨Nat.le_of_ble_eq_true rfl, Nat.le_of_ble_eq_true rfl⟩) hK hP [0] rfl rfl rfl rfl rfl hl.1 rfl (Nat.le_of_ble_eq_true rfl) ⟨Nat.le_of_ble_eq_true rfl, Nat.le_of_ble_eq_true rfl⟩ dX8_of_3 (fun r1 hw => ?_)
  refine lv_if_eq (tgt := 19) hx hb dX8_of_6 (by decide) (fun c2 => ?_) (fun c2 => ?_)
  · have hw := hw.1 c2
    refine lv_ldc2 hx hb hown (hts (.constantLong RX8 233 (-9223372036854775808)) (List.mem_of_getElem? (i := 1) rfl)) dX8_of_19 ?_
    exact W.lret (v := (-9223372036854775808)) hx hb hr (fun t ht hW => ⟨(-9223372036854775808), rfl, hw, ht⟩) (fun _ h => by cases h) dX8_of_22
  · have hw := hw.2 c2
    refine lv_iload_n hx hb dX8_of_9 rfl (lv_at hl 3 rfl) ?_
    refine lv_i2l hx hb dX8_of_10 rfl ?_
    refine lv_lconst (v := 0) hx hb dX8_of_11 (by decide) ?_
    refine lv_lconst (v := 1) hx hb dX8_of_12 (by decide) ?_
    refine bw_psi (wc := []) (As := [.long a3.toInt64, .long 0, .long 1]) (rest := []) ⟨hx, hb, hml, hown, hts⟩ (mX8_in l dC dI cI cJ cT cII cJJ a3.toInt64 0 1 _ hw) (va_cwS 3 hts gX8_of_X8_in rfl rfl rfl hdX8_in ⟨Nat.le_of_ble_eq_true rfl, Nat.le_of_ble_eq_true rfl⟩) hK hP [] rfl rfl hl.1 rfl (Nat.le_of_ble_eq_true rfl) ⟨Nat.le_of_ble_eq_true rfl, Nat.le_of_ble_eq_true rfl⟩ dX8_of_13 (fun r3 hw => ?_)
    refine lv_if_ne (tgt := 23) hx hb dX8_of_16 (by decide) (fun c4 => ?_) (fun c4 => ?_)
    · have hw := hw.1 c4
      refine lv_aload_n hx hb dX8_of_23 rfl (lv_at hl 0 rfl) ?_
      refine lv_iload_n hx hb dX8_of_24 rfl (lv_at hl 1 rfl) ?_
      refine lv_iload_n hx hb dX8_of_25 rfl (lv_at hl 2 rfl) ?_
      refine bw_pvi (wc := (wdX8_may cI cJ cT cII cJJ ad mN mStep mSeen mPlans mBooks mTexted mIsKept mSpot mKeeps mMindStep mAt mWhat mWhole mIsBroken mWorth)) (As := [.int a1, .int a2]) (rest := []) ⟨hx, hb, hml, hown, hts⟩ (mX8_may l dC dI cI cJ cT cII cJJ ad mN mStep mSeen mPlans mBooks mTexted mIsKept mSpot mKeeps mMindStep mAt mWhat mWhole mIsBroken mWorth a1 a2 _ hw) (cwV 2 hts gX8_of_X8_may rfl rfl rfl hdX8_may ⟨Nat.le_of_ble_eq_true rfl, Nat.le_of_ble_eq_true rfl⟩) hK hP [0, 1] rfl rfl rfl rfl rfl hl.1 rfl (Nat.le_of_ble_eq_true rfl) ⟨Nat.le_of_ble_eq_true rfl, Nat.le_of_ble_eq_true rfl⟩ dX8_of_26 (fun r5 hw => ?_)
      refine lv_if_ne (tgt := 46) hx hb dX8_of_29 (by decide) (fun c6 => ?_) (fun c6 => ?_)
      · have hw := hw.1 c6
        refine lv_iload_n hx hb dX8_of_46 rfl (lv_at hl 3 rfl) ?_
        refine lv_if_ne (tgt := 65) hx hb dX8_of_47 (by decide) (fun c7 => ?_) (fun c7 => ?_)
        · have hw := hw.1 c7
          refine lv_aload_n hx hb dX8_of_65 rfl (lv_at hl 0 rfl) ?_
          refine lv_iload_n hx hb dX8_of_66 rfl (lv_at hl 1 rfl) ?_
          refine lv_iload_n hx hb dX8_of_67 rfl (lv_at hl 2 rfl) ?_
          refine bw_pvi (wc := (wdX8_gain cI cJ cT cII cJJ ad mN mStep mSeen mPlans mBooks mTexted mIsKept mSpot mKeeps mMindStep mAt mWhat mWhole mIsBroken mWorth mPrice)) (As := [.int a1, .int a2]) (rest := []) ⟨hx, hb, hml, hown, hts⟩ (mX8_gain l dC dI cI cJ cT cII cJJ ad mN mStep mSeen mPlans mBooks mTexted mIsKept mSpot mKeeps mMindStep mAt mWhat mWhole mIsBroken mWorth mPrice a1 a2 _ hw) (cwV 2 hts gX8_of_X8_gain rfl rfl rfl hdX8_gain ⟨Nat.le_of_ble_eq_true rfl, Nat.le_of_ble_eq_true rfl⟩) hK hP [0, 1, 2] rfl rfl rfl rfl rfl hl.1 rfl (Nat.le_of_ble_eq_true rfl) ⟨Nat.le_of_ble_eq_true rfl, Nat.le_of_ble_eq_true rfl⟩ dX8_of_68 (fun r8 hw => ?_)
          refine lv_i2l hx hb dX8_of_71 rfl ?_
          exact W.lret (v := r8.toInt64) hx hb hr (fun t ht hW => ⟨r8.toInt64, rfl, hw, ht⟩) (fun _ h => by cases h) dX8_of_72
        · have hw := hw.2 c7
          refine lv_aload_n hx hb dX8_of_50 rfl (lv_at hl 0 rfl) ?_
          refine va_get (D := (dC, dI)) (ci := 8) (v := .ref (ad 1)) (C := RX8) (T := TX8) (N := 36) hx hb hts (fun w h => List.mem_cons_of_mem _ (List.mem_append_right _ h)) hown hK hP 0 rfl rfl 2 (by decide) (hts (.fieldLink RX8 18 "BidMarketModel" "worth" "[I") (List.mem_of_getElem? (i := 3) rfl)) (fun _ h9 => h9) rfl dX8_of_51 ?_
          refine lv_bipush (v := 8) hx hb dX8_of_54 (by decide) ?_
          refine lv_iload_n hx hb dX8_of_56 rfl (lv_at hl 1 rfl) ?_
          refine lv_imul hx hb dX8_of_57 ?_
          refine lv_iload_n hx hb dX8_of_58 rfl (lv_at hl 2 rfl) ?_
          refine lv_iadd hx hb dX8_of_59 ?_
          have h9 := hw.1
          have hw := hw.2
          refine va_iald hx hb hK hP 1 0 rfl rfl h9 dX8_of_60 ?_
          refine lv_i2l hx hb dX8_of_61 rfl ?_
          refine lv_goto (tgt := 72) hx hb dX8_of_62 (by decide) ?_
          exact W.lret (v := (mWorth ((8 * a1) + a2).toNatClampNeg).toInt64) hx hb hr (fun t ht hW => ⟨(mWorth ((8 * a1) + a2).toNatClampNeg).toInt64, rfl, hw, ht⟩) (fun _ h => by cases h) dX8_of_72
      · have hw := hw.2 c6
        refine lv_iload_n hx hb dX8_of_32 rfl (lv_at hl 3 rfl) ?_
        refine lv_if_ne (tgt := 42) hx hb dX8_of_33 (by decide) (fun c10 => ?_) (fun c10 => ?_)
        · have hw := hw.1 c10
          refine lv_ldc2 hx hb hown (hts (.constantLong RX8 233 (-9223372036854775808)) (List.mem_of_getElem? (i := 1) rfl)) dX8_of_42 ?_
          exact W.lret (v := (-9223372036854775808)) hx hb hr (fun t ht hW => ⟨(-9223372036854775808), rfl, hw, ht⟩) (fun _ h => by cases h) dX8_of_45
        · have hw := hw.2 c10
          refine lv_ldc2 hx hb hown (hts (.constantLong RX8 235 (-5)) (List.mem_of_getElem? (i := 2) rfl)) dX8_of_36 ?_
          refine lv_goto (tgt := 45) hx hb dX8_of_39 (by decide) ?_
          exact W.lret (v := (-5)) hx hb hr (fun t ht hW => ⟨(-5), rfl, hw, ht⟩) (fun _ h => by cases h) dX8_of_45
    · have hw := hw.2 c4
      refine lv_ldc2 hx hb hown (hts (.constantLong RX8 233 (-9223372036854775808)) (List.mem_of_getElem? (i := 1) rfl)) dX8_of_19 ?_
      exact W.lret (v := (-9223372036854775808)) hx hb hr (fun t ht hW => ⟨(-9223372036854775808), rfl, hw, ht⟩) (fun _ h => by cases h) dX8_of_22
set_option maxHeartbeats 4000000 in
set_option maxRecDepth 100000 in
theorem mX8_envy (l : Launch) (dC : Nat → ClassId) (dI : Nat → Nat → Nat) (cI cJ cT cII cJJ : ClassId) (ad : Nat → Nat) (mN : Int32) (mStep : Int32) (mSeen : Int32) (mPlans : Int32) (mBooks : Int32) (mTexted : Int32) (mIsKept : Int32) (mSpot : Int32) (mKeeps : Int32) (mMindStep : Int32) (mAt : Int32) (mWhat : Int32) (mWhole : Int32) (mIsBroken : Int32) (mWorth : Nat → Int32) (mHas : Nat → Int32) (mPrice : Nat → Int32) (a1 : Int32) (Post : Int32 → Prop) (hw : wpX8_envy mN mWorth mHas mPrice a1 Post) : Met l yX8_envy wsX8_envy ({ frames := 1, cells := 0, slots := 0, locals := 22 } : Room) (va_Pc [.ref (ad 0), .int a1] (fun U => va_P (dC, dI) vwCl (wdX8_envy cI cJ cT cII cJJ ad mN mStep mSeen mPlans mBooks mTexted mIsKept mSpot mKeeps mMindStep mAt mWhat mWhole mIsBroken mWorth mHas mPrice) U.heap ∧ va_K (dC, dI) vwCl (bw_tys cI cJ cT cII cJJ) U)) (vp_Si Post) 0 0 (fun _ => False) := by
  refine Met.ofW (cc := cX8_envy) (maxL := 5) (ret := (some .int)) (by decide) rfl ?_
  intro p e s m args below meth c s₁ B hml hv
  obtain ⟨rfl, hP, hK⟩ := hv
  have hx := B.exec
  have hb := B.bytes
  have hr := B.returns
  have hts := atoms_spec (ws := wsX8_envy) B.pre
  have hown : s.vm.findClass RX8 = some m.cls := findClass_of_methodNamed B.named
  have hlocks := B.notSynchronized
  have hl := lv_entry ([.ref (ad 0), .int a1]) (n := 5) (Nat.le_of_ble_eq_true rfl)
  rw [lg_entry_eq]
  generalize (lg_sl ([.ref (ad 0), .int a1]) ++ List.replicate (5 - (lg_sl ([.ref (ad 0), .int a1])).length) Slot.unset).toArray = ls at hl ⊢
  have hl : lv_has ls 5 [(0, .ref (ad 0)), (1, .int a1)] := hl
  have kB66 : ∀ (K30 : Int32 → Int32 → Int32 → Prop), (∀ (v2 : Int32) (v3 : Int32) (v4 : Int32), ∀ ls : Array Slot, lv_has ls 5 [(0, .ref (ad 0)), (1, .int a1), (2, .int v2), (3, .int v3), (4, .int v4)] → K30 v2 v3 v4 → W p l e (headSpec wsX8_envy ({ frames := 1, cells := 0, slots := 0, locals := 22 } : Room)).room s m ([.ref (ad 0), .int a1] : List Value).toArray below meth c s.heap [] 0 0 (MQ below (vp_Si Post) ([.ref (ad 0), .int a1] : List Value).toArray s 0 0 (fun _ => False)) (F0 m 30 ls [])) → ∀ (v2 : Int32) (v4 : Int32) (s0 : Int32) (s1 : Int32), ∀ ls : Array Slot, lv_has ls 5 [(0, .ref (ad 0)), (1, .int a1), (2, .int v2), (4, .int v4)] → wpX8_envy_B66 mN mWorth mHas mPrice a1 K30 Post v2 v4 s0 s1 → W p l e (headSpec wsX8_envy ({ frames := 1, cells := 0, slots := 0, locals := 22 } : Room)).room s m ([.ref (ad 0), .int a1] : List Value).toArray below meth c s.heap [] 0 0 (MQ below (vp_Si Post) ([.ref (ad 0), .int a1] : List Value).toArray s 0 0 (fun _ => False)) (F0 m 66 ls [.int s1, .int s0]) := by
    intro K30 hK30 v2 v4 s0 s1 ls hl hw
    unfold wpX8_envy_B66 at hw
    refine lv_iadd hx hb dX8_envy_66 ?_
    refine lv_topi (fun x8 ex8 => ?_)
    have hw := hw x8 ex8
    refine lv_istore_n (lv' := [(3, .int x8), (0, .ref (ad 0)), (1, .int a1), (2, .int v2), (4, .int v4)]) hx hb dX8_envy_67 rfl hl (by decide) rfl (fun ls hl => ?_)
    obtain ⟨x9, ex9⟩ : ∃ y : Int32, y = v4 + 1 := ⟨_, rfl⟩
    have hw := hw x9 ex9
    refine lv_iinc (v := x9) (lv' := [(4, .int x9), (3, .int x8), (0, .ref (ad 0)), (1, .int a1), (2, .int v2)]) hx hb dX8_envy_68 hl (k := 4) rfl (by rw [ex9]; rfl) (by decide) rfl (fun ls hl => ?_)
    refine lv_goto (tgt := 30) hx hb dX8_envy_71 (by decide) ?_
    exact hK30 v2 x8 x9 ls (lv_sub hl [2, 3, 4, 1, 0] rfl) hw
  have kB65 : ∀ (K30 : Int32 → Int32 → Int32 → Prop), (∀ (v2 : Int32) (v3 : Int32) (v4 : Int32), ∀ ls : Array Slot, lv_has ls 5 [(0, .ref (ad 0)), (1, .int a1), (2, .int v2), (3, .int v3), (4, .int v4)] → K30 v2 v3 v4 → W p l e (headSpec wsX8_envy ({ frames := 1, cells := 0, slots := 0, locals := 22 } : Room)).room s m ([.ref (ad 0), .int a1] : List Value).toArray below meth c s.heap [] 0 0 (MQ below (vp_Si Post) ([.ref (ad 0), .int a1] : List Value).toArray s 0 0 (fun _ => False)) (F0 m 30 ls [])) → ∀ (v2 : Int32) (v4 : Int32) (s0 : Int32), ∀ ls : Array Slot, lv_has ls 5 [(0, .ref (ad 0)), (1, .int a1), (2, .int v2), (4, .int v4)] → wpX8_envy_B65 mN mWorth mHas mPrice a1 K30 Post v2 v4 s0 → W p l e (headSpec wsX8_envy ({ frames := 1, cells := 0, slots := 0, locals := 22 } : Room)).room s m ([.ref (ad 0), .int a1] : List Value).toArray below meth c s.heap [] 0 0 (MQ below (vp_Si Post) ([.ref (ad 0), .int a1] : List Value).toArray s 0 0 (fun _ => False)) (F0 m 65 ls [.int s0]) := by
    intro K30 hK30 v2 v4 s0 ls hl hw
    unfold wpX8_envy_B65 at hw
    refine lv_iconst (v := 0) hx hb dX8_envy_65 (by decide) ?_
    exact kB66 K30 hK30 v2 v4 s0 0 ls hl hw
  have kB30 : ∀ f : Nat, ∀ (v2 : Int32) (v3 : Int32) (v4 : Int32), ∀ ls : Array Slot, lv_has ls 5 [(0, .ref (ad 0)), (1, .int a1), (2, .int v2), (3, .int v3), (4, .int v4)] → wpX8_envy_B30 mN mWorth mHas mPrice a1 Post f v2 v3 v4 → W p l e (headSpec wsX8_envy ({ frames := 1, cells := 0, slots := 0, locals := 22 } : Room)).room s m ([.ref (ad 0), .int a1] : List Value).toArray below meth c s.heap [] 0 0 (MQ below (vp_Si Post) ([.ref (ad 0), .int a1] : List Value).toArray s 0 0 (fun _ => False)) (F0 m 30 ls []) := by
    intro  f
    induction f with
    | zero => intro v2 v3 v4 ls hl hw; exact (show False from hw).elim
    | succ f ih =>
      intro v2 v3 v4 ls hl hw
      rw [wpX8_envy_B30] at hw
      refine lv_iload hx hb dX8_envy_30 (lv_at hl 4 rfl) ?_
      refine lv_aload_n hx hb dX8_envy_32 rfl (lv_at hl 0 rfl) ?_
      refine va_get (D := (dC, dI)) (ci := 8) (v := .int mN) (C := RX8) (T := TX8) (N := 36) hx hb hts (fun w h => List.mem_cons_of_mem _ (List.mem_append_right _ h)) hown hK hP 0 rfl rfl 0 (by decide) (hts (.fieldLink RX8 9 "BidMarketModel" "n" "I") (List.mem_of_getElem? (i := 2) rfl)) (fun _ h9 => h9) rfl dX8_envy_33 ?_
      refine lv_icmp_ge (tgt := 74) hx hb dX8_envy_36 (by decide) (fun c5 => ?_) (fun c5 => ?_)
      · have hw := hw.1 c5
        refine lv_iload_n hx hb dX8_envy_74 rfl (lv_at hl 3 rfl) ?_
        exact W.iret (v := v3) hx hb hr (fun t ht hW => ⟨v3, rfl, hw, ht⟩) (fun _ h => by cases h) dX8_envy_75
      · have hw := hw.2 c5
        refine lv_iload_n hx hb dX8_envy_39 rfl (lv_at hl 3 rfl) ?_
        refine lv_aload_n hx hb dX8_envy_40 rfl (lv_at hl 0 rfl) ?_
        refine lv_iload_n hx hb dX8_envy_41 rfl (lv_at hl 1 rfl) ?_
        refine lv_iload hx hb dX8_envy_42 (lv_at hl 4 rfl) ?_
        refine bw_pvi (wc := (wdX8_may cI cJ cT cII cJJ ad mN mStep mSeen mPlans mBooks mTexted mIsKept mSpot mKeeps mMindStep mAt mWhat mWhole mIsBroken mWorth)) (As := [.int a1, .int v4]) (rest := [.int v3]) ⟨hx, hb, hml, hown, hts⟩ (mX8_may l dC dI cI cJ cT cII cJJ ad mN mStep mSeen mPlans mBooks mTexted mIsKept mSpot mKeeps mMindStep mAt mWhat mWhole mIsBroken mWorth a1 v4 _ hw) (cwV 2 hts gX8_envy_X8_may rfl rfl rfl hdX8_may ⟨Nat.le_of_ble_eq_true rfl, Nat.le_of_ble_eq_true rfl⟩) hK hP [0, 1] rfl rfl rfl rfl rfl hl.1 rfl (Nat.le_of_ble_eq_true rfl) ⟨Nat.le_of_ble_eq_true rfl, Nat.le_of_ble_eq_true rfl⟩ dX8_envy_44 (fun r6 hw => ?_)
        refine lv_if_eq (tgt := 65) hx hb dX8_envy_47 (by decide) (fun c7 => ?_) (fun c7 => ?_)
        · have hw := hw.1 c7
          exact kB65 (wpX8_envy_B30 mN mWorth mHas mPrice a1 Post f) ih v2 v4 v3 ls (lv_sub hl [0, 1, 2, 4] rfl) hw
        · have hw := hw.2 c7
          refine lv_aload_n hx hb dX8_envy_50 rfl (lv_at hl 0 rfl) ?_
          refine lv_iload_n hx hb dX8_envy_51 rfl (lv_at hl 1 rfl) ?_
          refine lv_iload hx hb dX8_envy_52 (lv_at hl 4 rfl) ?_
          refine bw_pvi (wc := (wdX8_gain cI cJ cT cII cJJ ad mN mStep mSeen mPlans mBooks mTexted mIsKept mSpot mKeeps mMindStep mAt mWhat mWhole mIsBroken mWorth mPrice)) (As := [.int a1, .int v4]) (rest := [.int v3]) ⟨hx, hb, hml, hown, hts⟩ (mX8_gain l dC dI cI cJ cT cII cJJ ad mN mStep mSeen mPlans mBooks mTexted mIsKept mSpot mKeeps mMindStep mAt mWhat mWhole mIsBroken mWorth mPrice a1 v4 _ hw) (cwV 2 hts gX8_envy_X8_gain rfl rfl rfl hdX8_gain ⟨Nat.le_of_ble_eq_true rfl, Nat.le_of_ble_eq_true rfl⟩) hK hP [0, 1, 3] rfl rfl rfl rfl rfl hl.1 rfl (Nat.le_of_ble_eq_true rfl) ⟨Nat.le_of_ble_eq_true rfl, Nat.le_of_ble_eq_true rfl⟩ dX8_envy_54 (fun r10 hw => ?_)
          refine lv_iload_n hx hb dX8_envy_57 rfl (lv_at hl 2 rfl) ?_
          refine lv_icmp_le (tgt := 65) hx hb dX8_envy_58 (by decide) (fun c11 => ?_) (fun c11 => ?_)
          · have hw := hw.1 c11
            exact kB65 (wpX8_envy_B30 mN mWorth mHas mPrice a1 Post f) ih v2 v4 v3 ls (lv_sub hl [0, 1, 2, 4] rfl) hw
          · have hw := hw.2 c11
            refine lv_iconst (v := 1) hx hb dX8_envy_61 (by decide) ?_
            refine lv_goto (tgt := 66) hx hb dX8_envy_62 (by decide) ?_
            exact kB66 (wpX8_envy_B30 mN mWorth mHas mPrice a1 Post f) ih v2 v4 v3 1 ls (lv_sub hl [0, 1, 2, 4] rfl) hw
  have kB24 : ∀ (s0 : Int32), ∀ ls : Array Slot, lv_has ls 5 [(0, .ref (ad 0)), (1, .int a1)] → wpX8_envy_B24 mN mWorth mHas mPrice a1 Post s0 → W p l e (headSpec wsX8_envy ({ frames := 1, cells := 0, slots := 0, locals := 22 } : Room)).room s m ([.ref (ad 0), .int a1] : List Value).toArray below meth c s.heap [] 0 0 (MQ below (vp_Si Post) ([.ref (ad 0), .int a1] : List Value).toArray s 0 0 (fun _ => False)) (F0 m 24 ls [.int s0]) := by
    intro s0 ls hl hw
    unfold wpX8_envy_B24 at hw
    refine lv_istore_n (lv' := [(2, .int s0), (0, .ref (ad 0)), (1, .int a1)]) hx hb dX8_envy_24 rfl hl (by decide) rfl (fun ls hl => ?_)
    refine lv_iconst (v := 0) hx hb dX8_envy_25 (by decide) ?_
    refine lv_istore_n (lv' := [(3, .int 0), (2, .int s0), (0, .ref (ad 0)), (1, .int a1)]) hx hb dX8_envy_26 rfl hl (by decide) rfl (fun ls hl => ?_)
    refine lv_iconst (v := 0) hx hb dX8_envy_27 (by decide) ?_
    refine lv_istore (lv' := [(4, .int 0), (3, .int 0), (2, .int s0), (0, .ref (ad 0)), (1, .int a1)]) hx hb dX8_envy_28 hl (by decide) rfl (fun ls hl => ?_)
    obtain ⟨f1, hw⟩ := hw
    exact kB30 f1 s0 0 0 ls (lv_sub hl [3, 4, 2, 1, 0] rfl) hw
  unfold wpX8_envy at hw
  refine lv_aload_n hx hb dX8_envy_0 rfl (lv_at hl 0 rfl) ?_
  refine va_get (D := (dC, dI)) (ci := 8) (v := .ref (ad 2)) (C := RX8) (T := TX8) (N := 36) hx hb hts (fun w h => List.mem_cons_of_mem _ (List.mem_append_right _ h)) hown hK hP 0 rfl rfl 3 (by decide) (hts (.fieldLink RX8 22 "BidMarketModel" "has" "[I") (List.mem_of_getElem? (i := 1) rfl)) (fun _ h9 => h9) rfl dX8_envy_1 ?_
  refine lv_iload_n hx hb dX8_envy_4 rfl (lv_at hl 1 rfl) ?_
  have h1 := hw.1
  have hw := hw.2
  refine va_iald hx hb hK hP 2 0 rfl rfl h1 dX8_envy_5 ?_
  refine lv_if_ge (tgt := 13) hx hb dX8_envy_6 (by decide) (fun c2 => ?_) (fun c2 => ?_)
  · have hw := hw.1 c2
    refine lv_aload_n hx hb dX8_envy_13 rfl (lv_at hl 0 rfl) ?_
    refine lv_iload_n hx hb dX8_envy_14 rfl (lv_at hl 1 rfl) ?_
    refine lv_aload_n hx hb dX8_envy_15 rfl (lv_at hl 0 rfl) ?_
    refine va_get (D := (dC, dI)) (ci := 8) (v := .ref (ad 2)) (C := RX8) (T := TX8) (N := 36) hx hb hts (fun w h => List.mem_cons_of_mem _ (List.mem_append_right _ h)) hown hK hP 0 rfl rfl 3 (by decide) (hts (.fieldLink RX8 22 "BidMarketModel" "has" "[I") (List.mem_of_getElem? (i := 1) rfl)) (fun _ h9 => h9) rfl dX8_envy_16 ?_
    refine lv_iload_n hx hb dX8_envy_19 rfl (lv_at hl 1 rfl) ?_
    have h3 := hw.1
    have hw := hw.2
    refine va_iald hx hb hK hP 2 0 rfl rfl h3 dX8_envy_20 ?_
    refine bw_pvi (wc := (wdX8_gain cI cJ cT cII cJJ ad mN mStep mSeen mPlans mBooks mTexted mIsKept mSpot mKeeps mMindStep mAt mWhat mWhole mIsBroken mWorth mPrice)) (As := [.int a1, .int (mHas a1.toNatClampNeg)]) (rest := []) ⟨hx, hb, hml, hown, hts⟩ (mX8_gain l dC dI cI cJ cT cII cJJ ad mN mStep mSeen mPlans mBooks mTexted mIsKept mSpot mKeeps mMindStep mAt mWhat mWhole mIsBroken mWorth mPrice a1 (mHas a1.toNatClampNeg) _ hw) (cwV 2 hts gX8_envy_X8_gain rfl rfl rfl hdX8_gain ⟨Nat.le_of_ble_eq_true rfl, Nat.le_of_ble_eq_true rfl⟩) hK hP [0, 1, 3] rfl rfl rfl rfl rfl hl.1 rfl (Nat.le_of_ble_eq_true rfl) ⟨Nat.le_of_ble_eq_true rfl, Nat.le_of_ble_eq_true rfl⟩ dX8_envy_21 (fun r4 hw => ?_)
    exact kB24 r4 ls hl hw
  · have hw := hw.2 c2
    refine lv_iconst (v := 0) hx hb dX8_envy_9 (by decide) ?_
    refine lv_goto (tgt := 24) hx hb dX8_envy_10 (by decide) ?_
    exact kB24 0 ls hl hw
set_option maxHeartbeats 4000000 in
set_option maxRecDepth 100000 in
theorem mX8_open (l : Launch) (dC : Nat → ClassId) (dI : Nat → Nat → Nat) (cI cJ cT cII cJJ : ClassId) (ad : Nat → Nat) (mN : Int32) (mStep : Int32) (mSeen : Int32) (mPlans : Int32) (mBooks : Int32) (mTexted : Int32) (mIsKept : Int32) (mSpot : Int32) (mKeeps : Int32) (mMindStep : Int32) (mAt : Int32) (mWhat : Int32) (mWhole : Int32) (mIsBroken : Int32) (mWorth : Nat → Int32) (a1 : Int32) (Post : Int32 → Prop) (hw : wpX8_open mN mWorth a1 Post) : Met l yX8_open wsX8_open ({ frames := 1, cells := 0, slots := 0, locals := 22 } : Room) (va_Pc [.ref (ad 0), .int a1] (fun U => va_P (dC, dI) vwCl (wdX8_open cI cJ cT cII cJJ ad mN mStep mSeen mPlans mBooks mTexted mIsKept mSpot mKeeps mMindStep mAt mWhat mWhole mIsBroken mWorth) U.heap ∧ va_K (dC, dI) vwCl (bw_tys cI cJ cT cII cJJ) U)) (vp_Si Post) 0 0 (fun _ => False) := by
  refine Met.ofW (cc := cX8_open) (maxL := 4) (ret := (some .int)) (by decide) rfl ?_
  intro p e s m args below meth c s₁ B hml hv
  obtain ⟨rfl, hP, hK⟩ := hv
  have hx := B.exec
  have hb := B.bytes
  have hr := B.returns
  have hts := atoms_spec (ws := wsX8_open) B.pre
  have hown : s.vm.findClass RX8 = some m.cls := findClass_of_methodNamed B.named
  have hlocks := B.notSynchronized
  have hl := lv_entry ([.ref (ad 0), .int a1]) (n := 4) (Nat.le_of_ble_eq_true rfl)
  rw [lg_entry_eq]
  generalize (lg_sl ([.ref (ad 0), .int a1]) ++ List.replicate (4 - (lg_sl ([.ref (ad 0), .int a1])).length) Slot.unset).toArray = ls at hl ⊢
  have hl : lv_has ls 4 [(0, .ref (ad 0)), (1, .int a1)] := hl
  have kB29 : ∀ (K4 : Int32 → Int32 → Prop), (∀ (v2 : Int32) (v3 : Int32), ∀ ls : Array Slot, lv_has ls 4 [(0, .ref (ad 0)), (1, .int a1), (2, .int v2), (3, .int v3)] → K4 v2 v3 → W p l e (headSpec wsX8_open ({ frames := 1, cells := 0, slots := 0, locals := 22 } : Room)).room s m ([.ref (ad 0), .int a1] : List Value).toArray below meth c s.heap [] 0 0 (MQ below (vp_Si Post) ([.ref (ad 0), .int a1] : List Value).toArray s 0 0 (fun _ => False)) (F0 m 4 ls [])) → ∀ (v3 : Int32) (s0 : Int32) (s1 : Int32), ∀ ls : Array Slot, lv_has ls 4 [(0, .ref (ad 0)), (1, .int a1), (3, .int v3)] → wpX8_open_B29 mN mWorth a1 K4 Post v3 s0 s1 → W p l e (headSpec wsX8_open ({ frames := 1, cells := 0, slots := 0, locals := 22 } : Room)).room s m ([.ref (ad 0), .int a1] : List Value).toArray below meth c s.heap [] 0 0 (MQ below (vp_Si Post) ([.ref (ad 0), .int a1] : List Value).toArray s 0 0 (fun _ => False)) (F0 m 29 ls [.int s1, .int s0]) := by
    intro K4 hK4 v3 s0 s1 ls hl hw
    unfold wpX8_open_B29 at hw
    refine lv_ior hx hb dX8_open_29 ?_
    refine lv_topi (fun x4 ex4 => ?_)
    have hw := hw x4 ex4
    refine lv_istore_n (lv' := [(2, .int x4), (0, .ref (ad 0)), (1, .int a1), (3, .int v3)]) hx hb dX8_open_30 rfl hl (by decide) rfl (fun ls hl => ?_)
    obtain ⟨x5, ex5⟩ : ∃ y : Int32, y = v3 + 1 := ⟨_, rfl⟩
    have hw := hw x5 ex5
    refine lv_iinc (v := x5) (lv' := [(3, .int x5), (2, .int x4), (0, .ref (ad 0)), (1, .int a1)]) hx hb dX8_open_31 hl (k := 3) rfl (by rw [ex5]; rfl) (by decide) rfl (fun ls hl => ?_)
    refine lv_goto (tgt := 4) hx hb dX8_open_34 (by decide) ?_
    exact hK4 x4 x5 ls (lv_sub hl [2, 3, 1, 0] rfl) hw
  have kB4 : ∀ f : Nat, ∀ (v2 : Int32) (v3 : Int32), ∀ ls : Array Slot, lv_has ls 4 [(0, .ref (ad 0)), (1, .int a1), (2, .int v2), (3, .int v3)] → wpX8_open_B4 mN mWorth a1 Post f v2 v3 → W p l e (headSpec wsX8_open ({ frames := 1, cells := 0, slots := 0, locals := 22 } : Room)).room s m ([.ref (ad 0), .int a1] : List Value).toArray below meth c s.heap [] 0 0 (MQ below (vp_Si Post) ([.ref (ad 0), .int a1] : List Value).toArray s 0 0 (fun _ => False)) (F0 m 4 ls []) := by
    intro  f
    induction f with
    | zero => intro v2 v3 ls hl hw; exact (show False from hw).elim
    | succ f ih =>
      intro v2 v3 ls hl hw
      rw [wpX8_open_B4] at hw
      refine lv_iload_n hx hb dX8_open_4 rfl (lv_at hl 3 rfl) ?_
      refine lv_aload_n hx hb dX8_open_5 rfl (lv_at hl 0 rfl) ?_
      refine va_get (D := (dC, dI)) (ci := 8) (v := .int mN) (C := RX8) (T := TX8) (N := 36) hx hb hts (fun w h => List.mem_cons_of_mem _ (List.mem_append_right _ h)) hown hK hP 0 rfl rfl 0 (by decide) (hts (.fieldLink RX8 9 "BidMarketModel" "n" "I") (List.mem_of_getElem? (i := 1) rfl)) (fun _ h9 => h9) rfl dX8_open_6 ?_
      refine lv_icmp_ge (tgt := 37) hx hb dX8_open_9 (by decide) (fun c1 => ?_) (fun c1 => ?_)
      · have hw := hw.1 c1
        refine lv_iload_n hx hb dX8_open_37 rfl (lv_at hl 2 rfl) ?_
        exact W.iret (v := v2) hx hb hr (fun t ht hW => ⟨v2, rfl, hw, ht⟩) (fun _ h => by cases h) dX8_open_38
      · have hw := hw.2 c1
        refine lv_iload_n hx hb dX8_open_12 rfl (lv_at hl 2 rfl) ?_
        refine lv_aload_n hx hb dX8_open_13 rfl (lv_at hl 0 rfl) ?_
        refine lv_iload_n hx hb dX8_open_14 rfl (lv_at hl 1 rfl) ?_
        refine lv_iload_n hx hb dX8_open_15 rfl (lv_at hl 3 rfl) ?_
        refine bw_pvi (wc := (wdX8_may cI cJ cT cII cJJ ad mN mStep mSeen mPlans mBooks mTexted mIsKept mSpot mKeeps mMindStep mAt mWhat mWhole mIsBroken mWorth)) (As := [.int a1, .int v3]) (rest := [.int v2]) ⟨hx, hb, hml, hown, hts⟩ (mX8_may l dC dI cI cJ cT cII cJJ ad mN mStep mSeen mPlans mBooks mTexted mIsKept mSpot mKeeps mMindStep mAt mWhat mWhole mIsBroken mWorth a1 v3 _ hw) (cwV 2 hts gX8_open_X8_may rfl rfl rfl hdX8_may ⟨Nat.le_of_ble_eq_true rfl, Nat.le_of_ble_eq_true rfl⟩) hK hP [0, 1] rfl rfl rfl rfl rfl hl.1 rfl (Nat.le_of_ble_eq_true rfl) ⟨Nat.le_of_ble_eq_true rfl, Nat.le_of_ble_eq_true rfl⟩ dX8_open_16 (fun r2 hw => ?_)
        refine lv_if_eq (tgt := 28) hx hb dX8_open_19 (by decide) (fun c3 => ?_) (fun c3 => ?_)
        · have hw := hw.1 c3
          refine lv_iconst (v := 0) hx hb dX8_open_28 (by decide) ?_
          exact kB29 (wpX8_open_B4 mN mWorth a1 Post f) ih v3 v2 0 ls (lv_sub hl [0, 1, 3] rfl) hw
        · have hw := hw.2 c3
          refine lv_iconst (v := 1) hx hb dX8_open_22 (by decide) ?_
          refine lv_iload_n hx hb dX8_open_23 rfl (lv_at hl 3 rfl) ?_
          refine lv_ishl hx hb dX8_open_24 ?_
          refine lv_goto (tgt := 29) hx hb dX8_open_25 (by decide) ?_
          exact kB29 (wpX8_open_B4 mN mWorth a1 Post f) ih v3 v2 (1 <<< (v3 &&& 31)) ls (lv_sub hl [0, 1, 3] rfl) hw
  unfold wpX8_open at hw
  refine lv_iconst (v := 0) hx hb dX8_open_0 (by decide) ?_
  refine lv_istore_n (lv' := [(2, .int 0), (0, .ref (ad 0)), (1, .int a1)]) hx hb dX8_open_1 rfl hl (by decide) rfl (fun ls hl => ?_)
  refine lv_iconst (v := 0) hx hb dX8_open_2 (by decide) ?_
  refine lv_istore_n (lv' := [(3, .int 0), (2, .int 0), (0, .ref (ad 0)), (1, .int a1)]) hx hb dX8_open_3 rfl hl (by decide) rfl (fun ls hl => ?_)
  obtain ⟨f1, hw⟩ := hw
  exact kB4 f1 0 0 ls (lv_sub hl [2, 3, 1, 0] rfl) hw
set_option maxHeartbeats 4000000 in
set_option maxRecDepth 100000 in
theorem mX8_bits (l : Launch) (dC : Nat → ClassId) (dI : Nat → Nat → Nat) (cI cJ cT cII cJJ : ClassId) (a0 : Int32) (Post : Int32 → Prop) (hw : wpX8_bits a0 Post) : Met l yX8_bits wsX8_bits ({ frames := 0, cells := 0, slots := 0, locals := 0 } : Room) (va_Pc [.int a0] (fun U => va_P (dC, dI) vwCl [] U.heap ∧ va_K (dC, dI) vwCl (bw_tys cI cJ cT cII cJJ) U)) (vp_Si Post) 0 0 (fun _ => False) := by
  refine Met.ofW (cc := cX8_bits) (maxL := 3) (ret := (some .int)) (by decide) rfl ?_
  intro p e s m args below meth c s₁ B hml hv
  obtain ⟨rfl, hP, hK⟩ := hv
  have hx := B.exec
  have hb := B.bytes
  have hr := B.returns
  have hts := atoms_spec (ws := wsX8_bits) B.pre
  have hown : s.vm.findClass RX8 = some m.cls := findClass_of_methodNamed B.named
  have hlocks := B.notSynchronized
  have hl := lv_entry ([.int a0]) (n := 3) (Nat.le_of_ble_eq_true rfl)
  rw [lg_entry_eq]
  generalize (lg_sl ([.int a0]) ++ List.replicate (3 - (lg_sl ([.int a0])).length) Slot.unset).toArray = ls at hl ⊢
  have hl : lv_has ls 3 [(0, .int a0)] := hl
  have kB4 : ∀ f : Nat, ∀ (v1 : Int32) (v2 : Int32), ∀ ls : Array Slot, lv_has ls 3 [(0, .int a0), (1, .int v1), (2, .int v2)] → wpX8_bits_B4 a0 Post f v1 v2 → W p l e (headSpec wsX8_bits ({ frames := 0, cells := 0, slots := 0, locals := 0 } : Room)).room s m ([.int a0] : List Value).toArray below meth c s.heap [] 0 0 (MQ below (vp_Si Post) ([.int a0] : List Value).toArray s 0 0 (fun _ => False)) (F0 m 4 ls []) := by
    intro  f
    induction f with
    | zero => intro v1 v2 ls hl hw; exact (show False from hw).elim
    | succ f ih =>
      intro v1 v2 ls hl hw
      rw [wpX8_bits_B4] at hw
      refine lv_iload_n hx hb dX8_bits_4 rfl (lv_at hl 2 rfl) ?_
      refine lv_bipush (v := 8) hx hb dX8_bits_5 (by decide) ?_
      refine lv_icmp_ge (tgt := 24) hx hb dX8_bits_7 (by decide) (fun c1 => ?_) (fun c1 => ?_)
      · have hw := hw.1 c1
        refine lv_iload_n hx hb dX8_bits_24 rfl (lv_at hl 1 rfl) ?_
        exact W.iret (v := v1) hx hb hr (fun t ht hW => ⟨v1, rfl, hw, ht⟩) (fun _ h => by cases h) dX8_bits_25
      · have hw := hw.2 c1
        refine lv_iload_n hx hb dX8_bits_10 rfl (lv_at hl 1 rfl) ?_
        refine lv_iload_n hx hb dX8_bits_11 rfl (lv_at hl 0 rfl) ?_
        refine lv_iload_n hx hb dX8_bits_12 rfl (lv_at hl 2 rfl) ?_
        refine lv_ishr hx hb dX8_bits_13 ?_
        refine lv_iconst (v := 1) hx hb dX8_bits_14 (by decide) ?_
        refine lv_iand hx hb dX8_bits_15 ?_
        refine lv_iadd hx hb dX8_bits_16 ?_
        refine lv_topi (fun x2 ex2 => ?_)
        have hw := hw x2 ex2
        refine lv_istore_n (lv' := [(1, .int x2), (0, .int a0), (2, .int v2)]) hx hb dX8_bits_17 rfl hl (by decide) rfl (fun ls hl => ?_)
        obtain ⟨x3, ex3⟩ : ∃ y : Int32, y = v2 + 1 := ⟨_, rfl⟩
        have hw := hw x3 ex3
        refine lv_iinc (v := x3) (lv' := [(2, .int x3), (1, .int x2), (0, .int a0)]) hx hb dX8_bits_18 hl (k := 2) rfl (by rw [ex3]; rfl) (by decide) rfl (fun ls hl => ?_)
        refine lv_goto (tgt := 4) hx hb dX8_bits_21 (by decide) ?_
        exact ih x2 x3 ls (lv_sub hl [2, 1, 0] rfl) hw
  unfold wpX8_bits at hw
  refine lv_iconst (v := 0) hx hb dX8_bits_0 (by decide) ?_
  refine lv_istore_n (lv' := [(1, .int 0), (0, .int a0)]) hx hb dX8_bits_1 rfl hl (by decide) rfl (fun ls hl => ?_)
  refine lv_iconst (v := 0) hx hb dX8_bits_2 (by decide) ?_
  refine lv_istore_n (lv' := [(2, .int 0), (1, .int 0), (0, .int a0)]) hx hb dX8_bits_3 rfl hl (by decide) rfl (fun ls hl => ?_)
  obtain ⟨f1, hw⟩ := hw
  exact kB4 f1 0 0 ls (lv_sub hl [2, 1, 0] rfl) hw
set_option maxHeartbeats 4000000 in
set_option maxRecDepth 100000 in
theorem mX8_person (l : Launch) (dC : Nat → ClassId) (dI : Nat → Nat → Nat) (cI cJ cT cII cJJ : ClassId) (ad : Nat → Nat) (mN : Int32) (mStep : Int32) (mSeen : Int32) (mPlans : Int32) (mBooks : Int32) (mTexted : Int32) (mIsKept : Int32) (mSpot : Int32) (mKeeps : Int32) (mMindStep : Int32) (mAt : Int32) (mWhat : Int32) (mWhole : Int32) (mIsBroken : Int32) (mWorth : Nat → Int32) (mHas : Nat → Int32) (mPrice : Nat → Int32) (a1 : Int32) (a2 : Int32) (Post : Int32 → Prop) (hw : wpX8_person mN mWorth mHas mPrice a1 a2 Post) : Met l yX8_person wsX8_person ({ frames := 2, cells := 0, slots := 0, locals := 46 } : Room) (va_Pc [.ref (ad 0), .int a1, .int a2] (fun U => va_P (dC, dI) vwCl (wdX8_person cI cJ cT cII cJJ ad mN mStep mSeen mPlans mBooks mTexted mIsKept mSpot mKeeps mMindStep mAt mWhat mWhole mIsBroken mWorth mHas mPrice) U.heap ∧ va_K (dC, dI) vwCl (bw_tys cI cJ cT cII cJJ) U)) (vp_Si Post) 0 0 (fun _ => False) := by
  refine Met.ofW (cc := cX8_person) (maxL := 3) (ret := (some .int)) (by decide) rfl ?_
  intro p e s m args below meth c s₁ B hml hv
  obtain ⟨rfl, hP, hK⟩ := hv
  have hx := B.exec
  have hb := B.bytes
  have hr := B.returns
  have hts := atoms_spec (ws := wsX8_person) B.pre
  have hown : s.vm.findClass RX8 = some m.cls := findClass_of_methodNamed B.named
  have hlocks := B.notSynchronized
  have hl := lv_entry ([.ref (ad 0), .int a1, .int a2]) (n := 3) (Nat.le_of_ble_eq_true rfl)
  rw [lg_entry_eq]
  generalize (lg_sl ([.ref (ad 0), .int a1, .int a2]) ++ List.replicate (3 - (lg_sl ([.ref (ad 0), .int a1, .int a2])).length) Slot.unset).toArray = ls at hl ⊢
  have hl : lv_has ls 3 [(0, .ref (ad 0)), (1, .int a1), (2, .int a2)] := hl
  unfold wpX8_person at hw
  refine lv_aload_n hx hb dX8_person_0 rfl (lv_at hl 0 rfl) ?_
  refine lv_iload_n hx hb dX8_person_1 rfl (lv_at hl 1 rfl) ?_
  refine bw_pvi (wc := (wdX8_isOne cI cJ cT cII cJJ ad mN mStep mSeen mPlans mBooks mTexted mIsKept mSpot mKeeps mMindStep mAt mWhat mWhole mIsBroken)) (As := [.int a1]) (rest := []) ⟨hx, hb, hml, hown, hts⟩ (mX8_isOne l dC dI cI cJ cT cII cJJ ad mN mStep mSeen mPlans mBooks mTexted mIsKept mSpot mKeeps mMindStep mAt mWhat mWhole mIsBroken a1 _ hw) (cwV 1 hts gX8_person_X8_isOne rfl rfl rfl hdX8_isOne ⟨Nat.le_of_ble_eq_true rfl, Nat.le_of_ble_eq_true rfl⟩) hK hP [0] rfl rfl rfl rfl rfl hl.1 rfl (Nat.le_of_ble_eq_true rfl) ⟨Nat.le_of_ble_eq_true rfl, Nat.le_of_ble_eq_true rfl⟩ dX8_person_2 (fun r1 hw => ?_)
  refine lv_if_ne (tgt := 10) hx hb dX8_person_5 (by decide) (fun c2 => ?_) (fun c2 => ?_)
  · have hw := hw.1 c2
    refine lv_iload_n hx hb dX8_person_10 rfl (lv_at hl 2 rfl) ?_
    by_cases c3 : a2.toInt < 0 ∨ 3 < a2.toInt
    · have hw := hw.1 c3
      refine lv_tableOut (tgt := 95) hx hb dX8_person_11 c3 (by decide) ?_
      refine lv_iconst (v := (-1)) hx hb dX8_person_95 (by decide) ?_
      exact W.iret (v := (-1)) hx hb hr (fun t ht hW => ⟨(-1), rfl, hw, ht⟩) (fun _ h => by cases h) dX8_person_96
    have hw := hw.2
    by_cases c4 : a2 = 0
    · have hw := hw.1 c4
      refine lv_tableIn (tgt := 40) (off := 29) hx hb dX8_person_11 (fun h => c3 (Or.inl h)) (fun h => c3 (Or.inr h)) (by rw [c4]; rfl) (by decide) ?_
      refine lv_aload_n hx hb dX8_person_40 rfl (lv_at hl 0 rfl) ?_
      refine va_get (D := (dC, dI)) (ci := 8) (v := .ref (ad 2)) (C := RX8) (T := TX8) (N := 36) hx hb hts (fun w h => List.mem_cons_of_mem _ (List.mem_append_right _ h)) hown hK hP 0 rfl rfl 3 (by decide) (hts (.fieldLink RX8 22 "BidMarketModel" "has" "[I") (List.mem_of_getElem? (i := 1) rfl)) (fun _ h9 => h9) rfl dX8_person_41 ?_
      refine lv_iload_n hx hb dX8_person_44 rfl (lv_at hl 1 rfl) ?_
      have h5 := hw.1
      have hw := hw.2
      refine va_iald hx hb hK hP 2 0 rfl rfl h5 dX8_person_45 ?_
      refine lv_if_ge (tgt := 54) hx hb dX8_person_46 (by decide) (fun c6 => ?_) (fun c6 => ?_)
      · have hw := hw.1 c6
        refine lv_aload_n hx hb dX8_person_54 rfl (lv_at hl 0 rfl) ?_
        refine va_get (D := (dC, dI)) (ci := 8) (v := .ref (ad 2)) (C := RX8) (T := TX8) (N := 36) hx hb hts (fun w h => List.mem_cons_of_mem _ (List.mem_append_right _ h)) hown hK hP 0 rfl rfl 3 (by decide) (hts (.fieldLink RX8 22 "BidMarketModel" "has" "[I") (List.mem_of_getElem? (i := 1) rfl)) (fun _ h9 => h9) rfl dX8_person_55 ?_
        refine lv_iload_n hx hb dX8_person_58 rfl (lv_at hl 1 rfl) ?_
        have h7 := hw.1
        have hw := hw.2
        refine va_iald hx hb hK hP 2 0 rfl rfl h7 dX8_person_59 ?_
        exact W.iret (v := mHas a1.toNatClampNeg) hx hb hr (fun t ht hW => ⟨mHas a1.toNatClampNeg, rfl, hw, ht⟩) (fun _ h => by cases h) dX8_person_60
      · have hw := hw.2 c6
        refine lv_bipush (v := (-5)) hx hb dX8_person_49 (by decide) ?_
        refine lv_goto (tgt := 60) hx hb dX8_person_51 (by decide) ?_
        exact W.iret (v := (-5)) hx hb hr (fun t ht hW => ⟨(-5), rfl, hw, ht⟩) (fun _ h => by cases h) dX8_person_60
    have hw := hw.2
    by_cases c8 : a2 = 1
    · have hw := hw.1 c8
      refine lv_tableIn (tgt := 61) (off := 50) hx hb dX8_person_11 (fun h => c3 (Or.inl h)) (fun h => c3 (Or.inr h)) (by rw [c8]; rfl) (by decide) ?_
      refine lv_aload_n hx hb dX8_person_61 rfl (lv_at hl 0 rfl) ?_
      refine lv_iload_n hx hb dX8_person_62 rfl (lv_at hl 1 rfl) ?_
      refine bw_pvi (wc := (wdX8_best cI cJ cT cII cJJ ad mN mStep mSeen mPlans mBooks mTexted mIsKept mSpot mKeeps mMindStep mAt mWhat mWhole mIsBroken mWorth mPrice)) (As := [.int a1]) (rest := []) ⟨hx, hb, hml, hown, hts⟩ (mX8_best l dC dI cI cJ cT cII cJJ ad mN mStep mSeen mPlans mBooks mTexted mIsKept mSpot mKeeps mMindStep mAt mWhat mWhole mIsBroken mWorth mPrice a1 _ hw) (cwV 1 hts gX8_person_X8_best rfl rfl rfl hdX8_best ⟨Nat.le_of_ble_eq_true rfl, Nat.le_of_ble_eq_true rfl⟩) hK hP [0, 1, 3] rfl rfl rfl rfl rfl hl.1 rfl (Nat.le_of_ble_eq_true rfl) ⟨Nat.le_of_ble_eq_true rfl, Nat.le_of_ble_eq_true rfl⟩ dX8_person_63 (fun r9 hw => ?_)
      refine lv_if_ge (tgt := 74) hx hb dX8_person_66 (by decide) (fun c10 => ?_) (fun c10 => ?_)
      · have hw := hw.1 c10
        refine lv_aload_n hx hb dX8_person_74 rfl (lv_at hl 0 rfl) ?_
        refine lv_iload_n hx hb dX8_person_75 rfl (lv_at hl 1 rfl) ?_
        refine bw_pvi (wc := (wdX8_best cI cJ cT cII cJJ ad mN mStep mSeen mPlans mBooks mTexted mIsKept mSpot mKeeps mMindStep mAt mWhat mWhole mIsBroken mWorth mPrice)) (As := [.int a1]) (rest := []) ⟨hx, hb, hml, hown, hts⟩ (mX8_best l dC dI cI cJ cT cII cJJ ad mN mStep mSeen mPlans mBooks mTexted mIsKept mSpot mKeeps mMindStep mAt mWhat mWhole mIsBroken mWorth mPrice a1 _ hw) (cwV 1 hts gX8_person_X8_best rfl rfl rfl hdX8_best ⟨Nat.le_of_ble_eq_true rfl, Nat.le_of_ble_eq_true rfl⟩) hK hP [0, 1, 3] rfl rfl rfl rfl rfl hl.1 rfl (Nat.le_of_ble_eq_true rfl) ⟨Nat.le_of_ble_eq_true rfl, Nat.le_of_ble_eq_true rfl⟩ dX8_person_76 (fun r11 hw => ?_)
        exact W.iret (v := r11) hx hb hr (fun t ht hW => ⟨r11, rfl, hw, ht⟩) (fun _ h => by cases h) dX8_person_79
      · have hw := hw.2 c10
        refine lv_bipush (v := (-5)) hx hb dX8_person_69 (by decide) ?_
        refine lv_goto (tgt := 79) hx hb dX8_person_71 (by decide) ?_
        exact W.iret (v := (-5)) hx hb hr (fun t ht hW => ⟨(-5), rfl, hw, ht⟩) (fun _ h => by cases h) dX8_person_79
    have hw := hw.2
    by_cases c12 : a2 = 2
    · have hw := hw.1 c12
      refine lv_tableIn (tgt := 80) (off := 69) hx hb dX8_person_11 (fun h => c3 (Or.inl h)) (fun h => c3 (Or.inr h)) (by rw [c12]; rfl) (by decide) ?_
      refine lv_aload_n hx hb dX8_person_80 rfl (lv_at hl 0 rfl) ?_
      refine lv_iload_n hx hb dX8_person_81 rfl (lv_at hl 1 rfl) ?_
      refine bw_pvi (wc := (wdX8_envy cI cJ cT cII cJJ ad mN mStep mSeen mPlans mBooks mTexted mIsKept mSpot mKeeps mMindStep mAt mWhat mWhole mIsBroken mWorth mHas mPrice)) (As := [.int a1]) (rest := []) ⟨hx, hb, hml, hown, hts⟩ (mX8_envy l dC dI cI cJ cT cII cJJ ad mN mStep mSeen mPlans mBooks mTexted mIsKept mSpot mKeeps mMindStep mAt mWhat mWhole mIsBroken mWorth mHas mPrice a1 _ hw) (cwV 1 hts gX8_person_X8_envy rfl rfl rfl hdX8_envy ⟨Nat.le_of_ble_eq_true rfl, Nat.le_of_ble_eq_true rfl⟩) hK hP [0, 1, 2, 3] rfl rfl rfl rfl rfl hl.1 rfl (Nat.le_of_ble_eq_true rfl) ⟨Nat.le_of_ble_eq_true rfl, Nat.le_of_ble_eq_true rfl⟩ dX8_person_82 (fun r13 hw => ?_)
      exact W.iret (v := r13) hx hb hr (fun t ht hW => ⟨r13, rfl, hw, ht⟩) (fun _ h => by cases h) dX8_person_85
    have hw := hw.2
    by_cases c14 : a2 = 3
    · have hw := hw c14
      refine lv_tableIn (tgt := 86) (off := 75) hx hb dX8_person_11 (fun h => c3 (Or.inl h)) (fun h => c3 (Or.inr h)) (by rw [c14]; rfl) (by decide) ?_
      refine lv_aload_n hx hb dX8_person_86 rfl (lv_at hl 0 rfl) ?_
      refine lv_iload_n hx hb dX8_person_87 rfl (lv_at hl 1 rfl) ?_
      refine bw_pvi (wc := (wdX8_open cI cJ cT cII cJJ ad mN mStep mSeen mPlans mBooks mTexted mIsKept mSpot mKeeps mMindStep mAt mWhat mWhole mIsBroken mWorth)) (As := [.int a1]) (rest := []) ⟨hx, hb, hml, hown, hts⟩ (mX8_open l dC dI cI cJ cT cII cJJ ad mN mStep mSeen mPlans mBooks mTexted mIsKept mSpot mKeeps mMindStep mAt mWhat mWhole mIsBroken mWorth a1 _ hw) (cwV 1 hts gX8_person_X8_open rfl rfl rfl hdX8_open ⟨Nat.le_of_ble_eq_true rfl, Nat.le_of_ble_eq_true rfl⟩) hK hP [0, 1] rfl rfl rfl rfl rfl hl.1 rfl (Nat.le_of_ble_eq_true rfl) ⟨Nat.le_of_ble_eq_true rfl, Nat.le_of_ble_eq_true rfl⟩ dX8_person_88 (fun r15 hw => ?_)
      refine bw_psi (wc := []) (As := [.int r15]) (rest := []) ⟨hx, hb, hml, hown, hts⟩ (mX8_bits l dC dI cI cJ cT cII cJJ r15 _ hw) (va_cwS 1 hts gX8_person_X8_bits rfl rfl rfl hdX8_bits ⟨Nat.le_of_ble_eq_true rfl, Nat.le_of_ble_eq_true rfl⟩) hK hP [] rfl rfl hl.1 rfl (Nat.le_of_ble_eq_true rfl) ⟨Nat.le_of_ble_eq_true rfl, Nat.le_of_ble_eq_true rfl⟩ dX8_person_91 (fun r16 hw => ?_)
      exact W.iret (v := r16) hx hb hr (fun t ht hW => ⟨r16, rfl, hw, ht⟩) (fun _ h => by cases h) dX8_person_94
    exact (bw_sw 3 c3 (fun k hk => match k, hk with | 0, _ => c4 | 1, _ => c8 | 2, _ => c12 | 3, _ => c14 | k + 4, h => absurd h (by omega))).elim
  · have hw := hw.2 c2
    refine lv_iconst (v := (-1)) hx hb dX8_person_8 (by decide) ?_
    exact W.iret (v := (-1)) hx hb hr (fun t ht hW => ⟨(-1), rfl, hw, ht⟩) (fun _ h => by cases h) dX8_person_9
set_option maxHeartbeats 4000000 in
set_option maxRecDepth 100000 in
theorem mX8_wanted (l : Launch) (dC : Nat → ClassId) (dI : Nat → Nat → Nat) (cI cJ cT cII cJJ : ClassId) (ad : Nat → Nat) (mN : Int32) (mStep : Int32) (mSeen : Int32) (mPlans : Int32) (mBooks : Int32) (mTexted : Int32) (mIsKept : Int32) (mSpot : Int32) (mKeeps : Int32) (mMindStep : Int32) (mAt : Int32) (mWhat : Int32) (mWhole : Int32) (mIsBroken : Int32) (mWorth : Nat → Int32) (mPrice : Nat → Int32) (a1 : Int32) (Post : Int32 → Prop) (hw : wpX8_wanted mN mWorth mPrice a1 Post) : Met l yX8_wanted wsX8_wanted ({ frames := 2, cells := 0, slots := 0, locals := 45 } : Room) (va_Pc [.ref (ad 0), .int a1] (fun U => va_P (dC, dI) vwCl (wdX8_wanted cI cJ cT cII cJJ ad mN mStep mSeen mPlans mBooks mTexted mIsKept mSpot mKeeps mMindStep mAt mWhat mWhole mIsBroken mWorth mPrice) U.heap ∧ va_K (dC, dI) vwCl (bw_tys cI cJ cT cII cJJ) U)) (vp_Si Post) 0 0 (fun _ => False) := by
  refine Met.ofW (cc := cX8_wanted) (maxL := 4) (ret := (some .int)) (by decide) rfl ?_
  intro p e s m args below meth c s₁ B hml hv
  obtain ⟨rfl, hP, hK⟩ := hv
  have hx := B.exec
  have hb := B.bytes
  have hr := B.returns
  have hts := atoms_spec (ws := wsX8_wanted) B.pre
  have hown : s.vm.findClass RX8 = some m.cls := findClass_of_methodNamed B.named
  have hlocks := B.notSynchronized
  have hl := lv_entry ([.ref (ad 0), .int a1]) (n := 4) (Nat.le_of_ble_eq_true rfl)
  rw [lg_entry_eq]
  generalize (lg_sl ([.ref (ad 0), .int a1]) ++ List.replicate (4 - (lg_sl ([.ref (ad 0), .int a1])).length) Slot.unset).toArray = ls at hl ⊢
  have hl : lv_has ls 4 [(0, .ref (ad 0)), (1, .int a1)] := hl
  have kB29 : ∀ (K4 : Int32 → Int32 → Prop), (∀ (v2 : Int32) (v3 : Int32), ∀ ls : Array Slot, lv_has ls 4 [(0, .ref (ad 0)), (1, .int a1), (2, .int v2), (3, .int v3)] → K4 v2 v3 → W p l e (headSpec wsX8_wanted ({ frames := 2, cells := 0, slots := 0, locals := 45 } : Room)).room s m ([.ref (ad 0), .int a1] : List Value).toArray below meth c s.heap [] 0 0 (MQ below (vp_Si Post) ([.ref (ad 0), .int a1] : List Value).toArray s 0 0 (fun _ => False)) (F0 m 4 ls [])) → ∀ (v3 : Int32) (s0 : Int32) (s1 : Int32), ∀ ls : Array Slot, lv_has ls 4 [(0, .ref (ad 0)), (1, .int a1), (3, .int v3)] → wpX8_wanted_B29 mN mWorth mPrice a1 K4 Post v3 s0 s1 → W p l e (headSpec wsX8_wanted ({ frames := 2, cells := 0, slots := 0, locals := 45 } : Room)).room s m ([.ref (ad 0), .int a1] : List Value).toArray below meth c s.heap [] 0 0 (MQ below (vp_Si Post) ([.ref (ad 0), .int a1] : List Value).toArray s 0 0 (fun _ => False)) (F0 m 29 ls [.int s1, .int s0]) := by
    intro K4 hK4 v3 s0 s1 ls hl hw
    unfold wpX8_wanted_B29 at hw
    refine lv_ior hx hb dX8_wanted_29 ?_
    refine lv_topi (fun x4 ex4 => ?_)
    have hw := hw x4 ex4
    refine lv_istore_n (lv' := [(2, .int x4), (0, .ref (ad 0)), (1, .int a1), (3, .int v3)]) hx hb dX8_wanted_30 rfl hl (by decide) rfl (fun ls hl => ?_)
    obtain ⟨x5, ex5⟩ : ∃ y : Int32, y = v3 + 1 := ⟨_, rfl⟩
    have hw := hw x5 ex5
    refine lv_iinc (v := x5) (lv' := [(3, .int x5), (2, .int x4), (0, .ref (ad 0)), (1, .int a1)]) hx hb dX8_wanted_31 hl (k := 3) rfl (by rw [ex5]; rfl) (by decide) rfl (fun ls hl => ?_)
    refine lv_goto (tgt := 4) hx hb dX8_wanted_34 (by decide) ?_
    exact hK4 x4 x5 ls (lv_sub hl [2, 3, 1, 0] rfl) hw
  have kB4 : ∀ f : Nat, ∀ (v2 : Int32) (v3 : Int32), ∀ ls : Array Slot, lv_has ls 4 [(0, .ref (ad 0)), (1, .int a1), (2, .int v2), (3, .int v3)] → wpX8_wanted_B4 mN mWorth mPrice a1 Post f v2 v3 → W p l e (headSpec wsX8_wanted ({ frames := 2, cells := 0, slots := 0, locals := 45 } : Room)).room s m ([.ref (ad 0), .int a1] : List Value).toArray below meth c s.heap [] 0 0 (MQ below (vp_Si Post) ([.ref (ad 0), .int a1] : List Value).toArray s 0 0 (fun _ => False)) (F0 m 4 ls []) := by
    intro  f
    induction f with
    | zero => intro v2 v3 ls hl hw; exact (show False from hw).elim
    | succ f ih =>
      intro v2 v3 ls hl hw
      rw [wpX8_wanted_B4] at hw
      refine lv_iload_n hx hb dX8_wanted_4 rfl (lv_at hl 3 rfl) ?_
      refine lv_aload_n hx hb dX8_wanted_5 rfl (lv_at hl 0 rfl) ?_
      refine va_get (D := (dC, dI)) (ci := 8) (v := .int mN) (C := RX8) (T := TX8) (N := 36) hx hb hts (fun w h => List.mem_cons_of_mem _ (List.mem_append_right _ h)) hown hK hP 0 rfl rfl 0 (by decide) (hts (.fieldLink RX8 9 "BidMarketModel" "n" "I") (List.mem_of_getElem? (i := 1) rfl)) (fun _ h9 => h9) rfl dX8_wanted_6 ?_
      refine lv_icmp_ge (tgt := 37) hx hb dX8_wanted_9 (by decide) (fun c1 => ?_) (fun c1 => ?_)
      · have hw := hw.1 c1
        refine lv_iload_n hx hb dX8_wanted_37 rfl (lv_at hl 2 rfl) ?_
        exact W.iret (v := v2) hx hb hr (fun t ht hW => ⟨v2, rfl, hw, ht⟩) (fun _ h => by cases h) dX8_wanted_38
      · have hw := hw.2 c1
        refine lv_iload_n hx hb dX8_wanted_12 rfl (lv_at hl 2 rfl) ?_
        refine lv_aload_n hx hb dX8_wanted_13 rfl (lv_at hl 0 rfl) ?_
        refine lv_iload_n hx hb dX8_wanted_14 rfl (lv_at hl 3 rfl) ?_
        refine bw_pvi (wc := (wdX8_best cI cJ cT cII cJJ ad mN mStep mSeen mPlans mBooks mTexted mIsKept mSpot mKeeps mMindStep mAt mWhat mWhole mIsBroken mWorth mPrice)) (As := [.int v3]) (rest := [.int v2]) ⟨hx, hb, hml, hown, hts⟩ (mX8_best l dC dI cI cJ cT cII cJJ ad mN mStep mSeen mPlans mBooks mTexted mIsKept mSpot mKeeps mMindStep mAt mWhat mWhole mIsBroken mWorth mPrice v3 _ hw) (cwV 1 hts gX8_wanted_X8_best rfl rfl rfl hdX8_best ⟨Nat.le_of_ble_eq_true rfl, Nat.le_of_ble_eq_true rfl⟩) hK hP [0, 1, 2] rfl rfl rfl rfl rfl hl.1 rfl (Nat.le_of_ble_eq_true rfl) ⟨Nat.le_of_ble_eq_true rfl, Nat.le_of_ble_eq_true rfl⟩ dX8_wanted_15 (fun r2 hw => ?_)
        refine lv_iload_n hx hb dX8_wanted_18 rfl (lv_at hl 1 rfl) ?_
        refine lv_icmp_ne (tgt := 28) hx hb dX8_wanted_19 (by decide) (fun c3 => ?_) (fun c3 => ?_)
        · have hw := hw.1 c3
          refine lv_iconst (v := 0) hx hb dX8_wanted_28 (by decide) ?_
          exact kB29 (wpX8_wanted_B4 mN mWorth mPrice a1 Post f) ih v3 v2 0 ls (lv_sub hl [0, 1, 3] rfl) hw
        · have hw := hw.2 c3
          refine lv_iconst (v := 1) hx hb dX8_wanted_22 (by decide) ?_
          refine lv_iload_n hx hb dX8_wanted_23 rfl (lv_at hl 3 rfl) ?_
          refine lv_ishl hx hb dX8_wanted_24 ?_
          refine lv_goto (tgt := 29) hx hb dX8_wanted_25 (by decide) ?_
          exact kB29 (wpX8_wanted_B4 mN mWorth mPrice a1 Post f) ih v3 v2 (1 <<< (v3 &&& 31)) ls (lv_sub hl [0, 1, 3] rfl) hw
  unfold wpX8_wanted at hw
  refine lv_iconst (v := 0) hx hb dX8_wanted_0 (by decide) ?_
  refine lv_istore_n (lv' := [(2, .int 0), (0, .ref (ad 0)), (1, .int a1)]) hx hb dX8_wanted_1 rfl hl (by decide) rfl (fun ls hl => ?_)
  refine lv_iconst (v := 0) hx hb dX8_wanted_2 (by decide) ?_
  refine lv_istore_n (lv' := [(3, .int 0), (2, .int 0), (0, .ref (ad 0)), (1, .int a1)]) hx hb dX8_wanted_3 rfl hl (by decide) rfl (fun ls hl => ?_)
  obtain ⟨f1, hw⟩ := hw
  exact kB4 f1 0 0 ls (lv_sub hl [2, 3, 1, 0] rfl) hw
set_option maxHeartbeats 4000000 in
set_option maxRecDepth 100000 in
theorem mX8_thing (l : Launch) (dC : Nat → ClassId) (dI : Nat → Nat → Nat) (cI cJ cT cII cJJ : ClassId) (ad : Nat → Nat) (mN : Int32) (mStep : Int32) (mSeen : Int32) (mPlans : Int32) (mBooks : Int32) (mTexted : Int32) (mIsKept : Int32) (mSpot : Int32) (mKeeps : Int32) (mMindStep : Int32) (mAt : Int32) (mWhat : Int32) (mWhole : Int32) (mIsBroken : Int32) (mWorth : Nat → Int32) (mOwner : Nat → Int32) (mPrice : Nat → Int32) (a1 : Int32) (a2 : Int32) (Post : Int32 → Prop) (hw : wpX8_thing mN mWorth mOwner mPrice a1 a2 Post) : Met l yX8_thing wsX8_thing ({ frames := 3, cells := 0, slots := 0, locals := 68 } : Room) (va_Pc [.ref (ad 0), .int a1, .int a2] (fun U => va_P (dC, dI) vwCl (wdX8_thing cI cJ cT cII cJJ ad mN mStep mSeen mPlans mBooks mTexted mIsKept mSpot mKeeps mMindStep mAt mWhat mWhole mIsBroken mWorth mOwner mPrice) U.heap ∧ va_K (dC, dI) vwCl (bw_tys cI cJ cT cII cJJ) U)) (vp_Si Post) 0 0 (fun _ => False) := by
  refine Met.ofW (cc := cX8_thing) (maxL := 3) (ret := (some .int)) (by decide) rfl ?_
  intro p e s m args below meth c s₁ B hml hv
  obtain ⟨rfl, hP, hK⟩ := hv
  have hx := B.exec
  have hb := B.bytes
  have hr := B.returns
  have hts := atoms_spec (ws := wsX8_thing) B.pre
  have hown : s.vm.findClass RX8 = some m.cls := findClass_of_methodNamed B.named
  have hlocks := B.notSynchronized
  have hl := lv_entry ([.ref (ad 0), .int a1, .int a2]) (n := 3) (Nat.le_of_ble_eq_true rfl)
  rw [lg_entry_eq]
  generalize (lg_sl ([.ref (ad 0), .int a1, .int a2]) ++ List.replicate (3 - (lg_sl ([.ref (ad 0), .int a1, .int a2])).length) Slot.unset).toArray = ls at hl ⊢
  have hl : lv_has ls 3 [(0, .ref (ad 0)), (1, .int a1), (2, .int a2)] := hl
  unfold wpX8_thing at hw
  refine lv_aload_n hx hb dX8_thing_0 rfl (lv_at hl 0 rfl) ?_
  refine lv_iload_n hx hb dX8_thing_1 rfl (lv_at hl 1 rfl) ?_
  refine bw_pvi (wc := (wdX8_isOne cI cJ cT cII cJJ ad mN mStep mSeen mPlans mBooks mTexted mIsKept mSpot mKeeps mMindStep mAt mWhat mWhole mIsBroken)) (As := [.int a1]) (rest := []) ⟨hx, hb, hml, hown, hts⟩ (mX8_isOne l dC dI cI cJ cT cII cJJ ad mN mStep mSeen mPlans mBooks mTexted mIsKept mSpot mKeeps mMindStep mAt mWhat mWhole mIsBroken a1 _ hw) (cwV 1 hts gX8_thing_X8_isOne rfl rfl rfl hdX8_isOne ⟨Nat.le_of_ble_eq_true rfl, Nat.le_of_ble_eq_true rfl⟩) hK hP [0] rfl rfl rfl rfl rfl hl.1 rfl (Nat.le_of_ble_eq_true rfl) ⟨Nat.le_of_ble_eq_true rfl, Nat.le_of_ble_eq_true rfl⟩ dX8_thing_2 (fun r1 hw => ?_)
  refine lv_if_ne (tgt := 10) hx hb dX8_thing_5 (by decide) (fun c2 => ?_) (fun c2 => ?_)
  · have hw := hw.1 c2
    refine lv_iload_n hx hb dX8_thing_10 rfl (lv_at hl 2 rfl) ?_
    by_cases c3 : a2.toInt < 0 ∨ 2 < a2.toInt
    · have hw := hw.1 c3
      refine lv_tableOut (tgt := 70) hx hb dX8_thing_11 c3 (by decide) ?_
      refine lv_iconst (v := (-1)) hx hb dX8_thing_70 (by decide) ?_
      exact W.iret (v := (-1)) hx hb hr (fun t ht hW => ⟨(-1), rfl, hw, ht⟩) (fun _ h => by cases h) dX8_thing_71
    have hw := hw.2
    by_cases c4 : a2 = 0
    · have hw := hw.1 c4
      refine lv_tableIn (tgt := 36) (off := 25) hx hb dX8_thing_11 (fun h => c3 (Or.inl h)) (fun h => c3 (Or.inr h)) (by rw [c4]; rfl) (by decide) ?_
      refine lv_aload_n hx hb dX8_thing_36 rfl (lv_at hl 0 rfl) ?_
      refine va_get (D := (dC, dI)) (ci := 8) (v := .ref (ad 4)) (C := RX8) (T := TX8) (N := 36) hx hb hts (fun w h => List.mem_cons_of_mem _ (List.mem_append_right _ h)) hown hK hP 0 rfl rfl 5 (by decide) (hts (.fieldLink RX8 28 "BidMarketModel" "price" "[I") (List.mem_of_getElem? (i := 1) rfl)) (fun _ h9 => h9) rfl dX8_thing_37 ?_
      refine lv_iload_n hx hb dX8_thing_40 rfl (lv_at hl 1 rfl) ?_
      have h5 := hw.1
      have hw := hw.2
      refine va_iald hx hb hK hP 3 0 rfl rfl h5 dX8_thing_41 ?_
      exact W.iret (v := mPrice a1.toNatClampNeg) hx hb hr (fun t ht hW => ⟨mPrice a1.toNatClampNeg, rfl, hw, ht⟩) (fun _ h => by cases h) dX8_thing_42
    have hw := hw.2
    by_cases c6 : a2 = 1
    · have hw := hw.1 c6
      refine lv_tableIn (tgt := 43) (off := 32) hx hb dX8_thing_11 (fun h => c3 (Or.inl h)) (fun h => c3 (Or.inr h)) (by rw [c6]; rfl) (by decide) ?_
      refine lv_aload_n hx hb dX8_thing_43 rfl (lv_at hl 0 rfl) ?_
      refine va_get (D := (dC, dI)) (ci := 8) (v := .ref (ad 3)) (C := RX8) (T := TX8) (N := 36) hx hb hts (fun w h => List.mem_cons_of_mem _ (List.mem_append_right _ h)) hown hK hP 0 rfl rfl 4 (by decide) (hts (.fieldLink RX8 25 "BidMarketModel" "owner" "[I") (List.mem_of_getElem? (i := 2) rfl)) (fun _ h9 => h9) rfl dX8_thing_44 ?_
      refine lv_iload_n hx hb dX8_thing_47 rfl (lv_at hl 1 rfl) ?_
      have h7 := hw.1
      have hw := hw.2
      refine va_iald hx hb hK hP 2 0 rfl rfl h7 dX8_thing_48 ?_
      refine lv_if_ge (tgt := 57) hx hb dX8_thing_49 (by decide) (fun c8 => ?_) (fun c8 => ?_)
      · have hw := hw.1 c8
        refine lv_aload_n hx hb dX8_thing_57 rfl (lv_at hl 0 rfl) ?_
        refine va_get (D := (dC, dI)) (ci := 8) (v := .ref (ad 3)) (C := RX8) (T := TX8) (N := 36) hx hb hts (fun w h => List.mem_cons_of_mem _ (List.mem_append_right _ h)) hown hK hP 0 rfl rfl 4 (by decide) (hts (.fieldLink RX8 25 "BidMarketModel" "owner" "[I") (List.mem_of_getElem? (i := 2) rfl)) (fun _ h9 => h9) rfl dX8_thing_58 ?_
        refine lv_iload_n hx hb dX8_thing_61 rfl (lv_at hl 1 rfl) ?_
        have h9 := hw.1
        have hw := hw.2
        refine va_iald hx hb hK hP 2 0 rfl rfl h9 dX8_thing_62 ?_
        exact W.iret (v := mOwner a1.toNatClampNeg) hx hb hr (fun t ht hW => ⟨mOwner a1.toNatClampNeg, rfl, hw, ht⟩) (fun _ h => by cases h) dX8_thing_63
      · have hw := hw.2 c8
        refine lv_bipush (v := (-5)) hx hb dX8_thing_52 (by decide) ?_
        refine lv_goto (tgt := 63) hx hb dX8_thing_54 (by decide) ?_
        exact W.iret (v := (-5)) hx hb hr (fun t ht hW => ⟨(-5), rfl, hw, ht⟩) (fun _ h => by cases h) dX8_thing_63
    have hw := hw.2
    by_cases c10 : a2 = 2
    · have hw := hw c10
      refine lv_tableIn (tgt := 64) (off := 53) hx hb dX8_thing_11 (fun h => c3 (Or.inl h)) (fun h => c3 (Or.inr h)) (by rw [c10]; rfl) (by decide) ?_
      refine lv_aload_n hx hb dX8_thing_64 rfl (lv_at hl 0 rfl) ?_
      refine lv_iload_n hx hb dX8_thing_65 rfl (lv_at hl 1 rfl) ?_
      refine bw_pvi (wc := (wdX8_wanted cI cJ cT cII cJJ ad mN mStep mSeen mPlans mBooks mTexted mIsKept mSpot mKeeps mMindStep mAt mWhat mWhole mIsBroken mWorth mPrice)) (As := [.int a1]) (rest := []) ⟨hx, hb, hml, hown, hts⟩ (mX8_wanted l dC dI cI cJ cT cII cJJ ad mN mStep mSeen mPlans mBooks mTexted mIsKept mSpot mKeeps mMindStep mAt mWhat mWhole mIsBroken mWorth mPrice a1 _ hw) (cwV 1 hts gX8_thing_X8_wanted rfl rfl rfl hdX8_wanted ⟨Nat.le_of_ble_eq_true rfl, Nat.le_of_ble_eq_true rfl⟩) hK hP [0, 1, 3] rfl rfl rfl rfl rfl hl.1 rfl (Nat.le_of_ble_eq_true rfl) ⟨Nat.le_of_ble_eq_true rfl, Nat.le_of_ble_eq_true rfl⟩ dX8_thing_66 (fun r11 hw => ?_)
      exact W.iret (v := r11) hx hb hr (fun t ht hW => ⟨r11, rfl, hw, ht⟩) (fun _ h => by cases h) dX8_thing_69
    exact (bw_sw 2 c3 (fun k hk => match k, hk with | 0, _ => c4 | 1, _ => c6 | 2, _ => c10 | k + 3, h => absurd h (by omega))).elim
  · have hw := hw.2 c2
    refine lv_iconst (v := (-1)) hx hb dX8_thing_8 (by decide) ?_
    exact W.iret (v := (-1)) hx hb hr (fun t ht hW => ⟨(-1), rfl, hw, ht⟩) (fun _ h => by cases h) dX8_thing_9
set_option maxHeartbeats 4000000 in
set_option maxRecDepth 100000 in
theorem mX8_sum (l : Launch) (dC : Nat → ClassId) (dI : Nat → Nat → Nat) (cI cJ cT cII cJJ : ClassId) (ad : Nat → Nat) (mN : Int32) (mStep : Int32) (mSeen : Int32) (mPlans : Int32) (mBooks : Int32) (mTexted : Int32) (mIsKept : Int32) (mSpot : Int32) (mKeeps : Int32) (mMindStep : Int32) (mAt : Int32) (mWhat : Int32) (mWhole : Int32) (mIsBroken : Int32) (mWorth : Nat → Int32) (mHas : Nat → Int32) (Post : Int32 → Prop) (hw : wpX8_sum mN mWorth mHas Post) : Met l yX8_sum wsX8_sum ({ frames := 0, cells := 0, slots := 0, locals := 0 } : Room) (va_Pc [.ref (ad 0)] (fun U => va_P (dC, dI) vwCl (wdX8_sum cI cJ cT cII cJJ ad mN mStep mSeen mPlans mBooks mTexted mIsKept mSpot mKeeps mMindStep mAt mWhat mWhole mIsBroken mWorth mHas) U.heap ∧ va_K (dC, dI) vwCl (bw_tys cI cJ cT cII cJJ) U)) (vp_Si Post) 0 0 (fun _ => False) := by
  refine Met.ofW (cc := cX8_sum) (maxL := 3) (ret := (some .int)) (by decide) rfl ?_
  intro p e s m args below meth c s₁ B hml hv
  obtain ⟨rfl, hP, hK⟩ := hv
  have hx := B.exec
  have hb := B.bytes
  have hr := B.returns
  have hts := atoms_spec (ws := wsX8_sum) B.pre
  have hown : s.vm.findClass RX8 = some m.cls := findClass_of_methodNamed B.named
  have hlocks := B.notSynchronized
  have hl := lv_entry ([.ref (ad 0)]) (n := 3) (Nat.le_of_ble_eq_true rfl)
  rw [lg_entry_eq]
  generalize (lg_sl ([.ref (ad 0)]) ++ List.replicate (3 - (lg_sl ([.ref (ad 0)])).length) Slot.unset).toArray = ls at hl ⊢
  have hl : lv_has ls 3 [(0, .ref (ad 0))] := hl
  have kB42 : ∀ (K4 : Int32 → Int32 → Prop), (∀ (v1 : Int32) (v2 : Int32), ∀ ls : Array Slot, lv_has ls 3 [(0, .ref (ad 0)), (1, .int v1), (2, .int v2)] → K4 v1 v2 → W p l e (headSpec wsX8_sum ({ frames := 0, cells := 0, slots := 0, locals := 0 } : Room)).room s m ([.ref (ad 0)] : List Value).toArray below meth c s.heap [] 0 0 (MQ below (vp_Si Post) ([.ref (ad 0)] : List Value).toArray s 0 0 (fun _ => False)) (F0 m 4 ls [])) → ∀ (v2 : Int32) (s0 : Int32) (s1 : Int32), ∀ ls : Array Slot, lv_has ls 3 [(0, .ref (ad 0)), (2, .int v2)] → wpX8_sum_B42 mN mWorth mHas K4 Post v2 s0 s1 → W p l e (headSpec wsX8_sum ({ frames := 0, cells := 0, slots := 0, locals := 0 } : Room)).room s m ([.ref (ad 0)] : List Value).toArray below meth c s.heap [] 0 0 (MQ below (vp_Si Post) ([.ref (ad 0)] : List Value).toArray s 0 0 (fun _ => False)) (F0 m 42 ls [.int s1, .int s0]) := by
    intro K4 hK4 v2 s0 s1 ls hl hw
    unfold wpX8_sum_B42 at hw
    refine lv_iadd hx hb dX8_sum_42 ?_
    refine lv_topi (fun x6 ex6 => ?_)
    have hw := hw x6 ex6
    refine lv_istore_n (lv' := [(1, .int x6), (0, .ref (ad 0)), (2, .int v2)]) hx hb dX8_sum_43 rfl hl (by decide) rfl (fun ls hl => ?_)
    obtain ⟨x7, ex7⟩ : ∃ y : Int32, y = v2 + 1 := ⟨_, rfl⟩
    have hw := hw x7 ex7
    refine lv_iinc (v := x7) (lv' := [(2, .int x7), (1, .int x6), (0, .ref (ad 0))]) hx hb dX8_sum_44 hl (k := 2) rfl (by rw [ex7]; rfl) (by decide) rfl (fun ls hl => ?_)
    refine lv_goto (tgt := 4) hx hb dX8_sum_47 (by decide) ?_
    exact hK4 x6 x7 ls (lv_sub hl [2, 1, 0] rfl) hw
  have kB4 : ∀ f : Nat, ∀ (v1 : Int32) (v2 : Int32), ∀ ls : Array Slot, lv_has ls 3 [(0, .ref (ad 0)), (1, .int v1), (2, .int v2)] → wpX8_sum_B4 mN mWorth mHas Post f v1 v2 → W p l e (headSpec wsX8_sum ({ frames := 0, cells := 0, slots := 0, locals := 0 } : Room)).room s m ([.ref (ad 0)] : List Value).toArray below meth c s.heap [] 0 0 (MQ below (vp_Si Post) ([.ref (ad 0)] : List Value).toArray s 0 0 (fun _ => False)) (F0 m 4 ls []) := by
    intro  f
    induction f with
    | zero => intro v1 v2 ls hl hw; exact (show False from hw).elim
    | succ f ih =>
      intro v1 v2 ls hl hw
      rw [wpX8_sum_B4] at hw
      refine lv_iload_n hx hb dX8_sum_4 rfl (lv_at hl 2 rfl) ?_
      refine lv_aload_n hx hb dX8_sum_5 rfl (lv_at hl 0 rfl) ?_
      refine va_get (D := (dC, dI)) (ci := 8) (v := .int mN) (C := RX8) (T := TX8) (N := 36) hx hb hts (fun w h => List.mem_cons_of_mem _ (List.mem_append_right _ h)) hown hK hP 0 rfl rfl 0 (by decide) (hts (.fieldLink RX8 9 "BidMarketModel" "n" "I") (List.mem_of_getElem? (i := 1) rfl)) (fun _ h9 => h9) rfl dX8_sum_6 ?_
      refine lv_icmp_ge (tgt := 50) hx hb dX8_sum_9 (by decide) (fun c1 => ?_) (fun c1 => ?_)
      · have hw := hw.1 c1
        refine lv_iload_n hx hb dX8_sum_50 rfl (lv_at hl 1 rfl) ?_
        exact W.iret (v := v1) hx hb hr (fun t ht hW => ⟨v1, rfl, hw, ht⟩) (fun _ h => by cases h) dX8_sum_51
      · have hw := hw.2 c1
        refine lv_iload_n hx hb dX8_sum_12 rfl (lv_at hl 1 rfl) ?_
        refine lv_aload_n hx hb dX8_sum_13 rfl (lv_at hl 0 rfl) ?_
        refine va_get (D := (dC, dI)) (ci := 8) (v := .ref (ad 2)) (C := RX8) (T := TX8) (N := 36) hx hb hts (fun w h => List.mem_cons_of_mem _ (List.mem_append_right _ h)) hown hK hP 0 rfl rfl 3 (by decide) (hts (.fieldLink RX8 22 "BidMarketModel" "has" "[I") (List.mem_of_getElem? (i := 2) rfl)) (fun _ h9 => h9) rfl dX8_sum_14 ?_
        refine lv_iload_n hx hb dX8_sum_17 rfl (lv_at hl 2 rfl) ?_
        have h2 := hw.1
        have hw := hw.2
        refine va_iald hx hb hK hP 2 0 rfl rfl h2 dX8_sum_18 ?_
        refine lv_if_ge (tgt := 26) hx hb dX8_sum_19 (by decide) (fun c3 => ?_) (fun c3 => ?_)
        · have hw := hw.1 c3
          refine lv_aload_n hx hb dX8_sum_26 rfl (lv_at hl 0 rfl) ?_
          refine va_get (D := (dC, dI)) (ci := 8) (v := .ref (ad 1)) (C := RX8) (T := TX8) (N := 36) hx hb hts (fun w h => List.mem_cons_of_mem _ (List.mem_append_right _ h)) hown hK hP 0 rfl rfl 2 (by decide) (hts (.fieldLink RX8 18 "BidMarketModel" "worth" "[I") (List.mem_of_getElem? (i := 3) rfl)) (fun _ h9 => h9) rfl dX8_sum_27 ?_
          refine lv_bipush (v := 8) hx hb dX8_sum_30 (by decide) ?_
          refine lv_iload_n hx hb dX8_sum_32 rfl (lv_at hl 2 rfl) ?_
          refine lv_imul hx hb dX8_sum_33 ?_
          refine lv_aload_n hx hb dX8_sum_34 rfl (lv_at hl 0 rfl) ?_
          refine va_get (D := (dC, dI)) (ci := 8) (v := .ref (ad 2)) (C := RX8) (T := TX8) (N := 36) hx hb hts (fun w h => List.mem_cons_of_mem _ (List.mem_append_right _ h)) hown hK hP 0 rfl rfl 3 (by decide) (hts (.fieldLink RX8 22 "BidMarketModel" "has" "[I") (List.mem_of_getElem? (i := 2) rfl)) (fun _ h9 => h9) rfl dX8_sum_35 ?_
          refine lv_iload_n hx hb dX8_sum_38 rfl (lv_at hl 2 rfl) ?_
          have h4 := hw.1
          have hw := hw.2
          refine va_iald hx hb hK hP 2 0 rfl rfl h4 dX8_sum_39 ?_
          refine lv_iadd hx hb dX8_sum_40 ?_
          have h5 := hw.1
          have hw := hw.2
          refine va_iald hx hb hK hP 1 0 rfl rfl h5 dX8_sum_41 ?_
          exact kB42 (wpX8_sum_B4 mN mWorth mHas Post f) ih v2 v1 (mWorth ((8 * v2) + (mHas v2.toNatClampNeg)).toNatClampNeg) ls (lv_sub hl [0, 2] rfl) hw
        · have hw := hw.2 c3
          refine lv_iconst (v := 0) hx hb dX8_sum_22 (by decide) ?_
          refine lv_goto (tgt := 42) hx hb dX8_sum_23 (by decide) ?_
          exact kB42 (wpX8_sum_B4 mN mWorth mHas Post f) ih v2 v1 0 ls (lv_sub hl [0, 2] rfl) hw
  unfold wpX8_sum at hw
  refine lv_iconst (v := 0) hx hb dX8_sum_0 (by decide) ?_
  refine lv_istore_n (lv' := [(1, .int 0), (0, .ref (ad 0))]) hx hb dX8_sum_1 rfl hl (by decide) rfl (fun ls hl => ?_)
  refine lv_iconst (v := 0) hx hb dX8_sum_2 (by decide) ?_
  refine lv_istore_n (lv' := [(2, .int 0), (1, .int 0), (0, .ref (ad 0))]) hx hb dX8_sum_3 rfl hl (by decide) rfl (fun ls hl => ?_)
  obtain ⟨f1, hw⟩ := hw
  exact kB4 f1 0 0 ls (lv_sub hl [2, 1, 0] rfl) hw
set_option maxHeartbeats 4000000 in
set_option maxRecDepth 100000 in
theorem mX8_prices (l : Launch) (dC : Nat → ClassId) (dI : Nat → Nat → Nat) (cI cJ cT cII cJJ : ClassId) (ad : Nat → Nat) (mN : Int32) (mStep : Int32) (mSeen : Int32) (mPlans : Int32) (mBooks : Int32) (mTexted : Int32) (mIsKept : Int32) (mSpot : Int32) (mKeeps : Int32) (mMindStep : Int32) (mAt : Int32) (mWhat : Int32) (mWhole : Int32) (mIsBroken : Int32) (mPrice : Nat → Int32) (Post : Int32 → Prop) (hw : wpX8_prices mN mPrice Post) : Met l yX8_prices wsX8_prices ({ frames := 0, cells := 0, slots := 0, locals := 0 } : Room) (va_Pc [.ref (ad 0)] (fun U => va_P (dC, dI) vwCl (wdX8_prices cI cJ cT cII cJJ ad mN mStep mSeen mPlans mBooks mTexted mIsKept mSpot mKeeps mMindStep mAt mWhat mWhole mIsBroken mPrice) U.heap ∧ va_K (dC, dI) vwCl (bw_tys cI cJ cT cII cJJ) U)) (vp_Si Post) 0 0 (fun _ => False) := by
  refine Met.ofW (cc := cX8_prices) (maxL := 3) (ret := (some .int)) (by decide) rfl ?_
  intro p e s m args below meth c s₁ B hml hv
  obtain ⟨rfl, hP, hK⟩ := hv
  have hx := B.exec
  have hb := B.bytes
  have hr := B.returns
  have hts := atoms_spec (ws := wsX8_prices) B.pre
  have hown : s.vm.findClass RX8 = some m.cls := findClass_of_methodNamed B.named
  have hlocks := B.notSynchronized
  have hl := lv_entry ([.ref (ad 0)]) (n := 3) (Nat.le_of_ble_eq_true rfl)
  rw [lg_entry_eq]
  generalize (lg_sl ([.ref (ad 0)]) ++ List.replicate (3 - (lg_sl ([.ref (ad 0)])).length) Slot.unset).toArray = ls at hl ⊢
  have hl : lv_has ls 3 [(0, .ref (ad 0))] := hl
  have kB4 : ∀ f : Nat, ∀ (v1 : Int32) (v2 : Int32), ∀ ls : Array Slot, lv_has ls 3 [(0, .ref (ad 0)), (1, .int v1), (2, .int v2)] → wpX8_prices_B4 mN mPrice Post f v1 v2 → W p l e (headSpec wsX8_prices ({ frames := 0, cells := 0, slots := 0, locals := 0 } : Room)).room s m ([.ref (ad 0)] : List Value).toArray below meth c s.heap [] 0 0 (MQ below (vp_Si Post) ([.ref (ad 0)] : List Value).toArray s 0 0 (fun _ => False)) (F0 m 4 ls []) := by
    intro  f
    induction f with
    | zero => intro v1 v2 ls hl hw; exact (show False from hw).elim
    | succ f ih =>
      intro v1 v2 ls hl hw
      rw [wpX8_prices_B4] at hw
      refine lv_iload_n hx hb dX8_prices_4 rfl (lv_at hl 2 rfl) ?_
      refine lv_aload_n hx hb dX8_prices_5 rfl (lv_at hl 0 rfl) ?_
      refine va_get (D := (dC, dI)) (ci := 8) (v := .int mN) (C := RX8) (T := TX8) (N := 36) hx hb hts (fun w h => List.mem_cons_of_mem _ (List.mem_append_right _ h)) hown hK hP 0 rfl rfl 0 (by decide) (hts (.fieldLink RX8 9 "BidMarketModel" "n" "I") (List.mem_of_getElem? (i := 1) rfl)) (fun _ h9 => h9) rfl dX8_prices_6 ?_
      refine lv_icmp_ge (tgt := 27) hx hb dX8_prices_9 (by decide) (fun c1 => ?_) (fun c1 => ?_)
      · have hw := hw.1 c1
        refine lv_iload_n hx hb dX8_prices_27 rfl (lv_at hl 1 rfl) ?_
        exact W.iret (v := v1) hx hb hr (fun t ht hW => ⟨v1, rfl, hw, ht⟩) (fun _ h => by cases h) dX8_prices_28
      · have hw := hw.2 c1
        refine lv_iload_n hx hb dX8_prices_12 rfl (lv_at hl 1 rfl) ?_
        refine lv_aload_n hx hb dX8_prices_13 rfl (lv_at hl 0 rfl) ?_
        refine va_get (D := (dC, dI)) (ci := 8) (v := .ref (ad 4)) (C := RX8) (T := TX8) (N := 36) hx hb hts (fun w h => List.mem_cons_of_mem _ (List.mem_append_right _ h)) hown hK hP 0 rfl rfl 5 (by decide) (hts (.fieldLink RX8 28 "BidMarketModel" "price" "[I") (List.mem_of_getElem? (i := 2) rfl)) (fun _ h9 => h9) rfl dX8_prices_14 ?_
        refine lv_iload_n hx hb dX8_prices_17 rfl (lv_at hl 2 rfl) ?_
        have h2 := hw.1
        have hw := hw.2
        refine va_iald hx hb hK hP 1 0 rfl rfl h2 dX8_prices_18 ?_
        refine lv_iadd hx hb dX8_prices_19 ?_
        refine lv_topi (fun x3 ex3 => ?_)
        have hw := hw x3 ex3
        refine lv_istore_n (lv' := [(1, .int x3), (0, .ref (ad 0)), (2, .int v2)]) hx hb dX8_prices_20 rfl hl (by decide) rfl (fun ls hl => ?_)
        obtain ⟨x4, ex4⟩ : ∃ y : Int32, y = v2 + 1 := ⟨_, rfl⟩
        have hw := hw x4 ex4
        refine lv_iinc (v := x4) (lv' := [(2, .int x4), (1, .int x3), (0, .ref (ad 0))]) hx hb dX8_prices_21 hl (k := 2) rfl (by rw [ex4]; rfl) (by decide) rfl (fun ls hl => ?_)
        refine lv_goto (tgt := 4) hx hb dX8_prices_24 (by decide) ?_
        exact ih x3 x4 ls (lv_sub hl [2, 1, 0] rfl) hw
  unfold wpX8_prices at hw
  refine lv_iconst (v := 0) hx hb dX8_prices_0 (by decide) ?_
  refine lv_istore_n (lv' := [(1, .int 0), (0, .ref (ad 0))]) hx hb dX8_prices_1 rfl hl (by decide) rfl (fun ls hl => ?_)
  refine lv_iconst (v := 0) hx hb dX8_prices_2 (by decide) ?_
  refine lv_istore_n (lv' := [(2, .int 0), (1, .int 0), (0, .ref (ad 0))]) hx hb dX8_prices_3 rfl hl (by decide) rfl (fun ls hl => ?_)
  obtain ⟨f1, hw⟩ := hw
  exact kB4 f1 0 0 ls (lv_sub hl [2, 1, 0] rfl) hw
set_option maxHeartbeats 4000000 in
set_option maxRecDepth 100000 in
theorem mX8_most (l : Launch) (dC : Nat → ClassId) (dI : Nat → Nat → Nat) (cI cJ cT cII cJJ : ClassId) (ad : Nat → Nat) (sz : Nat) (mN : Int32) (mStep : Int32) (mSeen : Int32) (mPlans : Int32) (mBooks : Int32) (mTexted : Int32) (mIsKept : Int32) (mSpot : Int32) (mKeeps : Int32) (mMindStep : Int32) (mAt : Int32) (mWhat : Int32) (mWhole : Int32) (mIsBroken : Int32) (mWorth : Nat → Int32) (mMostBy : Nat → Int32) (Post : Int32 → (Nat → Int32) → Prop) (hw : wpX8_most mN mWorth mMostBy Post) : Met l yX8_most wsX8_most ({ frames := 1, cells := 0, slots := 0, locals := 64 } : Room) (va_Pc [.ref (ad 0)] (fun U => U.heap.size = sz ∧ va_P (dC, dI) vwCl (wdX8_most cI cJ cT cII cJJ ad mN mStep mSeen mPlans mBooks mTexted mIsKept mSpot mKeeps mMindStep mAt mWhat mWhole mIsBroken mWorth mMostBy) U.heap ∧ va_K (dC, dI) vwCl (bw_tys cI cJ cT cII cJJ) U ∧ va_D (fun _ => True) (wdX8_most cI cJ cT cII cJJ ad mN mStep mSeen mPlans mBooks mTexted mIsKept mSpot mKeeps mMindStep mAt mWhat mWhole mIsBroken mWorth mMostBy))) (va_Qi (fun (r : Int32) (u : (Nat → Int32)) => Post r u) (fun (u : (Nat → Int32)) t => va_P (dC, dI) vwCl (wdX8_most cI cJ cT cII cJJ ad mN mStep mSeen mPlans mBooks mTexted mIsKept mSpot mKeeps mMindStep mAt mWhat mWhole mIsBroken mWorth u) t.heap) (va_A (wdX8_most cI cJ cT cII cJJ ad mN mStep mSeen mPlans mBooks mTexted mIsKept mSpot mKeeps mMindStep mAt mWhat mWhole mIsBroken mWorth mMostBy) sz)) 0 0 (va_A (wdX8_most cI cJ cT cII cJJ ad mN mStep mSeen mPlans mBooks mTexted mIsKept mSpot mKeeps mMindStep mAt mWhat mWhole mIsBroken mWorth mMostBy) sz) := by
  refine Met.ofW (cc := cX8_most) (maxL := 5) (ret := (some .int)) (by decide) rfl ?_
  intro p e s m args below meth c s₁ B hml hv
  obtain ⟨rfl, hsz, hP, hK, hD0⟩ := hv
  have hx := B.exec
  have hb := B.bytes
  have hr := B.returns
  have hts := atoms_spec (ws := wsX8_most) B.pre
  have hown : s.vm.findClass RX8 = some m.cls := findClass_of_methodNamed B.named
  have hlocks := B.notSynchronized
  subst hsz
  have hD := hD0.self (sz := s.heap.size)
  generalize hAe : va_A (wdX8_most cI cJ cT cII cJJ ad mN mStep mSeen mPlans mBooks mTexted mIsKept mSpot mKeeps mMindStep mAt mWhat mWhole mIsBroken mWorth mMostBy) s.heap.size = A at hD ⊢
  have hA : ∀ q : Nat, s.heap.size ≤ q → A q := fun q h => by rw [← hAe]; exact Or.inr h
  have hS : va_S A s.heap s.heap [] := va_S.rf
  have hl := lv_entry ([.ref (ad 0)]) (n := 5) (Nat.le_of_ble_eq_true rfl)
  rw [lg_entry_eq]
  generalize (lg_sl ([.ref (ad 0)]) ++ List.replicate (5 - (lg_sl ([.ref (ad 0)])).length) Slot.unset).toArray = ls at hl ⊢
  have hl : lv_has ls 5 [(0, .ref (ad 0))] := hl
  have kB131 : ∀ (K11 : Int32 → Int32 → (Nat → Int32) → Prop), (∀ (v1 : Int32) (v2 : Int32) (mMostBy : Nat → Int32), ∀ (H : Heap) (locs : List Loc), va_P (dC, dI) vwCl (wdX8_most cI cJ cT cII cJJ ad mN mStep mSeen mPlans mBooks mTexted mIsKept mSpot mKeeps mMindStep mAt mWhat mWhole mIsBroken mWorth mMostBy) H → va_D A (wdX8_most cI cJ cT cII cJJ ad mN mStep mSeen mPlans mBooks mTexted mIsKept mSpot mKeeps mMindStep mAt mWhat mWhole mIsBroken mWorth mMostBy) → va_S A s.heap H locs → ∀ ls : Array Slot, lv_has ls 5 [(0, .ref (ad 0)), (1, .int v1), (2, .int v2)] → K11 v1 v2 mMostBy → W p l e (headSpec wsX8_most ({ frames := 1, cells := 0, slots := 0, locals := 64 } : Room)).room s m ([.ref (ad 0)] : List Value).toArray below meth c H locs 0 0 (MQ below (va_Qi (fun (r : Int32) (u : (Nat → Int32)) => Post r u) (fun (u : (Nat → Int32)) t => va_P (dC, dI) vwCl (wdX8_most cI cJ cT cII cJJ ad mN mStep mSeen mPlans mBooks mTexted mIsKept mSpot mKeeps mMindStep mAt mWhat mWhole mIsBroken mWorth u) t.heap) A) ([.ref (ad 0)] : List Value).toArray s 0 0 A) (F0 m 11 ls [])) → ∀ (v1 : Int32) (v2 : Int32) (mMostBy : Nat → Int32), ∀ (H : Heap) (locs : List Loc), va_P (dC, dI) vwCl (wdX8_most cI cJ cT cII cJJ ad mN mStep mSeen mPlans mBooks mTexted mIsKept mSpot mKeeps mMindStep mAt mWhat mWhole mIsBroken mWorth mMostBy) H → va_D A (wdX8_most cI cJ cT cII cJJ ad mN mStep mSeen mPlans mBooks mTexted mIsKept mSpot mKeeps mMindStep mAt mWhat mWhole mIsBroken mWorth mMostBy) → va_S A s.heap H locs → ∀ ls : Array Slot, lv_has ls 5 [(0, .ref (ad 0)), (1, .int v1), (2, .int v2)] → wpX8_most_B131 mN mWorth K11 Post v1 v2 mMostBy → W p l e (headSpec wsX8_most ({ frames := 1, cells := 0, slots := 0, locals := 64 } : Room)).room s m ([.ref (ad 0)] : List Value).toArray below meth c H locs 0 0 (MQ below (va_Qi (fun (r : Int32) (u : (Nat → Int32)) => Post r u) (fun (u : (Nat → Int32)) t => va_P (dC, dI) vwCl (wdX8_most cI cJ cT cII cJJ ad mN mStep mSeen mPlans mBooks mTexted mIsKept mSpot mKeeps mMindStep mAt mWhat mWhole mIsBroken mWorth u) t.heap) A) ([.ref (ad 0)] : List Value).toArray s 0 0 A) (F0 m 131 ls []) := by
    intro K11 hK11 v1 v2 mMostBy H locs hP hD hS ls hl hw
    unfold wpX8_most_B131 at hw
    obtain ⟨x10, ex10⟩ : ∃ y : Int32, y = v2 + (-1) := ⟨_, rfl⟩
    have hw := hw x10 ex10
    refine lv_iinc (v := x10) (lv' := [(2, .int x10), (0, .ref (ad 0)), (1, .int v1)]) hx hb dX8_most_131 hl (k := 2) rfl (by rw [ex10]; rfl) (by decide) rfl (fun ls hl => ?_)
    refine lv_goto (tgt := 11) hx hb dX8_most_134 (by decide) ?_
    exact hK11 v1 x10 mMostBy _ _ hP hD hS ls (lv_sub hl [1, 2, 0] rfl) hw
  have kB125 : ∀ (K39 : Int32 → Int32 → Int32 → Int32 → (Nat → Int32) → Prop), ∀ (K11 : Int32 → Int32 → (Nat → Int32) → Prop), (∀ (v1 : Int32) (v2 : Int32) (v3 : Int32) (v4 : Int32) (mMostBy : Nat → Int32), ∀ (H : Heap) (locs : List Loc), va_P (dC, dI) vwCl (wdX8_most cI cJ cT cII cJJ ad mN mStep mSeen mPlans mBooks mTexted mIsKept mSpot mKeeps mMindStep mAt mWhat mWhole mIsBroken mWorth mMostBy) H → va_D A (wdX8_most cI cJ cT cII cJJ ad mN mStep mSeen mPlans mBooks mTexted mIsKept mSpot mKeeps mMindStep mAt mWhat mWhole mIsBroken mWorth mMostBy) → va_S A s.heap H locs → ∀ ls : Array Slot, lv_has ls 5 [(0, .ref (ad 0)), (1, .int v1), (2, .int v2), (3, .int v3), (4, .int v4)] → K39 v1 v2 v3 v4 mMostBy → W p l e (headSpec wsX8_most ({ frames := 1, cells := 0, slots := 0, locals := 64 } : Room)).room s m ([.ref (ad 0)] : List Value).toArray below meth c H locs 0 0 (MQ below (va_Qi (fun (r : Int32) (u : (Nat → Int32)) => Post r u) (fun (u : (Nat → Int32)) t => va_P (dC, dI) vwCl (wdX8_most cI cJ cT cII cJJ ad mN mStep mSeen mPlans mBooks mTexted mIsKept mSpot mKeeps mMindStep mAt mWhat mWhole mIsBroken mWorth u) t.heap) A) ([.ref (ad 0)] : List Value).toArray s 0 0 A) (F0 m 39 ls [])) → (∀ (v1 : Int32) (v2 : Int32) (mMostBy : Nat → Int32), ∀ (H : Heap) (locs : List Loc), va_P (dC, dI) vwCl (wdX8_most cI cJ cT cII cJJ ad mN mStep mSeen mPlans mBooks mTexted mIsKept mSpot mKeeps mMindStep mAt mWhat mWhole mIsBroken mWorth mMostBy) H → va_D A (wdX8_most cI cJ cT cII cJJ ad mN mStep mSeen mPlans mBooks mTexted mIsKept mSpot mKeeps mMindStep mAt mWhat mWhole mIsBroken mWorth mMostBy) → va_S A s.heap H locs → ∀ ls : Array Slot, lv_has ls 5 [(0, .ref (ad 0)), (1, .int v1), (2, .int v2)] → K11 v1 v2 mMostBy → W p l e (headSpec wsX8_most ({ frames := 1, cells := 0, slots := 0, locals := 64 } : Room)).room s m ([.ref (ad 0)] : List Value).toArray below meth c H locs 0 0 (MQ below (va_Qi (fun (r : Int32) (u : (Nat → Int32)) => Post r u) (fun (u : (Nat → Int32)) t => va_P (dC, dI) vwCl (wdX8_most cI cJ cT cII cJJ ad mN mStep mSeen mPlans mBooks mTexted mIsKept mSpot mKeeps mMindStep mAt mWhat mWhole mIsBroken mWorth u) t.heap) A) ([.ref (ad 0)] : List Value).toArray s 0 0 A) (F0 m 11 ls [])) → ∀ (v1 : Int32) (v2 : Int32) (v3 : Int32) (v4 : Int32) (mMostBy : Nat → Int32), ∀ (H : Heap) (locs : List Loc), va_P (dC, dI) vwCl (wdX8_most cI cJ cT cII cJJ ad mN mStep mSeen mPlans mBooks mTexted mIsKept mSpot mKeeps mMindStep mAt mWhat mWhole mIsBroken mWorth mMostBy) H → va_D A (wdX8_most cI cJ cT cII cJJ ad mN mStep mSeen mPlans mBooks mTexted mIsKept mSpot mKeeps mMindStep mAt mWhat mWhole mIsBroken mWorth mMostBy) → va_S A s.heap H locs → ∀ ls : Array Slot, lv_has ls 5 [(0, .ref (ad 0)), (1, .int v1), (2, .int v2), (3, .int v3), (4, .int v4)] → wpX8_most_B125 mN mWorth K39 K11 Post v1 v2 v3 v4 mMostBy → W p l e (headSpec wsX8_most ({ frames := 1, cells := 0, slots := 0, locals := 64 } : Room)).room s m ([.ref (ad 0)] : List Value).toArray below meth c H locs 0 0 (MQ below (va_Qi (fun (r : Int32) (u : (Nat → Int32)) => Post r u) (fun (u : (Nat → Int32)) t => va_P (dC, dI) vwCl (wdX8_most cI cJ cT cII cJJ ad mN mStep mSeen mPlans mBooks mTexted mIsKept mSpot mKeeps mMindStep mAt mWhat mWhole mIsBroken mWorth u) t.heap) A) ([.ref (ad 0)] : List Value).toArray s 0 0 A) (F0 m 125 ls []) := by
    intro K39 K11 hK39 hK11 v1 v2 v3 v4 mMostBy H locs hP hD hS ls hl hw
    unfold wpX8_most_B125 at hw
    obtain ⟨x13, ex13⟩ : ∃ y : Int32, y = v4 + 1 := ⟨_, rfl⟩
    have hw := hw x13 ex13
    refine lv_iinc (v := x13) (lv' := [(4, .int x13), (0, .ref (ad 0)), (1, .int v1), (2, .int v2), (3, .int v3)]) hx hb dX8_most_125 hl (k := 4) rfl (by rw [ex13]; rfl) (by decide) rfl (fun ls hl => ?_)
    refine lv_goto (tgt := 39) hx hb dX8_most_128 (by decide) ?_
    exact hK39 v1 v2 v3 x13 mMostBy _ _ hP hD hS ls (lv_sub hl [1, 2, 3, 4, 0] rfl) hw
  have kB39 : ∀ (K11 : Int32 → Int32 → (Nat → Int32) → Prop), (∀ (v1 : Int32) (v2 : Int32) (mMostBy : Nat → Int32), ∀ (H : Heap) (locs : List Loc), va_P (dC, dI) vwCl (wdX8_most cI cJ cT cII cJJ ad mN mStep mSeen mPlans mBooks mTexted mIsKept mSpot mKeeps mMindStep mAt mWhat mWhole mIsBroken mWorth mMostBy) H → va_D A (wdX8_most cI cJ cT cII cJJ ad mN mStep mSeen mPlans mBooks mTexted mIsKept mSpot mKeeps mMindStep mAt mWhat mWhole mIsBroken mWorth mMostBy) → va_S A s.heap H locs → ∀ ls : Array Slot, lv_has ls 5 [(0, .ref (ad 0)), (1, .int v1), (2, .int v2)] → K11 v1 v2 mMostBy → W p l e (headSpec wsX8_most ({ frames := 1, cells := 0, slots := 0, locals := 64 } : Room)).room s m ([.ref (ad 0)] : List Value).toArray below meth c H locs 0 0 (MQ below (va_Qi (fun (r : Int32) (u : (Nat → Int32)) => Post r u) (fun (u : (Nat → Int32)) t => va_P (dC, dI) vwCl (wdX8_most cI cJ cT cII cJJ ad mN mStep mSeen mPlans mBooks mTexted mIsKept mSpot mKeeps mMindStep mAt mWhat mWhole mIsBroken mWorth u) t.heap) A) ([.ref (ad 0)] : List Value).toArray s 0 0 A) (F0 m 11 ls [])) → ∀ f : Nat, ∀ (v1 : Int32) (v2 : Int32) (v3 : Int32) (v4 : Int32) (mMostBy : Nat → Int32), ∀ (H : Heap) (locs : List Loc), va_P (dC, dI) vwCl (wdX8_most cI cJ cT cII cJJ ad mN mStep mSeen mPlans mBooks mTexted mIsKept mSpot mKeeps mMindStep mAt mWhat mWhole mIsBroken mWorth mMostBy) H → va_D A (wdX8_most cI cJ cT cII cJJ ad mN mStep mSeen mPlans mBooks mTexted mIsKept mSpot mKeeps mMindStep mAt mWhat mWhole mIsBroken mWorth mMostBy) → va_S A s.heap H locs → ∀ ls : Array Slot, lv_has ls 5 [(0, .ref (ad 0)), (1, .int v1), (2, .int v2), (3, .int v3), (4, .int v4)] → wpX8_most_B39 mN mWorth K11 Post f v1 v2 v3 v4 mMostBy → W p l e (headSpec wsX8_most ({ frames := 1, cells := 0, slots := 0, locals := 64 } : Room)).room s m ([.ref (ad 0)] : List Value).toArray below meth c H locs 0 0 (MQ below (va_Qi (fun (r : Int32) (u : (Nat → Int32)) => Post r u) (fun (u : (Nat → Int32)) t => va_P (dC, dI) vwCl (wdX8_most cI cJ cT cII cJJ ad mN mStep mSeen mPlans mBooks mTexted mIsKept mSpot mKeeps mMindStep mAt mWhat mWhole mIsBroken mWorth u) t.heap) A) ([.ref (ad 0)] : List Value).toArray s 0 0 A) (F0 m 39 ls []) := by
    intro K11 hK11 f
    induction f with
    | zero => intro v1 v2 v3 v4 mMostBy H locs hP hD hS ls hl hw; exact (show False from hw).elim
    | succ f ih =>
      intro v1 v2 v3 v4 mMostBy H locs hP hD hS ls hl hw
      rw [wpX8_most_B39] at hw
      refine lv_iload hx hb dX8_most_39 (lv_at hl 4 rfl) ?_
      refine lv_aload_n hx hb dX8_most_41 rfl (lv_at hl 0 rfl) ?_
      refine va_get (D := (dC, dI)) (ci := 8) (v := .int mN) (C := RX8) (T := TX8) (N := 36) hx hb hts (fun w h => List.mem_cons_of_mem _ (List.mem_append_right _ h)) hown hK hP 0 rfl rfl 0 (by decide) (hts (.fieldLink RX8 9 "BidMarketModel" "n" "I") (List.mem_of_getElem? (i := 1) rfl)) (fun _ h9 => h9) rfl dX8_most_42 ?_
      refine lv_icmp_ge (tgt := 131) hx hb dX8_most_45 (by decide) (fun c9 => ?_) (fun c9 => ?_)
      · have hw := hw.1 c9
        exact kB131 K11 hK11 v1 v2 mMostBy _ _ hP hD hS ls (lv_sub hl [0, 1, 2] rfl) hw
      · have hw := hw.2 c9
        refine lv_iload_n hx hb dX8_most_48 rfl (lv_at hl 2 rfl) ?_
        refine lv_iload_n hx hb dX8_most_49 rfl (lv_at hl 1 rfl) ?_
        refine lv_icmp_eq (tgt := 131) hx hb dX8_most_50 (by decide) (fun c11 => ?_) (fun c11 => ?_)
        · have hw := hw.1 c11
          exact kB131 K11 hK11 v1 v2 mMostBy _ _ hP hD hS ls (lv_sub hl [0, 1, 2] rfl) hw
        · have hw := hw.2 c11
          refine lv_iload_n hx hb dX8_most_53 rfl (lv_at hl 2 rfl) ?_
          refine lv_iload hx hb dX8_most_54 (lv_at hl 4 rfl) ?_
          refine lv_ishr hx hb dX8_most_56 ?_
          refine lv_iconst (v := 1) hx hb dX8_most_57 (by decide) ?_
          refine lv_iand hx hb dX8_most_58 ?_
          refine lv_if_ne (tgt := 125) hx hb dX8_most_59 (by decide) (fun c12 => ?_) (fun c12 => ?_)
          · have hw := hw.1 c12
            exact kB125 (wpX8_most_B39 mN mWorth K11 Post f) K11 ih hK11 v1 v2 v3 v4 mMostBy _ _ hP hD hS ls hl hw
          · have hw := hw.2 c12
            refine lv_aload_n hx hb dX8_most_62 rfl (lv_at hl 0 rfl) ?_
            refine lv_iload_n hx hb dX8_most_63 rfl (lv_at hl 3 rfl) ?_
            refine lv_iload hx hb dX8_most_64 (lv_at hl 4 rfl) ?_
            refine bw_pvi (wc := (wdX8_may cI cJ cT cII cJJ ad mN mStep mSeen mPlans mBooks mTexted mIsKept mSpot mKeeps mMindStep mAt mWhat mWhole mIsBroken mWorth)) (As := [.int v3, .int v4]) (rest := []) ⟨hx, hb, hml, hown, hts⟩ (mX8_may l dC dI cI cJ cT cII cJJ ad mN mStep mSeen mPlans mBooks mTexted mIsKept mSpot mKeeps mMindStep mAt mWhat mWhole mIsBroken mWorth v3 v4 _ hw) (cwV 2 hts gX8_most_X8_may rfl rfl rfl hdX8_may ⟨Nat.le_of_ble_eq_true rfl, Nat.le_of_ble_eq_true rfl⟩) hK hP [0, 1] rfl rfl rfl rfl rfl hl.1 rfl (Nat.le_of_ble_eq_true rfl) ⟨Nat.le_of_ble_eq_true rfl, Nat.le_of_ble_eq_true rfl⟩ dX8_most_66 (fun r14 hw => ?_)
            refine lv_if_eq (tgt := 125) hx hb dX8_most_69 (by decide) (fun c15 => ?_) (fun c15 => ?_)
            · have hw := hw.1 c15
              exact kB125 (wpX8_most_B39 mN mWorth K11 Post f) K11 ih hK11 v1 v2 v3 v4 mMostBy _ _ hP hD hS ls hl hw
            · have hw := hw.2 c15
              refine lv_aload_n hx hb dX8_most_72 rfl (lv_at hl 0 rfl) ?_
              refine va_get (D := (dC, dI)) (ci := 8) (v := .ref (ad 18)) (C := RX8) (T := TX8) (N := 36) hx hb hts (fun w h => List.mem_cons_of_mem _ (List.mem_append_right _ h)) hown hK hP 0 rfl rfl 31 (by decide) (hts (.fieldLink RX8 70 "BidMarketModel" "mostBy" "[I") (List.mem_of_getElem? (i := 2) rfl)) (fun _ h9 => h9) rfl dX8_most_73 ?_
              refine lv_iload_n hx hb dX8_most_76 rfl (lv_at hl 2 rfl) ?_
              refine lv_iconst (v := 1) hx hb dX8_most_77 (by decide) ?_
              refine lv_iload hx hb dX8_most_78 (lv_at hl 4 rfl) ?_
              refine lv_ishl hx hb dX8_most_80 ?_
              refine lv_ior hx hb dX8_most_81 ?_
              have h16 := hw.1
              have hw := hw.2
              refine va_iald hx hb hK hP 2 0 rfl rfl h16 dX8_most_82 ?_
              refine lv_if_lt (tgt := 125) hx hb dX8_most_83 (by decide) (fun c17 => ?_) (fun c17 => ?_)
              · have hw := hw.1 c17
                exact kB125 (wpX8_most_B39 mN mWorth K11 Post f) K11 ih hK11 v1 v2 v3 v4 mMostBy _ _ hP hD hS ls hl hw
              · have hw := hw.2 c17
                refine lv_aload_n hx hb dX8_most_86 rfl (lv_at hl 0 rfl) ?_
                refine va_get (D := (dC, dI)) (ci := 8) (v := .ref (ad 18)) (C := RX8) (T := TX8) (N := 36) hx hb hts (fun w h => List.mem_cons_of_mem _ (List.mem_append_right _ h)) hown hK hP 0 rfl rfl 31 (by decide) (hts (.fieldLink RX8 70 "BidMarketModel" "mostBy" "[I") (List.mem_of_getElem? (i := 2) rfl)) (fun _ h9 => h9) rfl dX8_most_87 ?_
                refine lv_iload_n hx hb dX8_most_90 rfl (lv_at hl 2 rfl) ?_
                refine lv_aload_n hx hb dX8_most_91 rfl (lv_at hl 0 rfl) ?_
                refine va_get (D := (dC, dI)) (ci := 8) (v := .ref (ad 18)) (C := RX8) (T := TX8) (N := 36) hx hb hts (fun w h => List.mem_cons_of_mem _ (List.mem_append_right _ h)) hown hK hP 0 rfl rfl 31 (by decide) (hts (.fieldLink RX8 70 "BidMarketModel" "mostBy" "[I") (List.mem_of_getElem? (i := 2) rfl)) (fun _ h9 => h9) rfl dX8_most_92 ?_
                refine lv_iload_n hx hb dX8_most_95 rfl (lv_at hl 2 rfl) ?_
                have h18 := hw.1
                have hw := hw.2
                refine va_iald hx hb hK hP 2 0 rfl rfl h18 dX8_most_96 ?_
                refine lv_aload_n hx hb dX8_most_97 rfl (lv_at hl 0 rfl) ?_
                refine va_get (D := (dC, dI)) (ci := 8) (v := .ref (ad 1)) (C := RX8) (T := TX8) (N := 36) hx hb hts (fun w h => List.mem_cons_of_mem _ (List.mem_append_right _ h)) hown hK hP 0 rfl rfl 2 (by decide) (hts (.fieldLink RX8 18 "BidMarketModel" "worth" "[I") (List.mem_of_getElem? (i := 3) rfl)) (fun _ h9 => h9) rfl dX8_most_98 ?_
                refine lv_bipush (v := 8) hx hb dX8_most_101 (by decide) ?_
                refine lv_iload_n hx hb dX8_most_103 rfl (lv_at hl 3 rfl) ?_
                refine lv_imul hx hb dX8_most_104 ?_
                refine lv_iload hx hb dX8_most_105 (lv_at hl 4 rfl) ?_
                refine lv_iadd hx hb dX8_most_107 ?_
                have h19 := hw.1
                have hw := hw.2
                refine va_iald hx hb hK hP 1 0 rfl rfl h19 dX8_most_108 ?_
                refine lv_aload_n hx hb dX8_most_109 rfl (lv_at hl 0 rfl) ?_
                refine va_get (D := (dC, dI)) (ci := 8) (v := .ref (ad 18)) (C := RX8) (T := TX8) (N := 36) hx hb hts (fun w h => List.mem_cons_of_mem _ (List.mem_append_right _ h)) hown hK hP 0 rfl rfl 31 (by decide) (hts (.fieldLink RX8 70 "BidMarketModel" "mostBy" "[I") (List.mem_of_getElem? (i := 2) rfl)) (fun _ h9 => h9) rfl dX8_most_110 ?_
                refine lv_iload_n hx hb dX8_most_113 rfl (lv_at hl 2 rfl) ?_
                refine lv_iconst (v := 1) hx hb dX8_most_114 (by decide) ?_
                refine lv_iload hx hb dX8_most_115 (lv_at hl 4 rfl) ?_
                refine lv_ishl hx hb dX8_most_117 ?_
                refine lv_ior hx hb dX8_most_118 ?_
                have h20 := hw.1
                have hw := hw.2
                refine va_iald hx hb hK hP 2 0 rfl rfl h20 dX8_most_119 ?_
                refine lv_iadd hx hb dX8_most_120 ?_
                refine va_mmax hx hb (hml.trans hl.1.symm) hown (hts (.methodLink RX8 249 Lib.Math.max.name) (List.mem_of_getElem? (i := 4) rfl)) (hts (.static Lib.Math.max.name) (List.mem_of_getElem? (i := 5) rfl)) (hts (.initialized "java/lang/Math") (List.mem_of_getElem? (i := 6) rfl)) (hts (.code Lib.Math.max.name Lib.Math.max.code 2 (some .int)) (List.mem_of_getElem? (i := 7) rfl)) (Nat.le_of_ble_eq_true rfl) (Nat.le_of_ble_eq_true rfl) (Nat.le_of_ble_eq_true rfl) (Nat.le_of_ble_eq_true rfl) dX8_most_121 ?_
                have h21 := hw.1
                have hw := hw.2
                refine va_iast hx hb hK hP hD hS 2 0 rfl rfl h21 dX8_most_124 (fun H locs hP hD hS => ?_)
                have hP : va_P (dC, dI) vwCl (wdX8_most cI cJ cT cII cJJ ad mN mStep mSeen mPlans mBooks mTexted mIsKept mSpot mKeeps mMindStep mAt mWhat mWhole mIsBroken mWorth (upd mMostBy v2.toNatClampNeg (if (mMostBy v2.toNatClampNeg) < ((mWorth ((8 * v3) + v4).toNatClampNeg) + (mMostBy (v2 ||| (1 <<< (v4 &&& 31))).toNatClampNeg)) then ((mWorth ((8 * v3) + v4).toNatClampNeg) + (mMostBy (v2 ||| (1 <<< (v4 &&& 31))).toNatClampNeg)) else (mMostBy v2.toNatClampNeg)))) H := hP
                have hD : va_D A (wdX8_most cI cJ cT cII cJJ ad mN mStep mSeen mPlans mBooks mTexted mIsKept mSpot mKeeps mMindStep mAt mWhat mWhole mIsBroken mWorth (upd mMostBy v2.toNatClampNeg (if (mMostBy v2.toNatClampNeg) < ((mWorth ((8 * v3) + v4).toNatClampNeg) + (mMostBy (v2 ||| (1 <<< (v4 &&& 31))).toNatClampNeg)) then ((mWorth ((8 * v3) + v4).toNatClampNeg) + (mMostBy (v2 ||| (1 <<< (v4 &&& 31))).toNatClampNeg)) else (mMostBy v2.toNatClampNeg)))) := hD
                exact kB125 (wpX8_most_B39 mN mWorth K11 Post f) K11 ih hK11 v1 v2 v3 v4 (upd mMostBy v2.toNatClampNeg (if (mMostBy v2.toNatClampNeg) < ((mWorth ((8 * v3) + v4).toNatClampNeg) + (mMostBy (v2 ||| (1 <<< (v4 &&& 31))).toNatClampNeg)) then ((mWorth ((8 * v3) + v4).toNatClampNeg) + (mMostBy (v2 ||| (1 <<< (v4 &&& 31))).toNatClampNeg)) else (mMostBy v2.toNatClampNeg))) _ _ hP hD hS ls hl hw
  have kB35 : ∀ (K11 : Int32 → Int32 → (Nat → Int32) → Prop), (∀ (v1 : Int32) (v2 : Int32) (mMostBy : Nat → Int32), ∀ (H : Heap) (locs : List Loc), va_P (dC, dI) vwCl (wdX8_most cI cJ cT cII cJJ ad mN mStep mSeen mPlans mBooks mTexted mIsKept mSpot mKeeps mMindStep mAt mWhat mWhole mIsBroken mWorth mMostBy) H → va_D A (wdX8_most cI cJ cT cII cJJ ad mN mStep mSeen mPlans mBooks mTexted mIsKept mSpot mKeeps mMindStep mAt mWhat mWhole mIsBroken mWorth mMostBy) → va_S A s.heap H locs → ∀ ls : Array Slot, lv_has ls 5 [(0, .ref (ad 0)), (1, .int v1), (2, .int v2)] → K11 v1 v2 mMostBy → W p l e (headSpec wsX8_most ({ frames := 1, cells := 0, slots := 0, locals := 64 } : Room)).room s m ([.ref (ad 0)] : List Value).toArray below meth c H locs 0 0 (MQ below (va_Qi (fun (r : Int32) (u : (Nat → Int32)) => Post r u) (fun (u : (Nat → Int32)) t => va_P (dC, dI) vwCl (wdX8_most cI cJ cT cII cJJ ad mN mStep mSeen mPlans mBooks mTexted mIsKept mSpot mKeeps mMindStep mAt mWhat mWhole mIsBroken mWorth u) t.heap) A) ([.ref (ad 0)] : List Value).toArray s 0 0 A) (F0 m 11 ls [])) → ∀ (v1 : Int32) (v2 : Int32) (v3 : Int32) (s1 : Int32) (s2 : Int32) (mMostBy : Nat → Int32), ∀ (H : Heap) (locs : List Loc), va_P (dC, dI) vwCl (wdX8_most cI cJ cT cII cJJ ad mN mStep mSeen mPlans mBooks mTexted mIsKept mSpot mKeeps mMindStep mAt mWhat mWhole mIsBroken mWorth mMostBy) H → va_D A (wdX8_most cI cJ cT cII cJJ ad mN mStep mSeen mPlans mBooks mTexted mIsKept mSpot mKeeps mMindStep mAt mWhat mWhole mIsBroken mWorth mMostBy) → va_S A s.heap H locs → ∀ ls : Array Slot, lv_has ls 5 [(0, .ref (ad 0)), (1, .int v1), (2, .int v2), (3, .int v3)] → wpX8_most_B35 mN mWorth K11 Post v1 v2 v3 s1 s2 mMostBy → W p l e (headSpec wsX8_most ({ frames := 1, cells := 0, slots := 0, locals := 64 } : Room)).room s m ([.ref (ad 0)] : List Value).toArray below meth c H locs 0 0 (MQ below (va_Qi (fun (r : Int32) (u : (Nat → Int32)) => Post r u) (fun (u : (Nat → Int32)) t => va_P (dC, dI) vwCl (wdX8_most cI cJ cT cII cJJ ad mN mStep mSeen mPlans mBooks mTexted mIsKept mSpot mKeeps mMindStep mAt mWhat mWhole mIsBroken mWorth u) t.heap) A) ([.ref (ad 0)] : List Value).toArray s 0 0 A) (F0 m 35 ls [.int s2, .int s1, .ref (ad 18)]) := by
    intro K11 hK11 v1 v2 v3 s1 s2 mMostBy H locs hP hD hS ls hl hw
    unfold wpX8_most_B35 at hw
    have h8 := hw.1
    have hw := hw.2
    refine va_iast hx hb hK hP hD hS 2 0 rfl rfl h8 dX8_most_35 (fun H locs hP hD hS => ?_)
    have hP : va_P (dC, dI) vwCl (wdX8_most cI cJ cT cII cJJ ad mN mStep mSeen mPlans mBooks mTexted mIsKept mSpot mKeeps mMindStep mAt mWhat mWhole mIsBroken mWorth (upd mMostBy s1.toNatClampNeg s2)) H := hP
    have hD : va_D A (wdX8_most cI cJ cT cII cJJ ad mN mStep mSeen mPlans mBooks mTexted mIsKept mSpot mKeeps mMindStep mAt mWhat mWhole mIsBroken mWorth (upd mMostBy s1.toNatClampNeg s2)) := hD
    refine lv_iconst (v := 0) hx hb dX8_most_36 (by decide) ?_
    refine lv_istore (lv' := [(4, .int 0), (0, .ref (ad 0)), (1, .int v1), (2, .int v2), (3, .int v3)]) hx hb dX8_most_37 hl (by decide) rfl (fun ls hl => ?_)
    obtain ⟨f1, hw⟩ := hw
    exact kB39 K11 hK11 f1 v1 v2 v3 0 (upd mMostBy s1.toNatClampNeg s2) _ _ hP hD hS ls (lv_sub hl [1, 2, 3, 4, 0] rfl) hw
  have kB11 : ∀ f : Nat, ∀ (v1 : Int32) (v2 : Int32) (mMostBy : Nat → Int32), ∀ (H : Heap) (locs : List Loc), va_P (dC, dI) vwCl (wdX8_most cI cJ cT cII cJJ ad mN mStep mSeen mPlans mBooks mTexted mIsKept mSpot mKeeps mMindStep mAt mWhat mWhole mIsBroken mWorth mMostBy) H → va_D A (wdX8_most cI cJ cT cII cJJ ad mN mStep mSeen mPlans mBooks mTexted mIsKept mSpot mKeeps mMindStep mAt mWhat mWhole mIsBroken mWorth mMostBy) → va_S A s.heap H locs → ∀ ls : Array Slot, lv_has ls 5 [(0, .ref (ad 0)), (1, .int v1), (2, .int v2)] → wpX8_most_B11 mN mWorth Post f v1 v2 mMostBy → W p l e (headSpec wsX8_most ({ frames := 1, cells := 0, slots := 0, locals := 64 } : Room)).room s m ([.ref (ad 0)] : List Value).toArray below meth c H locs 0 0 (MQ below (va_Qi (fun (r : Int32) (u : (Nat → Int32)) => Post r u) (fun (u : (Nat → Int32)) t => va_P (dC, dI) vwCl (wdX8_most cI cJ cT cII cJJ ad mN mStep mSeen mPlans mBooks mTexted mIsKept mSpot mKeeps mMindStep mAt mWhat mWhole mIsBroken mWorth u) t.heap) A) ([.ref (ad 0)] : List Value).toArray s 0 0 A) (F0 m 11 ls []) := by
    intro  f
    induction f with
    | zero => intro v1 v2 mMostBy H locs hP hD hS ls hl hw; exact (show False from hw).elim
    | succ f ih =>
      intro v1 v2 mMostBy H locs hP hD hS ls hl hw
      rw [wpX8_most_B11] at hw
      refine lv_iload_n hx hb dX8_most_11 rfl (lv_at hl 2 rfl) ?_
      refine lv_if_lt (tgt := 137) hx hb dX8_most_12 (by decide) (fun c2 => ?_) (fun c2 => ?_)
      · have hw := hw.1 c2
        refine lv_aload_n hx hb dX8_most_137 rfl (lv_at hl 0 rfl) ?_
        refine va_get (D := (dC, dI)) (ci := 8) (v := .ref (ad 18)) (C := RX8) (T := TX8) (N := 36) hx hb hts (fun w h => List.mem_cons_of_mem _ (List.mem_append_right _ h)) hown hK hP 0 rfl rfl 31 (by decide) (hts (.fieldLink RX8 70 "BidMarketModel" "mostBy" "[I") (List.mem_of_getElem? (i := 2) rfl)) (fun _ h9 => h9) rfl dX8_most_138 ?_
        refine lv_iconst (v := 0) hx hb dX8_most_141 (by decide) ?_
        have h3 := hw.1
        have hw := hw.2
        refine va_iald hx hb hK hP 2 0 rfl rfl h3 dX8_most_142 ?_
        refine lv_if_ge (tgt := 151) hx hb dX8_most_143 (by decide) (fun c4 => ?_) (fun c4 => ?_)
        · have hw := hw.1 c4
          refine lv_aload_n hx hb dX8_most_151 rfl (lv_at hl 0 rfl) ?_
          refine va_get (D := (dC, dI)) (ci := 8) (v := .ref (ad 18)) (C := RX8) (T := TX8) (N := 36) hx hb hts (fun w h => List.mem_cons_of_mem _ (List.mem_append_right _ h)) hown hK hP 0 rfl rfl 31 (by decide) (hts (.fieldLink RX8 70 "BidMarketModel" "mostBy" "[I") (List.mem_of_getElem? (i := 2) rfl)) (fun _ h9 => h9) rfl dX8_most_152 ?_
          refine lv_iconst (v := 0) hx hb dX8_most_155 (by decide) ?_
          have h5 := hw.1
          have hw := hw.2
          refine va_iald hx hb hK hP 2 0 rfl rfl h5 dX8_most_156 ?_
          exact W.iret (v := mMostBy (0 : Int32).toNatClampNeg) hx hb hr (fun t ht hW => ⟨⟨mMostBy (0 : Int32).toNatClampNeg, mMostBy, rfl, hw, by show va_P _ _ _ t.heap; rw [ht]; exact hP⟩, hS.F ht⟩) hS.2.2 dX8_most_157
        · have hw := hw.2 c4
          refine lv_bipush (v := (-5)) hx hb dX8_most_146 (by decide) ?_
          refine lv_goto (tgt := 157) hx hb dX8_most_148 (by decide) ?_
          exact W.iret (v := (-5)) hx hb hr (fun t ht hW => ⟨⟨(-5), mMostBy, rfl, hw, by show va_P _ _ _ t.heap; rw [ht]; exact hP⟩, hS.F ht⟩) hS.2.2 dX8_most_157
      · have hw := hw.2 c2
        refine lv_iload_n hx hb dX8_most_15 rfl (lv_at hl 2 rfl) ?_
        refine bw_psi (wc := []) (As := [.int v2]) (rest := []) ⟨hx, hb, hml, hown, hts⟩ (mX8_bits l dC dI cI cJ cT cII cJJ v2 _ hw) (va_cwS 1 hts gX8_most_X8_bits rfl rfl rfl hdX8_bits ⟨Nat.le_of_ble_eq_true rfl, Nat.le_of_ble_eq_true rfl⟩) hK hP [] rfl rfl hl.1 rfl (Nat.le_of_ble_eq_true rfl) ⟨Nat.le_of_ble_eq_true rfl, Nat.le_of_ble_eq_true rfl⟩ dX8_most_16 (fun r6 hw => ?_)
        refine lv_istore_n (lv' := [(3, .int r6), (0, .ref (ad 0)), (1, .int v1), (2, .int v2)]) hx hb dX8_most_19 rfl hl (by decide) rfl (fun ls hl => ?_)
        refine lv_aload_n hx hb dX8_most_20 rfl (lv_at hl 1 rfl) ?_
        refine va_get (D := (dC, dI)) (ci := 8) (v := .ref (ad 18)) (C := RX8) (T := TX8) (N := 36) hx hb hts (fun w h => List.mem_cons_of_mem _ (List.mem_append_right _ h)) hown hK hP 0 rfl rfl 31 (by decide) (hts (.fieldLink RX8 70 "BidMarketModel" "mostBy" "[I") (List.mem_of_getElem? (i := 2) rfl)) (fun _ h9 => h9) rfl dX8_most_21 ?_
        refine lv_iload_n hx hb dX8_most_24 rfl (lv_at hl 3 rfl) ?_
        refine lv_iload_n hx hb dX8_most_25 rfl (lv_at hl 3 rfl) ?_
        refine lv_iload_n hx hb dX8_most_26 rfl (lv_at hl 2 rfl) ?_
        refine lv_icmp_ne (tgt := 34) hx hb dX8_most_27 (by decide) (fun c7 => ?_) (fun c7 => ?_)
        · have hw := hw.1 c7
          refine lv_iconst (v := (-1)) hx hb dX8_most_34 (by decide) ?_
          exact kB35 (wpX8_most_B11 mN mWorth Post f) ih v1 v2 r6 v2 ((-1)) mMostBy _ _ hP hD hS ls (lv_sub hl [1, 2, 3, 0] rfl) hw
        · have hw := hw.2 c7
          refine lv_iconst (v := 0) hx hb dX8_most_30 (by decide) ?_
          refine lv_goto (tgt := 35) hx hb dX8_most_31 (by decide) ?_
          exact kB35 (wpX8_most_B11 mN mWorth Post f) ih v1 v2 r6 v2 0 mMostBy _ _ hP hD hS ls (lv_sub hl [1, 2, 3, 0] rfl) hw
  unfold wpX8_most at hw
  refine lv_iconst (v := 1) hx hb dX8_most_0 (by decide) ?_
  refine lv_aload_n hx hb dX8_most_1 rfl (lv_at hl 0 rfl) ?_
  refine va_get (D := (dC, dI)) (ci := 8) (v := .int mN) (C := RX8) (T := TX8) (N := 36) hx hb hts (fun w h => List.mem_cons_of_mem _ (List.mem_append_right _ h)) hown hK hP 0 rfl rfl 0 (by decide) (hts (.fieldLink RX8 9 "BidMarketModel" "n" "I") (List.mem_of_getElem? (i := 1) rfl)) (fun _ h9 => h9) rfl dX8_most_2 ?_
  refine lv_ishl hx hb dX8_most_5 ?_
  refine lv_iconst (v := 1) hx hb dX8_most_6 (by decide) ?_
  refine lv_isub hx hb dX8_most_7 ?_
  refine lv_topi (fun x1 ex1 => ?_)
  have hw := hw x1 ex1
  refine lv_istore_n (lv' := [(1, .int x1), (0, .ref (ad 0))]) hx hb dX8_most_8 rfl hl (by decide) rfl (fun ls hl => ?_)
  refine lv_iload_n hx hb dX8_most_9 rfl (lv_at hl 0 rfl) ?_
  refine lv_istore_n (lv' := [(2, .int x1), (1, .int x1), (0, .ref (ad 0))]) hx hb dX8_most_10 rfl hl (by decide) rfl (fun ls hl => ?_)
  obtain ⟨f1, hw⟩ := hw
  exact kB11 f1 x1 x1 mMostBy _ _ hP hD hS ls (lv_sub hl [2, 1, 0] rfl) hw
set_option maxHeartbeats 4000000 in
set_option maxRecDepth 100000 in
theorem mX8_sure (l : Launch) (dC : Nat → ClassId) (dI : Nat → Nat → Nat) (cI cJ cT cII cJJ : ClassId) (ad : Nat → Nat) (mN : Int32) (mStep : Int32) (mSeen : Int32) (mPlans : Int32) (mBooks : Int32) (mTexted : Int32) (mIsKept : Int32) (mSpot : Int32) (mKeeps : Int32) (mMindStep : Int32) (mAt : Int32) (mWhat : Int32) (mWhole : Int32) (mIsBroken : Int32) (mWorth : Nat → Int32) (mHas : Nat → Int32) (mPrice : Nat → Int32) (Post : Int32 → Prop) (hw : wpX8_sure mN mStep mWorth mHas mPrice Post) : Met l yX8_sure wsX8_sure ({ frames := 2, cells := 0, slots := 0, locals := 45 } : Room) (va_Pc [.ref (ad 0)] (fun U => va_P (dC, dI) vwCl (wdX8_sure cI cJ cT cII cJJ ad mN mStep mSeen mPlans mBooks mTexted mIsKept mSpot mKeeps mMindStep mAt mWhat mWhole mIsBroken mWorth mHas mPrice) U.heap ∧ va_K (dC, dI) vwCl (bw_tys cI cJ cT cII cJJ) U)) (vp_Si Post) 0 0 (fun _ => False) := by
  refine Met.ofW (cc := cX8_sure) (maxL := 2) (ret := (some .int)) (by decide) rfl ?_
  intro p e s m args below meth c s₁ B hml hv
  obtain ⟨rfl, hP, hK⟩ := hv
  have hx := B.exec
  have hb := B.bytes
  have hr := B.returns
  have hts := atoms_spec (ws := wsX8_sure) B.pre
  have hown : s.vm.findClass RX8 = some m.cls := findClass_of_methodNamed B.named
  have hlocks := B.notSynchronized
  have hl := lv_entry ([.ref (ad 0)]) (n := 2) (Nat.le_of_ble_eq_true rfl)
  rw [lg_entry_eq]
  generalize (lg_sl ([.ref (ad 0)]) ++ List.replicate (2 - (lg_sl ([.ref (ad 0)])).length) Slot.unset).toArray = ls at hl ⊢
  have hl : lv_has ls 2 [(0, .ref (ad 0))] := hl
  have kB2 : ∀ f : Nat, ∀ (v1 : Int32), ∀ ls : Array Slot, lv_has ls 2 [(0, .ref (ad 0)), (1, .int v1)] → wpX8_sure_B2 mN mStep mWorth mHas mPrice Post f v1 → W p l e (headSpec wsX8_sure ({ frames := 2, cells := 0, slots := 0, locals := 45 } : Room)).room s m ([.ref (ad 0)] : List Value).toArray below meth c s.heap [] 0 0 (MQ below (vp_Si Post) ([.ref (ad 0)] : List Value).toArray s 0 0 (fun _ => False)) (F0 m 2 ls []) := by
    intro  f
    induction f with
    | zero => intro v1 ls hl hw; exact (show False from hw).elim
    | succ f ih =>
      intro v1 ls hl hw
      rw [wpX8_sure_B2] at hw
      refine lv_iload_n hx hb dX8_sure_2 rfl (lv_at hl 1 rfl) ?_
      refine lv_aload_n hx hb dX8_sure_3 rfl (lv_at hl 0 rfl) ?_
      refine va_get (D := (dC, dI)) (ci := 8) (v := .int mN) (C := RX8) (T := TX8) (N := 36) hx hb hts (fun w h => List.mem_cons_of_mem _ (List.mem_append_right _ h)) hown hK hP 0 rfl rfl 0 (by decide) (hts (.fieldLink RX8 9 "BidMarketModel" "n" "I") (List.mem_of_getElem? (i := 1) rfl)) (fun _ h9 => h9) rfl dX8_sure_4 ?_
      refine lv_icmp_ge (tgt := 56) hx hb dX8_sure_7 (by decide) (fun c1 => ?_) (fun c1 => ?_)
      · have hw := hw.1 c1
        refine lv_iconst (v := 1) hx hb dX8_sure_56 (by decide) ?_
        exact W.iret (v := 1) hx hb hr (fun t ht hW => ⟨1, rfl, hw, ht⟩) (fun _ h => by cases h) dX8_sure_57
      · have hw := hw.2 c1
        refine lv_aload_n hx hb dX8_sure_10 rfl (lv_at hl 0 rfl) ?_
        refine va_get (D := (dC, dI)) (ci := 8) (v := .ref (ad 2)) (C := RX8) (T := TX8) (N := 36) hx hb hts (fun w h => List.mem_cons_of_mem _ (List.mem_append_right _ h)) hown hK hP 0 rfl rfl 3 (by decide) (hts (.fieldLink RX8 22 "BidMarketModel" "has" "[I") (List.mem_of_getElem? (i := 2) rfl)) (fun _ h9 => h9) rfl dX8_sure_11 ?_
        refine lv_iload_n hx hb dX8_sure_14 rfl (lv_at hl 1 rfl) ?_
        have h2 := hw.1
        have hw := hw.2
        refine va_iald hx hb hK hP 2 0 rfl rfl h2 dX8_sure_15 ?_
        refine lv_if_lt (tgt := 48) hx hb dX8_sure_16 (by decide) (fun c3 => ?_) (fun c3 => ?_)
        · have hw := hw.1 c3
          refine lv_iconst (v := 0) hx hb dX8_sure_48 (by decide) ?_
          exact W.iret (v := 0) hx hb hr (fun t ht hW => ⟨0, rfl, hw, ht⟩) (fun _ h => by cases h) dX8_sure_49
        · have hw := hw.2 c3
          refine lv_aload_n hx hb dX8_sure_19 rfl (lv_at hl 0 rfl) ?_
          refine lv_iload_n hx hb dX8_sure_20 rfl (lv_at hl 1 rfl) ?_
          refine lv_aload_n hx hb dX8_sure_21 rfl (lv_at hl 0 rfl) ?_
          refine lv_iload_n hx hb dX8_sure_22 rfl (lv_at hl 1 rfl) ?_
          refine bw_pvi (wc := (wdX8_best cI cJ cT cII cJJ ad mN mStep mSeen mPlans mBooks mTexted mIsKept mSpot mKeeps mMindStep mAt mWhat mWhole mIsBroken mWorth mPrice)) (As := [.int v1]) (rest := [.int v1, .ref (ad 0)]) ⟨hx, hb, hml, hown, hts⟩ (mX8_best l dC dI cI cJ cT cII cJJ ad mN mStep mSeen mPlans mBooks mTexted mIsKept mSpot mKeeps mMindStep mAt mWhat mWhole mIsBroken mWorth mPrice v1 _ hw) (cwV 1 hts gX8_sure_X8_best rfl rfl rfl hdX8_best ⟨Nat.le_of_ble_eq_true rfl, Nat.le_of_ble_eq_true rfl⟩) hK hP [0, 1, 3] rfl rfl rfl rfl rfl hl.1 rfl (Nat.le_of_ble_eq_true rfl) ⟨Nat.le_of_ble_eq_true rfl, Nat.le_of_ble_eq_true rfl⟩ dX8_sure_23 (fun r4 hw => ?_)
          refine bw_pvi (wc := (wdX8_gain cI cJ cT cII cJJ ad mN mStep mSeen mPlans mBooks mTexted mIsKept mSpot mKeeps mMindStep mAt mWhat mWhole mIsBroken mWorth mPrice)) (As := [.int v1, .int r4]) (rest := []) ⟨hx, hb, hml, hown, hts⟩ (mX8_gain l dC dI cI cJ cT cII cJJ ad mN mStep mSeen mPlans mBooks mTexted mIsKept mSpot mKeeps mMindStep mAt mWhat mWhole mIsBroken mWorth mPrice v1 r4 _ hw) (cwV 2 hts gX8_sure_X8_gain rfl rfl rfl hdX8_gain ⟨Nat.le_of_ble_eq_true rfl, Nat.le_of_ble_eq_true rfl⟩) hK hP [0, 1, 3] rfl rfl rfl rfl rfl hl.1 rfl (Nat.le_of_ble_eq_true rfl) ⟨Nat.le_of_ble_eq_true rfl, Nat.le_of_ble_eq_true rfl⟩ dX8_sure_26 (fun r5 hw => ?_)
          refine lv_aload_n hx hb dX8_sure_29 rfl (lv_at hl 0 rfl) ?_
          refine lv_iload_n hx hb dX8_sure_30 rfl (lv_at hl 1 rfl) ?_
          refine lv_aload_n hx hb dX8_sure_31 rfl (lv_at hl 0 rfl) ?_
          refine va_get (D := (dC, dI)) (ci := 8) (v := .ref (ad 2)) (C := RX8) (T := TX8) (N := 36) hx hb hts (fun w h => List.mem_cons_of_mem _ (List.mem_append_right _ h)) hown hK hP 0 rfl rfl 3 (by decide) (hts (.fieldLink RX8 22 "BidMarketModel" "has" "[I") (List.mem_of_getElem? (i := 2) rfl)) (fun _ h9 => h9) rfl dX8_sure_32 ?_
          refine lv_iload_n hx hb dX8_sure_35 rfl (lv_at hl 1 rfl) ?_
          have h6 := hw.1
          have hw := hw.2
          refine va_iald hx hb hK hP 2 0 rfl rfl h6 dX8_sure_36 ?_
          refine bw_pvi (wc := (wdX8_gain cI cJ cT cII cJJ ad mN mStep mSeen mPlans mBooks mTexted mIsKept mSpot mKeeps mMindStep mAt mWhat mWhole mIsBroken mWorth mPrice)) (As := [.int v1, .int (mHas v1.toNatClampNeg)]) (rest := [.int r5]) ⟨hx, hb, hml, hown, hts⟩ (mX8_gain l dC dI cI cJ cT cII cJJ ad mN mStep mSeen mPlans mBooks mTexted mIsKept mSpot mKeeps mMindStep mAt mWhat mWhole mIsBroken mWorth mPrice v1 (mHas v1.toNatClampNeg) _ hw) (cwV 2 hts gX8_sure_X8_gain rfl rfl rfl hdX8_gain ⟨Nat.le_of_ble_eq_true rfl, Nat.le_of_ble_eq_true rfl⟩) hK hP [0, 1, 3] rfl rfl rfl rfl rfl hl.1 rfl (Nat.le_of_ble_eq_true rfl) ⟨Nat.le_of_ble_eq_true rfl, Nat.le_of_ble_eq_true rfl⟩ dX8_sure_37 (fun r7 hw => ?_)
          refine lv_aload_n hx hb dX8_sure_40 rfl (lv_at hl 0 rfl) ?_
          refine va_get (D := (dC, dI)) (ci := 8) (v := .int mStep) (C := RX8) (T := TX8) (N := 36) hx hb hts (fun w h => List.mem_cons_of_mem _ (List.mem_append_right _ h)) hown hK hP 0 rfl rfl 1 (by decide) (hts (.fieldLink RX8 15 "BidMarketModel" "step" "I") (List.mem_of_getElem? (i := 3) rfl)) (fun _ h9 => h9) rfl dX8_sure_41 ?_
          refine lv_iadd hx hb dX8_sure_44 ?_
          refine lv_icmp_le (tgt := 50) hx hb dX8_sure_45 (by decide) (fun c8 => ?_) (fun c8 => ?_)
          · have hw := hw.1 c8
            obtain ⟨x9, ex9⟩ : ∃ y : Int32, y = v1 + 1 := ⟨_, rfl⟩
            have hw := hw x9 ex9
            refine lv_iinc (v := x9) (lv' := [(1, .int x9), (0, .ref (ad 0))]) hx hb dX8_sure_50 hl (k := 1) rfl (by rw [ex9]; rfl) (by decide) rfl (fun ls hl => ?_)
            refine lv_goto (tgt := 2) hx hb dX8_sure_53 (by decide) ?_
            exact ih x9 ls (lv_sub hl [1, 0] rfl) hw
          · have hw := hw.2 c8
            refine lv_iconst (v := 0) hx hb dX8_sure_48 (by decide) ?_
            exact W.iret (v := 0) hx hb hr (fun t ht hW => ⟨0, rfl, hw, ht⟩) (fun _ h => by cases h) dX8_sure_49
  unfold wpX8_sure at hw
  refine lv_iconst (v := 0) hx hb dX8_sure_0 (by decide) ?_
  refine lv_istore_n (lv' := [(1, .int 0), (0, .ref (ad 0))]) hx hb dX8_sure_1 rfl hl (by decide) rfl (fun ls hl => ?_)
  obtain ⟨f1, hw⟩ := hw
  exact kB2 f1 0 ls (lv_sub hl [1, 0] rfl) hw
set_option maxHeartbeats 4000000 in
set_option maxRecDepth 100000 in
theorem mX8_lack (l : Launch) (dC : Nat → ClassId) (dI : Nat → Nat → Nat) (cI cJ cT cII cJJ : ClassId) (ad : Nat → Nat) (mN : Int32) (mStep : Int32) (mSeen : Int32) (mPlans : Int32) (mBooks : Int32) (mTexted : Int32) (mIsKept : Int32) (mSpot : Int32) (mKeeps : Int32) (mMindStep : Int32) (mAt : Int32) (mWhat : Int32) (mWhole : Int32) (mIsBroken : Int32) (mWorth : Nat → Int32) (Post : Int32 → Prop) (hw : wpX8_lack mN mWorth Post) : Met l yX8_lack wsX8_lack ({ frames := 2, cells := 0, slots := 0, locals := 45 } : Room) (va_Pc [.ref (ad 0)] (fun U => va_P (dC, dI) vwCl (wdX8_lack cI cJ cT cII cJJ ad mN mStep mSeen mPlans mBooks mTexted mIsKept mSpot mKeeps mMindStep mAt mWhat mWhole mIsBroken mWorth) U.heap ∧ va_K (dC, dI) vwCl (bw_tys cI cJ cT cII cJJ) U)) (vp_Si Post) 0 0 (fun _ => False) := by
  refine Met.ofW (cc := cX8_lack) (maxL := 5) (ret := (some .int)) (by decide) rfl ?_
  intro p e s m args below meth c s₁ B hml hv
  obtain ⟨rfl, hP, hK⟩ := hv
  have hx := B.exec
  have hb := B.bytes
  have hr := B.returns
  have hts := atoms_spec (ws := wsX8_lack) B.pre
  have hown : s.vm.findClass RX8 = some m.cls := findClass_of_methodNamed B.named
  have hlocks := B.notSynchronized
  have hl := lv_entry ([.ref (ad 0)]) (n := 5) (Nat.le_of_ble_eq_true rfl)
  rw [lg_entry_eq]
  generalize (lg_sl ([.ref (ad 0)]) ++ List.replicate (5 - (lg_sl ([.ref (ad 0)])).length) Slot.unset).toArray = ls at hl ⊢
  have hl : lv_has ls 5 [(0, .ref (ad 0))] := hl
  have kB86 : ∀ (K11 : Int32 → Int32 → Prop), (∀ (v1 : Int32) (v2 : Int32), ∀ ls : Array Slot, lv_has ls 5 [(0, .ref (ad 0)), (1, .int v1), (2, .int v2)] → K11 v1 v2 → W p l e (headSpec wsX8_lack ({ frames := 2, cells := 0, slots := 0, locals := 45 } : Room)).room s m ([.ref (ad 0)] : List Value).toArray below meth c s.heap [] 0 0 (MQ below (vp_Si Post) ([.ref (ad 0)] : List Value).toArray s 0 0 (fun _ => False)) (F0 m 11 ls [])) → ∀ (v1 : Int32) (v2 : Int32), ∀ ls : Array Slot, lv_has ls 5 [(0, .ref (ad 0)), (1, .int v1), (2, .int v2)] → wpX8_lack_B86 mN mWorth K11 Post v1 v2 → W p l e (headSpec wsX8_lack ({ frames := 2, cells := 0, slots := 0, locals := 45 } : Room)).room s m ([.ref (ad 0)] : List Value).toArray below meth c s.heap [] 0 0 (MQ below (vp_Si Post) ([.ref (ad 0)] : List Value).toArray s 0 0 (fun _ => False)) (F0 m 86 ls []) := by
    intro K11 hK11 v1 v2 ls hl hw
    unfold wpX8_lack_B86 at hw
    obtain ⟨x7, ex7⟩ : ∃ y : Int32, y = v2 + (-1) := ⟨_, rfl⟩
    have hw := hw x7 ex7
    refine lv_iinc (v := x7) (lv' := [(2, .int x7), (0, .ref (ad 0)), (1, .int v1)]) hx hb dX8_lack_86 hl (k := 2) rfl (by rw [ex7]; rfl) (by decide) rfl (fun ls hl => ?_)
    refine lv_goto (tgt := 11) hx hb dX8_lack_89 (by decide) ?_
    exact hK11 v1 x7 ls (lv_sub hl [1, 2, 0] rfl) hw
  have kB84 : ∀ (K11 : Int32 → Int32 → Prop), (∀ (v1 : Int32) (v2 : Int32), ∀ ls : Array Slot, lv_has ls 5 [(0, .ref (ad 0)), (1, .int v1), (2, .int v2)] → K11 v1 v2 → W p l e (headSpec wsX8_lack ({ frames := 2, cells := 0, slots := 0, locals := 45 } : Room)).room s m ([.ref (ad 0)] : List Value).toArray below meth c s.heap [] 0 0 (MQ below (vp_Si Post) ([.ref (ad 0)] : List Value).toArray s 0 0 (fun _ => False)) (F0 m 11 ls [])) → ∀ (v2 : Int32), ∀ ls : Array Slot, lv_has ls 5 [(0, .ref (ad 0)), (2, .int v2)] → wpX8_lack_B84 mN mWorth K11 Post v2 → W p l e (headSpec wsX8_lack ({ frames := 2, cells := 0, slots := 0, locals := 45 } : Room)).room s m ([.ref (ad 0)] : List Value).toArray below meth c s.heap [] 0 0 (MQ below (vp_Si Post) ([.ref (ad 0)] : List Value).toArray s 0 0 (fun _ => False)) (F0 m 84 ls []) := by
    intro K11 hK11 v2 ls hl hw
    unfold wpX8_lack_B84 at hw
    refine lv_iload_n hx hb dX8_lack_84 rfl (lv_at hl 1 rfl) ?_
    refine lv_istore_n (lv' := [(1, .int v2), (0, .ref (ad 0)), (2, .int v2)]) hx hb dX8_lack_85 rfl hl (by decide) rfl (fun ls hl => ?_)
    exact kB86 K11 hK11 v2 v2 ls (lv_sub hl [1, 0, 2] rfl) hw
  have kB50 : ∀ (K20 : Int32 → Int32 → Int32 → Int32 → Prop), ∀ (K11 : Int32 → Int32 → Prop), (∀ (v1 : Int32) (v2 : Int32) (v3 : Int32) (v4 : Int32), ∀ ls : Array Slot, lv_has ls 5 [(0, .ref (ad 0)), (1, .int v1), (2, .int v2), (3, .int v3), (4, .int v4)] → K20 v1 v2 v3 v4 → W p l e (headSpec wsX8_lack ({ frames := 2, cells := 0, slots := 0, locals := 45 } : Room)).room s m ([.ref (ad 0)] : List Value).toArray below meth c s.heap [] 0 0 (MQ below (vp_Si Post) ([.ref (ad 0)] : List Value).toArray s 0 0 (fun _ => False)) (F0 m 20 ls [])) → (∀ (v1 : Int32) (v2 : Int32), ∀ ls : Array Slot, lv_has ls 5 [(0, .ref (ad 0)), (1, .int v1), (2, .int v2)] → K11 v1 v2 → W p l e (headSpec wsX8_lack ({ frames := 2, cells := 0, slots := 0, locals := 45 } : Room)).room s m ([.ref (ad 0)] : List Value).toArray below meth c s.heap [] 0 0 (MQ below (vp_Si Post) ([.ref (ad 0)] : List Value).toArray s 0 0 (fun _ => False)) (F0 m 11 ls [])) → ∀ (v1 : Int32) (v2 : Int32) (v4 : Int32) (s0 : Int32) (s1 : Int32), ∀ ls : Array Slot, lv_has ls 5 [(0, .ref (ad 0)), (1, .int v1), (2, .int v2), (4, .int v4)] → wpX8_lack_B50 mN mWorth K20 K11 Post v1 v2 v4 s0 s1 → W p l e (headSpec wsX8_lack ({ frames := 2, cells := 0, slots := 0, locals := 45 } : Room)).room s m ([.ref (ad 0)] : List Value).toArray below meth c s.heap [] 0 0 (MQ below (vp_Si Post) ([.ref (ad 0)] : List Value).toArray s 0 0 (fun _ => False)) (F0 m 50 ls [.int s1, .int s0]) := by
    intro K20 K11 hK20 hK11 v1 v2 v4 s0 s1 ls hl hw
    unfold wpX8_lack_B50 at hw
    refine lv_ior hx hb dX8_lack_50 ?_
    refine lv_topi (fun x13 ex13 => ?_)
    have hw := hw x13 ex13
    refine lv_istore_n (lv' := [(3, .int x13), (0, .ref (ad 0)), (1, .int v1), (2, .int v2), (4, .int v4)]) hx hb dX8_lack_51 rfl hl (by decide) rfl (fun ls hl => ?_)
    obtain ⟨x14, ex14⟩ : ∃ y : Int32, y = v4 + 1 := ⟨_, rfl⟩
    have hw := hw x14 ex14
    refine lv_iinc (v := x14) (lv' := [(4, .int x14), (3, .int x13), (0, .ref (ad 0)), (1, .int v1), (2, .int v2)]) hx hb dX8_lack_52 hl (k := 4) rfl (by rw [ex14]; rfl) (by decide) rfl (fun ls hl => ?_)
    refine lv_goto (tgt := 20) hx hb dX8_lack_55 (by decide) ?_
    exact hK20 v1 v2 x13 x14 ls (lv_sub hl [2, 3, 4, 1, 0] rfl) hw
  have kB20 : ∀ (K11 : Int32 → Int32 → Prop), (∀ (v1 : Int32) (v2 : Int32), ∀ ls : Array Slot, lv_has ls 5 [(0, .ref (ad 0)), (1, .int v1), (2, .int v2)] → K11 v1 v2 → W p l e (headSpec wsX8_lack ({ frames := 2, cells := 0, slots := 0, locals := 45 } : Room)).room s m ([.ref (ad 0)] : List Value).toArray below meth c s.heap [] 0 0 (MQ below (vp_Si Post) ([.ref (ad 0)] : List Value).toArray s 0 0 (fun _ => False)) (F0 m 11 ls [])) → ∀ f : Nat, ∀ (v1 : Int32) (v2 : Int32) (v3 : Int32) (v4 : Int32), ∀ ls : Array Slot, lv_has ls 5 [(0, .ref (ad 0)), (1, .int v1), (2, .int v2), (3, .int v3), (4, .int v4)] → wpX8_lack_B20 mN mWorth K11 Post f v1 v2 v3 v4 → W p l e (headSpec wsX8_lack ({ frames := 2, cells := 0, slots := 0, locals := 45 } : Room)).room s m ([.ref (ad 0)] : List Value).toArray below meth c s.heap [] 0 0 (MQ below (vp_Si Post) ([.ref (ad 0)] : List Value).toArray s 0 0 (fun _ => False)) (F0 m 20 ls []) := by
    intro K11 hK11 f
    induction f with
    | zero => intro v1 v2 v3 v4 ls hl hw; exact (show False from hw).elim
    | succ f ih =>
      intro v1 v2 v3 v4 ls hl hw
      rw [wpX8_lack_B20] at hw
      refine lv_iload hx hb dX8_lack_20 (lv_at hl 4 rfl) ?_
      refine lv_aload_n hx hb dX8_lack_22 rfl (lv_at hl 0 rfl) ?_
      refine va_get (D := (dC, dI)) (ci := 8) (v := .int mN) (C := RX8) (T := TX8) (N := 36) hx hb hts (fun w h => List.mem_cons_of_mem _ (List.mem_append_right _ h)) hown hK hP 0 rfl rfl 0 (by decide) (hts (.fieldLink RX8 9 "BidMarketModel" "n" "I") (List.mem_of_getElem? (i := 1) rfl)) (fun _ h9 => h9) rfl dX8_lack_23 ?_
      refine lv_icmp_ge (tgt := 58) hx hb dX8_lack_26 (by decide) (fun c3 => ?_) (fun c3 => ?_)
      · have hw := hw.1 c3
        refine lv_iload_n hx hb dX8_lack_58 rfl (lv_at hl 3 rfl) ?_
        refine bw_psi (wc := []) (As := [.int v3]) (rest := []) ⟨hx, hb, hml, hown, hts⟩ (mX8_bits l dC dI cI cJ cT cII cJJ v3 _ hw) (va_cwS 1 hts gX8_lack_X8_bits rfl rfl rfl hdX8_bits ⟨Nat.le_of_ble_eq_true rfl, Nat.le_of_ble_eq_true rfl⟩) hK hP [] rfl rfl hl.1 rfl (Nat.le_of_ble_eq_true rfl) ⟨Nat.le_of_ble_eq_true rfl, Nat.le_of_ble_eq_true rfl⟩ dX8_lack_59 (fun r4 hw => ?_)
        refine lv_iload_n hx hb dX8_lack_62 rfl (lv_at hl 2 rfl) ?_
        refine bw_psi (wc := []) (As := [.int v2]) (rest := [.int r4]) ⟨hx, hb, hml, hown, hts⟩ (mX8_bits l dC dI cI cJ cT cII cJJ v2 _ hw) (va_cwS 1 hts gX8_lack_X8_bits rfl rfl rfl hdX8_bits ⟨Nat.le_of_ble_eq_true rfl, Nat.le_of_ble_eq_true rfl⟩) hK hP [] rfl rfl hl.1 rfl (Nat.le_of_ble_eq_true rfl) ⟨Nat.le_of_ble_eq_true rfl, Nat.le_of_ble_eq_true rfl⟩ dX8_lack_63 (fun r5 hw => ?_)
        refine lv_icmp_ge (tgt := 86) hx hb dX8_lack_66 (by decide) (fun c6 => ?_) (fun c6 => ?_)
        · have hw := hw.1 c6
          exact kB86 K11 hK11 v1 v2 ls (lv_sub hl [0, 1, 2] rfl) hw
        · have hw := hw.2 c6
          refine lv_iload_n hx hb dX8_lack_69 rfl (lv_at hl 1 rfl) ?_
          refine lv_if_eq (tgt := 84) hx hb dX8_lack_70 (by decide) (fun c8 => ?_) (fun c8 => ?_)
          · have hw := hw.1 c8
            exact kB84 K11 hK11 v2 ls (lv_sub hl [0, 2] rfl) hw
          · have hw := hw.2 c8
            refine lv_iload_n hx hb dX8_lack_73 rfl (lv_at hl 2 rfl) ?_
            refine bw_psi (wc := []) (As := [.int v2]) (rest := []) ⟨hx, hb, hml, hown, hts⟩ (mX8_bits l dC dI cI cJ cT cII cJJ v2 _ hw) (va_cwS 1 hts gX8_lack_X8_bits rfl rfl rfl hdX8_bits ⟨Nat.le_of_ble_eq_true rfl, Nat.le_of_ble_eq_true rfl⟩) hK hP [] rfl rfl hl.1 rfl (Nat.le_of_ble_eq_true rfl) ⟨Nat.le_of_ble_eq_true rfl, Nat.le_of_ble_eq_true rfl⟩ dX8_lack_74 (fun r9 hw => ?_)
            refine lv_iload_n hx hb dX8_lack_77 rfl (lv_at hl 1 rfl) ?_
            refine bw_psi (wc := []) (As := [.int v1]) (rest := [.int r9]) ⟨hx, hb, hml, hown, hts⟩ (mX8_bits l dC dI cI cJ cT cII cJJ v1 _ hw) (va_cwS 1 hts gX8_lack_X8_bits rfl rfl rfl hdX8_bits ⟨Nat.le_of_ble_eq_true rfl, Nat.le_of_ble_eq_true rfl⟩) hK hP [] rfl rfl hl.1 rfl (Nat.le_of_ble_eq_true rfl) ⟨Nat.le_of_ble_eq_true rfl, Nat.le_of_ble_eq_true rfl⟩ dX8_lack_78 (fun r10 hw => ?_)
            refine lv_icmp_gt (tgt := 86) hx hb dX8_lack_81 (by decide) (fun c11 => ?_) (fun c11 => ?_)
            · have hw := hw.1 c11
              exact kB86 K11 hK11 v1 v2 ls (lv_sub hl [0, 1, 2] rfl) hw
            · have hw := hw.2 c11
              exact kB84 K11 hK11 v2 ls (lv_sub hl [0, 2] rfl) hw
      · have hw := hw.2 c3
        refine lv_iload_n hx hb dX8_lack_29 rfl (lv_at hl 3 rfl) ?_
        refine lv_iload_n hx hb dX8_lack_30 rfl (lv_at hl 2 rfl) ?_
        refine lv_iload hx hb dX8_lack_31 (lv_at hl 4 rfl) ?_
        refine lv_ishr hx hb dX8_lack_33 ?_
        refine lv_iconst (v := 1) hx hb dX8_lack_34 (by decide) ?_
        refine lv_iand hx hb dX8_lack_35 ?_
        refine lv_iconst (v := 1) hx hb dX8_lack_36 (by decide) ?_
        refine lv_icmp_ne (tgt := 49) hx hb dX8_lack_37 (by decide) (fun c12 => ?_) (fun c12 => ?_)
        · have hw := hw.1 c12
          refine lv_iconst (v := 0) hx hb dX8_lack_49 (by decide) ?_
          exact kB50 (wpX8_lack_B20 mN mWorth K11 Post f) K11 ih hK11 v1 v2 v4 v3 0 ls (lv_sub hl [0, 1, 2, 4] rfl) hw
        · have hw := hw.2 c12
          refine lv_aload_n hx hb dX8_lack_40 rfl (lv_at hl 0 rfl) ?_
          refine lv_iload hx hb dX8_lack_41 (lv_at hl 4 rfl) ?_
          refine bw_pvi (wc := (wdX8_open cI cJ cT cII cJJ ad mN mStep mSeen mPlans mBooks mTexted mIsKept mSpot mKeeps mMindStep mAt mWhat mWhole mIsBroken mWorth)) (As := [.int v4]) (rest := [.int v3]) ⟨hx, hb, hml, hown, hts⟩ (mX8_open l dC dI cI cJ cT cII cJJ ad mN mStep mSeen mPlans mBooks mTexted mIsKept mSpot mKeeps mMindStep mAt mWhat mWhole mIsBroken mWorth v4 _ hw) (cwV 1 hts gX8_lack_X8_open rfl rfl rfl hdX8_open ⟨Nat.le_of_ble_eq_true rfl, Nat.le_of_ble_eq_true rfl⟩) hK hP [0, 1] rfl rfl rfl rfl rfl hl.1 rfl (Nat.le_of_ble_eq_true rfl) ⟨Nat.le_of_ble_eq_true rfl, Nat.le_of_ble_eq_true rfl⟩ dX8_lack_43 (fun r15 hw => ?_)
          refine lv_goto (tgt := 50) hx hb dX8_lack_46 (by decide) ?_
          exact kB50 (wpX8_lack_B20 mN mWorth K11 Post f) K11 ih hK11 v1 v2 v4 v3 r15 ls (lv_sub hl [0, 1, 2, 4] rfl) hw
  have kB11 : ∀ f : Nat, ∀ (v1 : Int32) (v2 : Int32), ∀ ls : Array Slot, lv_has ls 5 [(0, .ref (ad 0)), (1, .int v1), (2, .int v2)] → wpX8_lack_B11 mN mWorth Post f v1 v2 → W p l e (headSpec wsX8_lack ({ frames := 2, cells := 0, slots := 0, locals := 45 } : Room)).room s m ([.ref (ad 0)] : List Value).toArray below meth c s.heap [] 0 0 (MQ below (vp_Si Post) ([.ref (ad 0)] : List Value).toArray s 0 0 (fun _ => False)) (F0 m 11 ls []) := by
    intro  f
    induction f with
    | zero => intro v1 v2 ls hl hw; exact (show False from hw).elim
    | succ f ih =>
      intro v1 v2 ls hl hw
      rw [wpX8_lack_B11] at hw
      refine lv_iload_n hx hb dX8_lack_11 rfl (lv_at hl 2 rfl) ?_
      refine lv_if_le (tgt := 92) hx hb dX8_lack_12 (by decide) (fun c2 => ?_) (fun c2 => ?_)
      · have hw := hw.1 c2
        refine lv_iload_n hx hb dX8_lack_92 rfl (lv_at hl 1 rfl) ?_
        exact W.iret (v := v1) hx hb hr (fun t ht hW => ⟨v1, rfl, hw, ht⟩) (fun _ h => by cases h) dX8_lack_93
      · have hw := hw.2 c2
        refine lv_iconst (v := 0) hx hb dX8_lack_15 (by decide) ?_
        refine lv_istore_n (lv' := [(3, .int 0), (0, .ref (ad 0)), (1, .int v1), (2, .int v2)]) hx hb dX8_lack_16 rfl hl (by decide) rfl (fun ls hl => ?_)
        refine lv_iconst (v := 0) hx hb dX8_lack_17 (by decide) ?_
        refine lv_istore (lv' := [(4, .int 0), (3, .int 0), (0, .ref (ad 0)), (1, .int v1), (2, .int v2)]) hx hb dX8_lack_18 hl (by decide) rfl (fun ls hl => ?_)
        obtain ⟨f1, hw⟩ := hw
        exact kB20 (wpX8_lack_B11 mN mWorth Post f) ih f1 v1 v2 0 0 ls (lv_sub hl [2, 3, 4, 1, 0] rfl) hw
  unfold wpX8_lack at hw
  refine lv_iconst (v := 0) hx hb dX8_lack_0 (by decide) ?_
  refine lv_istore_n (lv' := [(1, .int 0), (0, .ref (ad 0))]) hx hb dX8_lack_1 rfl hl (by decide) rfl (fun ls hl => ?_)
  refine lv_iconst (v := 1) hx hb dX8_lack_2 (by decide) ?_
  refine lv_aload_n hx hb dX8_lack_3 rfl (lv_at hl 1 rfl) ?_
  refine va_get (D := (dC, dI)) (ci := 8) (v := .int mN) (C := RX8) (T := TX8) (N := 36) hx hb hts (fun w h => List.mem_cons_of_mem _ (List.mem_append_right _ h)) hown hK hP 0 rfl rfl 0 (by decide) (hts (.fieldLink RX8 9 "BidMarketModel" "n" "I") (List.mem_of_getElem? (i := 1) rfl)) (fun _ h9 => h9) rfl dX8_lack_4 ?_
  refine lv_ishl hx hb dX8_lack_7 ?_
  refine lv_iconst (v := 1) hx hb dX8_lack_8 (by decide) ?_
  refine lv_isub hx hb dX8_lack_9 ?_
  refine lv_topi (fun x1 ex1 => ?_)
  have hw := hw x1 ex1
  refine lv_istore_n (lv' := [(2, .int x1), (1, .int 0), (0, .ref (ad 0))]) hx hb dX8_lack_10 rfl hl (by decide) rfl (fun ls hl => ?_)
  obtain ⟨f1, hw⟩ := hw
  exact kB11 f1 0 x1 ls (lv_sub hl [2, 1, 0] rfl) hw
set_option maxHeartbeats 4000000 in
set_option maxRecDepth 100000 in
theorem mX8_havers (l : Launch) (dC : Nat → ClassId) (dI : Nat → Nat → Nat) (cI cJ cT cII cJJ : ClassId) (ad : Nat → Nat) (mN : Int32) (mStep : Int32) (mSeen : Int32) (mPlans : Int32) (mBooks : Int32) (mTexted : Int32) (mIsKept : Int32) (mSpot : Int32) (mKeeps : Int32) (mMindStep : Int32) (mAt : Int32) (mWhat : Int32) (mWhole : Int32) (mIsBroken : Int32) (mHas : Nat → Int32) (Post : Int32 → Prop) (hw : wpX8_havers mN mHas Post) : Met l yX8_havers wsX8_havers ({ frames := 0, cells := 0, slots := 0, locals := 0 } : Room) (va_Pc [.ref (ad 0)] (fun U => va_P (dC, dI) vwCl (wdX8_havers cI cJ cT cII cJJ ad mN mStep mSeen mPlans mBooks mTexted mIsKept mSpot mKeeps mMindStep mAt mWhat mWhole mIsBroken mHas) U.heap ∧ va_K (dC, dI) vwCl (bw_tys cI cJ cT cII cJJ) U)) (vp_Si Post) 0 0 (fun _ => False) := by
  refine Met.ofW (cc := cX8_havers) (maxL := 3) (ret := (some .int)) (by decide) rfl ?_
  intro p e s m args below meth c s₁ B hml hv
  obtain ⟨rfl, hP, hK⟩ := hv
  have hx := B.exec
  have hb := B.bytes
  have hr := B.returns
  have hts := atoms_spec (ws := wsX8_havers) B.pre
  have hown : s.vm.findClass RX8 = some m.cls := findClass_of_methodNamed B.named
  have hlocks := B.notSynchronized
  have hl := lv_entry ([.ref (ad 0)]) (n := 3) (Nat.le_of_ble_eq_true rfl)
  rw [lg_entry_eq]
  generalize (lg_sl ([.ref (ad 0)]) ++ List.replicate (3 - (lg_sl ([.ref (ad 0)])).length) Slot.unset).toArray = ls at hl ⊢
  have hl : lv_has ls 3 [(0, .ref (ad 0))] := hl
  have kB27 : ∀ (K4 : Int32 → Int32 → Prop), (∀ (v1 : Int32) (v2 : Int32), ∀ ls : Array Slot, lv_has ls 3 [(0, .ref (ad 0)), (1, .int v1), (2, .int v2)] → K4 v1 v2 → W p l e (headSpec wsX8_havers ({ frames := 0, cells := 0, slots := 0, locals := 0 } : Room)).room s m ([.ref (ad 0)] : List Value).toArray below meth c s.heap [] 0 0 (MQ below (vp_Si Post) ([.ref (ad 0)] : List Value).toArray s 0 0 (fun _ => False)) (F0 m 4 ls [])) → ∀ (v2 : Int32) (s0 : Int32) (s1 : Int32), ∀ ls : Array Slot, lv_has ls 3 [(0, .ref (ad 0)), (2, .int v2)] → wpX8_havers_B27 mN mHas K4 Post v2 s0 s1 → W p l e (headSpec wsX8_havers ({ frames := 0, cells := 0, slots := 0, locals := 0 } : Room)).room s m ([.ref (ad 0)] : List Value).toArray below meth c s.heap [] 0 0 (MQ below (vp_Si Post) ([.ref (ad 0)] : List Value).toArray s 0 0 (fun _ => False)) (F0 m 27 ls [.int s1, .int s0]) := by
    intro K4 hK4 v2 s0 s1 ls hl hw
    unfold wpX8_havers_B27 at hw
    refine lv_iadd hx hb dX8_havers_27 ?_
    refine lv_topi (fun x4 ex4 => ?_)
    have hw := hw x4 ex4
    refine lv_istore_n (lv' := [(1, .int x4), (0, .ref (ad 0)), (2, .int v2)]) hx hb dX8_havers_28 rfl hl (by decide) rfl (fun ls hl => ?_)
    obtain ⟨x5, ex5⟩ : ∃ y : Int32, y = v2 + 1 := ⟨_, rfl⟩
    have hw := hw x5 ex5
    refine lv_iinc (v := x5) (lv' := [(2, .int x5), (1, .int x4), (0, .ref (ad 0))]) hx hb dX8_havers_29 hl (k := 2) rfl (by rw [ex5]; rfl) (by decide) rfl (fun ls hl => ?_)
    refine lv_goto (tgt := 4) hx hb dX8_havers_32 (by decide) ?_
    exact hK4 x4 x5 ls (lv_sub hl [2, 1, 0] rfl) hw
  have kB4 : ∀ f : Nat, ∀ (v1 : Int32) (v2 : Int32), ∀ ls : Array Slot, lv_has ls 3 [(0, .ref (ad 0)), (1, .int v1), (2, .int v2)] → wpX8_havers_B4 mN mHas Post f v1 v2 → W p l e (headSpec wsX8_havers ({ frames := 0, cells := 0, slots := 0, locals := 0 } : Room)).room s m ([.ref (ad 0)] : List Value).toArray below meth c s.heap [] 0 0 (MQ below (vp_Si Post) ([.ref (ad 0)] : List Value).toArray s 0 0 (fun _ => False)) (F0 m 4 ls []) := by
    intro  f
    induction f with
    | zero => intro v1 v2 ls hl hw; exact (show False from hw).elim
    | succ f ih =>
      intro v1 v2 ls hl hw
      rw [wpX8_havers_B4] at hw
      refine lv_iload_n hx hb dX8_havers_4 rfl (lv_at hl 2 rfl) ?_
      refine lv_aload_n hx hb dX8_havers_5 rfl (lv_at hl 0 rfl) ?_
      refine va_get (D := (dC, dI)) (ci := 8) (v := .int mN) (C := RX8) (T := TX8) (N := 36) hx hb hts (fun w h => List.mem_cons_of_mem _ (List.mem_append_right _ h)) hown hK hP 0 rfl rfl 0 (by decide) (hts (.fieldLink RX8 9 "BidMarketModel" "n" "I") (List.mem_of_getElem? (i := 1) rfl)) (fun _ h9 => h9) rfl dX8_havers_6 ?_
      refine lv_icmp_ge (tgt := 35) hx hb dX8_havers_9 (by decide) (fun c1 => ?_) (fun c1 => ?_)
      · have hw := hw.1 c1
        refine lv_iload_n hx hb dX8_havers_35 rfl (lv_at hl 1 rfl) ?_
        exact W.iret (v := v1) hx hb hr (fun t ht hW => ⟨v1, rfl, hw, ht⟩) (fun _ h => by cases h) dX8_havers_36
      · have hw := hw.2 c1
        refine lv_iload_n hx hb dX8_havers_12 rfl (lv_at hl 1 rfl) ?_
        refine lv_aload_n hx hb dX8_havers_13 rfl (lv_at hl 0 rfl) ?_
        refine va_get (D := (dC, dI)) (ci := 8) (v := .ref (ad 2)) (C := RX8) (T := TX8) (N := 36) hx hb hts (fun w h => List.mem_cons_of_mem _ (List.mem_append_right _ h)) hown hK hP 0 rfl rfl 3 (by decide) (hts (.fieldLink RX8 22 "BidMarketModel" "has" "[I") (List.mem_of_getElem? (i := 2) rfl)) (fun _ h9 => h9) rfl dX8_havers_14 ?_
        refine lv_iload_n hx hb dX8_havers_17 rfl (lv_at hl 2 rfl) ?_
        have h2 := hw.1
        have hw := hw.2
        refine va_iald hx hb hK hP 1 0 rfl rfl h2 dX8_havers_18 ?_
        refine lv_if_ge (tgt := 26) hx hb dX8_havers_19 (by decide) (fun c3 => ?_) (fun c3 => ?_)
        · have hw := hw.1 c3
          refine lv_iconst (v := 1) hx hb dX8_havers_26 (by decide) ?_
          exact kB27 (wpX8_havers_B4 mN mHas Post f) ih v2 v1 1 ls (lv_sub hl [0, 2] rfl) hw
        · have hw := hw.2 c3
          refine lv_iconst (v := 0) hx hb dX8_havers_22 (by decide) ?_
          refine lv_goto (tgt := 27) hx hb dX8_havers_23 (by decide) ?_
          exact kB27 (wpX8_havers_B4 mN mHas Post f) ih v2 v1 0 ls (lv_sub hl [0, 2] rfl) hw
  unfold wpX8_havers at hw
  refine lv_iconst (v := 0) hx hb dX8_havers_0 (by decide) ?_
  refine lv_istore_n (lv' := [(1, .int 0), (0, .ref (ad 0))]) hx hb dX8_havers_1 rfl hl (by decide) rfl (fun ls hl => ?_)
  refine lv_iconst (v := 0) hx hb dX8_havers_2 (by decide) ?_
  refine lv_istore_n (lv' := [(2, .int 0), (1, .int 0), (0, .ref (ad 0))]) hx hb dX8_havers_3 rfl hl (by decide) rfl (fun ls hl => ?_)
  obtain ⟨f1, hw⟩ := hw
  exact kB4 f1 0 0 ls (lv_sub hl [2, 1, 0] rfl) hw
set_option maxHeartbeats 4000000 in
set_option maxRecDepth 100000 in
theorem mX8_told (l : Launch) (dC : Nat → ClassId) (dI : Nat → Nat → Nat) (cI cJ cT cII cJJ : ClassId) (ad : Nat → Nat) (sz : Nat) (mN : Int32) (mStep : Int32) (mSeen : Int32) (mPlans : Int32) (mBooks : Int32) (mTexted : Int32) (mIsKept : Int32) (mSpot : Int32) (mKeeps : Int32) (mMindStep : Int32) (mAt : Int32) (mWhat : Int32) (mWhole : Int32) (mIsBroken : Int32) (mWorth : Nat → Int32) (mHas : Nat → Int32) (mPrice : Nat → Int32) (mMostBy : Nat → Int32) (a1 : Int32) (Post : Int32 → (Nat → Int32) → Prop) (hw : wpX8_told mN mStep mWorth mHas mPrice mMostBy a1 Post) : Met l yX8_told wsX8_told ({ frames := 3, cells := 0, slots := 0, locals := 88 } : Room) (va_Pc [.ref (ad 0), .int a1] (fun U => U.heap.size = sz ∧ va_P (dC, dI) vwCl (wdX8_told cI cJ cT cII cJJ ad mN mStep mSeen mPlans mBooks mTexted mIsKept mSpot mKeeps mMindStep mAt mWhat mWhole mIsBroken mWorth mHas mPrice mMostBy) U.heap ∧ va_K (dC, dI) vwCl (bw_tys cI cJ cT cII cJJ) U ∧ va_D (fun _ => True) (wdX8_told cI cJ cT cII cJJ ad mN mStep mSeen mPlans mBooks mTexted mIsKept mSpot mKeeps mMindStep mAt mWhat mWhole mIsBroken mWorth mHas mPrice mMostBy))) (va_Qi (fun (r : Int32) (u : (Nat → Int32)) => Post r u) (fun (u : (Nat → Int32)) t => va_P (dC, dI) vwCl (wdX8_told cI cJ cT cII cJJ ad mN mStep mSeen mPlans mBooks mTexted mIsKept mSpot mKeeps mMindStep mAt mWhat mWhole mIsBroken mWorth mHas mPrice u) t.heap) (va_A (wdX8_told cI cJ cT cII cJJ ad mN mStep mSeen mPlans mBooks mTexted mIsKept mSpot mKeeps mMindStep mAt mWhat mWhole mIsBroken mWorth mHas mPrice mMostBy) sz)) 0 0 (va_A (wdX8_told cI cJ cT cII cJJ ad mN mStep mSeen mPlans mBooks mTexted mIsKept mSpot mKeeps mMindStep mAt mWhat mWhole mIsBroken mWorth mHas mPrice mMostBy) sz) := by
  refine Met.ofW (cc := cX8_told) (maxL := 2) (ret := (some .int)) (by decide) rfl ?_
  intro p e s m args below meth c s₁ B hml hv
  obtain ⟨rfl, hsz, hP, hK, hD0⟩ := hv
  have hx := B.exec
  have hb := B.bytes
  have hr := B.returns
  have hts := atoms_spec (ws := wsX8_told) B.pre
  have hown : s.vm.findClass RX8 = some m.cls := findClass_of_methodNamed B.named
  have hlocks := B.notSynchronized
  subst hsz
  have hD := hD0.self (sz := s.heap.size)
  generalize hAe : va_A (wdX8_told cI cJ cT cII cJJ ad mN mStep mSeen mPlans mBooks mTexted mIsKept mSpot mKeeps mMindStep mAt mWhat mWhole mIsBroken mWorth mHas mPrice mMostBy) s.heap.size = A at hD ⊢
  have hA : ∀ q : Nat, s.heap.size ≤ q → A q := fun q h => by rw [← hAe]; exact Or.inr h
  have hS : va_S A s.heap s.heap [] := va_S.rf
  have hl := lv_entry ([.ref (ad 0), .int a1]) (n := 2) (Nat.le_of_ble_eq_true rfl)
  rw [lg_entry_eq]
  generalize (lg_sl ([.ref (ad 0), .int a1]) ++ List.replicate (2 - (lg_sl ([.ref (ad 0), .int a1])).length) Slot.unset).toArray = ls at hl ⊢
  have hl : lv_has ls 2 [(0, .ref (ad 0)), (1, .int a1)] := hl
  unfold wpX8_told at hw
  refine lv_iload_n hx hb dX8_told_0 rfl (lv_at hl 1 rfl) ?_
  by_cases c1 : a1.toInt < 0 ∨ 9 < a1.toInt
  · have hw := hw.1 c1
    refine lv_tableOut (tgt := 134) hx hb dX8_told_1 c1 (by decide) ?_
    refine lv_iconst (v := (-1)) hx hb dX8_told_134 (by decide) ?_
    exact W.iret (v := (-1)) hx hb hr (fun t ht hW => ⟨⟨(-1), mMostBy, rfl, hw, by show va_P _ _ _ t.heap; rw [ht]; exact hP⟩, hS.F ht⟩) hS.2.2 dX8_told_135
  have hw := hw.2
  by_cases c2 : a1 = 0
  · have hw := hw.1 c2
    refine lv_tableIn (tgt := 56) (off := 55) hx hb dX8_told_1 (fun h => c1 (Or.inl h)) (fun h => c1 (Or.inr h)) (by rw [c2]; rfl) (by decide) ?_
    refine lv_aload_n hx hb dX8_told_56 rfl (lv_at hl 0 rfl) ?_
    refine va_get (D := (dC, dI)) (ci := 8) (v := .int mN) (C := RX8) (T := TX8) (N := 36) hx hb hts (fun w h => List.mem_cons_of_mem _ (List.mem_append_right _ h)) hown hK hP 0 rfl rfl 0 (by decide) (hts (.fieldLink RX8 9 "BidMarketModel" "n" "I") (List.mem_of_getElem? (i := 1) rfl)) (fun _ h9 => h9) rfl dX8_told_57 ?_
    exact W.iret (v := mN) hx hb hr (fun t ht hW => ⟨⟨mN, mMostBy, rfl, hw, by show va_P _ _ _ t.heap; rw [ht]; exact hP⟩, hS.F ht⟩) hS.2.2 dX8_told_60
  have hw := hw.2
  by_cases c3 : a1 = 1
  · have hw := hw.1 c3
    refine lv_tableIn (tgt := 61) (off := 60) hx hb dX8_told_1 (fun h => c1 (Or.inl h)) (fun h => c1 (Or.inr h)) (by rw [c3]; rfl) (by decide) ?_
    refine lv_aload_n hx hb dX8_told_61 rfl (lv_at hl 0 rfl) ?_
    refine va_get (D := (dC, dI)) (ci := 8) (v := .int mStep) (C := RX8) (T := TX8) (N := 36) hx hb hts (fun w h => List.mem_cons_of_mem _ (List.mem_append_right _ h)) hown hK hP 0 rfl rfl 1 (by decide) (hts (.fieldLink RX8 15 "BidMarketModel" "step" "I") (List.mem_of_getElem? (i := 2) rfl)) (fun _ h9 => h9) rfl dX8_told_62 ?_
    exact W.iret (v := mStep) hx hb hr (fun t ht hW => ⟨⟨mStep, mMostBy, rfl, hw, by show va_P _ _ _ t.heap; rw [ht]; exact hP⟩, hS.F ht⟩) hS.2.2 dX8_told_65
  have hw := hw.2
  by_cases c4 : a1 = 2
  · have hw := hw.1 c4
    refine lv_tableIn (tgt := 66) (off := 65) hx hb dX8_told_1 (fun h => c1 (Or.inl h)) (fun h => c1 (Or.inr h)) (by rw [c4]; rfl) (by decide) ?_
    refine lv_aload_n hx hb dX8_told_66 rfl (lv_at hl 0 rfl) ?_
    refine bw_pvi (wc := (wdX8_sum cI cJ cT cII cJJ ad mN mStep mSeen mPlans mBooks mTexted mIsKept mSpot mKeeps mMindStep mAt mWhat mWhole mIsBroken mWorth mHas)) (As := []) (rest := []) ⟨hx, hb, hml, hown, hts⟩ (mX8_sum l dC dI cI cJ cT cII cJJ ad mN mStep mSeen mPlans mBooks mTexted mIsKept mSpot mKeeps mMindStep mAt mWhat mWhole mIsBroken mWorth mHas _ hw) (cwV 0 hts gX8_told_X8_sum rfl rfl rfl hdX8_sum ⟨Nat.le_of_ble_eq_true rfl, Nat.le_of_ble_eq_true rfl⟩) hK hP [0, 1, 2] rfl rfl rfl rfl rfl hl.1 rfl (Nat.le_of_ble_eq_true rfl) ⟨Nat.le_of_ble_eq_true rfl, Nat.le_of_ble_eq_true rfl⟩ dX8_told_67 (fun r5 hw => ?_)
    exact W.iret (v := r5) hx hb hr (fun t ht hW => ⟨⟨r5, mMostBy, rfl, hw, by show va_P _ _ _ t.heap; rw [ht]; exact hP⟩, hS.F ht⟩) hS.2.2 dX8_told_70
  have hw := hw.2
  by_cases c6 : a1 = 3
  · have hw := hw.1 c6
    refine lv_tableIn (tgt := 71) (off := 70) hx hb dX8_told_1 (fun h => c1 (Or.inl h)) (fun h => c1 (Or.inr h)) (by rw [c6]; rfl) (by decide) ?_
    refine lv_aload_n hx hb dX8_told_71 rfl (lv_at hl 0 rfl) ?_
    refine bw_wvi (wc := (wdX8_most cI cJ cT cII cJJ ad mN mStep mSeen mPlans mBooks mTexted mIsKept mSpot mKeeps mMindStep mAt mWhat mWhole mIsBroken mWorth mMostBy)) (w1 := (fun (u : (Nat → Int32)) => wdX8_most cI cJ cT cII cJJ ad mN mStep mSeen mPlans mBooks mTexted mIsKept mSpot mKeeps mMindStep mAt mWhat mWhole mIsBroken mWorth u)) (As := []) (rest := []) ⟨hx, hb, hml, hown, hts⟩ (mX8_most l dC dI cI cJ cT cII cJJ ad _ mN mStep mSeen mPlans mBooks mTexted mIsKept mSpot mKeeps mMindStep mAt mWhat mWhole mIsBroken mWorth mMostBy _ hw) (cwV 0 hts gX8_told_X8_most rfl rfl rfl hdX8_most ⟨Nat.le_of_ble_eq_true rfl, Nat.le_of_ble_eq_true rfl⟩) hK hP hD hS hA [0, 1, 4] rfl (by decide) (fun _ => rfl) rfl rfl rfl rfl hl.1 rfl (Nat.le_of_ble_eq_true rfl) ⟨Nat.le_of_ble_eq_true rfl, Nat.le_of_ble_eq_true rfl⟩ dX8_told_72 (fun r7 u H locs hw hP hD hS => ?_)
    obtain ⟨y8, rfl⟩ : ∃ z, z = u := ⟨_, rfl⟩
    try dsimp only at hw
    have hP : va_P (dC, dI) vwCl (wdX8_told cI cJ cT cII cJJ ad mN mStep mSeen mPlans mBooks mTexted mIsKept mSpot mKeeps mMindStep mAt mWhat mWhole mIsBroken mWorth mHas mPrice y8) H := hP
    have hD : va_D A (wdX8_told cI cJ cT cII cJJ ad mN mStep mSeen mPlans mBooks mTexted mIsKept mSpot mKeeps mMindStep mAt mWhat mWhole mIsBroken mWorth mHas mPrice y8) := hD
    exact W.iret (v := r7) hx hb hr (fun t ht hW => ⟨⟨r7, y8, rfl, hw, by show va_P _ _ _ t.heap; rw [ht]; exact hP⟩, hS.F ht⟩) hS.2.2 dX8_told_75
  have hw := hw.2
  by_cases c9 : a1 = 4
  · have hw := hw.1 c9
    refine lv_tableIn (tgt := 76) (off := 75) hx hb dX8_told_1 (fun h => c1 (Or.inl h)) (fun h => c1 (Or.inr h)) (by rw [c9]; rfl) (by decide) ?_
    refine lv_aload_n hx hb dX8_told_76 rfl (lv_at hl 0 rfl) ?_
    refine bw_pvi (wc := (wdX8_sure cI cJ cT cII cJJ ad mN mStep mSeen mPlans mBooks mTexted mIsKept mSpot mKeeps mMindStep mAt mWhat mWhole mIsBroken mWorth mHas mPrice)) (As := []) (rest := []) ⟨hx, hb, hml, hown, hts⟩ (mX8_sure l dC dI cI cJ cT cII cJJ ad mN mStep mSeen mPlans mBooks mTexted mIsKept mSpot mKeeps mMindStep mAt mWhat mWhole mIsBroken mWorth mHas mPrice _ hw) (cwV 0 hts gX8_told_X8_sure rfl rfl rfl hdX8_sure ⟨Nat.le_of_ble_eq_true rfl, Nat.le_of_ble_eq_true rfl⟩) hK hP [0, 1, 2, 3] rfl rfl rfl rfl rfl hl.1 rfl (Nat.le_of_ble_eq_true rfl) ⟨Nat.le_of_ble_eq_true rfl, Nat.le_of_ble_eq_true rfl⟩ dX8_told_77 (fun r10 hw => ?_)
    exact W.iret (v := r10) hx hb hr (fun t ht hW => ⟨⟨r10, mMostBy, rfl, hw, by show va_P _ _ _ t.heap; rw [ht]; exact hP⟩, hS.F ht⟩) hS.2.2 dX8_told_80
  have hw := hw.2
  by_cases c11 : a1 = 5
  · have hw := hw.1 c11
    refine lv_tableIn (tgt := 81) (off := 80) hx hb dX8_told_1 (fun h => c1 (Or.inl h)) (fun h => c1 (Or.inr h)) (by rw [c11]; rfl) (by decide) ?_
    refine lv_aload_n hx hb dX8_told_81 rfl (lv_at hl 0 rfl) ?_
    refine bw_pvi (wc := (wdX8_lack cI cJ cT cII cJJ ad mN mStep mSeen mPlans mBooks mTexted mIsKept mSpot mKeeps mMindStep mAt mWhat mWhole mIsBroken mWorth)) (As := []) (rest := []) ⟨hx, hb, hml, hown, hts⟩ (mX8_lack l dC dI cI cJ cT cII cJJ ad mN mStep mSeen mPlans mBooks mTexted mIsKept mSpot mKeeps mMindStep mAt mWhat mWhole mIsBroken mWorth _ hw) (cwV 0 hts gX8_told_X8_lack rfl rfl rfl hdX8_lack ⟨Nat.le_of_ble_eq_true rfl, Nat.le_of_ble_eq_true rfl⟩) hK hP [0, 1] rfl rfl rfl rfl rfl hl.1 rfl (Nat.le_of_ble_eq_true rfl) ⟨Nat.le_of_ble_eq_true rfl, Nat.le_of_ble_eq_true rfl⟩ dX8_told_82 (fun r12 hw => ?_)
    exact W.iret (v := r12) hx hb hr (fun t ht hW => ⟨⟨r12, mMostBy, rfl, hw, by show va_P _ _ _ t.heap; rw [ht]; exact hP⟩, hS.F ht⟩) hS.2.2 dX8_told_85
  have hw := hw.2
  by_cases c13 : a1 = 6
  · have hw := hw.1 c13
    refine lv_tableIn (tgt := 86) (off := 85) hx hb dX8_told_1 (fun h => c1 (Or.inl h)) (fun h => c1 (Or.inr h)) (by rw [c13]; rfl) (by decide) ?_
    refine lv_aload_n hx hb dX8_told_86 rfl (lv_at hl 0 rfl) ?_
    refine bw_pvi (wc := (wdX8_next cI cJ cT cII cJJ ad mN mStep mSeen mPlans mBooks mTexted mIsKept mSpot mKeeps mMindStep mAt mWhat mWhole mIsBroken mWorth mHas mPrice)) (As := []) (rest := []) ⟨hx, hb, hml, hown, hts⟩ (mX8_next l dC dI cI cJ cT cII cJJ ad mN mStep mSeen mPlans mBooks mTexted mIsKept mSpot mKeeps mMindStep mAt mWhat mWhole mIsBroken mWorth mHas mPrice _ hw) (cwV 0 hts gX8_told_X8_next rfl rfl rfl hdX8_next ⟨Nat.le_of_ble_eq_true rfl, Nat.le_of_ble_eq_true rfl⟩) hK hP [0, 1, 2, 3] rfl rfl rfl rfl rfl hl.1 rfl (Nat.le_of_ble_eq_true rfl) ⟨Nat.le_of_ble_eq_true rfl, Nat.le_of_ble_eq_true rfl⟩ dX8_told_87 (fun r14 hw => ?_)
    refine lv_if_ge (tgt := 98) hx hb dX8_told_90 (by decide) (fun c15 => ?_) (fun c15 => ?_)
    · have hw := hw.1 c15
      refine lv_aload_n hx hb dX8_told_98 rfl (lv_at hl 0 rfl) ?_
      refine bw_pvi (wc := (wdX8_next cI cJ cT cII cJJ ad mN mStep mSeen mPlans mBooks mTexted mIsKept mSpot mKeeps mMindStep mAt mWhat mWhole mIsBroken mWorth mHas mPrice)) (As := []) (rest := []) ⟨hx, hb, hml, hown, hts⟩ (mX8_next l dC dI cI cJ cT cII cJJ ad mN mStep mSeen mPlans mBooks mTexted mIsKept mSpot mKeeps mMindStep mAt mWhat mWhole mIsBroken mWorth mHas mPrice _ hw) (cwV 0 hts gX8_told_X8_next rfl rfl rfl hdX8_next ⟨Nat.le_of_ble_eq_true rfl, Nat.le_of_ble_eq_true rfl⟩) hK hP [0, 1, 2, 3] rfl rfl rfl rfl rfl hl.1 rfl (Nat.le_of_ble_eq_true rfl) ⟨Nat.le_of_ble_eq_true rfl, Nat.le_of_ble_eq_true rfl⟩ dX8_told_99 (fun r16 hw => ?_)
      exact W.iret (v := r16) hx hb hr (fun t ht hW => ⟨⟨r16, mMostBy, rfl, hw, by show va_P _ _ _ t.heap; rw [ht]; exact hP⟩, hS.F ht⟩) hS.2.2 dX8_told_102
    · have hw := hw.2 c15
      refine lv_bipush (v := (-5)) hx hb dX8_told_93 (by decide) ?_
      refine lv_goto (tgt := 102) hx hb dX8_told_95 (by decide) ?_
      exact W.iret (v := (-5)) hx hb hr (fun t ht hW => ⟨⟨(-5), mMostBy, rfl, hw, by show va_P _ _ _ t.heap; rw [ht]; exact hP⟩, hS.F ht⟩) hS.2.2 dX8_told_102
  have hw := hw.2
  by_cases c17 : a1 = 7
  · have hw := hw.1 c17
    refine lv_tableIn (tgt := 103) (off := 102) hx hb dX8_told_1 (fun h => c1 (Or.inl h)) (fun h => c1 (Or.inr h)) (by rw [c17]; rfl) (by decide) ?_
    refine lv_aload_n hx hb dX8_told_103 rfl (lv_at hl 0 rfl) ?_
    refine bw_pvi (wc := (wdX8_next cI cJ cT cII cJJ ad mN mStep mSeen mPlans mBooks mTexted mIsKept mSpot mKeeps mMindStep mAt mWhat mWhole mIsBroken mWorth mHas mPrice)) (As := []) (rest := []) ⟨hx, hb, hml, hown, hts⟩ (mX8_next l dC dI cI cJ cT cII cJJ ad mN mStep mSeen mPlans mBooks mTexted mIsKept mSpot mKeeps mMindStep mAt mWhat mWhole mIsBroken mWorth mHas mPrice _ hw) (cwV 0 hts gX8_told_X8_next rfl rfl rfl hdX8_next ⟨Nat.le_of_ble_eq_true rfl, Nat.le_of_ble_eq_true rfl⟩) hK hP [0, 1, 2, 3] rfl rfl rfl rfl rfl hl.1 rfl (Nat.le_of_ble_eq_true rfl) ⟨Nat.le_of_ble_eq_true rfl, Nat.le_of_ble_eq_true rfl⟩ dX8_told_104 (fun r18 hw => ?_)
    refine lv_if_ge (tgt := 115) hx hb dX8_told_107 (by decide) (fun c19 => ?_) (fun c19 => ?_)
    · have hw := hw.1 c19
      refine lv_aload_n hx hb dX8_told_115 rfl (lv_at hl 0 rfl) ?_
      refine lv_aload_n hx hb dX8_told_116 rfl (lv_at hl 0 rfl) ?_
      refine bw_pvi (wc := (wdX8_next cI cJ cT cII cJJ ad mN mStep mSeen mPlans mBooks mTexted mIsKept mSpot mKeeps mMindStep mAt mWhat mWhole mIsBroken mWorth mHas mPrice)) (As := []) (rest := [.ref (ad 0)]) ⟨hx, hb, hml, hown, hts⟩ (mX8_next l dC dI cI cJ cT cII cJJ ad mN mStep mSeen mPlans mBooks mTexted mIsKept mSpot mKeeps mMindStep mAt mWhat mWhole mIsBroken mWorth mHas mPrice _ hw) (cwV 0 hts gX8_told_X8_next rfl rfl rfl hdX8_next ⟨Nat.le_of_ble_eq_true rfl, Nat.le_of_ble_eq_true rfl⟩) hK hP [0, 1, 2, 3] rfl rfl rfl rfl rfl hl.1 rfl (Nat.le_of_ble_eq_true rfl) ⟨Nat.le_of_ble_eq_true rfl, Nat.le_of_ble_eq_true rfl⟩ dX8_told_117 (fun r20 hw => ?_)
      refine bw_pvi (wc := (wdX8_offer cI cJ cT cII cJJ ad mN mStep mSeen mPlans mBooks mTexted mIsKept mSpot mKeeps mMindStep mAt mWhat mWhole mIsBroken mWorth mPrice)) (As := [.int r20]) (rest := []) ⟨hx, hb, hml, hown, hts⟩ (mX8_offer l dC dI cI cJ cT cII cJJ ad mN mStep mSeen mPlans mBooks mTexted mIsKept mSpot mKeeps mMindStep mAt mWhat mWhole mIsBroken mWorth mPrice r20 _ hw) (cwV 1 hts gX8_told_X8_offer rfl rfl rfl hdX8_offer ⟨Nat.le_of_ble_eq_true rfl, Nat.le_of_ble_eq_true rfl⟩) hK hP [0, 1, 3] rfl rfl rfl rfl rfl hl.1 rfl (Nat.le_of_ble_eq_true rfl) ⟨Nat.le_of_ble_eq_true rfl, Nat.le_of_ble_eq_true rfl⟩ dX8_told_120 (fun r21 hw => ?_)
      exact W.iret (v := r21) hx hb hr (fun t ht hW => ⟨⟨r21, mMostBy, rfl, hw, by show va_P _ _ _ t.heap; rw [ht]; exact hP⟩, hS.F ht⟩) hS.2.2 dX8_told_123
    · have hw := hw.2 c19
      refine lv_bipush (v := (-5)) hx hb dX8_told_110 (by decide) ?_
      refine lv_goto (tgt := 123) hx hb dX8_told_112 (by decide) ?_
      exact W.iret (v := (-5)) hx hb hr (fun t ht hW => ⟨⟨(-5), mMostBy, rfl, hw, by show va_P _ _ _ t.heap; rw [ht]; exact hP⟩, hS.F ht⟩) hS.2.2 dX8_told_123
  have hw := hw.2
  by_cases c22 : a1 = 8
  · have hw := hw.1 c22
    refine lv_tableIn (tgt := 124) (off := 123) hx hb dX8_told_1 (fun h => c1 (Or.inl h)) (fun h => c1 (Or.inr h)) (by rw [c22]; rfl) (by decide) ?_
    refine lv_aload_n hx hb dX8_told_124 rfl (lv_at hl 0 rfl) ?_
    refine bw_pvi (wc := (wdX8_havers cI cJ cT cII cJJ ad mN mStep mSeen mPlans mBooks mTexted mIsKept mSpot mKeeps mMindStep mAt mWhat mWhole mIsBroken mHas)) (As := []) (rest := []) ⟨hx, hb, hml, hown, hts⟩ (mX8_havers l dC dI cI cJ cT cII cJJ ad mN mStep mSeen mPlans mBooks mTexted mIsKept mSpot mKeeps mMindStep mAt mWhat mWhole mIsBroken mHas _ hw) (cwV 0 hts gX8_told_X8_havers rfl rfl rfl hdX8_havers ⟨Nat.le_of_ble_eq_true rfl, Nat.le_of_ble_eq_true rfl⟩) hK hP [0, 2] rfl rfl rfl rfl rfl hl.1 rfl (Nat.le_of_ble_eq_true rfl) ⟨Nat.le_of_ble_eq_true rfl, Nat.le_of_ble_eq_true rfl⟩ dX8_told_125 (fun r23 hw => ?_)
    exact W.iret (v := r23) hx hb hr (fun t ht hW => ⟨⟨r23, mMostBy, rfl, hw, by show va_P _ _ _ t.heap; rw [ht]; exact hP⟩, hS.F ht⟩) hS.2.2 dX8_told_128
  have hw := hw.2
  by_cases c24 : a1 = 9
  · have hw := hw c24
    refine lv_tableIn (tgt := 129) (off := 128) hx hb dX8_told_1 (fun h => c1 (Or.inl h)) (fun h => c1 (Or.inr h)) (by rw [c24]; rfl) (by decide) ?_
    refine lv_aload_n hx hb dX8_told_129 rfl (lv_at hl 0 rfl) ?_
    refine bw_pvi (wc := (wdX8_prices cI cJ cT cII cJJ ad mN mStep mSeen mPlans mBooks mTexted mIsKept mSpot mKeeps mMindStep mAt mWhat mWhole mIsBroken mPrice)) (As := []) (rest := []) ⟨hx, hb, hml, hown, hts⟩ (mX8_prices l dC dI cI cJ cT cII cJJ ad mN mStep mSeen mPlans mBooks mTexted mIsKept mSpot mKeeps mMindStep mAt mWhat mWhole mIsBroken mPrice _ hw) (cwV 0 hts gX8_told_X8_prices rfl rfl rfl hdX8_prices ⟨Nat.le_of_ble_eq_true rfl, Nat.le_of_ble_eq_true rfl⟩) hK hP [0, 3] rfl rfl rfl rfl rfl hl.1 rfl (Nat.le_of_ble_eq_true rfl) ⟨Nat.le_of_ble_eq_true rfl, Nat.le_of_ble_eq_true rfl⟩ dX8_told_130 (fun r25 hw => ?_)
    exact W.iret (v := r25) hx hb hr (fun t ht hW => ⟨⟨r25, mMostBy, rfl, hw, by show va_P _ _ _ t.heap; rw [ht]; exact hP⟩, hS.F ht⟩) hS.2.2 dX8_told_133
  exact (bw_sw 9 c1 (fun k hk => match k, hk with | 0, _ => c2 | 1, _ => c3 | 2, _ => c4 | 3, _ => c6 | 4, _ => c9 | 5, _ => c11 | 6, _ => c13 | 7, _ => c17 | 8, _ => c22 | 9, _ => c24 | k + 10, h => absurd h (by omega))).elim
set_option maxHeartbeats 4000000 in
set_option maxRecDepth 100000 in
theorem mX8_see (l : Launch) (dC : Nat → ClassId) (dI : Nat → Nat → Nat) (cI cJ cT cII cJJ : ClassId) (ad : Nat → Nat) (sz : Nat) (mN : Int32) (mStep : Int32) (mSeen : Int32) (mPlans : Int32) (mBooks : Int32) (mTexted : Int32) (mIsKept : Int32) (mSpot : Int32) (mKeeps : Int32) (mMindStep : Int32) (mAt : Int32) (mWhat : Int32) (mWhole : Int32) (mIsBroken : Int32) (mSeenWho : Nat → Int32) (mSeenWhat : Nat → Int32) (a1 : Int32) (a2 : Int32) (Post : Int32 → Int32 → (Nat → Int32) → (Nat → Int32) → Prop) (hw : wpX8_see mN mSeen mSeenWho mSeenWhat a1 a2 Post) : Met l yX8_see wsX8_see ({ frames := 3, cells := 0, slots := 0, locals := 68 } : Room) (va_Pc [.ref (ad 0), .int a1, .int a2] (fun U => U.heap.size = sz ∧ va_P (dC, dI) vwCl (wdX8_see cI cJ cT cII cJJ ad mN mStep mSeen mPlans mBooks mTexted mIsKept mSpot mKeeps mMindStep mAt mWhat mWhole mIsBroken mSeenWho mSeenWhat) U.heap ∧ va_K (dC, dI) vwCl (bw_tys cI cJ cT cII cJJ) U ∧ va_D (fun _ => True) (wdX8_see cI cJ cT cII cJJ ad mN mStep mSeen mPlans mBooks mTexted mIsKept mSpot mKeeps mMindStep mAt mWhat mWhole mIsBroken mSeenWho mSeenWhat))) (va_Qi (fun (r : Int32) (u : Int32 × (Nat → Int32) × (Nat → Int32)) => Post r u.1 u.2.1 u.2.2) (fun (u : Int32 × (Nat → Int32) × (Nat → Int32)) t => va_P (dC, dI) vwCl (wdX8_see cI cJ cT cII cJJ ad mN mStep u.1 mPlans mBooks mTexted mIsKept mSpot mKeeps mMindStep mAt mWhat mWhole mIsBroken u.2.1 u.2.2) t.heap) (va_A (wdX8_see cI cJ cT cII cJJ ad mN mStep mSeen mPlans mBooks mTexted mIsKept mSpot mKeeps mMindStep mAt mWhat mWhole mIsBroken mSeenWho mSeenWhat) sz)) 0 0 (va_A (wdX8_see cI cJ cT cII cJJ ad mN mStep mSeen mPlans mBooks mTexted mIsKept mSpot mKeeps mMindStep mAt mWhat mWhole mIsBroken mSeenWho mSeenWhat) sz) := by
  refine Met.ofW (cc := cX8_see) (maxL := 3) (ret := (some .int)) (by decide) rfl ?_
  intro p e s m args below meth c s₁ B hml hv
  obtain ⟨rfl, hsz, hP, hK, hD0⟩ := hv
  have hx := B.exec
  have hb := B.bytes
  have hr := B.returns
  have hts := atoms_spec (ws := wsX8_see) B.pre
  have hown : s.vm.findClass RX8 = some m.cls := findClass_of_methodNamed B.named
  have hlocks := B.notSynchronized
  subst hsz
  have hD := hD0.self (sz := s.heap.size)
  generalize hAe : va_A (wdX8_see cI cJ cT cII cJJ ad mN mStep mSeen mPlans mBooks mTexted mIsKept mSpot mKeeps mMindStep mAt mWhat mWhole mIsBroken mSeenWho mSeenWhat) s.heap.size = A at hD ⊢
  have hA : ∀ q : Nat, s.heap.size ≤ q → A q := fun q h => by rw [← hAe]; exact Or.inr h
  have hS : va_S A s.heap s.heap [] := va_S.rf
  have hl := lv_entry ([.ref (ad 0), .int a1, .int a2]) (n := 3) (Nat.le_of_ble_eq_true rfl)
  rw [lg_entry_eq]
  generalize (lg_sl ([.ref (ad 0), .int a1, .int a2]) ++ List.replicate (3 - (lg_sl ([.ref (ad 0), .int a1, .int a2])).length) Slot.unset).toArray = ls at hl ⊢
  have hl : lv_has ls 3 [(0, .ref (ad 0)), (1, .int a1), (2, .int a2)] := hl
  unfold wpX8_see at hw
  refine lv_iload_n hx hb dX8_see_0 rfl (lv_at hl 1 rfl) ?_
  refine lv_iconst (v := (-1)) hx hb dX8_see_1 (by decide) ?_
  refine lv_icmp_ne (tgt := 12) hx hb dX8_see_2 (by decide) (fun c1 => ?_) (fun c1 => ?_)
  · have hw := hw.1 c1
    refine lv_aload_n hx hb dX8_see_12 rfl (lv_at hl 0 rfl) ?_
    refine lv_iload_n hx hb dX8_see_13 rfl (lv_at hl 1 rfl) ?_
    refine lv_iload_n hx hb dX8_see_14 rfl (lv_at hl 2 rfl) ?_
    refine bw_pvi (wc := (wdX8_isPair cI cJ cT cII cJJ ad mN mStep mSeen mPlans mBooks mTexted mIsKept mSpot mKeeps mMindStep mAt mWhat mWhole mIsBroken)) (As := [.int a1, .int a2]) (rest := []) ⟨hx, hb, hml, hown, hts⟩ (mX8_isPair l dC dI cI cJ cT cII cJJ ad mN mStep mSeen mPlans mBooks mTexted mIsKept mSpot mKeeps mMindStep mAt mWhat mWhole mIsBroken a1 a2 _ hw) (cwV 2 hts gX8_see_X8_isPair rfl rfl rfl hdX8_isPair ⟨Nat.le_of_ble_eq_true rfl, Nat.le_of_ble_eq_true rfl⟩) hK hP [0] rfl rfl rfl rfl rfl hl.1 rfl (Nat.le_of_ble_eq_true rfl) ⟨Nat.le_of_ble_eq_true rfl, Nat.le_of_ble_eq_true rfl⟩ dX8_see_15 (fun r2 hw => ?_)
    refine lv_if_ne (tgt := 23) hx hb dX8_see_18 (by decide) (fun c3 => ?_) (fun c3 => ?_)
    · have hw := hw.1 c3
      refine lv_aload_n hx hb dX8_see_23 rfl (lv_at hl 0 rfl) ?_
      refine va_get (D := (dC, dI)) (ci := 8) (v := .int mSeen) (C := RX8) (T := TX8) (N := 36) hx hb hts (fun w h => List.mem_cons_of_mem _ (List.mem_append_right _ h)) hown hK hP 0 rfl rfl 12 (by decide) (hts (.fieldLink RX8 111 "BidMarketModel" "seen" "I") (List.mem_of_getElem? (i := 1) rfl)) (fun _ h9 => h9) rfl dX8_see_24 ?_
      refine lv_iconst (v := 5) hx hb dX8_see_27 (by decide) ?_
      refine lv_icmp_ne (tgt := 34) hx hb dX8_see_28 (by decide) (fun c4 => ?_) (fun c4 => ?_)
      · have hw := hw.1 c4
        refine lv_aload_n hx hb dX8_see_34 rfl (lv_at hl 0 rfl) ?_
        refine va_get (D := (dC, dI)) (ci := 8) (v := .ref (ad 5)) (C := RX8) (T := TX8) (N := 36) hx hb hts (fun w h => List.mem_cons_of_mem _ (List.mem_append_right _ h)) hown hK hP 0 rfl rfl 6 (by decide) (hts (.fieldLink RX8 31 "BidMarketModel" "seenWho" "[I") (List.mem_of_getElem? (i := 2) rfl)) (fun _ h9 => h9) rfl dX8_see_35 ?_
        refine lv_aload_n hx hb dX8_see_38 rfl (lv_at hl 0 rfl) ?_
        refine va_get (D := (dC, dI)) (ci := 8) (v := .int mSeen) (C := RX8) (T := TX8) (N := 36) hx hb hts (fun w h => List.mem_cons_of_mem _ (List.mem_append_right _ h)) hown hK hP 0 rfl rfl 12 (by decide) (hts (.fieldLink RX8 111 "BidMarketModel" "seen" "I") (List.mem_of_getElem? (i := 1) rfl)) (fun _ h9 => h9) rfl dX8_see_39 ?_
        refine lv_iload_n hx hb dX8_see_42 rfl (lv_at hl 1 rfl) ?_
        have h5 := hw.1
        have hw := hw.2
        refine va_iast hx hb hK hP hD hS 1 0 rfl rfl h5 dX8_see_43 (fun H locs hP hD hS => ?_)
        have hP : va_P (dC, dI) vwCl (wdX8_see cI cJ cT cII cJJ ad mN mStep mSeen mPlans mBooks mTexted mIsKept mSpot mKeeps mMindStep mAt mWhat mWhole mIsBroken (upd mSeenWho mSeen.toNatClampNeg a1) mSeenWhat) H := hP
        have hD : va_D A (wdX8_see cI cJ cT cII cJJ ad mN mStep mSeen mPlans mBooks mTexted mIsKept mSpot mKeeps mMindStep mAt mWhat mWhole mIsBroken (upd mSeenWho mSeen.toNatClampNeg a1) mSeenWhat) := hD
        refine lv_aload_n hx hb dX8_see_44 rfl (lv_at hl 0 rfl) ?_
        refine va_get (D := (dC, dI)) (ci := 8) (v := .ref (ad 6)) (C := RX8) (T := TX8) (N := 36) hx hb hts (fun w h => List.mem_cons_of_mem _ (List.mem_append_right _ h)) hown hK hP 0 rfl rfl 7 (by decide) (hts (.fieldLink RX8 34 "BidMarketModel" "seenWhat" "[I") (List.mem_of_getElem? (i := 3) rfl)) (fun _ h9 => h9) rfl dX8_see_45 ?_
        refine lv_aload_n hx hb dX8_see_48 rfl (lv_at hl 0 rfl) ?_
        refine va_get (D := (dC, dI)) (ci := 8) (v := .int mSeen) (C := RX8) (T := TX8) (N := 36) hx hb hts (fun w h => List.mem_cons_of_mem _ (List.mem_append_right _ h)) hown hK hP 0 rfl rfl 12 (by decide) (hts (.fieldLink RX8 111 "BidMarketModel" "seen" "I") (List.mem_of_getElem? (i := 1) rfl)) (fun _ h9 => h9) rfl dX8_see_49 ?_
        refine lv_iload_n hx hb dX8_see_52 rfl (lv_at hl 2 rfl) ?_
        have h6 := hw.1
        have hw := hw.2
        refine va_iast hx hb hK hP hD hS 2 0 rfl rfl h6 dX8_see_53 (fun H locs hP hD hS => ?_)
        have hP : va_P (dC, dI) vwCl (wdX8_see cI cJ cT cII cJJ ad mN mStep mSeen mPlans mBooks mTexted mIsKept mSpot mKeeps mMindStep mAt mWhat mWhole mIsBroken (upd mSeenWho mSeen.toNatClampNeg a1) (upd mSeenWhat mSeen.toNatClampNeg a2)) H := hP
        have hD : va_D A (wdX8_see cI cJ cT cII cJJ ad mN mStep mSeen mPlans mBooks mTexted mIsKept mSpot mKeeps mMindStep mAt mWhat mWhole mIsBroken (upd mSeenWho mSeen.toNatClampNeg a1) (upd mSeenWhat mSeen.toNatClampNeg a2)) := hD
        refine lv_aload_n hx hb dX8_see_54 rfl (lv_at hl 0 rfl) ?_
        refine lv_dup hx hb dX8_see_55 rfl ?_
        refine va_get (D := (dC, dI)) (ci := 8) (v := .int mSeen) (C := RX8) (T := TX8) (N := 36) hx hb hts (fun w h => List.mem_cons_of_mem _ (List.mem_append_right _ h)) hown hK hP 0 rfl rfl 12 (by decide) (hts (.fieldLink RX8 111 "BidMarketModel" "seen" "I") (List.mem_of_getElem? (i := 1) rfl)) (fun _ h9 => h9) rfl dX8_see_56 ?_
        refine lv_iconst (v := 1) hx hb dX8_see_59 (by decide) ?_
        refine lv_iadd hx hb dX8_see_60 ?_
        refine va_put (D := (dC, dI)) (ci := 8) (v := .int (mSeen + 1)) (ty := .int) (C := RX8) (T := TX8) (N := 36) hx hb hts (fun w h => List.mem_cons_of_mem _ (List.mem_append_right _ h)) tyX8 tyX8_ok nmX8 hown hK hP hD hS 0 rfl rfl 12 (by decide) (hts (.fieldLink RX8 111 "BidMarketModel" "seen" "I") (List.mem_of_getElem? (i := 1) rfl)) (fun _ h9 => h9) rfl (by decide +kernel) rfl rfl (Nat.le_of_ble_eq_true rfl) dX8_see_61 (fun H locs hP hD hS => ?_)
        have hP : va_P (dC, dI) vwCl (wdX8_see cI cJ cT cII cJJ ad mN mStep (mSeen + 1) mPlans mBooks mTexted mIsKept mSpot mKeeps mMindStep mAt mWhat mWhole mIsBroken (upd mSeenWho mSeen.toNatClampNeg a1) (upd mSeenWhat mSeen.toNatClampNeg a2)) H := hP
        have hD : va_D A (wdX8_see cI cJ cT cII cJJ ad mN mStep (mSeen + 1) mPlans mBooks mTexted mIsKept mSpot mKeeps mMindStep mAt mWhat mWhole mIsBroken (upd mSeenWho mSeen.toNatClampNeg a1) (upd mSeenWhat mSeen.toNatClampNeg a2)) := hD
        refine lv_aload_n hx hb dX8_see_64 rfl (lv_at hl 0 rfl) ?_
        refine va_get (D := (dC, dI)) (ci := 8) (v := .int (mSeen + 1)) (C := RX8) (T := TX8) (N := 36) hx hb hts (fun w h => List.mem_cons_of_mem _ (List.mem_append_right _ h)) hown hK hP 0 rfl rfl 12 (by decide) (hts (.fieldLink RX8 111 "BidMarketModel" "seen" "I") (List.mem_of_getElem? (i := 1) rfl)) (fun _ h9 => h9) rfl dX8_see_65 ?_
        exact W.iret (v := mSeen + 1) hx hb hr (fun t ht hW => ⟨⟨mSeen + 1, (mSeen + 1, upd mSeenWho mSeen.toNatClampNeg a1, upd mSeenWhat mSeen.toNatClampNeg a2), rfl, hw, by show va_P _ _ _ t.heap; rw [ht]; exact hP⟩, hS.F ht⟩) hS.2.2 dX8_see_68
      · have hw := hw.2 c4
        refine lv_bipush (v := (-4)) hx hb dX8_see_31 (by decide) ?_
        exact W.iret (v := (-4)) hx hb hr (fun t ht hW => ⟨⟨(-4), (mSeen, mSeenWho, mSeenWhat), rfl, hw, by show va_P _ _ _ t.heap; rw [ht]; exact hP⟩, hS.F ht⟩) hS.2.2 dX8_see_33
    · have hw := hw.2 c3
      refine lv_iconst (v := (-1)) hx hb dX8_see_21 (by decide) ?_
      exact W.iret (v := (-1)) hx hb hr (fun t ht hW => ⟨⟨(-1), (mSeen, mSeenWho, mSeenWhat), rfl, hw, by show va_P _ _ _ t.heap; rw [ht]; exact hP⟩, hS.F ht⟩) hS.2.2 dX8_see_22
  · have hw := hw.2 c1
    refine lv_aload_n hx hb dX8_see_5 rfl (lv_at hl 0 rfl) ?_
    refine lv_iconst (v := 0) hx hb dX8_see_6 (by decide) ?_
    refine va_put (D := (dC, dI)) (ci := 8) (v := .int 0) (ty := .int) (C := RX8) (T := TX8) (N := 36) hx hb hts (fun w h => List.mem_cons_of_mem _ (List.mem_append_right _ h)) tyX8 tyX8_ok nmX8 hown hK hP hD hS 0 rfl rfl 12 (by decide) (hts (.fieldLink RX8 111 "BidMarketModel" "seen" "I") (List.mem_of_getElem? (i := 1) rfl)) (fun _ h9 => h9) rfl (by decide +kernel) rfl rfl (Nat.le_of_ble_eq_true rfl) dX8_see_7 (fun H locs hP hD hS => ?_)
    have hP : va_P (dC, dI) vwCl (wdX8_see cI cJ cT cII cJJ ad mN mStep 0 mPlans mBooks mTexted mIsKept mSpot mKeeps mMindStep mAt mWhat mWhole mIsBroken mSeenWho mSeenWhat) H := hP
    have hD : va_D A (wdX8_see cI cJ cT cII cJJ ad mN mStep 0 mPlans mBooks mTexted mIsKept mSpot mKeeps mMindStep mAt mWhat mWhole mIsBroken mSeenWho mSeenWhat) := hD
    refine lv_iconst (v := 0) hx hb dX8_see_10 (by decide) ?_
    exact W.iret (v := 0) hx hb hr (fun t ht hW => ⟨⟨0, (0, mSeenWho, mSeenWhat), rfl, hw, by show va_P _ _ _ t.heap; rw [ht]; exact hP⟩, hS.F ht⟩) hS.2.2 dX8_see_11
set_option maxHeartbeats 4000000 in
set_option maxRecDepth 100000 in
theorem mX8_isAllSeen (l : Launch) (dC : Nat → ClassId) (dI : Nat → Nat → Nat) (cI cJ cT cII cJJ : ClassId) (ad : Nat → Nat) (mN : Int32) (mStep : Int32) (mSeen : Int32) (mPlans : Int32) (mBooks : Int32) (mTexted : Int32) (mIsKept : Int32) (mSpot : Int32) (mKeeps : Int32) (mMindStep : Int32) (mAt : Int32) (mWhat : Int32) (mWhole : Int32) (mIsBroken : Int32) (mHas : Nat → Int32) (mSeenWho : Nat → Int32) (mSeenWhat : Nat → Int32) (Post : Int32 → Prop) (hw : wpX8_isAllSeen mSeen mHas mSeenWho mSeenWhat Post) : Met l yX8_isAllSeen wsX8_isAllSeen ({ frames := 0, cells := 0, slots := 0, locals := 0 } : Room) (va_Pc [.ref (ad 0)] (fun U => va_P (dC, dI) vwCl (wdX8_isAllSeen cI cJ cT cII cJJ ad mN mStep mSeen mPlans mBooks mTexted mIsKept mSpot mKeeps mMindStep mAt mWhat mWhole mIsBroken mHas mSeenWho mSeenWhat) U.heap ∧ va_K (dC, dI) vwCl (bw_tys cI cJ cT cII cJJ) U)) (vp_Si Post) 0 0 (fun _ => False) := by
  refine Met.ofW (cc := cX8_isAllSeen) (maxL := 2) (ret := (some .boolean)) (by decide) rfl ?_
  intro p e s m args below meth c s₁ B hml hv
  obtain ⟨rfl, hP, hK⟩ := hv
  have hx := B.exec
  have hb := B.bytes
  have hr := B.returns
  have hts := atoms_spec (ws := wsX8_isAllSeen) B.pre
  have hown : s.vm.findClass RX8 = some m.cls := findClass_of_methodNamed B.named
  have hlocks := B.notSynchronized
  have hl := lv_entry ([.ref (ad 0)]) (n := 2) (Nat.le_of_ble_eq_true rfl)
  rw [lg_entry_eq]
  generalize (lg_sl ([.ref (ad 0)]) ++ List.replicate (2 - (lg_sl ([.ref (ad 0)])).length) Slot.unset).toArray = ls at hl ⊢
  have hl : lv_has ls 2 [(0, .ref (ad 0))] := hl
  have kB2 : ∀ f : Nat, ∀ (v1 : Int32), ∀ ls : Array Slot, lv_has ls 2 [(0, .ref (ad 0)), (1, .int v1)] → wpX8_isAllSeen_B2 mSeen mHas mSeenWho mSeenWhat Post f v1 → W p l e (headSpec wsX8_isAllSeen ({ frames := 0, cells := 0, slots := 0, locals := 0 } : Room)).room s m ([.ref (ad 0)] : List Value).toArray below meth c s.heap [] 0 0 (MQ below (vp_Si Post) ([.ref (ad 0)] : List Value).toArray s 0 0 (fun _ => False)) (F0 m 2 ls []) := by
    intro  f
    induction f with
    | zero => intro v1 ls hl hw; exact (show False from hw).elim
    | succ f ih =>
      intro v1 ls hl hw
      rw [wpX8_isAllSeen_B2] at hw
      refine lv_iload_n hx hb dX8_isAllSeen_2 rfl (lv_at hl 1 rfl) ?_
      refine lv_aload_n hx hb dX8_isAllSeen_3 rfl (lv_at hl 0 rfl) ?_
      refine va_get (D := (dC, dI)) (ci := 8) (v := .int mSeen) (C := RX8) (T := TX8) (N := 36) hx hb hts (fun w h => List.mem_cons_of_mem _ (List.mem_append_right _ h)) hown hK hP 0 rfl rfl 12 (by decide) (hts (.fieldLink RX8 111 "BidMarketModel" "seen" "I") (List.mem_of_getElem? (i := 1) rfl)) (fun _ h9 => h9) rfl dX8_isAllSeen_4 ?_
      refine lv_icmp_ge (tgt := 38) hx hb dX8_isAllSeen_7 (by decide) (fun c1 => ?_) (fun c1 => ?_)
      · have hw := hw.1 c1
        refine lv_iconst (v := 1) hx hb dX8_isAllSeen_38 (by decide) ?_
        exact W.zret (v := 1) hx hb hr rfl (fun t ht hW => ⟨1, rfl, hw, ht⟩) (fun _ h => by cases h) dX8_isAllSeen_39
      · have hw := hw.2 c1
        refine lv_aload_n hx hb dX8_isAllSeen_10 rfl (lv_at hl 0 rfl) ?_
        refine va_get (D := (dC, dI)) (ci := 8) (v := .ref (ad 2)) (C := RX8) (T := TX8) (N := 36) hx hb hts (fun w h => List.mem_cons_of_mem _ (List.mem_append_right _ h)) hown hK hP 0 rfl rfl 3 (by decide) (hts (.fieldLink RX8 22 "BidMarketModel" "has" "[I") (List.mem_of_getElem? (i := 2) rfl)) (fun _ h9 => h9) rfl dX8_isAllSeen_11 ?_
        refine lv_aload_n hx hb dX8_isAllSeen_14 rfl (lv_at hl 0 rfl) ?_
        refine va_get (D := (dC, dI)) (ci := 8) (v := .ref (ad 5)) (C := RX8) (T := TX8) (N := 36) hx hb hts (fun w h => List.mem_cons_of_mem _ (List.mem_append_right _ h)) hown hK hP 0 rfl rfl 6 (by decide) (hts (.fieldLink RX8 31 "BidMarketModel" "seenWho" "[I") (List.mem_of_getElem? (i := 3) rfl)) (fun _ h9 => h9) rfl dX8_isAllSeen_15 ?_
        refine lv_iload_n hx hb dX8_isAllSeen_18 rfl (lv_at hl 1 rfl) ?_
        have h2 := hw.1
        have hw := hw.2
        refine va_iald hx hb hK hP 2 0 rfl rfl h2 dX8_isAllSeen_19 ?_
        have h3 := hw.1
        have hw := hw.2
        refine va_iald hx hb hK hP 1 0 rfl rfl h3 dX8_isAllSeen_20 ?_
        refine lv_aload_n hx hb dX8_isAllSeen_21 rfl (lv_at hl 0 rfl) ?_
        refine va_get (D := (dC, dI)) (ci := 8) (v := .ref (ad 6)) (C := RX8) (T := TX8) (N := 36) hx hb hts (fun w h => List.mem_cons_of_mem _ (List.mem_append_right _ h)) hown hK hP 0 rfl rfl 7 (by decide) (hts (.fieldLink RX8 34 "BidMarketModel" "seenWhat" "[I") (List.mem_of_getElem? (i := 4) rfl)) (fun _ h9 => h9) rfl dX8_isAllSeen_22 ?_
        refine lv_iload_n hx hb dX8_isAllSeen_25 rfl (lv_at hl 1 rfl) ?_
        have h4 := hw.1
        have hw := hw.2
        refine va_iald hx hb hK hP 3 0 rfl rfl h4 dX8_isAllSeen_26 ?_
        refine lv_icmp_eq (tgt := 32) hx hb dX8_isAllSeen_27 (by decide) (fun c5 => ?_) (fun c5 => ?_)
        · have hw := hw.1 c5
          obtain ⟨x6, ex6⟩ : ∃ y : Int32, y = v1 + 1 := ⟨_, rfl⟩
          have hw := hw x6 ex6
          refine lv_iinc (v := x6) (lv' := [(1, .int x6), (0, .ref (ad 0))]) hx hb dX8_isAllSeen_32 hl (k := 1) rfl (by rw [ex6]; rfl) (by decide) rfl (fun ls hl => ?_)
          refine lv_goto (tgt := 2) hx hb dX8_isAllSeen_35 (by decide) ?_
          exact ih x6 ls (lv_sub hl [1, 0] rfl) hw
        · have hw := hw.2 c5
          refine lv_iconst (v := 0) hx hb dX8_isAllSeen_30 (by decide) ?_
          exact W.zret (v := 0) hx hb hr rfl (fun t ht hW => ⟨0, rfl, hw, ht⟩) (fun _ h => by cases h) dX8_isAllSeen_31
  unfold wpX8_isAllSeen at hw
  refine lv_iconst (v := 0) hx hb dX8_isAllSeen_0 (by decide) ?_
  refine lv_istore_n (lv' := [(1, .int 0), (0, .ref (ad 0))]) hx hb dX8_isAllSeen_1 rfl hl (by decide) rfl (fun ls hl => ?_)
  obtain ⟨f1, hw⟩ := hw
  exact kB2 f1 0 ls (lv_sub hl [1, 0] rfl) hw
set_option maxHeartbeats 4000000 in
set_option maxRecDepth 100000 in
theorem mX8_triesAuction (l : Launch) (dC : Nat → ClassId) (dI : Nat → Nat → Nat) (cI cJ cT cII cJJ : ClassId) (ad : Nat → Nat) (sz : Nat) (mN : Int32) (mStep : Int32) (mSeen : Int32) (mPlans : Int32) (mBooks : Int32) (mTexted : Int32) (mIsKept : Int32) (mSpot : Int32) (mKeeps : Int32) (mMindStep : Int32) (mAt : Int32) (mWhat : Int32) (mWhole : Int32) (mIsBroken : Int32) (mWorth : Nat → Int32) (mHas : Nat → Int32) (mOwner : Nat → Int32) (mPrice : Nat → Int32) (mWrong : Nat → Int32) (Post : Int32 → (Nat → Int32) → (Nat → Int32) → (Nat → Int32) → (Nat → Int32) → Prop) (hw : wpX8_triesAuction mN mStep mIsBroken mWorth mHas mOwner mPrice mWrong Post) : Met l yX8_triesAuction wsX8_triesAuction ({ frames := 5, cells := 0, slots := 0, locals := 113 } : Room) (va_Pc [.ref (ad 0)] (fun U => U.heap.size = sz ∧ va_P (dC, dI) vwCl (wdX8_triesAuction cI cJ cT cII cJJ ad mN mStep mSeen mPlans mBooks mTexted mIsKept mSpot mKeeps mMindStep mAt mWhat mWhole mIsBroken mWorth mHas mOwner mPrice mWrong) U.heap ∧ va_K (dC, dI) vwCl (bw_tys cI cJ cT cII cJJ) U ∧ va_D (fun _ => True) (wdX8_triesAuction cI cJ cT cII cJJ ad mN mStep mSeen mPlans mBooks mTexted mIsKept mSpot mKeeps mMindStep mAt mWhat mWhole mIsBroken mWorth mHas mOwner mPrice mWrong))) (va_Qv (fun (u : Int32 × (Nat → Int32) × (Nat → Int32) × (Nat → Int32) × (Nat → Int32)) => Post u.1 u.2.1 u.2.2.1 u.2.2.2.1 u.2.2.2.2) (fun (u : Int32 × (Nat → Int32) × (Nat → Int32) × (Nat → Int32) × (Nat → Int32)) t => va_P (dC, dI) vwCl (wdX8_triesAuction cI cJ cT cII cJJ ad mN mStep mSeen mPlans mBooks mTexted mIsKept mSpot mKeeps mMindStep mAt mWhat mWhole u.1 mWorth u.2.1 u.2.2.1 u.2.2.2.1 u.2.2.2.2) t.heap) (va_A (wdX8_triesAuction cI cJ cT cII cJJ ad mN mStep mSeen mPlans mBooks mTexted mIsKept mSpot mKeeps mMindStep mAt mWhat mWhole mIsBroken mWorth mHas mOwner mPrice mWrong) sz)) 0 0 (va_A (wdX8_triesAuction cI cJ cT cII cJJ ad mN mStep mSeen mPlans mBooks mTexted mIsKept mSpot mKeeps mMindStep mAt mWhat mWhole mIsBroken mWorth mHas mOwner mPrice mWrong) sz) := by
  refine Met.ofW (cc := cX8_triesAuction) (maxL := 1) (ret := none) (by decide) rfl ?_
  intro p e s m args below meth c s₁ B hml hv
  obtain ⟨rfl, hsz, hP, hK, hD0⟩ := hv
  have hx := B.exec
  have hb := B.bytes
  have hr := B.returns
  have hts := atoms_spec (ws := wsX8_triesAuction) B.pre
  have hown : s.vm.findClass RX8 = some m.cls := findClass_of_methodNamed B.named
  have hlocks := B.notSynchronized
  subst hsz
  have hD := hD0.self (sz := s.heap.size)
  generalize hAe : va_A (wdX8_triesAuction cI cJ cT cII cJJ ad mN mStep mSeen mPlans mBooks mTexted mIsKept mSpot mKeeps mMindStep mAt mWhat mWhole mIsBroken mWorth mHas mOwner mPrice mWrong) s.heap.size = A at hD ⊢
  have hA : ∀ q : Nat, s.heap.size ≤ q → A q := fun q h => by rw [← hAe]; exact Or.inr h
  have hS : va_S A s.heap s.heap [] := va_S.rf
  have hl := lv_entry ([.ref (ad 0)]) (n := 1) (Nat.le_of_ble_eq_true rfl)
  rw [lg_entry_eq]
  generalize (lg_sl ([.ref (ad 0)]) ++ List.replicate (1 - (lg_sl ([.ref (ad 0)])).length) Slot.unset).toArray = ls at hl ⊢
  have hl : lv_has ls 1 [(0, .ref (ad 0))] := hl
  unfold wpX8_triesAuction at hw
  refine lv_aload_n hx hb dX8_triesAuction_0 rfl (lv_at hl 0 rfl) ?_
  refine bw_wvi (wc := (wdX8_empties cI cJ cT cII cJJ ad mN mStep mSeen mPlans mBooks mTexted mIsKept mSpot mKeeps mMindStep mAt mWhat mWhole mIsBroken mHas mOwner)) (w1 := (fun (u : (Nat → Int32) × (Nat → Int32)) => wdX8_empties cI cJ cT cII cJJ ad mN mStep mSeen mPlans mBooks mTexted mIsKept mSpot mKeeps mMindStep mAt mWhat mWhole mIsBroken u.1 u.2)) (As := []) (rest := []) ⟨hx, hb, hml, hown, hts⟩ (mX8_empties l dC dI cI cJ cT cII cJJ ad _ mN mStep mSeen mPlans mBooks mTexted mIsKept mSpot mKeeps mMindStep mAt mWhat mWhole mIsBroken mHas mOwner _ hw) (cwV 0 hts gX8_triesAuction_X8_empties rfl rfl rfl hdX8_empties ⟨Nat.le_of_ble_eq_true rfl, Nat.le_of_ble_eq_true rfl⟩) hK hP hD hS hA [0, 2, 3] rfl (by decide) (fun _ => rfl) rfl rfl rfl rfl hl.1 rfl (Nat.le_of_ble_eq_true rfl) ⟨Nat.le_of_ble_eq_true rfl, Nat.le_of_ble_eq_true rfl⟩ dX8_triesAuction_1 (fun r1 u H locs hw hP hD hS => ?_)
  obtain ⟨y2, y3⟩ := u
  try dsimp only at hw
  have hP : va_P (dC, dI) vwCl (wdX8_triesAuction cI cJ cT cII cJJ ad mN mStep mSeen mPlans mBooks mTexted mIsKept mSpot mKeeps mMindStep mAt mWhat mWhole mIsBroken mWorth y2 y3 mPrice mWrong) H := hP
  have hD : va_D A (wdX8_triesAuction cI cJ cT cII cJJ ad mN mStep mSeen mPlans mBooks mTexted mIsKept mSpot mKeeps mMindStep mAt mWhat mWhole mIsBroken mWorth y2 y3 mPrice mWrong) := hD
  refine lv_pop hx hb dX8_triesAuction_4 rfl ?_
  refine lv_aload_n hx hb dX8_triesAuction_5 rfl (lv_at hl 0 rfl) ?_
  refine bw_wvv (wc := (wdX8_free cI cJ cT cII cJJ ad mN mStep mSeen mPlans mBooks mTexted mIsKept mSpot mKeeps mMindStep mAt mWhat mWhole mIsBroken mPrice)) (w1 := (fun (u : (Nat → Int32)) => wdX8_free cI cJ cT cII cJJ ad mN mStep mSeen mPlans mBooks mTexted mIsKept mSpot mKeeps mMindStep mAt mWhat mWhole mIsBroken u)) (As := []) (rest := []) ⟨hx, hb, hml, hown, hts⟩ (mX8_free l dC dI cI cJ cT cII cJJ ad _ mN mStep mSeen mPlans mBooks mTexted mIsKept mSpot mKeeps mMindStep mAt mWhat mWhole mIsBroken mPrice _ hw) (cwV 0 hts gX8_triesAuction_X8_free rfl rfl rfl hdX8_free ⟨Nat.le_of_ble_eq_true rfl, Nat.le_of_ble_eq_true rfl⟩) hK hP hD hS hA [0, 4] rfl (by decide) (fun _ => rfl) rfl rfl rfl rfl hl.1 rfl (Nat.le_of_ble_eq_true rfl) ⟨Nat.le_of_ble_eq_true rfl, Nat.le_of_ble_eq_true rfl⟩ dX8_triesAuction_6 (fun u H locs hw hP hD hS => ?_)
  obtain ⟨y4, rfl⟩ : ∃ z, z = u := ⟨_, rfl⟩
  try dsimp only at hw
  have hP : va_P (dC, dI) vwCl (wdX8_triesAuction cI cJ cT cII cJJ ad mN mStep mSeen mPlans mBooks mTexted mIsKept mSpot mKeeps mMindStep mAt mWhat mWhole mIsBroken mWorth y2 y3 y4 mWrong) H := hP
  have hD : va_D A (wdX8_triesAuction cI cJ cT cII cJJ ad mN mStep mSeen mPlans mBooks mTexted mIsKept mSpot mKeeps mMindStep mAt mWhat mWhole mIsBroken mWorth y2 y3 y4 mWrong) := hD
  refine lv_aload_n hx hb dX8_triesAuction_9 rfl (lv_at hl 0 rfl) ?_
  refine bw_wvi (wc := (wdX8_bidsAll cI cJ cT cII cJJ ad mN mStep mSeen mPlans mBooks mTexted mIsKept mSpot mKeeps mMindStep mAt mWhat mWhole mIsBroken mWorth y2 y3 y4 mWrong)) (w1 := (fun (u : Int32 × (Nat → Int32) × (Nat → Int32) × (Nat → Int32) × (Nat → Int32)) => wdX8_bidsAll cI cJ cT cII cJJ ad mN mStep mSeen mPlans mBooks mTexted mIsKept mSpot mKeeps mMindStep mAt mWhat mWhole u.1 mWorth u.2.1 u.2.2.1 u.2.2.2.1 u.2.2.2.2)) (As := []) (rest := []) ⟨hx, hb, hml, hown, hts⟩ (mX8_bidsAll l dC dI cI cJ cT cII cJJ ad _ mN mStep mSeen mPlans mBooks mTexted mIsKept mSpot mKeeps mMindStep mAt mWhat mWhole mIsBroken mWorth y2 y3 y4 mWrong _ hw) (cwV 0 hts gX8_triesAuction_X8_bidsAll rfl rfl rfl hdX8_bidsAll ⟨Nat.le_of_ble_eq_true rfl, Nat.le_of_ble_eq_true rfl⟩) hK hP hD hS hA [0, 1, 2, 3, 4, 5] rfl (by decide) (fun _ => rfl) rfl rfl rfl rfl hl.1 rfl (Nat.le_of_ble_eq_true rfl) ⟨Nat.le_of_ble_eq_true rfl, Nat.le_of_ble_eq_true rfl⟩ dX8_triesAuction_10 (fun r5 u H locs hw hP hD hS => ?_)
  obtain ⟨y6, y7, y8, y9, y10⟩ := u
  try dsimp only at hw
  have hP : va_P (dC, dI) vwCl (wdX8_triesAuction cI cJ cT cII cJJ ad mN mStep mSeen mPlans mBooks mTexted mIsKept mSpot mKeeps mMindStep mAt mWhat mWhole y6 mWorth y7 y8 y9 y10) H := hP
  have hD : va_D A (wdX8_triesAuction cI cJ cT cII cJJ ad mN mStep mSeen mPlans mBooks mTexted mIsKept mSpot mKeeps mMindStep mAt mWhat mWhole y6 mWorth y7 y8 y9 y10) := hD
  refine lv_pop hx hb dX8_triesAuction_13 rfl ?_
  exact W.vret hx hb hr (fun t ht hW => ⟨⟨(y6, y7, y8, y9, y10), rfl, hw, by show va_P _ _ _ t.heap; rw [ht]; exact hP⟩, hS.F ht⟩) hS.2.2 dX8_triesAuction_14
set_option maxHeartbeats 4000000 in
set_option maxRecDepth 100000 in
theorem mX8_fits (l : Launch) (dC : Nat → ClassId) (dI : Nat → Nat → Nat) (cI cJ cT cII cJJ : ClassId) (ad : Nat → Nat) (sz : Nat) (mN : Int32) (mStep : Int32) (mSeen : Int32) (mPlans : Int32) (mBooks : Int32) (mTexted : Int32) (mIsKept : Int32) (mSpot : Int32) (mKeeps : Int32) (mMindStep : Int32) (mAt : Int32) (mWhat : Int32) (mWhole : Int32) (mIsBroken : Int32) (mWorth : Nat → Int32) (mHas : Nat → Int32) (mOwner : Nat → Int32) (mPrice : Nat → Int32) (mSeenWho : Nat → Int32) (mSeenWhat : Nat → Int32) (mWrong : Nat → Int32) (mMindHas : Nat → Int32) (mMindOwner : Nat → Int32) (mMindPrice : Nat → Int32) (mMindWrong : Nat → Int32) (a1 : Int32) (a2 : Int32) (a3 : Int32) (Post : Int32 → Int32 → Int32 → Int32 → (Nat → Int32) → (Nat → Int32) → (Nat → Int32) → (Nat → Int32) → (Nat → Int32) → (Nat → Int32) → (Nat → Int32) → (Nat → Int32) → (Nat → Int32) → Prop) (hw : wpX8_fits mN mStep mSeen mMindStep mIsBroken mWorth mHas mOwner mPrice mSeenWho mSeenWhat mWrong mMindHas mMindOwner mMindPrice mMindWrong a1 a2 a3 Post) : Met l yX8_fits wsX8_fits ({ frames := 6, cells := 0, slots := 0, locals := 133 } : Room) (va_Pc [.ref (ad 0), .int a1, .int a2, .int a3] (fun U => U.heap.size = sz ∧ va_P (dC, dI) vwCl (wdX8_fits cI cJ cT cII cJJ ad mN mStep mSeen mPlans mBooks mTexted mIsKept mSpot mKeeps mMindStep mAt mWhat mWhole mIsBroken mWorth mHas mOwner mPrice mSeenWho mSeenWhat mWrong mMindHas mMindOwner mMindPrice mMindWrong) U.heap ∧ va_K (dC, dI) vwCl (bw_tys cI cJ cT cII cJJ) U ∧ va_D (fun _ => True) (wdX8_fits cI cJ cT cII cJJ ad mN mStep mSeen mPlans mBooks mTexted mIsKept mSpot mKeeps mMindStep mAt mWhat mWhole mIsBroken mWorth mHas mOwner mPrice mSeenWho mSeenWhat mWrong mMindHas mMindOwner mMindPrice mMindWrong))) (va_Qi (fun (r : Int32) (u : Int32 × Int32 × Int32 × (Nat → Int32) × (Nat → Int32) × (Nat → Int32) × (Nat → Int32) × (Nat → Int32) × (Nat → Int32) × (Nat → Int32) × (Nat → Int32) × (Nat → Int32)) => Post r u.1 u.2.1 u.2.2.1 u.2.2.2.1 u.2.2.2.2.1 u.2.2.2.2.2.1 u.2.2.2.2.2.2.1 u.2.2.2.2.2.2.2.1 u.2.2.2.2.2.2.2.2.1 u.2.2.2.2.2.2.2.2.2.1 u.2.2.2.2.2.2.2.2.2.2.1 u.2.2.2.2.2.2.2.2.2.2.2) (fun (u : Int32 × Int32 × Int32 × (Nat → Int32) × (Nat → Int32) × (Nat → Int32) × (Nat → Int32) × (Nat → Int32) × (Nat → Int32) × (Nat → Int32) × (Nat → Int32) × (Nat → Int32)) t => va_P (dC, dI) vwCl (wdX8_fits cI cJ cT cII cJJ ad mN u.1 mSeen mPlans mBooks mTexted mIsKept mSpot mKeeps u.2.1 mAt mWhat mWhole u.2.2.1 u.2.2.2.1 u.2.2.2.2.1 u.2.2.2.2.2.1 u.2.2.2.2.2.2.1 mSeenWho mSeenWhat u.2.2.2.2.2.2.2.1 u.2.2.2.2.2.2.2.2.1 u.2.2.2.2.2.2.2.2.2.1 u.2.2.2.2.2.2.2.2.2.2.1 u.2.2.2.2.2.2.2.2.2.2.2) t.heap) (va_A (wdX8_fits cI cJ cT cII cJJ ad mN mStep mSeen mPlans mBooks mTexted mIsKept mSpot mKeeps mMindStep mAt mWhat mWhole mIsBroken mWorth mHas mOwner mPrice mSeenWho mSeenWhat mWrong mMindHas mMindOwner mMindPrice mMindWrong) sz)) 0 0 (va_A (wdX8_fits cI cJ cT cII cJJ ad mN mStep mSeen mPlans mBooks mTexted mIsKept mSpot mKeeps mMindStep mAt mWhat mWhole mIsBroken mWorth mHas mOwner mPrice mSeenWho mSeenWhat mWrong mMindHas mMindOwner mMindPrice mMindWrong) sz) := by
  refine Met.ofW (cc := cX8_fits) (maxL := 8) (ret := (some .int)) (by decide) rfl ?_
  intro p e s m args below meth c s₁ B hml hv
  obtain ⟨rfl, hsz, hP, hK, hD0⟩ := hv
  have hx := B.exec
  have hb := B.bytes
  have hr := B.returns
  have hts := atoms_spec (ws := wsX8_fits) B.pre
  have hown : s.vm.findClass RX8 = some m.cls := findClass_of_methodNamed B.named
  have hlocks := B.notSynchronized
  subst hsz
  have hD := hD0.self (sz := s.heap.size)
  generalize hAe : va_A (wdX8_fits cI cJ cT cII cJJ ad mN mStep mSeen mPlans mBooks mTexted mIsKept mSpot mKeeps mMindStep mAt mWhat mWhole mIsBroken mWorth mHas mOwner mPrice mSeenWho mSeenWhat mWrong mMindHas mMindOwner mMindPrice mMindWrong) s.heap.size = A at hD ⊢
  have hA : ∀ q : Nat, s.heap.size ≤ q → A q := fun q h => by rw [← hAe]; exact Or.inr h
  have hS : va_S A s.heap s.heap [] := va_S.rf
  have hl := lv_entry ([.ref (ad 0), .int a1, .int a2, .int a3]) (n := 8) (Nat.le_of_ble_eq_true rfl)
  rw [lg_entry_eq]
  generalize (lg_sl ([.ref (ad 0), .int a1, .int a2, .int a3]) ++ List.replicate (8 - (lg_sl ([.ref (ad 0), .int a1, .int a2, .int a3])).length) Slot.unset).toArray = ls at hl ⊢
  have hl : lv_has ls 8 [(0, .ref (ad 0)), (1, .int a1), (2, .int a2), (3, .int a3)] := hl
  have kB102 : ∀ (K49 : Int32 → Int32 → Int32 → Int32 → Int32 → Int32 → Int32 → (Nat → Int32) → (Nat → Int32) → (Nat → Int32) → (Nat → Int32) → (Nat → Int32) → (Nat → Int32) → (Nat → Int32) → (Nat → Int32) → (Nat → Int32) → Prop), (∀ (v4 : Int32) (v5 : Int32) (v6 : Int32) (v7 : Int32) (mStep : Int32) (mMindStep : Int32) (mIsBroken : Int32) (mWorth : Nat → Int32) (mHas : Nat → Int32) (mOwner : Nat → Int32) (mPrice : Nat → Int32) (mWrong : Nat → Int32) (mMindHas : Nat → Int32) (mMindOwner : Nat → Int32) (mMindPrice : Nat → Int32) (mMindWrong : Nat → Int32), ∀ (H : Heap) (locs : List Loc), va_P (dC, dI) vwCl (wdX8_fits cI cJ cT cII cJJ ad mN mStep mSeen mPlans mBooks mTexted mIsKept mSpot mKeeps mMindStep mAt mWhat mWhole mIsBroken mWorth mHas mOwner mPrice mSeenWho mSeenWhat mWrong mMindHas mMindOwner mMindPrice mMindWrong) H → va_D A (wdX8_fits cI cJ cT cII cJJ ad mN mStep mSeen mPlans mBooks mTexted mIsKept mSpot mKeeps mMindStep mAt mWhat mWhole mIsBroken mWorth mHas mOwner mPrice mSeenWho mSeenWhat mWrong mMindHas mMindOwner mMindPrice mMindWrong) → va_S A s.heap H locs → ∀ ls : Array Slot, lv_has ls 8 [(0, .ref (ad 0)), (1, .int a1), (2, .int a2), (3, .int a3), (4, .int v4), (5, .int v5), (6, .int v6), (7, .int v7)] → K49 v4 v5 v6 v7 mStep mMindStep mIsBroken mWorth mHas mOwner mPrice mWrong mMindHas mMindOwner mMindPrice mMindWrong → W p l e (headSpec wsX8_fits ({ frames := 6, cells := 0, slots := 0, locals := 133 } : Room)).room s m ([.ref (ad 0), .int a1, .int a2, .int a3] : List Value).toArray below meth c H locs 0 0 (MQ below (va_Qi (fun (r : Int32) (u : Int32 × Int32 × Int32 × (Nat → Int32) × (Nat → Int32) × (Nat → Int32) × (Nat → Int32) × (Nat → Int32) × (Nat → Int32) × (Nat → Int32) × (Nat → Int32) × (Nat → Int32)) => Post r u.1 u.2.1 u.2.2.1 u.2.2.2.1 u.2.2.2.2.1 u.2.2.2.2.2.1 u.2.2.2.2.2.2.1 u.2.2.2.2.2.2.2.1 u.2.2.2.2.2.2.2.2.1 u.2.2.2.2.2.2.2.2.2.1 u.2.2.2.2.2.2.2.2.2.2.1 u.2.2.2.2.2.2.2.2.2.2.2) (fun (u : Int32 × Int32 × Int32 × (Nat → Int32) × (Nat → Int32) × (Nat → Int32) × (Nat → Int32) × (Nat → Int32) × (Nat → Int32) × (Nat → Int32) × (Nat → Int32) × (Nat → Int32)) t => va_P (dC, dI) vwCl (wdX8_fits cI cJ cT cII cJJ ad mN u.1 mSeen mPlans mBooks mTexted mIsKept mSpot mKeeps u.2.1 mAt mWhat mWhole u.2.2.1 u.2.2.2.1 u.2.2.2.2.1 u.2.2.2.2.2.1 u.2.2.2.2.2.2.1 mSeenWho mSeenWhat u.2.2.2.2.2.2.2.1 u.2.2.2.2.2.2.2.2.1 u.2.2.2.2.2.2.2.2.2.1 u.2.2.2.2.2.2.2.2.2.2.1 u.2.2.2.2.2.2.2.2.2.2.2) t.heap) A) ([.ref (ad 0), .int a1, .int a2, .int a3] : List Value).toArray s 0 0 A) (F0 m 49 ls [])) → ∀ (v4 : Int32) (v5 : Int32) (v7 : Int32) (s0 : Int32) (mStep : Int32) (mMindStep : Int32) (mIsBroken : Int32) (mWorth : Nat → Int32) (mHas : Nat → Int32) (mOwner : Nat → Int32) (mPrice : Nat → Int32) (mWrong : Nat → Int32) (mMindHas : Nat → Int32) (mMindOwner : Nat → Int32) (mMindPrice : Nat → Int32) (mMindWrong : Nat → Int32), ∀ (H : Heap) (locs : List Loc), va_P (dC, dI) vwCl (wdX8_fits cI cJ cT cII cJJ ad mN mStep mSeen mPlans mBooks mTexted mIsKept mSpot mKeeps mMindStep mAt mWhat mWhole mIsBroken mWorth mHas mOwner mPrice mSeenWho mSeenWhat mWrong mMindHas mMindOwner mMindPrice mMindWrong) H → va_D A (wdX8_fits cI cJ cT cII cJJ ad mN mStep mSeen mPlans mBooks mTexted mIsKept mSpot mKeeps mMindStep mAt mWhat mWhole mIsBroken mWorth mHas mOwner mPrice mSeenWho mSeenWhat mWrong mMindHas mMindOwner mMindPrice mMindWrong) → va_S A s.heap H locs → ∀ ls : Array Slot, lv_has ls 8 [(0, .ref (ad 0)), (1, .int a1), (2, .int a2), (3, .int a3), (4, .int v4), (5, .int v5), (7, .int v7)] → wpX8_fits_B102 mN mSeen mSeenWho mSeenWhat a1 a2 a3 K49 Post v4 v5 v7 s0 mStep mMindStep mIsBroken mWorth mHas mOwner mPrice mWrong mMindHas mMindOwner mMindPrice mMindWrong → W p l e (headSpec wsX8_fits ({ frames := 6, cells := 0, slots := 0, locals := 133 } : Room)).room s m ([.ref (ad 0), .int a1, .int a2, .int a3] : List Value).toArray below meth c H locs 0 0 (MQ below (va_Qi (fun (r : Int32) (u : Int32 × Int32 × Int32 × (Nat → Int32) × (Nat → Int32) × (Nat → Int32) × (Nat → Int32) × (Nat → Int32) × (Nat → Int32) × (Nat → Int32) × (Nat → Int32) × (Nat → Int32)) => Post r u.1 u.2.1 u.2.2.1 u.2.2.2.1 u.2.2.2.2.1 u.2.2.2.2.2.1 u.2.2.2.2.2.2.1 u.2.2.2.2.2.2.2.1 u.2.2.2.2.2.2.2.2.1 u.2.2.2.2.2.2.2.2.2.1 u.2.2.2.2.2.2.2.2.2.2.1 u.2.2.2.2.2.2.2.2.2.2.2) (fun (u : Int32 × Int32 × Int32 × (Nat → Int32) × (Nat → Int32) × (Nat → Int32) × (Nat → Int32) × (Nat → Int32) × (Nat → Int32) × (Nat → Int32) × (Nat → Int32) × (Nat → Int32)) t => va_P (dC, dI) vwCl (wdX8_fits cI cJ cT cII cJJ ad mN u.1 mSeen mPlans mBooks mTexted mIsKept mSpot mKeeps u.2.1 mAt mWhat mWhole u.2.2.1 u.2.2.2.1 u.2.2.2.2.1 u.2.2.2.2.2.1 u.2.2.2.2.2.2.1 mSeenWho mSeenWhat u.2.2.2.2.2.2.2.1 u.2.2.2.2.2.2.2.2.1 u.2.2.2.2.2.2.2.2.2.1 u.2.2.2.2.2.2.2.2.2.2.1 u.2.2.2.2.2.2.2.2.2.2.2) t.heap) A) ([.ref (ad 0), .int a1, .int a2, .int a3] : List Value).toArray s 0 0 A) (F0 m 102 ls [.int s0]) := by
    intro K49 hK49 v4 v5 v7 s0 mStep mMindStep mIsBroken mWorth mHas mOwner mPrice mWrong mMindHas mMindOwner mMindPrice mMindWrong H locs hP hD hS ls hl hw
    unfold wpX8_fits_B102 at hw
    refine lv_istore (lv' := [(6, .int s0), (0, .ref (ad 0)), (1, .int a1), (2, .int a2), (3, .int a3), (4, .int v4), (5, .int v5), (7, .int v7)]) hx hb dX8_fits_102 hl (by decide) rfl (fun ls hl => ?_)
    obtain ⟨x32, ex32⟩ : ∃ y : Int32, y = v7 + (-10) := ⟨_, rfl⟩
    have hw := hw x32 ex32
    refine lv_iinc (v := x32) (lv' := [(7, .int x32), (6, .int s0), (0, .ref (ad 0)), (1, .int a1), (2, .int a2), (3, .int a3), (4, .int v4), (5, .int v5)]) hx hb dX8_fits_104 hl (k := 7) rfl (by rw [ex32]; rfl) (by decide) rfl (fun ls hl => ?_)
    refine lv_goto (tgt := 49) hx hb dX8_fits_107 (by decide) ?_
    exact hK49 v4 v5 s0 x32 mStep mMindStep mIsBroken mWorth mHas mOwner mPrice mWrong mMindHas mMindOwner mMindPrice mMindWrong _ _ hP hD hS ls (lv_sub hl [2, 3, 4, 5, 6, 7, 1, 0] rfl) hw
  have kB85 : ∀ (K49 : Int32 → Int32 → Int32 → Int32 → Int32 → Int32 → Int32 → (Nat → Int32) → (Nat → Int32) → (Nat → Int32) → (Nat → Int32) → (Nat → Int32) → (Nat → Int32) → (Nat → Int32) → (Nat → Int32) → (Nat → Int32) → Prop), (∀ (v4 : Int32) (v5 : Int32) (v6 : Int32) (v7 : Int32) (mStep : Int32) (mMindStep : Int32) (mIsBroken : Int32) (mWorth : Nat → Int32) (mHas : Nat → Int32) (mOwner : Nat → Int32) (mPrice : Nat → Int32) (mWrong : Nat → Int32) (mMindHas : Nat → Int32) (mMindOwner : Nat → Int32) (mMindPrice : Nat → Int32) (mMindWrong : Nat → Int32), ∀ (H : Heap) (locs : List Loc), va_P (dC, dI) vwCl (wdX8_fits cI cJ cT cII cJJ ad mN mStep mSeen mPlans mBooks mTexted mIsKept mSpot mKeeps mMindStep mAt mWhat mWhole mIsBroken mWorth mHas mOwner mPrice mSeenWho mSeenWhat mWrong mMindHas mMindOwner mMindPrice mMindWrong) H → va_D A (wdX8_fits cI cJ cT cII cJJ ad mN mStep mSeen mPlans mBooks mTexted mIsKept mSpot mKeeps mMindStep mAt mWhat mWhole mIsBroken mWorth mHas mOwner mPrice mSeenWho mSeenWhat mWrong mMindHas mMindOwner mMindPrice mMindWrong) → va_S A s.heap H locs → ∀ ls : Array Slot, lv_has ls 8 [(0, .ref (ad 0)), (1, .int a1), (2, .int a2), (3, .int a3), (4, .int v4), (5, .int v5), (6, .int v6), (7, .int v7)] → K49 v4 v5 v6 v7 mStep mMindStep mIsBroken mWorth mHas mOwner mPrice mWrong mMindHas mMindOwner mMindPrice mMindWrong → W p l e (headSpec wsX8_fits ({ frames := 6, cells := 0, slots := 0, locals := 133 } : Room)).room s m ([.ref (ad 0), .int a1, .int a2, .int a3] : List Value).toArray below meth c H locs 0 0 (MQ below (va_Qi (fun (r : Int32) (u : Int32 × Int32 × Int32 × (Nat → Int32) × (Nat → Int32) × (Nat → Int32) × (Nat → Int32) × (Nat → Int32) × (Nat → Int32) × (Nat → Int32) × (Nat → Int32) × (Nat → Int32)) => Post r u.1 u.2.1 u.2.2.1 u.2.2.2.1 u.2.2.2.2.1 u.2.2.2.2.2.1 u.2.2.2.2.2.2.1 u.2.2.2.2.2.2.2.1 u.2.2.2.2.2.2.2.2.1 u.2.2.2.2.2.2.2.2.2.1 u.2.2.2.2.2.2.2.2.2.2.1 u.2.2.2.2.2.2.2.2.2.2.2) (fun (u : Int32 × Int32 × Int32 × (Nat → Int32) × (Nat → Int32) × (Nat → Int32) × (Nat → Int32) × (Nat → Int32) × (Nat → Int32) × (Nat → Int32) × (Nat → Int32) × (Nat → Int32)) t => va_P (dC, dI) vwCl (wdX8_fits cI cJ cT cII cJJ ad mN u.1 mSeen mPlans mBooks mTexted mIsKept mSpot mKeeps u.2.1 mAt mWhat mWhole u.2.2.1 u.2.2.2.1 u.2.2.2.2.1 u.2.2.2.2.2.1 u.2.2.2.2.2.2.1 mSeenWho mSeenWhat u.2.2.2.2.2.2.2.1 u.2.2.2.2.2.2.2.2.1 u.2.2.2.2.2.2.2.2.2.1 u.2.2.2.2.2.2.2.2.2.2.1 u.2.2.2.2.2.2.2.2.2.2.2) t.heap) A) ([.ref (ad 0), .int a1, .int a2, .int a3] : List Value).toArray s 0 0 A) (F0 m 49 ls [])) → ∀ (v4 : Int32) (v6 : Int32) (v7 : Int32) (s0 : Int32) (s1 : Int32) (mStep : Int32) (mMindStep : Int32) (mIsBroken : Int32) (mWorth : Nat → Int32) (mHas : Nat → Int32) (mOwner : Nat → Int32) (mPrice : Nat → Int32) (mWrong : Nat → Int32) (mMindHas : Nat → Int32) (mMindOwner : Nat → Int32) (mMindPrice : Nat → Int32) (mMindWrong : Nat → Int32), ∀ (H : Heap) (locs : List Loc), va_P (dC, dI) vwCl (wdX8_fits cI cJ cT cII cJJ ad mN mStep mSeen mPlans mBooks mTexted mIsKept mSpot mKeeps mMindStep mAt mWhat mWhole mIsBroken mWorth mHas mOwner mPrice mSeenWho mSeenWhat mWrong mMindHas mMindOwner mMindPrice mMindWrong) H → va_D A (wdX8_fits cI cJ cT cII cJJ ad mN mStep mSeen mPlans mBooks mTexted mIsKept mSpot mKeeps mMindStep mAt mWhat mWhole mIsBroken mWorth mHas mOwner mPrice mSeenWho mSeenWhat mWrong mMindHas mMindOwner mMindPrice mMindWrong) → va_S A s.heap H locs → ∀ ls : Array Slot, lv_has ls 8 [(0, .ref (ad 0)), (1, .int a1), (2, .int a2), (3, .int a3), (4, .int v4), (6, .int v6), (7, .int v7)] → wpX8_fits_B85 mN mSeen mSeenWho mSeenWhat a1 a2 a3 K49 Post v4 v6 v7 s0 s1 mStep mMindStep mIsBroken mWorth mHas mOwner mPrice mWrong mMindHas mMindOwner mMindPrice mMindWrong → W p l e (headSpec wsX8_fits ({ frames := 6, cells := 0, slots := 0, locals := 133 } : Room)).room s m ([.ref (ad 0), .int a1, .int a2, .int a3] : List Value).toArray below meth c H locs 0 0 (MQ below (va_Qi (fun (r : Int32) (u : Int32 × Int32 × Int32 × (Nat → Int32) × (Nat → Int32) × (Nat → Int32) × (Nat → Int32) × (Nat → Int32) × (Nat → Int32) × (Nat → Int32) × (Nat → Int32) × (Nat → Int32)) => Post r u.1 u.2.1 u.2.2.1 u.2.2.2.1 u.2.2.2.2.1 u.2.2.2.2.2.1 u.2.2.2.2.2.2.1 u.2.2.2.2.2.2.2.1 u.2.2.2.2.2.2.2.2.1 u.2.2.2.2.2.2.2.2.2.1 u.2.2.2.2.2.2.2.2.2.2.1 u.2.2.2.2.2.2.2.2.2.2.2) (fun (u : Int32 × Int32 × Int32 × (Nat → Int32) × (Nat → Int32) × (Nat → Int32) × (Nat → Int32) × (Nat → Int32) × (Nat → Int32) × (Nat → Int32) × (Nat → Int32) × (Nat → Int32)) t => va_P (dC, dI) vwCl (wdX8_fits cI cJ cT cII cJJ ad mN u.1 mSeen mPlans mBooks mTexted mIsKept mSpot mKeeps u.2.1 mAt mWhat mWhole u.2.2.1 u.2.2.2.1 u.2.2.2.2.1 u.2.2.2.2.2.1 u.2.2.2.2.2.2.1 mSeenWho mSeenWhat u.2.2.2.2.2.2.2.1 u.2.2.2.2.2.2.2.2.1 u.2.2.2.2.2.2.2.2.2.1 u.2.2.2.2.2.2.2.2.2.2.1 u.2.2.2.2.2.2.2.2.2.2.2) t.heap) A) ([.ref (ad 0), .int a1, .int a2, .int a3] : List Value).toArray s 0 0 A) (F0 m 85 ls [.int s1, .int s0]) := by
    intro K49 hK49 v4 v6 v7 s0 s1 mStep mMindStep mIsBroken mWorth mHas mOwner mPrice mWrong mMindHas mMindOwner mMindPrice mMindWrong H locs hP hD hS ls hl hw
    unfold wpX8_fits_B85 at hw
    refine lv_iadd hx hb dX8_fits_85 ?_
    refine lv_topi (fun x29 ex29 => ?_)
    have hw := hw x29 ex29
    refine lv_istore (lv' := [(5, .int x29), (0, .ref (ad 0)), (1, .int a1), (2, .int a2), (3, .int a3), (4, .int v4), (6, .int v6), (7, .int v7)]) hx hb dX8_fits_86 hl (by decide) rfl (fun ls hl => ?_)
    refine lv_aload_n hx hb dX8_fits_88 rfl (lv_at hl 1 rfl) ?_
    refine bw_pvi (wc := (wdX8_isAllSeen cI cJ cT cII cJJ ad mN mStep mSeen mPlans mBooks mTexted mIsKept mSpot mKeeps mMindStep mAt mWhat mWhole mIsBroken mHas mSeenWho mSeenWhat)) (As := []) (rest := []) ⟨hx, hb, hml, hown, hts⟩ (mX8_isAllSeen l dC dI cI cJ cT cII cJJ ad mN mStep mSeen mPlans mBooks mTexted mIsKept mSpot mKeeps mMindStep mAt mWhat mWhole mIsBroken mHas mSeenWho mSeenWhat _ hw) (cwV 0 hts gX8_fits_X8_isAllSeen rfl rfl rfl hdX8_isAllSeen ⟨Nat.le_of_ble_eq_true rfl, Nat.le_of_ble_eq_true rfl⟩) hK hP [0, 2, 5, 6] rfl rfl rfl rfl rfl hl.1 rfl (Nat.le_of_ble_eq_true rfl) ⟨Nat.le_of_ble_eq_true rfl, Nat.le_of_ble_eq_true rfl⟩ dX8_fits_89 (fun r30 hw => ?_)
    refine lv_if_eq (tgt := 100) hx hb dX8_fits_92 (by decide) (fun c31 => ?_) (fun c31 => ?_)
    · have hw := hw.1 c31
      refine lv_iload hx hb dX8_fits_100 (lv_at hl 6 rfl) ?_
      exact kB102 K49 hK49 v4 x29 v7 v6 mStep mMindStep mIsBroken mWorth mHas mOwner mPrice mWrong mMindHas mMindOwner mMindPrice mMindWrong _ _ hP hD hS ls (lv_sub hl [1, 2, 3, 4, 5, 0, 7] rfl) hw
    · have hw := hw.2 c31
      refine lv_iload hx hb dX8_fits_95 (lv_at hl 7 rfl) ?_
      refine lv_goto (tgt := 102) hx hb dX8_fits_97 (by decide) ?_
      exact kB102 K49 hK49 v4 x29 v7 v7 mStep mMindStep mIsBroken mWorth mHas mOwner mPrice mWrong mMindHas mMindOwner mMindPrice mMindWrong _ _ hP hD hS ls (lv_sub hl [1, 2, 3, 4, 5, 0, 7] rfl) hw
  have kB49 : ∀ f : Nat, ∀ (v4 : Int32) (v5 : Int32) (v6 : Int32) (v7 : Int32) (mStep : Int32) (mMindStep : Int32) (mIsBroken : Int32) (mWorth : Nat → Int32) (mHas : Nat → Int32) (mOwner : Nat → Int32) (mPrice : Nat → Int32) (mWrong : Nat → Int32) (mMindHas : Nat → Int32) (mMindOwner : Nat → Int32) (mMindPrice : Nat → Int32) (mMindWrong : Nat → Int32), ∀ (H : Heap) (locs : List Loc), va_P (dC, dI) vwCl (wdX8_fits cI cJ cT cII cJJ ad mN mStep mSeen mPlans mBooks mTexted mIsKept mSpot mKeeps mMindStep mAt mWhat mWhole mIsBroken mWorth mHas mOwner mPrice mSeenWho mSeenWhat mWrong mMindHas mMindOwner mMindPrice mMindWrong) H → va_D A (wdX8_fits cI cJ cT cII cJJ ad mN mStep mSeen mPlans mBooks mTexted mIsKept mSpot mKeeps mMindStep mAt mWhat mWhole mIsBroken mWorth mHas mOwner mPrice mSeenWho mSeenWhat mWrong mMindHas mMindOwner mMindPrice mMindWrong) → va_S A s.heap H locs → ∀ ls : Array Slot, lv_has ls 8 [(0, .ref (ad 0)), (1, .int a1), (2, .int a2), (3, .int a3), (4, .int v4), (5, .int v5), (6, .int v6), (7, .int v7)] → wpX8_fits_B49 mN mSeen mSeenWho mSeenWhat a1 a2 a3 Post f v4 v5 v6 v7 mStep mMindStep mIsBroken mWorth mHas mOwner mPrice mWrong mMindHas mMindOwner mMindPrice mMindWrong → W p l e (headSpec wsX8_fits ({ frames := 6, cells := 0, slots := 0, locals := 133 } : Room)).room s m ([.ref (ad 0), .int a1, .int a2, .int a3] : List Value).toArray below meth c H locs 0 0 (MQ below (va_Qi (fun (r : Int32) (u : Int32 × Int32 × Int32 × (Nat → Int32) × (Nat → Int32) × (Nat → Int32) × (Nat → Int32) × (Nat → Int32) × (Nat → Int32) × (Nat → Int32) × (Nat → Int32) × (Nat → Int32)) => Post r u.1 u.2.1 u.2.2.1 u.2.2.2.1 u.2.2.2.2.1 u.2.2.2.2.2.1 u.2.2.2.2.2.2.1 u.2.2.2.2.2.2.2.1 u.2.2.2.2.2.2.2.2.1 u.2.2.2.2.2.2.2.2.2.1 u.2.2.2.2.2.2.2.2.2.2.1 u.2.2.2.2.2.2.2.2.2.2.2) (fun (u : Int32 × Int32 × Int32 × (Nat → Int32) × (Nat → Int32) × (Nat → Int32) × (Nat → Int32) × (Nat → Int32) × (Nat → Int32) × (Nat → Int32) × (Nat → Int32) × (Nat → Int32)) t => va_P (dC, dI) vwCl (wdX8_fits cI cJ cT cII cJJ ad mN u.1 mSeen mPlans mBooks mTexted mIsKept mSpot mKeeps u.2.1 mAt mWhat mWhole u.2.2.1 u.2.2.2.1 u.2.2.2.2.1 u.2.2.2.2.2.1 u.2.2.2.2.2.2.1 mSeenWho mSeenWhat u.2.2.2.2.2.2.2.1 u.2.2.2.2.2.2.2.2.1 u.2.2.2.2.2.2.2.2.2.1 u.2.2.2.2.2.2.2.2.2.2.1 u.2.2.2.2.2.2.2.2.2.2.2) t.heap) A) ([.ref (ad 0), .int a1, .int a2, .int a3] : List Value).toArray s 0 0 A) (F0 m 49 ls []) := by
    intro  f
    induction f with
    | zero => intro v4 v5 v6 v7 mStep mMindStep mIsBroken mWorth mHas mOwner mPrice mWrong mMindHas mMindOwner mMindPrice mMindWrong H locs hP hD hS ls hl hw; exact (show False from hw).elim
    | succ f ih =>
      intro v4 v5 v6 v7 mStep mMindStep mIsBroken mWorth mHas mOwner mPrice mWrong mMindHas mMindOwner mMindPrice mMindWrong H locs hP hD hS ls hl hw
      rw [wpX8_fits_B49] at hw
      refine lv_iload hx hb dX8_fits_49 (lv_at hl 7 rfl) ?_
      refine lv_if_lt (tgt := 110) hx hb dX8_fits_51 (by decide) (fun c13 => ?_) (fun c13 => ?_)
      · have hw := hw.1 c13
        refine lv_aload_n hx hb dX8_fits_110 rfl (lv_at hl 0 rfl) ?_
        refine va_get (D := (dC, dI)) (ci := 8) (v := .ref (ad 1)) (C := RX8) (T := TX8) (N := 36) hx hb hts (fun w h => List.mem_cons_of_mem _ (List.mem_append_right _ h)) hown hK hP 0 rfl rfl 2 (by decide) (hts (.fieldLink RX8 18 "BidMarketModel" "worth" "[I") (List.mem_of_getElem? (i := 1) rfl)) (fun _ h9 => h9) rfl dX8_fits_111 ?_
        refine lv_bipush (v := 8) hx hb dX8_fits_114 (by decide) ?_
        refine lv_iload_n hx hb dX8_fits_116 rfl (lv_at hl 1 rfl) ?_
        refine lv_imul hx hb dX8_fits_117 ?_
        refine lv_iload_n hx hb dX8_fits_118 rfl (lv_at hl 2 rfl) ?_
        refine lv_iadd hx hb dX8_fits_119 ?_
        refine lv_iload hx hb dX8_fits_120 (lv_at hl 4 rfl) ?_
        have h14 := hw.1
        have hw := hw.2
        refine va_iast hx hb hK hP hD hS 1 0 rfl rfl h14 dX8_fits_122 (fun H locs hP hD hS => ?_)
        have hP : va_P (dC, dI) vwCl (wdX8_fits cI cJ cT cII cJJ ad mN mStep mSeen mPlans mBooks mTexted mIsKept mSpot mKeeps mMindStep mAt mWhat mWhole mIsBroken (upd mWorth ((8 * a1) + a2).toNatClampNeg v4) mHas mOwner mPrice mSeenWho mSeenWhat mWrong mMindHas mMindOwner mMindPrice mMindWrong) H := hP
        have hD : va_D A (wdX8_fits cI cJ cT cII cJJ ad mN mStep mSeen mPlans mBooks mTexted mIsKept mSpot mKeeps mMindStep mAt mWhat mWhole mIsBroken (upd mWorth ((8 * a1) + a2).toNatClampNeg v4) mHas mOwner mPrice mSeenWho mSeenWhat mWrong mMindHas mMindOwner mMindPrice mMindWrong) := hD
        refine lv_aload_n hx hb dX8_fits_123 rfl (lv_at hl 0 rfl) ?_
        refine bw_wvv (wc := (wdX8_forgets cI cJ cT cII cJJ ad mN mStep mSeen mPlans mBooks mTexted mIsKept mSpot mKeeps mMindStep mAt mWhat mWhole mIsBroken mHas mOwner mPrice mWrong mMindHas mMindOwner mMindPrice mMindWrong)) (w1 := (fun (u : Int32 × (Nat → Int32) × (Nat → Int32) × (Nat → Int32) × (Nat → Int32)) => wdX8_forgets cI cJ cT cII cJJ ad mN u.1 mSeen mPlans mBooks mTexted mIsKept mSpot mKeeps mMindStep mAt mWhat mWhole mIsBroken u.2.1 u.2.2.1 u.2.2.2.1 u.2.2.2.2 mMindHas mMindOwner mMindPrice mMindWrong)) (As := []) (rest := []) ⟨hx, hb, hml, hown, hts⟩ (mX8_forgets l dC dI cI cJ cT cII cJJ ad _ mN mStep mSeen mPlans mBooks mTexted mIsKept mSpot mKeeps mMindStep mAt mWhat mWhole mIsBroken mHas mOwner mPrice mWrong mMindHas mMindOwner mMindPrice mMindWrong _ hw) (cwV 0 hts gX8_fits_X8_forgets rfl rfl rfl hdX8_forgets ⟨Nat.le_of_ble_eq_true rfl, Nat.le_of_ble_eq_true rfl⟩) hK hP hD hS hA [0, 2, 3, 4, 7, 8, 9, 10, 11] rfl (by decide) (fun _ => rfl) rfl rfl rfl rfl hl.1 rfl (Nat.le_of_ble_eq_true rfl) ⟨Nat.le_of_ble_eq_true rfl, Nat.le_of_ble_eq_true rfl⟩ dX8_fits_124 (fun u H locs hw hP hD hS => ?_)
        obtain ⟨y15, y16, y17, y18, y19⟩ := u
        try dsimp only at hw
        have hP : va_P (dC, dI) vwCl (wdX8_fits cI cJ cT cII cJJ ad mN y15 mSeen mPlans mBooks mTexted mIsKept mSpot mKeeps mMindStep mAt mWhat mWhole mIsBroken (upd mWorth ((8 * a1) + a2).toNatClampNeg v4) y16 y17 y18 mSeenWho mSeenWhat y19 mMindHas mMindOwner mMindPrice mMindWrong) H := hP
        have hD : va_D A (wdX8_fits cI cJ cT cII cJJ ad mN y15 mSeen mPlans mBooks mTexted mIsKept mSpot mKeeps mMindStep mAt mWhat mWhole mIsBroken (upd mWorth ((8 * a1) + a2).toNatClampNeg v4) y16 y17 y18 mSeenWho mSeenWhat y19 mMindHas mMindOwner mMindPrice mMindWrong) := hD
        refine lv_iload_n hx hb dX8_fits_127 rfl (lv_at hl 3 rfl) ?_
        refine lv_if_ne (tgt := 136) hx hb dX8_fits_128 (by decide) (fun c20 => ?_) (fun c20 => ?_)
        · have hw := hw.1 c20
          refine lv_iload hx hb dX8_fits_136 (lv_at hl 6 rfl) ?_
          exact W.iret (v := v6) hx hb hr (fun t ht hW => ⟨⟨v6, (y15, mMindStep, mIsBroken, upd mWorth ((8 * a1) + a2).toNatClampNeg v4, y16, y17, y18, y19, mMindHas, mMindOwner, mMindPrice, mMindWrong), rfl, hw, by show va_P _ _ _ t.heap; rw [ht]; exact hP⟩, hS.F ht⟩) hS.2.2 dX8_fits_138
        · have hw := hw.2 c20
          refine lv_iload hx hb dX8_fits_131 (lv_at hl 5 rfl) ?_
          refine lv_goto (tgt := 138) hx hb dX8_fits_133 (by decide) ?_
          exact W.iret (v := v5) hx hb hr (fun t ht hW => ⟨⟨v5, (y15, mMindStep, mIsBroken, upd mWorth ((8 * a1) + a2).toNatClampNeg v4, y16, y17, y18, y19, mMindHas, mMindOwner, mMindPrice, mMindWrong), rfl, hw, by show va_P _ _ _ t.heap; rw [ht]; exact hP⟩, hS.F ht⟩) hS.2.2 dX8_fits_138
      · have hw := hw.2 c13
        refine lv_aload_n hx hb dX8_fits_54 rfl (lv_at hl 0 rfl) ?_
        refine va_get (D := (dC, dI)) (ci := 8) (v := .ref (ad 1)) (C := RX8) (T := TX8) (N := 36) hx hb hts (fun w h => List.mem_cons_of_mem _ (List.mem_append_right _ h)) hown hK hP 0 rfl rfl 2 (by decide) (hts (.fieldLink RX8 18 "BidMarketModel" "worth" "[I") (List.mem_of_getElem? (i := 1) rfl)) (fun _ h9 => h9) rfl dX8_fits_55 ?_
        refine lv_bipush (v := 8) hx hb dX8_fits_58 (by decide) ?_
        refine lv_iload_n hx hb dX8_fits_60 rfl (lv_at hl 1 rfl) ?_
        refine lv_imul hx hb dX8_fits_61 ?_
        refine lv_iload_n hx hb dX8_fits_62 rfl (lv_at hl 2 rfl) ?_
        refine lv_iadd hx hb dX8_fits_63 ?_
        refine lv_iload hx hb dX8_fits_64 (lv_at hl 7 rfl) ?_
        have h21 := hw.1
        have hw := hw.2
        refine va_iast hx hb hK hP hD hS 1 0 rfl rfl h21 dX8_fits_66 (fun H locs hP hD hS => ?_)
        have hP : va_P (dC, dI) vwCl (wdX8_fits cI cJ cT cII cJJ ad mN mStep mSeen mPlans mBooks mTexted mIsKept mSpot mKeeps mMindStep mAt mWhat mWhole mIsBroken (upd mWorth ((8 * a1) + a2).toNatClampNeg v7) mHas mOwner mPrice mSeenWho mSeenWhat mWrong mMindHas mMindOwner mMindPrice mMindWrong) H := hP
        have hD : va_D A (wdX8_fits cI cJ cT cII cJJ ad mN mStep mSeen mPlans mBooks mTexted mIsKept mSpot mKeeps mMindStep mAt mWhat mWhole mIsBroken (upd mWorth ((8 * a1) + a2).toNatClampNeg v7) mHas mOwner mPrice mSeenWho mSeenWhat mWrong mMindHas mMindOwner mMindPrice mMindWrong) := hD
        refine lv_aload_n hx hb dX8_fits_67 rfl (lv_at hl 0 rfl) ?_
        refine bw_wvv (wc := (wdX8_triesAuction cI cJ cT cII cJJ ad mN mStep mSeen mPlans mBooks mTexted mIsKept mSpot mKeeps mMindStep mAt mWhat mWhole mIsBroken (upd mWorth ((8 * a1) + a2).toNatClampNeg v7) mHas mOwner mPrice mWrong)) (w1 := (fun (u : Int32 × (Nat → Int32) × (Nat → Int32) × (Nat → Int32) × (Nat → Int32)) => wdX8_triesAuction cI cJ cT cII cJJ ad mN mStep mSeen mPlans mBooks mTexted mIsKept mSpot mKeeps mMindStep mAt mWhat mWhole u.1 (upd mWorth ((8 * a1) + a2).toNatClampNeg v7) u.2.1 u.2.2.1 u.2.2.2.1 u.2.2.2.2)) (As := []) (rest := []) ⟨hx, hb, hml, hown, hts⟩ (mX8_triesAuction l dC dI cI cJ cT cII cJJ ad _ mN mStep mSeen mPlans mBooks mTexted mIsKept mSpot mKeeps mMindStep mAt mWhat mWhole mIsBroken (upd mWorth ((8 * a1) + a2).toNatClampNeg v7) mHas mOwner mPrice mWrong _ hw) (cwV 0 hts gX8_fits_X8_triesAuction rfl rfl rfl hdX8_triesAuction ⟨Nat.le_of_ble_eq_true rfl, Nat.le_of_ble_eq_true rfl⟩) hK hP hD hS hA [0, 1, 2, 3, 4, 7] rfl (by decide) (fun _ => rfl) rfl rfl rfl rfl hl.1 rfl (Nat.le_of_ble_eq_true rfl) ⟨Nat.le_of_ble_eq_true rfl, Nat.le_of_ble_eq_true rfl⟩ dX8_fits_68 (fun u H locs hw hP hD hS => ?_)
        obtain ⟨y22, y23, y24, y25, y26⟩ := u
        try dsimp only at hw
        have hP : va_P (dC, dI) vwCl (wdX8_fits cI cJ cT cII cJJ ad mN mStep mSeen mPlans mBooks mTexted mIsKept mSpot mKeeps mMindStep mAt mWhat mWhole y22 (upd mWorth ((8 * a1) + a2).toNatClampNeg v7) y23 y24 y25 mSeenWho mSeenWhat y26 mMindHas mMindOwner mMindPrice mMindWrong) H := hP
        have hD : va_D A (wdX8_fits cI cJ cT cII cJJ ad mN mStep mSeen mPlans mBooks mTexted mIsKept mSpot mKeeps mMindStep mAt mWhat mWhole y22 (upd mWorth ((8 * a1) + a2).toNatClampNeg v7) y23 y24 y25 mSeenWho mSeenWhat y26 mMindHas mMindOwner mMindPrice mMindWrong) := hD
        refine lv_iload hx hb dX8_fits_71 (lv_at hl 5 rfl) ?_
        refine lv_aload_n hx hb dX8_fits_73 rfl (lv_at hl 0 rfl) ?_
        refine bw_pvi (wc := (wdX8_isAllSeen cI cJ cT cII cJJ ad mN mStep mSeen mPlans mBooks mTexted mIsKept mSpot mKeeps mMindStep mAt mWhat mWhole y22 y23 mSeenWho mSeenWhat)) (As := []) (rest := [.int v5]) ⟨hx, hb, hml, hown, hts⟩ (mX8_isAllSeen l dC dI cI cJ cT cII cJJ ad mN mStep mSeen mPlans mBooks mTexted mIsKept mSpot mKeeps mMindStep mAt mWhat mWhole y22 y23 mSeenWho mSeenWhat _ hw) (cwV 0 hts gX8_fits_X8_isAllSeen rfl rfl rfl hdX8_isAllSeen ⟨Nat.le_of_ble_eq_true rfl, Nat.le_of_ble_eq_true rfl⟩) hK hP [0, 2, 5, 6] rfl rfl rfl rfl rfl hl.1 rfl (Nat.le_of_ble_eq_true rfl) ⟨Nat.le_of_ble_eq_true rfl, Nat.le_of_ble_eq_true rfl⟩ dX8_fits_74 (fun r27 hw => ?_)
        refine lv_if_eq (tgt := 84) hx hb dX8_fits_77 (by decide) (fun c28 => ?_) (fun c28 => ?_)
        · have hw := hw.1 c28
          refine lv_iconst (v := 0) hx hb dX8_fits_84 (by decide) ?_
          exact kB85 (wpX8_fits_B49 mN mSeen mSeenWho mSeenWhat a1 a2 a3 Post f) ih v4 v6 v7 v5 0 mStep mMindStep y22 (upd mWorth ((8 * a1) + a2).toNatClampNeg v7) y23 y24 y25 y26 mMindHas mMindOwner mMindPrice mMindWrong _ _ hP hD hS ls (lv_sub hl [0, 1, 2, 3, 4, 6, 7] rfl) hw
        · have hw := hw.2 c28
          refine lv_iconst (v := 1) hx hb dX8_fits_80 (by decide) ?_
          refine lv_goto (tgt := 85) hx hb dX8_fits_81 (by decide) ?_
          exact kB85 (wpX8_fits_B49 mN mSeen mSeenWho mSeenWhat a1 a2 a3 Post f) ih v4 v6 v7 v5 1 mStep mMindStep y22 (upd mWorth ((8 * a1) + a2).toNatClampNeg v7) y23 y24 y25 y26 mMindHas mMindOwner mMindPrice mMindWrong _ _ hP hD hS ls (lv_sub hl [0, 1, 2, 3, 4, 6, 7] rfl) hw
  unfold wpX8_fits at hw
  refine lv_aload_n hx hb dX8_fits_0 rfl (lv_at hl 0 rfl) ?_
  refine lv_iload_n hx hb dX8_fits_1 rfl (lv_at hl 1 rfl) ?_
  refine lv_iload_n hx hb dX8_fits_2 rfl (lv_at hl 2 rfl) ?_
  refine bw_pvi (wc := (wdX8_isPair cI cJ cT cII cJJ ad mN mStep mSeen mPlans mBooks mTexted mIsKept mSpot mKeeps mMindStep mAt mWhat mWhole mIsBroken)) (As := [.int a1, .int a2]) (rest := []) ⟨hx, hb, hml, hown, hts⟩ (mX8_isPair l dC dI cI cJ cT cII cJJ ad mN mStep mSeen mPlans mBooks mTexted mIsKept mSpot mKeeps mMindStep mAt mWhat mWhole mIsBroken a1 a2 _ hw) (cwV 2 hts gX8_fits_X8_isPair rfl rfl rfl hdX8_isPair ⟨Nat.le_of_ble_eq_true rfl, Nat.le_of_ble_eq_true rfl⟩) hK hP [0] rfl rfl rfl rfl rfl hl.1 rfl (Nat.le_of_ble_eq_true rfl) ⟨Nat.le_of_ble_eq_true rfl, Nat.le_of_ble_eq_true rfl⟩ dX8_fits_3 (fun r1 hw => ?_)
  refine lv_if_eq (tgt := 19) hx hb dX8_fits_6 (by decide) (fun c2 => ?_) (fun c2 => ?_)
  · have hw := hw.1 c2
    refine lv_iconst (v := (-1)) hx hb dX8_fits_19 (by decide) ?_
    exact W.iret (v := (-1)) hx hb hr (fun t ht hW => ⟨⟨(-1), (mStep, mMindStep, mIsBroken, mWorth, mHas, mOwner, mPrice, mWrong, mMindHas, mMindOwner, mMindPrice, mMindWrong), rfl, hw, by show va_P _ _ _ t.heap; rw [ht]; exact hP⟩, hS.F ht⟩) hS.2.2 dX8_fits_20
  · have hw := hw.2 c2
    refine lv_iload_n hx hb dX8_fits_9 rfl (lv_at hl 3 rfl) ?_
    refine lv_i2l hx hb dX8_fits_10 rfl ?_
    refine lv_lconst (v := 0) hx hb dX8_fits_11 (by decide) ?_
    refine lv_lconst (v := 1) hx hb dX8_fits_12 (by decide) ?_
    refine bw_psi (wc := []) (As := [.long a3.toInt64, .long 0, .long 1]) (rest := []) ⟨hx, hb, hml, hown, hts⟩ (mX8_in l dC dI cI cJ cT cII cJJ a3.toInt64 0 1 _ hw) (va_cwS 3 hts gX8_fits_X8_in rfl rfl rfl hdX8_in ⟨Nat.le_of_ble_eq_true rfl, Nat.le_of_ble_eq_true rfl⟩) hK hP [] rfl rfl hl.1 rfl (Nat.le_of_ble_eq_true rfl) ⟨Nat.le_of_ble_eq_true rfl, Nat.le_of_ble_eq_true rfl⟩ dX8_fits_13 (fun r3 hw => ?_)
    refine lv_if_ne (tgt := 21) hx hb dX8_fits_16 (by decide) (fun c4 => ?_) (fun c4 => ?_)
    · have hw := hw.1 c4
      refine lv_aload_n hx hb dX8_fits_21 rfl (lv_at hl 0 rfl) ?_
      refine va_get (D := (dC, dI)) (ci := 8) (v := .ref (ad 1)) (C := RX8) (T := TX8) (N := 36) hx hb hts (fun w h => List.mem_cons_of_mem _ (List.mem_append_right _ h)) hown hK hP 0 rfl rfl 2 (by decide) (hts (.fieldLink RX8 18 "BidMarketModel" "worth" "[I") (List.mem_of_getElem? (i := 1) rfl)) (fun _ h9 => h9) rfl dX8_fits_22 ?_
      refine lv_bipush (v := 8) hx hb dX8_fits_25 (by decide) ?_
      refine lv_iload_n hx hb dX8_fits_27 rfl (lv_at hl 1 rfl) ?_
      refine lv_imul hx hb dX8_fits_28 ?_
      refine lv_iload_n hx hb dX8_fits_29 rfl (lv_at hl 2 rfl) ?_
      refine lv_iadd hx hb dX8_fits_30 ?_
      have h5 := hw.1
      have hw := hw.2
      refine va_iald hx hb hK hP 1 0 rfl rfl h5 dX8_fits_31 ?_
      refine lv_topi (fun x6 ex6 => ?_)
      have hw := hw x6 ex6
      refine lv_istore (lv' := [(4, .int x6), (0, .ref (ad 0)), (1, .int a1), (2, .int a2), (3, .int a3)]) hx hb dX8_fits_32 hl (by decide) rfl (fun ls hl => ?_)
      refine lv_iconst (v := 0) hx hb dX8_fits_34 (by decide) ?_
      refine lv_istore (lv' := [(5, .int 0), (4, .int x6), (0, .ref (ad 0)), (1, .int a1), (2, .int a2), (3, .int a3)]) hx hb dX8_fits_35 hl (by decide) rfl (fun ls hl => ?_)
      refine lv_bipush (v := (-5)) hx hb dX8_fits_37 (by decide) ?_
      refine lv_topi (fun x7 ex7 => ?_)
      have hw := hw x7 ex7
      refine lv_istore (lv' := [(6, .int x7), (5, .int 0), (4, .int x6), (0, .ref (ad 0)), (1, .int a1), (2, .int a2), (3, .int a3)]) hx hb dX8_fits_39 hl (by decide) rfl (fun ls hl => ?_)
      refine lv_aload_n hx hb dX8_fits_41 rfl (lv_at hl 3 rfl) ?_
      refine bw_wvv (wc := (wdX8_minds cI cJ cT cII cJJ ad mN mStep mSeen mPlans mBooks mTexted mIsKept mSpot mKeeps mMindStep mAt mWhat mWhole mIsBroken mHas mOwner mPrice mWrong mMindHas mMindOwner mMindPrice mMindWrong)) (w1 := (fun (u : Int32 × (Nat → Int32) × (Nat → Int32) × (Nat → Int32) × (Nat → Int32)) => wdX8_minds cI cJ cT cII cJJ ad mN mStep mSeen mPlans mBooks mTexted mIsKept mSpot mKeeps u.1 mAt mWhat mWhole mIsBroken mHas mOwner mPrice mWrong u.2.1 u.2.2.1 u.2.2.2.1 u.2.2.2.2)) (As := []) (rest := []) ⟨hx, hb, hml, hown, hts⟩ (mX8_minds l dC dI cI cJ cT cII cJJ ad _ mN mStep mSeen mPlans mBooks mTexted mIsKept mSpot mKeeps mMindStep mAt mWhat mWhole mIsBroken mHas mOwner mPrice mWrong mMindHas mMindOwner mMindPrice mMindWrong _ hw) (cwV 0 hts gX8_fits_X8_minds rfl rfl rfl hdX8_minds ⟨Nat.le_of_ble_eq_true rfl, Nat.le_of_ble_eq_true rfl⟩) hK hP hD hS hA [0, 2, 3, 4, 7, 8, 9, 10, 11] rfl (by decide) (fun _ => rfl) rfl rfl rfl rfl hl.1 rfl (Nat.le_of_ble_eq_true rfl) ⟨Nat.le_of_ble_eq_true rfl, Nat.le_of_ble_eq_true rfl⟩ dX8_fits_42 (fun u H locs hw hP hD hS => ?_)
      obtain ⟨y8, y9, y10, y11, y12⟩ := u
      try dsimp only at hw
      have hP : va_P (dC, dI) vwCl (wdX8_fits cI cJ cT cII cJJ ad mN mStep mSeen mPlans mBooks mTexted mIsKept mSpot mKeeps y8 mAt mWhat mWhole mIsBroken mWorth mHas mOwner mPrice mSeenWho mSeenWhat mWrong y9 y10 y11 y12) H := hP
      have hD : va_D A (wdX8_fits cI cJ cT cII cJJ ad mN mStep mSeen mPlans mBooks mTexted mIsKept mSpot mKeeps y8 mAt mWhat mWhole mIsBroken mWorth mHas mOwner mPrice mSeenWho mSeenWhat mWrong y9 y10 y11 y12) := hD
      refine lv_bipush (v := 90) hx hb dX8_fits_45 (by decide) ?_
      refine lv_istore (lv' := [(7, .int 90), (6, .int x7), (5, .int 0), (4, .int x6), (0, .ref (ad 0)), (1, .int a1), (2, .int a2), (3, .int a3)]) hx hb dX8_fits_47 hl (by decide) rfl (fun ls hl => ?_)
      obtain ⟨f1, hw⟩ := hw
      exact kB49 f1 x6 0 x7 90 mStep y8 mIsBroken mWorth mHas mOwner mPrice mWrong y9 y10 y11 y12 _ _ hP hD hS ls (lv_sub hl [4, 5, 6, 7, 3, 2, 1, 0] rfl) hw
    · have hw := hw.2 c4
      refine lv_iconst (v := (-1)) hx hb dX8_fits_19 (by decide) ?_
      exact W.iret (v := (-1)) hx hb hr (fun t ht hW => ⟨⟨(-1), (mStep, mMindStep, mIsBroken, mWorth, mHas, mOwner, mPrice, mWrong, mMindHas, mMindOwner, mMindPrice, mMindWrong), rfl, hw, by show va_P _ _ _ t.heap; rw [ht]; exact hP⟩, hS.F ht⟩) hS.2.2 dX8_fits_20
set_option maxHeartbeats 4000000 in
set_option maxRecDepth 100000 in
theorem mX8_lowest (l : Launch) (dC : Nat → ClassId) (dI : Nat → Nat → Nat) (cI cJ cT cII cJJ : ClassId) (a0 : Int64) (a2 : Int64) (a4 : Int32) (Post : Int64 → Prop) (hw : wpX8_lowest a0 a2 a4 Post) : Met l yX8_lowest wsX8_lowest ({ frames := 0, cells := 0, slots := 0, locals := 0 } : Room) (va_Pc [.long a0, .long a2, .int a4] (fun U => va_P (dC, dI) vwCl [] U.heap ∧ va_K (dC, dI) vwCl (bw_tys cI cJ cT cII cJJ) U)) (vp_Sl Post) 0 0 (fun _ => False) := by
  refine Met.ofW (cc := cX8_lowest) (maxL := 11) (ret := (some .long)) (by decide) rfl ?_
  intro p e s m args below meth c s₁ B hml hv
  obtain ⟨rfl, hP, hK⟩ := hv
  have hx := B.exec
  have hb := B.bytes
  have hr := B.returns
  have hts := atoms_spec (ws := wsX8_lowest) B.pre
  have hown : s.vm.findClass RX8 = some m.cls := findClass_of_methodNamed B.named
  have hlocks := B.notSynchronized
  have hl := lv_entry ([.long a0, .long a2, .int a4]) (n := 11) (Nat.le_of_ble_eq_true rfl)
  rw [lg_entry_eq]
  generalize (lg_sl ([.long a0, .long a2, .int a4]) ++ List.replicate (11 - (lg_sl ([.long a0, .long a2, .int a4])).length) Slot.unset).toArray = ls at hl ⊢
  have hl : lv_has ls 11 [(0, .long a0), (2, .long a2), (4, .int a4)] := hl
  have kB41 : ∀ (v5 : Int64) (s0 : Int64), ∀ ls : Array Slot, lv_has ls 11 [(5, .long v5)] → wpX8_lowest_B41 a0 a2 a4 Post v5 s0 → W p l e (headSpec wsX8_lowest ({ frames := 0, cells := 0, slots := 0, locals := 0 } : Room)).room s m ([.long a0, .long a2, .int a4] : List Value).toArray below meth c s.heap [] 0 0 (MQ below (vp_Sl Post) ([.long a0, .long a2, .int a4] : List Value).toArray s 0 0 (fun _ => False)) (F0 m 41 ls [.long s0]) := by
    intro v5 s0 ls hl hw
    unfold wpX8_lowest_B41 at hw
    refine lv_lload hx hb dX8_lowest_41 (lv_at hl 0 rfl) ?_
    have h3 := hw.1
    have hw := hw.2
    refine lv_ldiv hx hb dX8_lowest_43 h3 ?_
    exact W.lret (v := s0 / v5) hx hb hr (fun t ht hW => ⟨s0 / v5, rfl, hw, ht⟩) (fun _ h => by cases h) dX8_lowest_44
  have kB6 : ∀ f : Nat, ∀ (v5 : Int64) (v7 : Int64), ∀ ls : Array Slot, lv_has ls 11 [(0, .long a0), (2, .long a2), (4, .int a4), (5, .long v5), (7, .long v7)] → wpX8_lowest_B6 a0 a2 a4 Post f v5 v7 → W p l e (headSpec wsX8_lowest ({ frames := 0, cells := 0, slots := 0, locals := 0 } : Room)).room s m ([.long a0, .long a2, .int a4] : List Value).toArray below meth c s.heap [] 0 0 (MQ below (vp_Sl Post) ([.long a0, .long a2, .int a4] : List Value).toArray s 0 0 (fun _ => False)) (F0 m 6 ls []) := by
    intro  f
    induction f with
    | zero => intro v5 v7 ls hl hw; exact (show False from hw).elim
    | succ f ih =>
      intro v5 v7 ls hl hw
      rw [wpX8_lowest_B6] at hw
      refine lv_lload hx hb dX8_lowest_6 (lv_at hl 4 rfl) ?_
      refine lv_lconst (v := 0) hx hb dX8_lowest_8 (by decide) ?_
      refine W.lcmp hx hb dX8_lowest_9 ?_
      refine lv_if_eq (tgt := 31) hx hb dX8_lowest_10 (by decide) (fun c1 => ?_) (fun c1 => ?_)
      · have hw := hw.1 c1
        refine lv_iload hx hb dX8_lowest_31 (lv_at hl 2 rfl) ?_
        refine lv_if_ne (tgt := 40) hx hb dX8_lowest_33 (by decide) (fun c2 => ?_) (fun c2 => ?_)
        · have hw := hw.1 c2
          refine lv_lload_n hx hb dX8_lowest_40 rfl (lv_at hl 1 rfl) ?_
          exact kB41 v5 a2 ls (lv_sub hl [3] rfl) hw
        · have hw := hw.2 c2
          refine lv_lload_n hx hb dX8_lowest_36 rfl (lv_at hl 0 rfl) ?_
          refine lv_goto (tgt := 41) hx hb dX8_lowest_37 (by decide) ?_
          exact kB41 v5 a0 ls (lv_sub hl [3] rfl) hw
      · have hw := hw.2 c1
        refine lv_lload hx hb dX8_lowest_13 (lv_at hl 3 rfl) ?_
        refine lv_lload hx hb dX8_lowest_15 (lv_at hl 4 rfl) ?_
        have h4 := hw.1
        have hw := hw.2
        refine lv_lrem hx hb dX8_lowest_17 h4 ?_
        refine lv_topl (fun x5 ex5 => ?_)
        have hw := hw x5 ex5
        refine lv_lstore (lv' := [(9, .long x5), (0, .long a0), (2, .long a2), (4, .int a4), (5, .long v5), (7, .long v7)]) hx hb dX8_lowest_18 hl (by decide) rfl (fun ls hl => ?_)
        refine lv_lload hx hb dX8_lowest_20 (lv_at hl 5 rfl) ?_
        refine lv_lstore (lv' := [(5, .long v7), (9, .long x5), (0, .long a0), (2, .long a2), (4, .int a4), (7, .long v7)]) hx hb dX8_lowest_22 hl (by decide) rfl (fun ls hl => ?_)
        refine lv_lload hx hb dX8_lowest_24 (lv_at hl 1 rfl) ?_
        refine lv_lstore (lv' := [(7, .long x5), (5, .long v7), (9, .long x5), (0, .long a0), (2, .long a2), (4, .int a4)]) hx hb dX8_lowest_26 hl (by decide) rfl (fun ls hl => ?_)
        refine lv_goto (tgt := 6) hx hb dX8_lowest_28 (by decide) ?_
        exact ih v7 x5 ls (lv_sub hl [3, 4, 5, 1, 0] rfl) hw
  unfold wpX8_lowest at hw
  refine lv_lload_n hx hb dX8_lowest_0 rfl (lv_at hl 0 rfl) ?_
  refine lv_lstore (lv' := [(5, .long a0), (0, .long a0), (2, .long a2), (4, .int a4)]) hx hb dX8_lowest_1 hl (by decide) rfl (fun ls hl => ?_)
  refine lv_lload_n hx hb dX8_lowest_3 rfl (lv_at hl 2 rfl) ?_
  refine lv_lstore (lv' := [(7, .long a2), (5, .long a0), (0, .long a0), (2, .long a2), (4, .int a4)]) hx hb dX8_lowest_4 hl (by decide) rfl (fun ls hl => ?_)
  obtain ⟨f1, hw⟩ := hw
  exact kB6 f1 a0 a2 ls (lv_sub hl [2, 3, 4, 1, 0] rfl) hw
set_option maxHeartbeats 4000000 in
set_option maxRecDepth 100000 in
theorem mX8_odds (l : Launch) (dC : Nat → ClassId) (dI : Nat → Nat → Nat) (cI cJ cT cII cJJ : ClassId) (ad : Nat → Nat) (sz : Nat) (mN : Int32) (mStep : Int32) (mSeen : Int32) (mPlans : Int32) (mBooks : Int32) (mTexted : Int32) (mIsKept : Int32) (mSpot : Int32) (mKeeps : Int32) (mMindStep : Int32) (mAt : Int32) (mWhat : Int32) (mWhole : Int32) (mIsBroken : Int32) (mWorth : Nat → Int32) (mHas : Nat → Int32) (mOwner : Nat → Int32) (mPrice : Nat → Int32) (mWrong : Nat → Int32) (mMindHas : Nat → Int32) (mMindOwner : Nat → Int32) (mMindPrice : Nat → Int32) (mMindWrong : Nat → Int32) (a1 : Int32) (a2 : Int32) (Post : Int64 → Int32 → Int32 → Int32 → (Nat → Int32) → (Nat → Int32) → (Nat → Int32) → (Nat → Int32) → (Nat → Int32) → (Nat → Int32) → (Nat → Int32) → (Nat → Int32) → Prop) (hw : wpX8_odds mN mStep mMindStep mIsBroken mWorth mHas mOwner mPrice mWrong mMindHas mMindOwner mMindPrice mMindWrong a1 a2 Post) : Met l yX8_odds wsX8_odds ({ frames := 6, cells := 0, slots := 0, locals := 133 } : Room) (va_Pc [.ref (ad 0), .int a1, .int a2] (fun U => U.heap.size = sz ∧ va_P (dC, dI) vwCl (wdX8_odds cI cJ cT cII cJJ ad mN mStep mSeen mPlans mBooks mTexted mIsKept mSpot mKeeps mMindStep mAt mWhat mWhole mIsBroken mWorth mHas mOwner mPrice mWrong mMindHas mMindOwner mMindPrice mMindWrong) U.heap ∧ va_K (dC, dI) vwCl (bw_tys cI cJ cT cII cJJ) U ∧ va_D (fun _ => True) (wdX8_odds cI cJ cT cII cJJ ad mN mStep mSeen mPlans mBooks mTexted mIsKept mSpot mKeeps mMindStep mAt mWhat mWhole mIsBroken mWorth mHas mOwner mPrice mWrong mMindHas mMindOwner mMindPrice mMindWrong))) (va_Ql (fun (r : Int64) (u : Int32 × Int32 × Int32 × (Nat → Int32) × (Nat → Int32) × (Nat → Int32) × (Nat → Int32) × (Nat → Int32) × (Nat → Int32) × (Nat → Int32) × (Nat → Int32)) => Post r u.1 u.2.1 u.2.2.1 u.2.2.2.1 u.2.2.2.2.1 u.2.2.2.2.2.1 u.2.2.2.2.2.2.1 u.2.2.2.2.2.2.2.1 u.2.2.2.2.2.2.2.2.1 u.2.2.2.2.2.2.2.2.2.1 u.2.2.2.2.2.2.2.2.2.2) (fun (u : Int32 × Int32 × Int32 × (Nat → Int32) × (Nat → Int32) × (Nat → Int32) × (Nat → Int32) × (Nat → Int32) × (Nat → Int32) × (Nat → Int32) × (Nat → Int32)) t => va_P (dC, dI) vwCl (wdX8_odds cI cJ cT cII cJJ ad mN u.1 mSeen mPlans mBooks mTexted mIsKept mSpot mKeeps u.2.1 mAt mWhat mWhole u.2.2.1 mWorth u.2.2.2.1 u.2.2.2.2.1 u.2.2.2.2.2.1 u.2.2.2.2.2.2.1 u.2.2.2.2.2.2.2.1 u.2.2.2.2.2.2.2.2.1 u.2.2.2.2.2.2.2.2.2.1 u.2.2.2.2.2.2.2.2.2.2) t.heap) (va_A (wdX8_odds cI cJ cT cII cJJ ad mN mStep mSeen mPlans mBooks mTexted mIsKept mSpot mKeeps mMindStep mAt mWhat mWhole mIsBroken mWorth mHas mOwner mPrice mWrong mMindHas mMindOwner mMindPrice mMindWrong) sz)) 0 0 (va_A (wdX8_odds cI cJ cT cII cJJ ad mN mStep mSeen mPlans mBooks mTexted mIsKept mSpot mKeeps mMindStep mAt mWhat mWhole mIsBroken mWorth mHas mOwner mPrice mWrong mMindHas mMindOwner mMindPrice mMindWrong) sz) := by
  refine Met.ofW (cc := cX8_odds) (maxL := 6) (ret := (some .long)) (by decide) rfl ?_
  intro p e s m args below meth c s₁ B hml hv
  obtain ⟨rfl, hsz, hP, hK, hD0⟩ := hv
  have hx := B.exec
  have hb := B.bytes
  have hr := B.returns
  have hts := atoms_spec (ws := wsX8_odds) B.pre
  have hown : s.vm.findClass RX8 = some m.cls := findClass_of_methodNamed B.named
  have hlocks := B.notSynchronized
  subst hsz
  have hD := hD0.self (sz := s.heap.size)
  generalize hAe : va_A (wdX8_odds cI cJ cT cII cJJ ad mN mStep mSeen mPlans mBooks mTexted mIsKept mSpot mKeeps mMindStep mAt mWhat mWhole mIsBroken mWorth mHas mOwner mPrice mWrong mMindHas mMindOwner mMindPrice mMindWrong) s.heap.size = A at hD ⊢
  have hA : ∀ q : Nat, s.heap.size ≤ q → A q := fun q h => by rw [← hAe]; exact Or.inr h
  have hS : va_S A s.heap s.heap [] := va_S.rf
  have hl := lv_entry ([.ref (ad 0), .int a1, .int a2]) (n := 6) (Nat.le_of_ble_eq_true rfl)
  rw [lg_entry_eq]
  generalize (lg_sl ([.ref (ad 0), .int a1, .int a2]) ++ List.replicate (6 - (lg_sl ([.ref (ad 0), .int a1, .int a2])).length) Slot.unset).toArray = ls at hl ⊢
  have hl : lv_has ls 6 [(0, .ref (ad 0)), (1, .int a1), (2, .int a2)] := hl
  have kB73 : ∀ (K39 : Int32 → Int32 → Int32 → Int32 → Int32 → Int32 → (Nat → Int32) → (Nat → Int32) → (Nat → Int32) → (Nat → Int32) → (Nat → Int32) → (Nat → Int32) → (Nat → Int32) → (Nat → Int32) → Prop), (∀ (v3 : Int32) (v4 : Int32) (v5 : Int32) (mStep : Int32) (mMindStep : Int32) (mIsBroken : Int32) (mHas : Nat → Int32) (mOwner : Nat → Int32) (mPrice : Nat → Int32) (mWrong : Nat → Int32) (mMindHas : Nat → Int32) (mMindOwner : Nat → Int32) (mMindPrice : Nat → Int32) (mMindWrong : Nat → Int32), ∀ (H : Heap) (locs : List Loc), va_P (dC, dI) vwCl (wdX8_odds cI cJ cT cII cJJ ad mN mStep mSeen mPlans mBooks mTexted mIsKept mSpot mKeeps mMindStep mAt mWhat mWhole mIsBroken mWorth mHas mOwner mPrice mWrong mMindHas mMindOwner mMindPrice mMindWrong) H → va_D A (wdX8_odds cI cJ cT cII cJJ ad mN mStep mSeen mPlans mBooks mTexted mIsKept mSpot mKeeps mMindStep mAt mWhat mWhole mIsBroken mWorth mHas mOwner mPrice mWrong mMindHas mMindOwner mMindPrice mMindWrong) → va_S A s.heap H locs → ∀ ls : Array Slot, lv_has ls 6 [(0, .ref (ad 0)), (1, .int a1), (2, .int a2), (3, .int v3), (4, .int v4), (5, .int v5)] → K39 v3 v4 v5 mStep mMindStep mIsBroken mHas mOwner mPrice mWrong mMindHas mMindOwner mMindPrice mMindWrong → W p l e (headSpec wsX8_odds ({ frames := 6, cells := 0, slots := 0, locals := 133 } : Room)).room s m ([.ref (ad 0), .int a1, .int a2] : List Value).toArray below meth c H locs 0 0 (MQ below (va_Ql (fun (r : Int64) (u : Int32 × Int32 × Int32 × (Nat → Int32) × (Nat → Int32) × (Nat → Int32) × (Nat → Int32) × (Nat → Int32) × (Nat → Int32) × (Nat → Int32) × (Nat → Int32)) => Post r u.1 u.2.1 u.2.2.1 u.2.2.2.1 u.2.2.2.2.1 u.2.2.2.2.2.1 u.2.2.2.2.2.2.1 u.2.2.2.2.2.2.2.1 u.2.2.2.2.2.2.2.2.1 u.2.2.2.2.2.2.2.2.2.1 u.2.2.2.2.2.2.2.2.2.2) (fun (u : Int32 × Int32 × Int32 × (Nat → Int32) × (Nat → Int32) × (Nat → Int32) × (Nat → Int32) × (Nat → Int32) × (Nat → Int32) × (Nat → Int32) × (Nat → Int32)) t => va_P (dC, dI) vwCl (wdX8_odds cI cJ cT cII cJJ ad mN u.1 mSeen mPlans mBooks mTexted mIsKept mSpot mKeeps u.2.1 mAt mWhat mWhole u.2.2.1 mWorth u.2.2.2.1 u.2.2.2.2.1 u.2.2.2.2.2.1 u.2.2.2.2.2.2.1 u.2.2.2.2.2.2.2.1 u.2.2.2.2.2.2.2.2.1 u.2.2.2.2.2.2.2.2.2.1 u.2.2.2.2.2.2.2.2.2.2) t.heap) A) ([.ref (ad 0), .int a1, .int a2] : List Value).toArray s 0 0 A) (F0 m 39 ls [])) → ∀ (v3 : Int32) (v5 : Int32) (s0 : Int32) (s1 : Int32) (mStep : Int32) (mMindStep : Int32) (mIsBroken : Int32) (mHas : Nat → Int32) (mOwner : Nat → Int32) (mPrice : Nat → Int32) (mWrong : Nat → Int32) (mMindHas : Nat → Int32) (mMindOwner : Nat → Int32) (mMindPrice : Nat → Int32) (mMindWrong : Nat → Int32), ∀ (H : Heap) (locs : List Loc), va_P (dC, dI) vwCl (wdX8_odds cI cJ cT cII cJJ ad mN mStep mSeen mPlans mBooks mTexted mIsKept mSpot mKeeps mMindStep mAt mWhat mWhole mIsBroken mWorth mHas mOwner mPrice mWrong mMindHas mMindOwner mMindPrice mMindWrong) H → va_D A (wdX8_odds cI cJ cT cII cJJ ad mN mStep mSeen mPlans mBooks mTexted mIsKept mSpot mKeeps mMindStep mAt mWhat mWhole mIsBroken mWorth mHas mOwner mPrice mWrong mMindHas mMindOwner mMindPrice mMindWrong) → va_S A s.heap H locs → ∀ ls : Array Slot, lv_has ls 6 [(0, .ref (ad 0)), (1, .int a1), (2, .int a2), (3, .int v3), (5, .int v5)] → wpX8_odds_B73 mN mWorth a1 a2 K39 Post v3 v5 s0 s1 mStep mMindStep mIsBroken mHas mOwner mPrice mWrong mMindHas mMindOwner mMindPrice mMindWrong → W p l e (headSpec wsX8_odds ({ frames := 6, cells := 0, slots := 0, locals := 133 } : Room)).room s m ([.ref (ad 0), .int a1, .int a2] : List Value).toArray below meth c H locs 0 0 (MQ below (va_Ql (fun (r : Int64) (u : Int32 × Int32 × Int32 × (Nat → Int32) × (Nat → Int32) × (Nat → Int32) × (Nat → Int32) × (Nat → Int32) × (Nat → Int32) × (Nat → Int32) × (Nat → Int32)) => Post r u.1 u.2.1 u.2.2.1 u.2.2.2.1 u.2.2.2.2.1 u.2.2.2.2.2.1 u.2.2.2.2.2.2.1 u.2.2.2.2.2.2.2.1 u.2.2.2.2.2.2.2.2.1 u.2.2.2.2.2.2.2.2.2.1 u.2.2.2.2.2.2.2.2.2.2) (fun (u : Int32 × Int32 × Int32 × (Nat → Int32) × (Nat → Int32) × (Nat → Int32) × (Nat → Int32) × (Nat → Int32) × (Nat → Int32) × (Nat → Int32) × (Nat → Int32)) t => va_P (dC, dI) vwCl (wdX8_odds cI cJ cT cII cJJ ad mN u.1 mSeen mPlans mBooks mTexted mIsKept mSpot mKeeps u.2.1 mAt mWhat mWhole u.2.2.1 mWorth u.2.2.2.1 u.2.2.2.2.1 u.2.2.2.2.2.1 u.2.2.2.2.2.2.1 u.2.2.2.2.2.2.2.1 u.2.2.2.2.2.2.2.2.1 u.2.2.2.2.2.2.2.2.2.1 u.2.2.2.2.2.2.2.2.2.2) t.heap) A) ([.ref (ad 0), .int a1, .int a2] : List Value).toArray s 0 0 A) (F0 m 73 ls [.int s1, .int s0]) := by
    intro K39 hK39 v3 v5 s0 s1 mStep mMindStep mIsBroken mHas mOwner mPrice mWrong mMindHas mMindOwner mMindPrice mMindWrong H locs hP hD hS ls hl hw
    unfold wpX8_odds_B73 at hw
    refine lv_iadd hx hb dX8_odds_73 ?_
    refine lv_topi (fun x26 ex26 => ?_)
    have hw := hw x26 ex26
    refine lv_istore (lv' := [(4, .int x26), (0, .ref (ad 0)), (1, .int a1), (2, .int a2), (3, .int v3), (5, .int v5)]) hx hb dX8_odds_74 hl (by decide) rfl (fun ls hl => ?_)
    obtain ⟨x27, ex27⟩ : ∃ y : Int32, y = v5 + 5 := ⟨_, rfl⟩
    have hw := hw x27 ex27
    refine lv_iinc (v := x27) (lv' := [(5, .int x27), (4, .int x26), (0, .ref (ad 0)), (1, .int a1), (2, .int a2), (3, .int v3)]) hx hb dX8_odds_76 hl (k := 5) rfl (by rw [ex27]; rfl) (by decide) rfl (fun ls hl => ?_)
    refine lv_goto (tgt := 39) hx hb dX8_odds_79 (by decide) ?_
    exact hK39 v3 x26 x27 mStep mMindStep mIsBroken mHas mOwner mPrice mWrong mMindHas mMindOwner mMindPrice mMindWrong _ _ hP hD hS ls (lv_sub hl [2, 3, 4, 5, 1, 0] rfl) hw
  have kB39 : ∀ f : Nat, ∀ (v3 : Int32) (v4 : Int32) (v5 : Int32) (mStep : Int32) (mMindStep : Int32) (mIsBroken : Int32) (mHas : Nat → Int32) (mOwner : Nat → Int32) (mPrice : Nat → Int32) (mWrong : Nat → Int32) (mMindHas : Nat → Int32) (mMindOwner : Nat → Int32) (mMindPrice : Nat → Int32) (mMindWrong : Nat → Int32), ∀ (H : Heap) (locs : List Loc), va_P (dC, dI) vwCl (wdX8_odds cI cJ cT cII cJJ ad mN mStep mSeen mPlans mBooks mTexted mIsKept mSpot mKeeps mMindStep mAt mWhat mWhole mIsBroken mWorth mHas mOwner mPrice mWrong mMindHas mMindOwner mMindPrice mMindWrong) H → va_D A (wdX8_odds cI cJ cT cII cJJ ad mN mStep mSeen mPlans mBooks mTexted mIsKept mSpot mKeeps mMindStep mAt mWhat mWhole mIsBroken mWorth mHas mOwner mPrice mWrong mMindHas mMindOwner mMindPrice mMindWrong) → va_S A s.heap H locs → ∀ ls : Array Slot, lv_has ls 6 [(0, .ref (ad 0)), (1, .int a1), (2, .int a2), (3, .int v3), (4, .int v4), (5, .int v5)] → wpX8_odds_B39 mN mWorth a1 a2 Post f v3 v4 v5 mStep mMindStep mIsBroken mHas mOwner mPrice mWrong mMindHas mMindOwner mMindPrice mMindWrong → W p l e (headSpec wsX8_odds ({ frames := 6, cells := 0, slots := 0, locals := 133 } : Room)).room s m ([.ref (ad 0), .int a1, .int a2] : List Value).toArray below meth c H locs 0 0 (MQ below (va_Ql (fun (r : Int64) (u : Int32 × Int32 × Int32 × (Nat → Int32) × (Nat → Int32) × (Nat → Int32) × (Nat → Int32) × (Nat → Int32) × (Nat → Int32) × (Nat → Int32) × (Nat → Int32)) => Post r u.1 u.2.1 u.2.2.1 u.2.2.2.1 u.2.2.2.2.1 u.2.2.2.2.2.1 u.2.2.2.2.2.2.1 u.2.2.2.2.2.2.2.1 u.2.2.2.2.2.2.2.2.1 u.2.2.2.2.2.2.2.2.2.1 u.2.2.2.2.2.2.2.2.2.2) (fun (u : Int32 × Int32 × Int32 × (Nat → Int32) × (Nat → Int32) × (Nat → Int32) × (Nat → Int32) × (Nat → Int32) × (Nat → Int32) × (Nat → Int32) × (Nat → Int32)) t => va_P (dC, dI) vwCl (wdX8_odds cI cJ cT cII cJJ ad mN u.1 mSeen mPlans mBooks mTexted mIsKept mSpot mKeeps u.2.1 mAt mWhat mWhole u.2.2.1 mWorth u.2.2.2.1 u.2.2.2.2.1 u.2.2.2.2.2.1 u.2.2.2.2.2.2.1 u.2.2.2.2.2.2.2.1 u.2.2.2.2.2.2.2.2.1 u.2.2.2.2.2.2.2.2.2.1 u.2.2.2.2.2.2.2.2.2.2) t.heap) A) ([.ref (ad 0), .int a1, .int a2] : List Value).toArray s 0 0 A) (F0 m 39 ls []) := by
    intro  f
    induction f with
    | zero => intro v3 v4 v5 mStep mMindStep mIsBroken mHas mOwner mPrice mWrong mMindHas mMindOwner mMindPrice mMindWrong H locs hP hD hS ls hl hw; exact (show False from hw).elim
    | succ f ih =>
      intro v3 v4 v5 mStep mMindStep mIsBroken mHas mOwner mPrice mWrong mMindHas mMindOwner mMindPrice mMindWrong H locs hP hD hS ls hl hw
      rw [wpX8_odds_B39] at hw
      refine lv_iload hx hb dX8_odds_39 (lv_at hl 5 rfl) ?_
      refine lv_bipush (v := 50) hx hb dX8_odds_41 (by decide) ?_
      refine lv_icmp_ge (tgt := 82) hx hb dX8_odds_43 (by decide) (fun c12 => ?_) (fun c12 => ?_)
      · have hw := hw.1 c12
        refine lv_aload_n hx hb dX8_odds_82 rfl (lv_at hl 0 rfl) ?_
        refine bw_wvv (wc := (wdX8_forgets cI cJ cT cII cJJ ad mN mStep mSeen mPlans mBooks mTexted mIsKept mSpot mKeeps mMindStep mAt mWhat mWhole mIsBroken mHas mOwner mPrice mWrong mMindHas mMindOwner mMindPrice mMindWrong)) (w1 := (fun (u : Int32 × (Nat → Int32) × (Nat → Int32) × (Nat → Int32) × (Nat → Int32)) => wdX8_forgets cI cJ cT cII cJJ ad mN u.1 mSeen mPlans mBooks mTexted mIsKept mSpot mKeeps mMindStep mAt mWhat mWhole mIsBroken u.2.1 u.2.2.1 u.2.2.2.1 u.2.2.2.2 mMindHas mMindOwner mMindPrice mMindWrong)) (As := []) (rest := []) ⟨hx, hb, hml, hown, hts⟩ (mX8_forgets l dC dI cI cJ cT cII cJJ ad _ mN mStep mSeen mPlans mBooks mTexted mIsKept mSpot mKeeps mMindStep mAt mWhat mWhole mIsBroken mHas mOwner mPrice mWrong mMindHas mMindOwner mMindPrice mMindWrong _ hw) (cwV 0 hts gX8_odds_X8_forgets rfl rfl rfl hdX8_forgets ⟨Nat.le_of_ble_eq_true rfl, Nat.le_of_ble_eq_true rfl⟩) hK hP hD hS hA [0, 2, 3, 4, 5, 6, 7, 8, 9] rfl (by decide) (fun _ => rfl) rfl rfl rfl rfl hl.1 rfl (Nat.le_of_ble_eq_true rfl) ⟨Nat.le_of_ble_eq_true rfl, Nat.le_of_ble_eq_true rfl⟩ dX8_odds_83 (fun u H locs hw hP hD hS => ?_)
        obtain ⟨y13, y14, y15, y16, y17⟩ := u
        try dsimp only at hw
        have hP : va_P (dC, dI) vwCl (wdX8_odds cI cJ cT cII cJJ ad mN y13 mSeen mPlans mBooks mTexted mIsKept mSpot mKeeps mMindStep mAt mWhat mWhole mIsBroken mWorth y14 y15 y16 y17 mMindHas mMindOwner mMindPrice mMindWrong) H := hP
        have hD : va_D A (wdX8_odds cI cJ cT cII cJJ ad mN y13 mSeen mPlans mBooks mTexted mIsKept mSpot mKeeps mMindStep mAt mWhat mWhole mIsBroken mWorth y14 y15 y16 y17 mMindHas mMindOwner mMindPrice mMindWrong) := hD
        refine lv_iload hx hb dX8_odds_86 (lv_at hl 4 rfl) ?_
        refine lv_i2l hx hb dX8_odds_88 rfl ?_
        refine lv_ldc2 hx hb hown (hts (.constantLong RX8 285 (10)) (List.mem_of_getElem? (i := 4) rfl)) dX8_odds_89 ?_
        refine lv_iload_n hx hb dX8_odds_92 rfl (lv_at hl 2 rfl) ?_
        refine bw_psl (wc := []) (As := [.long v4.toInt64, .long 10, .int a2]) (rest := []) ⟨hx, hb, hml, hown, hts⟩ (mX8_lowest l dC dI cI cJ cT cII cJJ v4.toInt64 10 a2 _ hw) (va_cwS 3 hts gX8_odds_X8_lowest rfl rfl rfl hdX8_lowest ⟨Nat.le_of_ble_eq_true rfl, Nat.le_of_ble_eq_true rfl⟩) hK hP [] rfl rfl hl.1 rfl (Nat.le_of_ble_eq_true rfl) ⟨Nat.le_of_ble_eq_true rfl, Nat.le_of_ble_eq_true rfl⟩ dX8_odds_93 (fun r18 hw => ?_)
        exact W.lret (v := r18) hx hb hr (fun t ht hW => ⟨⟨r18, (y13, mMindStep, mIsBroken, y14, y15, y16, y17, mMindHas, mMindOwner, mMindPrice, mMindWrong), rfl, hw, by show va_P _ _ _ t.heap; rw [ht]; exact hP⟩, hS.F ht⟩) hS.2.2 dX8_odds_96
      · have hw := hw.2 c12
        refine lv_aload_n hx hb dX8_odds_46 rfl (lv_at hl 0 rfl) ?_
        refine lv_iload hx hb dX8_odds_47 (lv_at hl 5 rfl) ?_
        refine va_put (D := (dC, dI)) (ci := 8) (v := .int v5) (ty := .int) (C := RX8) (T := TX8) (N := 36) hx hb hts (fun w h => List.mem_cons_of_mem _ (List.mem_append_right _ h)) tyX8 tyX8_ok nmX8 hown hK hP hD hS 0 rfl rfl 1 (by decide) (hts (.fieldLink RX8 15 "BidMarketModel" "step" "I") (List.mem_of_getElem? (i := 3) rfl)) (fun _ h9 => h9) rfl (by decide +kernel) rfl rfl (Nat.le_of_ble_eq_true rfl) dX8_odds_49 (fun H locs hP hD hS => ?_)
        have hP : va_P (dC, dI) vwCl (wdX8_odds cI cJ cT cII cJJ ad mN v5 mSeen mPlans mBooks mTexted mIsKept mSpot mKeeps mMindStep mAt mWhat mWhole mIsBroken mWorth mHas mOwner mPrice mWrong mMindHas mMindOwner mMindPrice mMindWrong) H := hP
        have hD : va_D A (wdX8_odds cI cJ cT cII cJJ ad mN v5 mSeen mPlans mBooks mTexted mIsKept mSpot mKeeps mMindStep mAt mWhat mWhole mIsBroken mWorth mHas mOwner mPrice mWrong mMindHas mMindOwner mMindPrice mMindWrong) := hD
        refine lv_aload_n hx hb dX8_odds_52 rfl (lv_at hl 0 rfl) ?_
        refine bw_wvv (wc := (wdX8_triesAuction cI cJ cT cII cJJ ad mN v5 mSeen mPlans mBooks mTexted mIsKept mSpot mKeeps mMindStep mAt mWhat mWhole mIsBroken mWorth mHas mOwner mPrice mWrong)) (w1 := (fun (u : Int32 × (Nat → Int32) × (Nat → Int32) × (Nat → Int32) × (Nat → Int32)) => wdX8_triesAuction cI cJ cT cII cJJ ad mN v5 mSeen mPlans mBooks mTexted mIsKept mSpot mKeeps mMindStep mAt mWhat mWhole u.1 mWorth u.2.1 u.2.2.1 u.2.2.2.1 u.2.2.2.2)) (As := []) (rest := []) ⟨hx, hb, hml, hown, hts⟩ (mX8_triesAuction l dC dI cI cJ cT cII cJJ ad _ mN v5 mSeen mPlans mBooks mTexted mIsKept mSpot mKeeps mMindStep mAt mWhat mWhole mIsBroken mWorth mHas mOwner mPrice mWrong _ hw) (cwV 0 hts gX8_odds_X8_triesAuction rfl rfl rfl hdX8_triesAuction ⟨Nat.le_of_ble_eq_true rfl, Nat.le_of_ble_eq_true rfl⟩) hK hP hD hS hA [0, 1, 2, 3, 4, 5] rfl (by decide) (fun _ => rfl) rfl rfl rfl rfl hl.1 rfl (Nat.le_of_ble_eq_true rfl) ⟨Nat.le_of_ble_eq_true rfl, Nat.le_of_ble_eq_true rfl⟩ dX8_odds_53 (fun u H locs hw hP hD hS => ?_)
        obtain ⟨y19, y20, y21, y22, y23⟩ := u
        try dsimp only at hw
        have hP : va_P (dC, dI) vwCl (wdX8_odds cI cJ cT cII cJJ ad mN v5 mSeen mPlans mBooks mTexted mIsKept mSpot mKeeps mMindStep mAt mWhat mWhole y19 mWorth y20 y21 y22 y23 mMindHas mMindOwner mMindPrice mMindWrong) H := hP
        have hD : va_D A (wdX8_odds cI cJ cT cII cJJ ad mN v5 mSeen mPlans mBooks mTexted mIsKept mSpot mKeeps mMindStep mAt mWhat mWhole y19 mWorth y20 y21 y22 y23 mMindHas mMindOwner mMindPrice mMindWrong) := hD
        refine lv_iload hx hb dX8_odds_56 (lv_at hl 4 rfl) ?_
        refine lv_aload_n hx hb dX8_odds_58 rfl (lv_at hl 0 rfl) ?_
        refine va_get (D := (dC, dI)) (ci := 8) (v := .ref (ad 2)) (C := RX8) (T := TX8) (N := 36) hx hb hts (fun w h => List.mem_cons_of_mem _ (List.mem_append_right _ h)) hown hK hP 0 rfl rfl 3 (by decide) (hts (.fieldLink RX8 22 "BidMarketModel" "has" "[I") (List.mem_of_getElem? (i := 2) rfl)) (fun _ h9 => h9) rfl dX8_odds_59 ?_
        refine lv_iload_n hx hb dX8_odds_62 rfl (lv_at hl 1 rfl) ?_
        have h24 := hw.1
        have hw := hw.2
        refine va_iald hx hb hK hP 2 0 rfl rfl h24 dX8_odds_63 ?_
        refine lv_iload_n hx hb dX8_odds_64 rfl (lv_at hl 3 rfl) ?_
        refine lv_icmp_ne (tgt := 72) hx hb dX8_odds_65 (by decide) (fun c25 => ?_) (fun c25 => ?_)
        · have hw := hw.1 c25
          refine lv_iconst (v := 0) hx hb dX8_odds_72 (by decide) ?_
          exact kB73 (wpX8_odds_B39 mN mWorth a1 a2 Post f) ih v3 v5 v4 0 v5 mMindStep y19 y20 y21 y22 y23 mMindHas mMindOwner mMindPrice mMindWrong _ _ hP hD hS ls (lv_sub hl [0, 1, 2, 3, 5] rfl) hw
        · have hw := hw.2 c25
          refine lv_iconst (v := 1) hx hb dX8_odds_68 (by decide) ?_
          refine lv_goto (tgt := 73) hx hb dX8_odds_69 (by decide) ?_
          exact kB73 (wpX8_odds_B39 mN mWorth a1 a2 Post f) ih v3 v5 v4 1 v5 mMindStep y19 y20 y21 y22 y23 mMindHas mMindOwner mMindPrice mMindWrong _ _ hP hD hS ls (lv_sub hl [0, 1, 2, 3, 5] rfl) hw
  unfold wpX8_odds at hw
  refine lv_aload_n hx hb dX8_odds_0 rfl (lv_at hl 0 rfl) ?_
  refine lv_iload_n hx hb dX8_odds_1 rfl (lv_at hl 1 rfl) ?_
  refine bw_pvi (wc := (wdX8_isOne cI cJ cT cII cJJ ad mN mStep mSeen mPlans mBooks mTexted mIsKept mSpot mKeeps mMindStep mAt mWhat mWhole mIsBroken)) (As := [.int a1]) (rest := []) ⟨hx, hb, hml, hown, hts⟩ (mX8_isOne l dC dI cI cJ cT cII cJJ ad mN mStep mSeen mPlans mBooks mTexted mIsKept mSpot mKeeps mMindStep mAt mWhat mWhole mIsBroken a1 _ hw) (cwV 1 hts gX8_odds_X8_isOne rfl rfl rfl hdX8_isOne ⟨Nat.le_of_ble_eq_true rfl, Nat.le_of_ble_eq_true rfl⟩) hK hP [0] rfl rfl rfl rfl rfl hl.1 rfl (Nat.le_of_ble_eq_true rfl) ⟨Nat.le_of_ble_eq_true rfl, Nat.le_of_ble_eq_true rfl⟩ dX8_odds_2 (fun r1 hw => ?_)
  refine lv_if_eq (tgt := 18) hx hb dX8_odds_5 (by decide) (fun c2 => ?_) (fun c2 => ?_)
  · have hw := hw.1 c2
    refine lv_ldc2 hx hb hown (hts (.constantLong RX8 233 (-9223372036854775808)) (List.mem_of_getElem? (i := 1) rfl)) dX8_odds_18 ?_
    exact W.lret (v := (-9223372036854775808)) hx hb hr (fun t ht hW => ⟨⟨(-9223372036854775808), (mStep, mMindStep, mIsBroken, mHas, mOwner, mPrice, mWrong, mMindHas, mMindOwner, mMindPrice, mMindWrong), rfl, hw, by show va_P _ _ _ t.heap; rw [ht]; exact hP⟩, hS.F ht⟩) hS.2.2 dX8_odds_21
  · have hw := hw.2 c2
    refine lv_iload_n hx hb dX8_odds_8 rfl (lv_at hl 2 rfl) ?_
    refine lv_i2l hx hb dX8_odds_9 rfl ?_
    refine lv_lconst (v := 0) hx hb dX8_odds_10 (by decide) ?_
    refine lv_lconst (v := 1) hx hb dX8_odds_11 (by decide) ?_
    refine bw_psi (wc := []) (As := [.long a2.toInt64, .long 0, .long 1]) (rest := []) ⟨hx, hb, hml, hown, hts⟩ (mX8_in l dC dI cI cJ cT cII cJJ a2.toInt64 0 1 _ hw) (va_cwS 3 hts gX8_odds_X8_in rfl rfl rfl hdX8_in ⟨Nat.le_of_ble_eq_true rfl, Nat.le_of_ble_eq_true rfl⟩) hK hP [] rfl rfl hl.1 rfl (Nat.le_of_ble_eq_true rfl) ⟨Nat.le_of_ble_eq_true rfl, Nat.le_of_ble_eq_true rfl⟩ dX8_odds_12 (fun r3 hw => ?_)
    refine lv_if_ne (tgt := 22) hx hb dX8_odds_15 (by decide) (fun c4 => ?_) (fun c4 => ?_)
    · have hw := hw.1 c4
      refine lv_aload_n hx hb dX8_odds_22 rfl (lv_at hl 0 rfl) ?_
      refine va_get (D := (dC, dI)) (ci := 8) (v := .ref (ad 2)) (C := RX8) (T := TX8) (N := 36) hx hb hts (fun w h => List.mem_cons_of_mem _ (List.mem_append_right _ h)) hown hK hP 0 rfl rfl 3 (by decide) (hts (.fieldLink RX8 22 "BidMarketModel" "has" "[I") (List.mem_of_getElem? (i := 2) rfl)) (fun _ h9 => h9) rfl dX8_odds_23 ?_
      refine lv_iload_n hx hb dX8_odds_26 rfl (lv_at hl 1 rfl) ?_
      have h5 := hw.1
      have hw := hw.2
      refine va_iald hx hb hK hP 2 0 rfl rfl h5 dX8_odds_27 ?_
      refine lv_topi (fun x6 ex6 => ?_)
      have hw := hw x6 ex6
      refine lv_istore_n (lv' := [(3, .int x6), (0, .ref (ad 0)), (1, .int a1), (2, .int a2)]) hx hb dX8_odds_28 rfl hl (by decide) rfl (fun ls hl => ?_)
      refine lv_iconst (v := 0) hx hb dX8_odds_29 (by decide) ?_
      refine lv_istore (lv' := [(4, .int 0), (3, .int x6), (0, .ref (ad 0)), (1, .int a1), (2, .int a2)]) hx hb dX8_odds_30 hl (by decide) rfl (fun ls hl => ?_)
      refine lv_aload_n hx hb dX8_odds_32 rfl (lv_at hl 2 rfl) ?_
      refine bw_wvv (wc := (wdX8_minds cI cJ cT cII cJJ ad mN mStep mSeen mPlans mBooks mTexted mIsKept mSpot mKeeps mMindStep mAt mWhat mWhole mIsBroken mHas mOwner mPrice mWrong mMindHas mMindOwner mMindPrice mMindWrong)) (w1 := (fun (u : Int32 × (Nat → Int32) × (Nat → Int32) × (Nat → Int32) × (Nat → Int32)) => wdX8_minds cI cJ cT cII cJJ ad mN mStep mSeen mPlans mBooks mTexted mIsKept mSpot mKeeps u.1 mAt mWhat mWhole mIsBroken mHas mOwner mPrice mWrong u.2.1 u.2.2.1 u.2.2.2.1 u.2.2.2.2)) (As := []) (rest := []) ⟨hx, hb, hml, hown, hts⟩ (mX8_minds l dC dI cI cJ cT cII cJJ ad _ mN mStep mSeen mPlans mBooks mTexted mIsKept mSpot mKeeps mMindStep mAt mWhat mWhole mIsBroken mHas mOwner mPrice mWrong mMindHas mMindOwner mMindPrice mMindWrong _ hw) (cwV 0 hts gX8_odds_X8_minds rfl rfl rfl hdX8_minds ⟨Nat.le_of_ble_eq_true rfl, Nat.le_of_ble_eq_true rfl⟩) hK hP hD hS hA [0, 2, 3, 4, 5, 6, 7, 8, 9] rfl (by decide) (fun _ => rfl) rfl rfl rfl rfl hl.1 rfl (Nat.le_of_ble_eq_true rfl) ⟨Nat.le_of_ble_eq_true rfl, Nat.le_of_ble_eq_true rfl⟩ dX8_odds_33 (fun u H locs hw hP hD hS => ?_)
      obtain ⟨y7, y8, y9, y10, y11⟩ := u
      try dsimp only at hw
      have hP : va_P (dC, dI) vwCl (wdX8_odds cI cJ cT cII cJJ ad mN mStep mSeen mPlans mBooks mTexted mIsKept mSpot mKeeps y7 mAt mWhat mWhole mIsBroken mWorth mHas mOwner mPrice mWrong y8 y9 y10 y11) H := hP
      have hD : va_D A (wdX8_odds cI cJ cT cII cJJ ad mN mStep mSeen mPlans mBooks mTexted mIsKept mSpot mKeeps y7 mAt mWhat mWhole mIsBroken mWorth mHas mOwner mPrice mWrong y8 y9 y10 y11) := hD
      refine lv_iconst (v := 1) hx hb dX8_odds_36 (by decide) ?_
      refine lv_istore (lv' := [(5, .int 1), (4, .int 0), (3, .int x6), (0, .ref (ad 0)), (1, .int a1), (2, .int a2)]) hx hb dX8_odds_37 hl (by decide) rfl (fun ls hl => ?_)
      obtain ⟨f1, hw⟩ := hw
      exact kB39 f1 x6 0 1 mStep y7 mIsBroken mHas mOwner mPrice mWrong y8 y9 y10 y11 _ _ hP hD hS ls (lv_sub hl [3, 4, 5, 2, 1, 0] rfl) hw
    · have hw := hw.2 c4
      refine lv_ldc2 hx hb hown (hts (.constantLong RX8 233 (-9223372036854775808)) (List.mem_of_getElem? (i := 1) rfl)) dX8_odds_18 ?_
      exact W.lret (v := (-9223372036854775808)) hx hb hr (fun t ht hW => ⟨⟨(-9223372036854775808), (mStep, mMindStep, mIsBroken, mHas, mOwner, mPrice, mWrong, mMindHas, mMindOwner, mMindPrice, mMindWrong), rfl, hw, by show va_P _ _ _ t.heap; rw [ht]; exact hP⟩, hS.F ht⟩) hS.2.2 dX8_odds_21
set_option maxHeartbeats 4000000 in
set_option maxRecDepth 100000 in
theorem mX8_mean (l : Launch) (dC : Nat → ClassId) (dI : Nat → Nat → Nat) (cI cJ cT cII cJJ : ClassId) (ad : Nat → Nat) (mN : Int32) (mStep : Int32) (mSeen : Int32) (mPlans : Int32) (mBooks : Int32) (mTexted : Int32) (mIsKept : Int32) (mSpot : Int32) (mKeeps : Int32) (mMindStep : Int32) (mAt : Int32) (mWhat : Int32) (mWhole : Int32) (mIsBroken : Int32) (mPrice : Nat → Int32) (a1 : Int32) (Post : Int64 → Prop) (hw : wpX8_mean mN mPrice a1 Post) : Met l yX8_mean wsX8_mean ({ frames := 1, cells := 0, slots := 0, locals := 30 } : Room) (va_Pc [.ref (ad 0), .int a1] (fun U => va_P (dC, dI) vwCl (wdX8_mean cI cJ cT cII cJJ ad mN mStep mSeen mPlans mBooks mTexted mIsKept mSpot mKeeps mMindStep mAt mWhat mWhole mIsBroken mPrice) U.heap ∧ va_K (dC, dI) vwCl (bw_tys cI cJ cT cII cJJ) U)) (vp_Sl Post) 0 0 (fun _ => False) := by
  refine Met.ofW (cc := cX8_mean) (maxL := 2) (ret := (some .long)) (by decide) rfl ?_
  intro p e s m args below meth c s₁ B hml hv
  obtain ⟨rfl, hP, hK⟩ := hv
  have hx := B.exec
  have hb := B.bytes
  have hr := B.returns
  have hts := atoms_spec (ws := wsX8_mean) B.pre
  have hown : s.vm.findClass RX8 = some m.cls := findClass_of_methodNamed B.named
  have hlocks := B.notSynchronized
  have hl := lv_entry ([.ref (ad 0), .int a1]) (n := 2) (Nat.le_of_ble_eq_true rfl)
  rw [lg_entry_eq]
  generalize (lg_sl ([.ref (ad 0), .int a1]) ++ List.replicate (2 - (lg_sl ([.ref (ad 0), .int a1])).length) Slot.unset).toArray = ls at hl ⊢
  have hl : lv_has ls 2 [(0, .ref (ad 0)), (1, .int a1)] := hl
  unfold wpX8_mean at hw
  refine lv_iload_n hx hb dX8_mean_0 rfl (lv_at hl 1 rfl) ?_
  refine lv_i2l hx hb dX8_mean_1 rfl ?_
  refine lv_lconst (v := 0) hx hb dX8_mean_2 (by decide) ?_
  refine lv_lconst (v := 1) hx hb dX8_mean_3 (by decide) ?_
  refine bw_psi (wc := []) (As := [.long a1.toInt64, .long 0, .long 1]) (rest := []) ⟨hx, hb, hml, hown, hts⟩ (mX8_in l dC dI cI cJ cT cII cJJ a1.toInt64 0 1 _ hw) (va_cwS 3 hts gX8_mean_X8_in rfl rfl rfl hdX8_in ⟨Nat.le_of_ble_eq_true rfl, Nat.le_of_ble_eq_true rfl⟩) hK hP [] rfl rfl hl.1 rfl (Nat.le_of_ble_eq_true rfl) ⟨Nat.le_of_ble_eq_true rfl, Nat.le_of_ble_eq_true rfl⟩ dX8_mean_4 (fun r1 hw => ?_)
  refine lv_if_eq (tgt := 27) hx hb dX8_mean_7 (by decide) (fun c2 => ?_) (fun c2 => ?_)
  · have hw := hw.1 c2
    refine lv_ldc2 hx hb hown (hts (.constantLong RX8 233 (-9223372036854775808)) (List.mem_of_getElem? (i := 2) rfl)) dX8_mean_27 ?_
    exact W.lret (v := (-9223372036854775808)) hx hb hr (fun t ht hW => ⟨(-9223372036854775808), rfl, hw, ht⟩) (fun _ h => by cases h) dX8_mean_30
  · have hw := hw.2 c2
    refine lv_aload_n hx hb dX8_mean_10 rfl (lv_at hl 0 rfl) ?_
    refine bw_pvi (wc := (wdX8_prices cI cJ cT cII cJJ ad mN mStep mSeen mPlans mBooks mTexted mIsKept mSpot mKeeps mMindStep mAt mWhat mWhole mIsBroken mPrice)) (As := []) (rest := []) ⟨hx, hb, hml, hown, hts⟩ (mX8_prices l dC dI cI cJ cT cII cJJ ad mN mStep mSeen mPlans mBooks mTexted mIsKept mSpot mKeeps mMindStep mAt mWhat mWhole mIsBroken mPrice _ hw) (cwV 0 hts gX8_mean_X8_prices rfl rfl rfl hdX8_prices ⟨Nat.le_of_ble_eq_true rfl, Nat.le_of_ble_eq_true rfl⟩) hK hP [0, 1] rfl rfl rfl rfl rfl hl.1 rfl (Nat.le_of_ble_eq_true rfl) ⟨Nat.le_of_ble_eq_true rfl, Nat.le_of_ble_eq_true rfl⟩ dX8_mean_11 (fun r3 hw => ?_)
    refine lv_i2l hx hb dX8_mean_14 rfl ?_
    refine lv_aload_n hx hb dX8_mean_15 rfl (lv_at hl 0 rfl) ?_
    refine va_get (D := (dC, dI)) (ci := 8) (v := .int mN) (C := RX8) (T := TX8) (N := 36) hx hb hts (fun w h => List.mem_cons_of_mem _ (List.mem_append_right _ h)) hown hK hP 0 rfl rfl 0 (by decide) (hts (.fieldLink RX8 9 "BidMarketModel" "n" "I") (List.mem_of_getElem? (i := 1) rfl)) (fun _ h9 => h9) rfl dX8_mean_16 ?_
    refine lv_i2l hx hb dX8_mean_19 rfl ?_
    refine lv_iload_n hx hb dX8_mean_20 rfl (lv_at hl 1 rfl) ?_
    refine bw_psl (wc := []) (As := [.long r3.toInt64, .long mN.toInt64, .int a1]) (rest := []) ⟨hx, hb, hml, hown, hts⟩ (mX8_lowest l dC dI cI cJ cT cII cJJ r3.toInt64 mN.toInt64 a1 _ hw) (va_cwS 3 hts gX8_mean_X8_lowest rfl rfl rfl hdX8_lowest ⟨Nat.le_of_ble_eq_true rfl, Nat.le_of_ble_eq_true rfl⟩) hK hP [] rfl rfl hl.1 rfl (Nat.le_of_ble_eq_true rfl) ⟨Nat.le_of_ble_eq_true rfl, Nat.le_of_ble_eq_true rfl⟩ dX8_mean_21 (fun r4 hw => ?_)
    refine lv_goto (tgt := 30) hx hb dX8_mean_24 (by decide) ?_
    exact W.lret (v := r4) hx hb hr (fun t ht hW => ⟨r4, rfl, hw, ht⟩) (fun _ h => by cases h) dX8_mean_30
set_option maxHeartbeats 4000000 in
set_option maxRecDepth 100000 in
theorem mX8_plan (l : Launch) (dC : Nat → ClassId) (dI : Nat → Nat → Nat) (cI cJ cT cII cJJ : ClassId) (ad : Nat → Nat) (sz : Nat) (mN : Int32) (mStep : Int32) (mSeen : Int32) (mPlans : Int32) (mBooks : Int32) (mTexted : Int32) (mIsKept : Int32) (mSpot : Int32) (mKeeps : Int32) (mMindStep : Int32) (mAt : Int32) (mWhat : Int32) (mWhole : Int32) (mIsBroken : Int32) (mPlanWhat : Nat → Int32) (mPlanN : Nat → Int32) (a1 : Int32) (a2 : Int32) (Post : Int32 → Int32 → (Nat → Int32) → (Nat → Int32) → Prop) (hw : wpX8_plan mN mPlans mPlanWhat mPlanN a1 a2 Post) : Met l yX8_plan wsX8_plan ({ frames := 2, cells := 0, slots := 0, locals := 46 } : Room) (va_Pc [.ref (ad 0), .int a1, .int a2] (fun U => U.heap.size = sz ∧ va_P (dC, dI) vwCl (wdX8_plan cI cJ cT cII cJJ ad mN mStep mSeen mPlans mBooks mTexted mIsKept mSpot mKeeps mMindStep mAt mWhat mWhole mIsBroken mPlanWhat mPlanN) U.heap ∧ va_K (dC, dI) vwCl (bw_tys cI cJ cT cII cJJ) U ∧ va_D (fun _ => True) (wdX8_plan cI cJ cT cII cJJ ad mN mStep mSeen mPlans mBooks mTexted mIsKept mSpot mKeeps mMindStep mAt mWhat mWhole mIsBroken mPlanWhat mPlanN))) (va_Qi (fun (r : Int32) (u : Int32 × (Nat → Int32) × (Nat → Int32)) => Post r u.1 u.2.1 u.2.2) (fun (u : Int32 × (Nat → Int32) × (Nat → Int32)) t => va_P (dC, dI) vwCl (wdX8_plan cI cJ cT cII cJJ ad mN mStep mSeen u.1 mBooks mTexted mIsKept mSpot mKeeps mMindStep mAt mWhat mWhole mIsBroken u.2.1 u.2.2) t.heap) (va_A (wdX8_plan cI cJ cT cII cJJ ad mN mStep mSeen mPlans mBooks mTexted mIsKept mSpot mKeeps mMindStep mAt mWhat mWhole mIsBroken mPlanWhat mPlanN) sz)) 0 0 (va_A (wdX8_plan cI cJ cT cII cJJ ad mN mStep mSeen mPlans mBooks mTexted mIsKept mSpot mKeeps mMindStep mAt mWhat mWhole mIsBroken mPlanWhat mPlanN) sz) := by
  refine Met.ofW (cc := cX8_plan) (maxL := 3) (ret := (some .int)) (by decide) rfl ?_
  intro p e s m args below meth c s₁ B hml hv
  obtain ⟨rfl, hsz, hP, hK, hD0⟩ := hv
  have hx := B.exec
  have hb := B.bytes
  have hr := B.returns
  have hts := atoms_spec (ws := wsX8_plan) B.pre
  have hown : s.vm.findClass RX8 = some m.cls := findClass_of_methodNamed B.named
  have hlocks := B.notSynchronized
  subst hsz
  have hD := hD0.self (sz := s.heap.size)
  generalize hAe : va_A (wdX8_plan cI cJ cT cII cJJ ad mN mStep mSeen mPlans mBooks mTexted mIsKept mSpot mKeeps mMindStep mAt mWhat mWhole mIsBroken mPlanWhat mPlanN) s.heap.size = A at hD ⊢
  have hA : ∀ q : Nat, s.heap.size ≤ q → A q := fun q h => by rw [← hAe]; exact Or.inr h
  have hS : va_S A s.heap s.heap [] := va_S.rf
  have hl := lv_entry ([.ref (ad 0), .int a1, .int a2]) (n := 3) (Nat.le_of_ble_eq_true rfl)
  rw [lg_entry_eq]
  generalize (lg_sl ([.ref (ad 0), .int a1, .int a2]) ++ List.replicate (3 - (lg_sl ([.ref (ad 0), .int a1, .int a2])).length) Slot.unset).toArray = ls at hl ⊢
  have hl : lv_has ls 3 [(0, .ref (ad 0)), (1, .int a1), (2, .int a2)] := hl
  have kB59 : ∀ (mPlans : Int32) (mPlanWhat : Nat → Int32) (mPlanN : Nat → Int32), ∀ (H : Heap) (locs : List Loc), va_P (dC, dI) vwCl (wdX8_plan cI cJ cT cII cJJ ad mN mStep mSeen mPlans mBooks mTexted mIsKept mSpot mKeeps mMindStep mAt mWhat mWhole mIsBroken mPlanWhat mPlanN) H → va_D A (wdX8_plan cI cJ cT cII cJJ ad mN mStep mSeen mPlans mBooks mTexted mIsKept mSpot mKeeps mMindStep mAt mWhat mWhole mIsBroken mPlanWhat mPlanN) → va_S A s.heap H locs → ∀ ls : Array Slot, lv_has ls 3 [(0, .ref (ad 0)), (1, .int a1), (2, .int a2)] → wpX8_plan_B59 mN a1 a2 Post mPlans mPlanWhat mPlanN → W p l e (headSpec wsX8_plan ({ frames := 2, cells := 0, slots := 0, locals := 46 } : Room)).room s m ([.ref (ad 0), .int a1, .int a2] : List Value).toArray below meth c H locs 0 0 (MQ below (va_Qi (fun (r : Int32) (u : Int32 × (Nat → Int32) × (Nat → Int32)) => Post r u.1 u.2.1 u.2.2) (fun (u : Int32 × (Nat → Int32) × (Nat → Int32)) t => va_P (dC, dI) vwCl (wdX8_plan cI cJ cT cII cJJ ad mN mStep mSeen u.1 mBooks mTexted mIsKept mSpot mKeeps mMindStep mAt mWhat mWhole mIsBroken u.2.1 u.2.2) t.heap) A) ([.ref (ad 0), .int a1, .int a2] : List Value).toArray s 0 0 A) (F0 m 59 ls []) := by
    intro mPlans mPlanWhat mPlanN H locs hP hD hS ls hl hw
    unfold wpX8_plan_B59 at hw
    refine lv_aload_n hx hb dX8_plan_59 rfl (lv_at hl 0 rfl) ?_
    refine va_get (D := (dC, dI)) (ci := 8) (v := .int mPlans) (C := RX8) (T := TX8) (N := 36) hx hb hts (fun w h => List.mem_cons_of_mem _ (List.mem_append_right _ h)) hown hK hP 0 rfl rfl 13 (by decide) (hts (.fieldLink RX8 114 "BidMarketModel" "plans" "I") (List.mem_of_getElem? (i := 1) rfl)) (fun _ h9 => h9) rfl dX8_plan_60 ?_
    refine lv_bipush (v := 10) hx hb dX8_plan_63 (by decide) ?_
    refine lv_icmp_ne (tgt := 71) hx hb dX8_plan_65 (by decide) (fun c6 => ?_) (fun c6 => ?_)
    · have hw := hw.1 c6
      refine lv_aload_n hx hb dX8_plan_71 rfl (lv_at hl 0 rfl) ?_
      refine va_get (D := (dC, dI)) (ci := 8) (v := .ref (ad 7)) (C := RX8) (T := TX8) (N := 36) hx hb hts (fun w h => List.mem_cons_of_mem _ (List.mem_append_right _ h)) hown hK hP 0 rfl rfl 8 (by decide) (hts (.fieldLink RX8 37 "BidMarketModel" "planWhat" "[I") (List.mem_of_getElem? (i := 4) rfl)) (fun _ h9 => h9) rfl dX8_plan_72 ?_
      refine lv_aload_n hx hb dX8_plan_75 rfl (lv_at hl 0 rfl) ?_
      refine va_get (D := (dC, dI)) (ci := 8) (v := .int mPlans) (C := RX8) (T := TX8) (N := 36) hx hb hts (fun w h => List.mem_cons_of_mem _ (List.mem_append_right _ h)) hown hK hP 0 rfl rfl 13 (by decide) (hts (.fieldLink RX8 114 "BidMarketModel" "plans" "I") (List.mem_of_getElem? (i := 1) rfl)) (fun _ h9 => h9) rfl dX8_plan_76 ?_
      refine lv_iload_n hx hb dX8_plan_79 rfl (lv_at hl 1 rfl) ?_
      have h7 := hw.1
      have hw := hw.2
      refine va_iast hx hb hK hP hD hS 1 0 rfl rfl h7 dX8_plan_80 (fun H locs hP hD hS => ?_)
      have hP : va_P (dC, dI) vwCl (wdX8_plan cI cJ cT cII cJJ ad mN mStep mSeen mPlans mBooks mTexted mIsKept mSpot mKeeps mMindStep mAt mWhat mWhole mIsBroken (upd mPlanWhat mPlans.toNatClampNeg a1) mPlanN) H := hP
      have hD : va_D A (wdX8_plan cI cJ cT cII cJJ ad mN mStep mSeen mPlans mBooks mTexted mIsKept mSpot mKeeps mMindStep mAt mWhat mWhole mIsBroken (upd mPlanWhat mPlans.toNatClampNeg a1) mPlanN) := hD
      refine lv_aload_n hx hb dX8_plan_81 rfl (lv_at hl 0 rfl) ?_
      refine va_get (D := (dC, dI)) (ci := 8) (v := .ref (ad 8)) (C := RX8) (T := TX8) (N := 36) hx hb hts (fun w h => List.mem_cons_of_mem _ (List.mem_append_right _ h)) hown hK hP 0 rfl rfl 9 (by decide) (hts (.fieldLink RX8 40 "BidMarketModel" "planN" "[I") (List.mem_of_getElem? (i := 5) rfl)) (fun _ h9 => h9) rfl dX8_plan_82 ?_
      refine lv_aload_n hx hb dX8_plan_85 rfl (lv_at hl 0 rfl) ?_
      refine va_get (D := (dC, dI)) (ci := 8) (v := .int mPlans) (C := RX8) (T := TX8) (N := 36) hx hb hts (fun w h => List.mem_cons_of_mem _ (List.mem_append_right _ h)) hown hK hP 0 rfl rfl 13 (by decide) (hts (.fieldLink RX8 114 "BidMarketModel" "plans" "I") (List.mem_of_getElem? (i := 1) rfl)) (fun _ h9 => h9) rfl dX8_plan_86 ?_
      refine lv_iload_n hx hb dX8_plan_89 rfl (lv_at hl 2 rfl) ?_
      have h8 := hw.1
      have hw := hw.2
      refine va_iast hx hb hK hP hD hS 2 0 rfl rfl h8 dX8_plan_90 (fun H locs hP hD hS => ?_)
      have hP : va_P (dC, dI) vwCl (wdX8_plan cI cJ cT cII cJJ ad mN mStep mSeen mPlans mBooks mTexted mIsKept mSpot mKeeps mMindStep mAt mWhat mWhole mIsBroken (upd mPlanWhat mPlans.toNatClampNeg a1) (upd mPlanN mPlans.toNatClampNeg a2)) H := hP
      have hD : va_D A (wdX8_plan cI cJ cT cII cJJ ad mN mStep mSeen mPlans mBooks mTexted mIsKept mSpot mKeeps mMindStep mAt mWhat mWhole mIsBroken (upd mPlanWhat mPlans.toNatClampNeg a1) (upd mPlanN mPlans.toNatClampNeg a2)) := hD
      refine lv_aload_n hx hb dX8_plan_91 rfl (lv_at hl 0 rfl) ?_
      refine lv_dup hx hb dX8_plan_92 rfl ?_
      refine va_get (D := (dC, dI)) (ci := 8) (v := .int mPlans) (C := RX8) (T := TX8) (N := 36) hx hb hts (fun w h => List.mem_cons_of_mem _ (List.mem_append_right _ h)) hown hK hP 0 rfl rfl 13 (by decide) (hts (.fieldLink RX8 114 "BidMarketModel" "plans" "I") (List.mem_of_getElem? (i := 1) rfl)) (fun _ h9 => h9) rfl dX8_plan_93 ?_
      refine lv_iconst (v := 1) hx hb dX8_plan_96 (by decide) ?_
      refine lv_iadd hx hb dX8_plan_97 ?_
      refine va_put (D := (dC, dI)) (ci := 8) (v := .int (mPlans + 1)) (ty := .int) (C := RX8) (T := TX8) (N := 36) hx hb hts (fun w h => List.mem_cons_of_mem _ (List.mem_append_right _ h)) tyX8 tyX8_ok nmX8 hown hK hP hD hS 0 rfl rfl 13 (by decide) (hts (.fieldLink RX8 114 "BidMarketModel" "plans" "I") (List.mem_of_getElem? (i := 1) rfl)) (fun _ h9 => h9) rfl (by decide +kernel) rfl rfl (Nat.le_of_ble_eq_true rfl) dX8_plan_98 (fun H locs hP hD hS => ?_)
      have hP : va_P (dC, dI) vwCl (wdX8_plan cI cJ cT cII cJJ ad mN mStep mSeen (mPlans + 1) mBooks mTexted mIsKept mSpot mKeeps mMindStep mAt mWhat mWhole mIsBroken (upd mPlanWhat mPlans.toNatClampNeg a1) (upd mPlanN mPlans.toNatClampNeg a2)) H := hP
      have hD : va_D A (wdX8_plan cI cJ cT cII cJJ ad mN mStep mSeen (mPlans + 1) mBooks mTexted mIsKept mSpot mKeeps mMindStep mAt mWhat mWhole mIsBroken (upd mPlanWhat mPlans.toNatClampNeg a1) (upd mPlanN mPlans.toNatClampNeg a2)) := hD
      refine lv_aload_n hx hb dX8_plan_101 rfl (lv_at hl 0 rfl) ?_
      refine va_get (D := (dC, dI)) (ci := 8) (v := .int (mPlans + 1)) (C := RX8) (T := TX8) (N := 36) hx hb hts (fun w h => List.mem_cons_of_mem _ (List.mem_append_right _ h)) hown hK hP 0 rfl rfl 13 (by decide) (hts (.fieldLink RX8 114 "BidMarketModel" "plans" "I") (List.mem_of_getElem? (i := 1) rfl)) (fun _ h9 => h9) rfl dX8_plan_102 ?_
      exact W.iret (v := mPlans + 1) hx hb hr (fun t ht hW => ⟨⟨mPlans + 1, (mPlans + 1, upd mPlanWhat mPlans.toNatClampNeg a1, upd mPlanN mPlans.toNatClampNeg a2), rfl, hw, by show va_P _ _ _ t.heap; rw [ht]; exact hP⟩, hS.F ht⟩) hS.2.2 dX8_plan_105
    · have hw := hw.2 c6
      refine lv_bipush (v := (-4)) hx hb dX8_plan_68 (by decide) ?_
      exact W.iret (v := (-4)) hx hb hr (fun t ht hW => ⟨⟨(-4), (mPlans, mPlanWhat, mPlanN), rfl, hw, by show va_P _ _ _ t.heap; rw [ht]; exact hP⟩, hS.F ht⟩) hS.2.2 dX8_plan_70
  have kB39 : ∀ (mPlans : Int32) (mPlanWhat : Nat → Int32) (mPlanN : Nat → Int32), ∀ (H : Heap) (locs : List Loc), va_P (dC, dI) vwCl (wdX8_plan cI cJ cT cII cJJ ad mN mStep mSeen mPlans mBooks mTexted mIsKept mSpot mKeeps mMindStep mAt mWhat mWhole mIsBroken mPlanWhat mPlanN) H → va_D A (wdX8_plan cI cJ cT cII cJJ ad mN mStep mSeen mPlans mBooks mTexted mIsKept mSpot mKeeps mMindStep mAt mWhat mWhole mIsBroken mPlanWhat mPlanN) → va_S A s.heap H locs → ∀ ls : Array Slot, lv_has ls 3 [(0, .ref (ad 0)), (1, .int a1), (2, .int a2)] → wpX8_plan_B39 mN a1 a2 Post mPlans mPlanWhat mPlanN → W p l e (headSpec wsX8_plan ({ frames := 2, cells := 0, slots := 0, locals := 46 } : Room)).room s m ([.ref (ad 0), .int a1, .int a2] : List Value).toArray below meth c H locs 0 0 (MQ below (va_Qi (fun (r : Int32) (u : Int32 × (Nat → Int32) × (Nat → Int32)) => Post r u.1 u.2.1 u.2.2) (fun (u : Int32 × (Nat → Int32) × (Nat → Int32)) t => va_P (dC, dI) vwCl (wdX8_plan cI cJ cT cII cJJ ad mN mStep mSeen u.1 mBooks mTexted mIsKept mSpot mKeeps mMindStep mAt mWhat mWhole mIsBroken u.2.1 u.2.2) t.heap) A) ([.ref (ad 0), .int a1, .int a2] : List Value).toArray s 0 0 A) (F0 m 39 ls []) := by
    intro mPlans mPlanWhat mPlanN H locs hP hD hS ls hl hw
    unfold wpX8_plan_B39 at hw
    refine lv_iload_n hx hb dX8_plan_39 rfl (lv_at hl 1 rfl) ?_
    refine lv_iconst (v := 2) hx hb dX8_plan_40 (by decide) ?_
    refine lv_icmp_ne (tgt := 59) hx hb dX8_plan_41 (by decide) (fun c5 => ?_) (fun c5 => ?_)
    · have hw := hw.1 c5
      exact kB59 mPlans mPlanWhat mPlanN _ _ hP hD hS ls hl hw
    · have hw := hw.2 c5
      refine lv_iload_n hx hb dX8_plan_44 rfl (lv_at hl 2 rfl) ?_
      refine lv_i2l hx hb dX8_plan_45 rfl ?_
      refine lv_lconst (v := 1) hx hb dX8_plan_46 (by decide) ?_
      refine lv_ldc2 hx hb hown (hts (.constantLong RX8 175 (50)) (List.mem_of_getElem? (i := 3) rfl)) dX8_plan_47 ?_
      refine bw_psi (wc := []) (As := [.long a2.toInt64, .long 1, .long 50]) (rest := []) ⟨hx, hb, hml, hown, hts⟩ (mX8_in l dC dI cI cJ cT cII cJJ a2.toInt64 1 50 _ hw) (va_cwS 3 hts gX8_plan_X8_in rfl rfl rfl hdX8_in ⟨Nat.le_of_ble_eq_true rfl, Nat.le_of_ble_eq_true rfl⟩) hK hP [] rfl rfl hl.1 rfl (Nat.le_of_ble_eq_true rfl) ⟨Nat.le_of_ble_eq_true rfl, Nat.le_of_ble_eq_true rfl⟩ dX8_plan_50 (fun r9 hw => ?_)
      refine lv_if_ne (tgt := 59) hx hb dX8_plan_53 (by decide) (fun c10 => ?_) (fun c10 => ?_)
      · have hw := hw.1 c10
        exact kB59 mPlans mPlanWhat mPlanN _ _ hP hD hS ls hl hw
      · have hw := hw.2 c10
        refine lv_bipush (v := (-2)) hx hb dX8_plan_56 (by decide) ?_
        exact W.iret (v := (-2)) hx hb hr (fun t ht hW => ⟨⟨(-2), (mPlans, mPlanWhat, mPlanN), rfl, hw, by show va_P _ _ _ t.heap; rw [ht]; exact hP⟩, hS.F ht⟩) hS.2.2 dX8_plan_58
  unfold wpX8_plan at hw
  refine lv_iload_n hx hb dX8_plan_0 rfl (lv_at hl 1 rfl) ?_
  refine lv_iconst (v := (-1)) hx hb dX8_plan_1 (by decide) ?_
  refine lv_icmp_ne (tgt := 12) hx hb dX8_plan_2 (by decide) (fun c1 => ?_) (fun c1 => ?_)
  · have hw := hw.1 c1
    refine lv_iload_n hx hb dX8_plan_12 rfl (lv_at hl 1 rfl) ?_
    refine lv_i2l hx hb dX8_plan_13 rfl ?_
    refine lv_lconst (v := 0) hx hb dX8_plan_14 (by decide) ?_
    refine lv_ldc2 hx hb hown (hts (.constantLong RX8 291 (2)) (List.mem_of_getElem? (i := 2) rfl)) dX8_plan_15 ?_
    refine bw_psi (wc := []) (As := [.long a1.toInt64, .long 0, .long 2]) (rest := []) ⟨hx, hb, hml, hown, hts⟩ (mX8_in l dC dI cI cJ cT cII cJJ a1.toInt64 0 2 _ hw) (va_cwS 3 hts gX8_plan_X8_in rfl rfl rfl hdX8_in ⟨Nat.le_of_ble_eq_true rfl, Nat.le_of_ble_eq_true rfl⟩) hK hP [] rfl rfl hl.1 rfl (Nat.le_of_ble_eq_true rfl) ⟨Nat.le_of_ble_eq_true rfl, Nat.le_of_ble_eq_true rfl⟩ dX8_plan_18 (fun r2 hw => ?_)
    refine lv_if_eq (tgt := 37) hx hb dX8_plan_21 (by decide) (fun c3 => ?_) (fun c3 => ?_)
    · have hw := hw.1 c3
      refine lv_iconst (v := (-1)) hx hb dX8_plan_37 (by decide) ?_
      exact W.iret (v := (-1)) hx hb hr (fun t ht hW => ⟨⟨(-1), (mPlans, mPlanWhat, mPlanN), rfl, hw, by show va_P _ _ _ t.heap; rw [ht]; exact hP⟩, hS.F ht⟩) hS.2.2 dX8_plan_38
    · have hw := hw.2 c3
      refine lv_iload_n hx hb dX8_plan_24 rfl (lv_at hl 1 rfl) ?_
      refine lv_iconst (v := 1) hx hb dX8_plan_25 (by decide) ?_
      refine lv_icmp_ne (tgt := 39) hx hb dX8_plan_26 (by decide) (fun c4 => ?_) (fun c4 => ?_)
      · have hw := hw.1 c4
        exact kB39 mPlans mPlanWhat mPlanN _ _ hP hD hS ls hl hw
      · have hw := hw.2 c4
        refine lv_aload_n hx hb dX8_plan_29 rfl (lv_at hl 0 rfl) ?_
        refine lv_iload_n hx hb dX8_plan_30 rfl (lv_at hl 2 rfl) ?_
        refine bw_pvi (wc := (wdX8_isOne cI cJ cT cII cJJ ad mN mStep mSeen mPlans mBooks mTexted mIsKept mSpot mKeeps mMindStep mAt mWhat mWhole mIsBroken)) (As := [.int a2]) (rest := []) ⟨hx, hb, hml, hown, hts⟩ (mX8_isOne l dC dI cI cJ cT cII cJJ ad mN mStep mSeen mPlans mBooks mTexted mIsKept mSpot mKeeps mMindStep mAt mWhat mWhole mIsBroken a2 _ hw) (cwV 1 hts gX8_plan_X8_isOne rfl rfl rfl hdX8_isOne ⟨Nat.le_of_ble_eq_true rfl, Nat.le_of_ble_eq_true rfl⟩) hK hP [0] rfl rfl rfl rfl rfl hl.1 rfl (Nat.le_of_ble_eq_true rfl) ⟨Nat.le_of_ble_eq_true rfl, Nat.le_of_ble_eq_true rfl⟩ dX8_plan_31 (fun r11 hw => ?_)
        refine lv_if_ne (tgt := 39) hx hb dX8_plan_34 (by decide) (fun c12 => ?_) (fun c12 => ?_)
        · have hw := hw.1 c12
          exact kB39 mPlans mPlanWhat mPlanN _ _ hP hD hS ls hl hw
        · have hw := hw.2 c12
          refine lv_iconst (v := (-1)) hx hb dX8_plan_37 (by decide) ?_
          exact W.iret (v := (-1)) hx hb hr (fun t ht hW => ⟨⟨(-1), (mPlans, mPlanWhat, mPlanN), rfl, hw, by show va_P _ _ _ t.heap; rw [ht]; exact hP⟩, hS.F ht⟩) hS.2.2 dX8_plan_38
  · have hw := hw.2 c1
    refine lv_aload_n hx hb dX8_plan_5 rfl (lv_at hl 0 rfl) ?_
    refine lv_iconst (v := 0) hx hb dX8_plan_6 (by decide) ?_
    refine va_put (D := (dC, dI)) (ci := 8) (v := .int 0) (ty := .int) (C := RX8) (T := TX8) (N := 36) hx hb hts (fun w h => List.mem_cons_of_mem _ (List.mem_append_right _ h)) tyX8 tyX8_ok nmX8 hown hK hP hD hS 0 rfl rfl 13 (by decide) (hts (.fieldLink RX8 114 "BidMarketModel" "plans" "I") (List.mem_of_getElem? (i := 1) rfl)) (fun _ h9 => h9) rfl (by decide +kernel) rfl rfl (Nat.le_of_ble_eq_true rfl) dX8_plan_7 (fun H locs hP hD hS => ?_)
    have hP : va_P (dC, dI) vwCl (wdX8_plan cI cJ cT cII cJJ ad mN mStep mSeen 0 mBooks mTexted mIsKept mSpot mKeeps mMindStep mAt mWhat mWhole mIsBroken mPlanWhat mPlanN) H := hP
    have hD : va_D A (wdX8_plan cI cJ cT cII cJJ ad mN mStep mSeen 0 mBooks mTexted mIsKept mSpot mKeeps mMindStep mAt mWhat mWhole mIsBroken mPlanWhat mPlanN) := hD
    refine lv_iconst (v := 0) hx hb dX8_plan_10 (by decide) ?_
    exact W.iret (v := 0) hx hb hr (fun t ht hW => ⟨⟨0, (0, mPlanWhat, mPlanN), rfl, hw, by show va_P _ _ _ t.heap; rw [ht]; exact hP⟩, hS.F ht⟩) hS.2.2 dX8_plan_11
set_option maxHeartbeats 4000000 in
set_option maxRecDepth 100000 in
theorem mX8_ends (l : Launch) (dC : Nat → ClassId) (dI : Nat → Nat → Nat) (cI cJ cT cII cJJ : ClassId) (ad : Nat → Nat) (sz : Nat) (mN : Int32) (mStep : Int32) (mSeen : Int32) (mPlans : Int32) (mBooks : Int32) (mTexted : Int32) (mIsKept : Int32) (mSpot : Int32) (mKeeps : Int32) (mMindStep : Int32) (mAt : Int32) (mWhat : Int32) (mWhole : Int32) (mIsBroken : Int32) (mWorth : Nat → Int32) (mHas : Nat → Int32) (mOwner : Nat → Int32) (mPrice : Nat → Int32) (mPlanWhat : Nat → Int32) (mPlanN : Nat → Int32) (mWrong : Nat → Int32) (mMindHas : Nat → Int32) (mMindOwner : Nat → Int32) (mMindPrice : Nat → Int32) (mMindWrong : Nat → Int32) (a1 : Int32) (Post : Int32 → Int32 → Int32 → (Nat → Int32) → (Nat → Int32) → (Nat → Int32) → (Nat → Int32) → (Nat → Int32) → (Nat → Int32) → (Nat → Int32) → (Nat → Int32) → Prop) (hw : wpX8_ends mN mStep mPlans mMindStep mWorth mHas mOwner mPrice mPlanWhat mPlanN mWrong mMindHas mMindOwner mMindPrice mMindWrong a1 Post) : Met l yX8_ends wsX8_ends ({ frames := 5, cells := 0, slots := 0, locals := 111 } : Room) (va_Pc [.ref (ad 0), .int a1] (fun U => U.heap.size = sz ∧ va_P (dC, dI) vwCl (wdX8_ends cI cJ cT cII cJJ ad mN mStep mSeen mPlans mBooks mTexted mIsKept mSpot mKeeps mMindStep mAt mWhat mWhole mIsBroken mWorth mHas mOwner mPrice mPlanWhat mPlanN mWrong mMindHas mMindOwner mMindPrice mMindWrong) U.heap ∧ va_K (dC, dI) vwCl (bw_tys cI cJ cT cII cJJ) U ∧ va_D (fun _ => True) (wdX8_ends cI cJ cT cII cJJ ad mN mStep mSeen mPlans mBooks mTexted mIsKept mSpot mKeeps mMindStep mAt mWhat mWhole mIsBroken mWorth mHas mOwner mPrice mPlanWhat mPlanN mWrong mMindHas mMindOwner mMindPrice mMindWrong))) (va_Qi (fun (r : Int32) (u : Int32 × Int32 × (Nat → Int32) × (Nat → Int32) × (Nat → Int32) × (Nat → Int32) × (Nat → Int32) × (Nat → Int32) × (Nat → Int32) × (Nat → Int32)) => Post r u.1 u.2.1 u.2.2.1 u.2.2.2.1 u.2.2.2.2.1 u.2.2.2.2.2.1 u.2.2.2.2.2.2.1 u.2.2.2.2.2.2.2.1 u.2.2.2.2.2.2.2.2.1 u.2.2.2.2.2.2.2.2.2) (fun (u : Int32 × Int32 × (Nat → Int32) × (Nat → Int32) × (Nat → Int32) × (Nat → Int32) × (Nat → Int32) × (Nat → Int32) × (Nat → Int32) × (Nat → Int32)) t => va_P (dC, dI) vwCl (wdX8_ends cI cJ cT cII cJJ ad mN u.1 mSeen mPlans mBooks mTexted mIsKept mSpot mKeeps u.2.1 mAt mWhat mWhole mIsBroken mWorth u.2.2.1 u.2.2.2.1 u.2.2.2.2.1 mPlanWhat mPlanN u.2.2.2.2.2.1 u.2.2.2.2.2.2.1 u.2.2.2.2.2.2.2.1 u.2.2.2.2.2.2.2.2.1 u.2.2.2.2.2.2.2.2.2) t.heap) (va_A (wdX8_ends cI cJ cT cII cJJ ad mN mStep mSeen mPlans mBooks mTexted mIsKept mSpot mKeeps mMindStep mAt mWhat mWhole mIsBroken mWorth mHas mOwner mPrice mPlanWhat mPlanN mWrong mMindHas mMindOwner mMindPrice mMindWrong) sz)) 0 0 (va_A (wdX8_ends cI cJ cT cII cJJ ad mN mStep mSeen mPlans mBooks mTexted mIsKept mSpot mKeeps mMindStep mAt mWhat mWhole mIsBroken mWorth mHas mOwner mPrice mPlanWhat mPlanN mWrong mMindHas mMindOwner mMindPrice mMindWrong) sz) := by
  refine Met.ofW (cc := cX8_ends) (maxL := 3) (ret := (some .int)) (by decide) rfl ?_
  intro p e s m args below meth c s₁ B hml hv
  obtain ⟨rfl, hsz, hP, hK, hD0⟩ := hv
  have hx := B.exec
  have hb := B.bytes
  have hr := B.returns
  have hts := atoms_spec (ws := wsX8_ends) B.pre
  have hown : s.vm.findClass RX8 = some m.cls := findClass_of_methodNamed B.named
  have hlocks := B.notSynchronized
  subst hsz
  have hD := hD0.self (sz := s.heap.size)
  generalize hAe : va_A (wdX8_ends cI cJ cT cII cJJ ad mN mStep mSeen mPlans mBooks mTexted mIsKept mSpot mKeeps mMindStep mAt mWhat mWhole mIsBroken mWorth mHas mOwner mPrice mPlanWhat mPlanN mWrong mMindHas mMindOwner mMindPrice mMindWrong) s.heap.size = A at hD ⊢
  have hA : ∀ q : Nat, s.heap.size ≤ q → A q := fun q h => by rw [← hAe]; exact Or.inr h
  have hS : va_S A s.heap s.heap [] := va_S.rf
  have hl := lv_entry ([.ref (ad 0), .int a1]) (n := 3) (Nat.le_of_ble_eq_true rfl)
  rw [lg_entry_eq]
  generalize (lg_sl ([.ref (ad 0), .int a1]) ++ List.replicate (3 - (lg_sl ([.ref (ad 0), .int a1])).length) Slot.unset).toArray = ls at hl ⊢
  have hl : lv_has ls 3 [(0, .ref (ad 0)), (1, .int a1)] := hl
  have kB97 : ∀ (s0 : Int32) (mStep : Int32) (mMindStep : Int32) (mHas : Nat → Int32) (mOwner : Nat → Int32) (mPrice : Nat → Int32) (mWrong : Nat → Int32) (mMindHas : Nat → Int32) (mMindOwner : Nat → Int32) (mMindPrice : Nat → Int32) (mMindWrong : Nat → Int32), ∀ (H : Heap) (locs : List Loc), va_P (dC, dI) vwCl (wdX8_ends cI cJ cT cII cJJ ad mN mStep mSeen mPlans mBooks mTexted mIsKept mSpot mKeeps mMindStep mAt mWhat mWhole mIsBroken mWorth mHas mOwner mPrice mPlanWhat mPlanN mWrong mMindHas mMindOwner mMindPrice mMindWrong) H → va_D A (wdX8_ends cI cJ cT cII cJJ ad mN mStep mSeen mPlans mBooks mTexted mIsKept mSpot mKeeps mMindStep mAt mWhat mWhole mIsBroken mWorth mHas mOwner mPrice mPlanWhat mPlanN mWrong mMindHas mMindOwner mMindPrice mMindWrong) → va_S A s.heap H locs → ∀ ls : Array Slot, lv_has ls 3 [(0, .ref (ad 0))] → wpX8_ends_B97 mN mPlans mWorth mPlanWhat mPlanN a1 Post s0 mStep mMindStep mHas mOwner mPrice mWrong mMindHas mMindOwner mMindPrice mMindWrong → W p l e (headSpec wsX8_ends ({ frames := 5, cells := 0, slots := 0, locals := 111 } : Room)).room s m ([.ref (ad 0), .int a1] : List Value).toArray below meth c H locs 0 0 (MQ below (va_Qi (fun (r : Int32) (u : Int32 × Int32 × (Nat → Int32) × (Nat → Int32) × (Nat → Int32) × (Nat → Int32) × (Nat → Int32) × (Nat → Int32) × (Nat → Int32) × (Nat → Int32)) => Post r u.1 u.2.1 u.2.2.1 u.2.2.2.1 u.2.2.2.2.1 u.2.2.2.2.2.1 u.2.2.2.2.2.2.1 u.2.2.2.2.2.2.2.1 u.2.2.2.2.2.2.2.2.1 u.2.2.2.2.2.2.2.2.2) (fun (u : Int32 × Int32 × (Nat → Int32) × (Nat → Int32) × (Nat → Int32) × (Nat → Int32) × (Nat → Int32) × (Nat → Int32) × (Nat → Int32) × (Nat → Int32)) t => va_P (dC, dI) vwCl (wdX8_ends cI cJ cT cII cJJ ad mN u.1 mSeen mPlans mBooks mTexted mIsKept mSpot mKeeps u.2.1 mAt mWhat mWhole mIsBroken mWorth u.2.2.1 u.2.2.2.1 u.2.2.2.2.1 mPlanWhat mPlanN u.2.2.2.2.2.1 u.2.2.2.2.2.2.1 u.2.2.2.2.2.2.2.1 u.2.2.2.2.2.2.2.2.1 u.2.2.2.2.2.2.2.2.2) t.heap) A) ([.ref (ad 0), .int a1] : List Value).toArray s 0 0 A) (F0 m 97 ls [.int s0]) := by
    intro s0 mStep mMindStep mHas mOwner mPrice mWrong mMindHas mMindOwner mMindPrice mMindWrong H locs hP hD hS ls hl hw
    unfold wpX8_ends_B97 at hw
    refine lv_istore_n (lv' := [(2, .int s0), (0, .ref (ad 0))]) hx hb dX8_ends_97 rfl hl (by decide) rfl (fun ls hl => ?_)
    refine lv_aload_n hx hb dX8_ends_98 rfl (lv_at hl 1 rfl) ?_
    refine bw_wvv (wc := (wdX8_forgets cI cJ cT cII cJJ ad mN mStep mSeen mPlans mBooks mTexted mIsKept mSpot mKeeps mMindStep mAt mWhat mWhole mIsBroken mHas mOwner mPrice mWrong mMindHas mMindOwner mMindPrice mMindWrong)) (w1 := (fun (u : Int32 × (Nat → Int32) × (Nat → Int32) × (Nat → Int32) × (Nat → Int32)) => wdX8_forgets cI cJ cT cII cJJ ad mN u.1 mSeen mPlans mBooks mTexted mIsKept mSpot mKeeps mMindStep mAt mWhat mWhole mIsBroken u.2.1 u.2.2.1 u.2.2.2.1 u.2.2.2.2 mMindHas mMindOwner mMindPrice mMindWrong)) (As := []) (rest := []) ⟨hx, hb, hml, hown, hts⟩ (mX8_forgets l dC dI cI cJ cT cII cJJ ad _ mN mStep mSeen mPlans mBooks mTexted mIsKept mSpot mKeeps mMindStep mAt mWhat mWhole mIsBroken mHas mOwner mPrice mWrong mMindHas mMindOwner mMindPrice mMindWrong _ hw) (cwV 0 hts gX8_ends_X8_forgets rfl rfl rfl hdX8_forgets ⟨Nat.le_of_ble_eq_true rfl, Nat.le_of_ble_eq_true rfl⟩) hK hP hD hS hA [0, 2, 3, 4, 7, 8, 9, 10, 11] rfl (by decide) (fun _ => rfl) rfl rfl rfl rfl hl.1 rfl (Nat.le_of_ble_eq_true rfl) ⟨Nat.le_of_ble_eq_true rfl, Nat.le_of_ble_eq_true rfl⟩ dX8_ends_99 (fun u H locs hw hP hD hS => ?_)
    obtain ⟨y11, y12, y13, y14, y15⟩ := u
    try dsimp only at hw
    have hP : va_P (dC, dI) vwCl (wdX8_ends cI cJ cT cII cJJ ad mN y11 mSeen mPlans mBooks mTexted mIsKept mSpot mKeeps mMindStep mAt mWhat mWhole mIsBroken mWorth y12 y13 y14 mPlanWhat mPlanN y15 mMindHas mMindOwner mMindPrice mMindWrong) H := hP
    have hD : va_D A (wdX8_ends cI cJ cT cII cJJ ad mN y11 mSeen mPlans mBooks mTexted mIsKept mSpot mKeeps mMindStep mAt mWhat mWhole mIsBroken mWorth y12 y13 y14 mPlanWhat mPlanN y15 mMindHas mMindOwner mMindPrice mMindWrong) := hD
    refine lv_iload_n hx hb dX8_ends_102 rfl (lv_at hl 0 rfl) ?_
    exact W.iret (v := s0) hx hb hr (fun t ht hW => ⟨⟨s0, (y11, mMindStep, y12, y13, y14, y15, mMindHas, mMindOwner, mMindPrice, mMindWrong), rfl, hw, by show va_P _ _ _ t.heap; rw [ht]; exact hP⟩, hS.F ht⟩) hS.2.2 dX8_ends_103
  have kB76 : ∀ (K18 : Int32 → Int32 → Int32 → (Nat → Int32) → (Nat → Int32) → (Nat → Int32) → (Nat → Int32) → (Nat → Int32) → (Nat → Int32) → (Nat → Int32) → (Nat → Int32) → Prop), (∀ (v2 : Int32) (mStep : Int32) (mMindStep : Int32) (mHas : Nat → Int32) (mOwner : Nat → Int32) (mPrice : Nat → Int32) (mWrong : Nat → Int32) (mMindHas : Nat → Int32) (mMindOwner : Nat → Int32) (mMindPrice : Nat → Int32) (mMindWrong : Nat → Int32), ∀ (H : Heap) (locs : List Loc), va_P (dC, dI) vwCl (wdX8_ends cI cJ cT cII cJJ ad mN mStep mSeen mPlans mBooks mTexted mIsKept mSpot mKeeps mMindStep mAt mWhat mWhole mIsBroken mWorth mHas mOwner mPrice mPlanWhat mPlanN mWrong mMindHas mMindOwner mMindPrice mMindWrong) H → va_D A (wdX8_ends cI cJ cT cII cJJ ad mN mStep mSeen mPlans mBooks mTexted mIsKept mSpot mKeeps mMindStep mAt mWhat mWhole mIsBroken mWorth mHas mOwner mPrice mPlanWhat mPlanN mWrong mMindHas mMindOwner mMindPrice mMindWrong) → va_S A s.heap H locs → ∀ ls : Array Slot, lv_has ls 3 [(0, .ref (ad 0)), (1, .int a1), (2, .int v2)] → K18 v2 mStep mMindStep mHas mOwner mPrice mWrong mMindHas mMindOwner mMindPrice mMindWrong → W p l e (headSpec wsX8_ends ({ frames := 5, cells := 0, slots := 0, locals := 111 } : Room)).room s m ([.ref (ad 0), .int a1] : List Value).toArray below meth c H locs 0 0 (MQ below (va_Qi (fun (r : Int32) (u : Int32 × Int32 × (Nat → Int32) × (Nat → Int32) × (Nat → Int32) × (Nat → Int32) × (Nat → Int32) × (Nat → Int32) × (Nat → Int32) × (Nat → Int32)) => Post r u.1 u.2.1 u.2.2.1 u.2.2.2.1 u.2.2.2.2.1 u.2.2.2.2.2.1 u.2.2.2.2.2.2.1 u.2.2.2.2.2.2.2.1 u.2.2.2.2.2.2.2.2.1 u.2.2.2.2.2.2.2.2.2) (fun (u : Int32 × Int32 × (Nat → Int32) × (Nat → Int32) × (Nat → Int32) × (Nat → Int32) × (Nat → Int32) × (Nat → Int32) × (Nat → Int32) × (Nat → Int32)) t => va_P (dC, dI) vwCl (wdX8_ends cI cJ cT cII cJJ ad mN u.1 mSeen mPlans mBooks mTexted mIsKept mSpot mKeeps u.2.1 mAt mWhat mWhole mIsBroken mWorth u.2.2.1 u.2.2.2.1 u.2.2.2.2.1 mPlanWhat mPlanN u.2.2.2.2.2.1 u.2.2.2.2.2.2.1 u.2.2.2.2.2.2.2.1 u.2.2.2.2.2.2.2.2.1 u.2.2.2.2.2.2.2.2.2) t.heap) A) ([.ref (ad 0), .int a1] : List Value).toArray s 0 0 A) (F0 m 18 ls [])) → ∀ (v2 : Int32) (mStep : Int32) (mMindStep : Int32) (mHas : Nat → Int32) (mOwner : Nat → Int32) (mPrice : Nat → Int32) (mWrong : Nat → Int32) (mMindHas : Nat → Int32) (mMindOwner : Nat → Int32) (mMindPrice : Nat → Int32) (mMindWrong : Nat → Int32), ∀ (H : Heap) (locs : List Loc), va_P (dC, dI) vwCl (wdX8_ends cI cJ cT cII cJJ ad mN mStep mSeen mPlans mBooks mTexted mIsKept mSpot mKeeps mMindStep mAt mWhat mWhole mIsBroken mWorth mHas mOwner mPrice mPlanWhat mPlanN mWrong mMindHas mMindOwner mMindPrice mMindWrong) H → va_D A (wdX8_ends cI cJ cT cII cJJ ad mN mStep mSeen mPlans mBooks mTexted mIsKept mSpot mKeeps mMindStep mAt mWhat mWhole mIsBroken mWorth mHas mOwner mPrice mPlanWhat mPlanN mWrong mMindHas mMindOwner mMindPrice mMindWrong) → va_S A s.heap H locs → ∀ ls : Array Slot, lv_has ls 3 [(0, .ref (ad 0)), (1, .int a1), (2, .int v2)] → wpX8_ends_B76 mN mPlans mWorth mPlanWhat mPlanN a1 K18 Post v2 mStep mMindStep mHas mOwner mPrice mWrong mMindHas mMindOwner mMindPrice mMindWrong → W p l e (headSpec wsX8_ends ({ frames := 5, cells := 0, slots := 0, locals := 111 } : Room)).room s m ([.ref (ad 0), .int a1] : List Value).toArray below meth c H locs 0 0 (MQ below (va_Qi (fun (r : Int32) (u : Int32 × Int32 × (Nat → Int32) × (Nat → Int32) × (Nat → Int32) × (Nat → Int32) × (Nat → Int32) × (Nat → Int32) × (Nat → Int32) × (Nat → Int32)) => Post r u.1 u.2.1 u.2.2.1 u.2.2.2.1 u.2.2.2.2.1 u.2.2.2.2.2.1 u.2.2.2.2.2.2.1 u.2.2.2.2.2.2.2.1 u.2.2.2.2.2.2.2.2.1 u.2.2.2.2.2.2.2.2.2) (fun (u : Int32 × Int32 × (Nat → Int32) × (Nat → Int32) × (Nat → Int32) × (Nat → Int32) × (Nat → Int32) × (Nat → Int32) × (Nat → Int32) × (Nat → Int32)) t => va_P (dC, dI) vwCl (wdX8_ends cI cJ cT cII cJJ ad mN u.1 mSeen mPlans mBooks mTexted mIsKept mSpot mKeeps u.2.1 mAt mWhat mWhole mIsBroken mWorth u.2.2.1 u.2.2.2.1 u.2.2.2.2.1 mPlanWhat mPlanN u.2.2.2.2.2.1 u.2.2.2.2.2.2.1 u.2.2.2.2.2.2.2.1 u.2.2.2.2.2.2.2.2.1 u.2.2.2.2.2.2.2.2.2) t.heap) A) ([.ref (ad 0), .int a1] : List Value).toArray s 0 0 A) (F0 m 76 ls []) := by
    intro K18 hK18 v2 mStep mMindStep mHas mOwner mPrice mWrong mMindHas mMindOwner mMindPrice mMindWrong H locs hP hD hS ls hl hw
    unfold wpX8_ends_B76 at hw
    obtain ⟨x22, ex22⟩ : ∃ y : Int32, y = v2 + 1 := ⟨_, rfl⟩
    have hw := hw x22 ex22
    refine lv_iinc (v := x22) (lv' := [(2, .int x22), (0, .ref (ad 0)), (1, .int a1)]) hx hb dX8_ends_76 hl (k := 2) rfl (by rw [ex22]; rfl) (by decide) rfl (fun ls hl => ?_)
    refine lv_goto (tgt := 18) hx hb dX8_ends_79 (by decide) ?_
    exact hK18 x22 mStep mMindStep mHas mOwner mPrice mWrong mMindHas mMindOwner mMindPrice mMindWrong _ _ hP hD hS ls (lv_sub hl [1, 2, 0] rfl) hw
  have kB18 : ∀ f : Nat, ∀ (v2 : Int32) (mStep : Int32) (mMindStep : Int32) (mHas : Nat → Int32) (mOwner : Nat → Int32) (mPrice : Nat → Int32) (mWrong : Nat → Int32) (mMindHas : Nat → Int32) (mMindOwner : Nat → Int32) (mMindPrice : Nat → Int32) (mMindWrong : Nat → Int32), ∀ (H : Heap) (locs : List Loc), va_P (dC, dI) vwCl (wdX8_ends cI cJ cT cII cJJ ad mN mStep mSeen mPlans mBooks mTexted mIsKept mSpot mKeeps mMindStep mAt mWhat mWhole mIsBroken mWorth mHas mOwner mPrice mPlanWhat mPlanN mWrong mMindHas mMindOwner mMindPrice mMindWrong) H → va_D A (wdX8_ends cI cJ cT cII cJJ ad mN mStep mSeen mPlans mBooks mTexted mIsKept mSpot mKeeps mMindStep mAt mWhat mWhole mIsBroken mWorth mHas mOwner mPrice mPlanWhat mPlanN mWrong mMindHas mMindOwner mMindPrice mMindWrong) → va_S A s.heap H locs → ∀ ls : Array Slot, lv_has ls 3 [(0, .ref (ad 0)), (1, .int a1), (2, .int v2)] → wpX8_ends_B18 mN mPlans mWorth mPlanWhat mPlanN a1 Post f v2 mStep mMindStep mHas mOwner mPrice mWrong mMindHas mMindOwner mMindPrice mMindWrong → W p l e (headSpec wsX8_ends ({ frames := 5, cells := 0, slots := 0, locals := 111 } : Room)).room s m ([.ref (ad 0), .int a1] : List Value).toArray below meth c H locs 0 0 (MQ below (va_Qi (fun (r : Int32) (u : Int32 × Int32 × (Nat → Int32) × (Nat → Int32) × (Nat → Int32) × (Nat → Int32) × (Nat → Int32) × (Nat → Int32) × (Nat → Int32) × (Nat → Int32)) => Post r u.1 u.2.1 u.2.2.1 u.2.2.2.1 u.2.2.2.2.1 u.2.2.2.2.2.1 u.2.2.2.2.2.2.1 u.2.2.2.2.2.2.2.1 u.2.2.2.2.2.2.2.2.1 u.2.2.2.2.2.2.2.2.2) (fun (u : Int32 × Int32 × (Nat → Int32) × (Nat → Int32) × (Nat → Int32) × (Nat → Int32) × (Nat → Int32) × (Nat → Int32) × (Nat → Int32) × (Nat → Int32)) t => va_P (dC, dI) vwCl (wdX8_ends cI cJ cT cII cJJ ad mN u.1 mSeen mPlans mBooks mTexted mIsKept mSpot mKeeps u.2.1 mAt mWhat mWhole mIsBroken mWorth u.2.2.1 u.2.2.2.1 u.2.2.2.2.1 mPlanWhat mPlanN u.2.2.2.2.2.1 u.2.2.2.2.2.2.1 u.2.2.2.2.2.2.2.1 u.2.2.2.2.2.2.2.2.1 u.2.2.2.2.2.2.2.2.2) t.heap) A) ([.ref (ad 0), .int a1] : List Value).toArray s 0 0 A) (F0 m 18 ls []) := by
    intro  f
    induction f with
    | zero => intro v2 mStep mMindStep mHas mOwner mPrice mWrong mMindHas mMindOwner mMindPrice mMindWrong H locs hP hD hS ls hl hw; exact (show False from hw).elim
    | succ f ih =>
      intro v2 mStep mMindStep mHas mOwner mPrice mWrong mMindHas mMindOwner mMindPrice mMindWrong H locs hP hD hS ls hl hw
      rw [wpX8_ends_B18] at hw
      refine lv_iload_n hx hb dX8_ends_18 rfl (lv_at hl 2 rfl) ?_
      refine lv_aload_n hx hb dX8_ends_19 rfl (lv_at hl 0 rfl) ?_
      refine va_get (D := (dC, dI)) (ci := 8) (v := .int mPlans) (C := RX8) (T := TX8) (N := 36) hx hb hts (fun w h => List.mem_cons_of_mem _ (List.mem_append_right _ h)) hown hK hP 0 rfl rfl 13 (by decide) (hts (.fieldLink RX8 114 "BidMarketModel" "plans" "I") (List.mem_of_getElem? (i := 1) rfl)) (fun _ h9 => h9) rfl dX8_ends_20 ?_
      refine lv_icmp_ge (tgt := 82) hx hb dX8_ends_23 (by decide) (fun c8 => ?_) (fun c8 => ?_)
      · have hw := hw.1 c8
        refine lv_iload_n hx hb dX8_ends_82 rfl (lv_at hl 1 rfl) ?_
        refine lv_if_ne (tgt := 93) hx hb dX8_ends_83 (by decide) (fun c9 => ?_) (fun c9 => ?_)
        · have hw := hw.1 c9
          refine lv_aload_n hx hb dX8_ends_93 rfl (lv_at hl 0 rfl) ?_
          refine bw_pvi (wc := (wdX8_prices cI cJ cT cII cJJ ad mN mStep mSeen mPlans mBooks mTexted mIsKept mSpot mKeeps mMindStep mAt mWhat mWhole mIsBroken mPrice)) (As := []) (rest := []) ⟨hx, hb, hml, hown, hts⟩ (mX8_prices l dC dI cI cJ cT cII cJJ ad mN mStep mSeen mPlans mBooks mTexted mIsKept mSpot mKeeps mMindStep mAt mWhat mWhole mIsBroken mPrice _ hw) (cwV 0 hts gX8_ends_X8_prices rfl rfl rfl hdX8_prices ⟨Nat.le_of_ble_eq_true rfl, Nat.le_of_ble_eq_true rfl⟩) hK hP [0, 4] rfl rfl rfl rfl rfl hl.1 rfl (Nat.le_of_ble_eq_true rfl) ⟨Nat.le_of_ble_eq_true rfl, Nat.le_of_ble_eq_true rfl⟩ dX8_ends_94 (fun r10 hw => ?_)
          exact kB97 r10 mStep mMindStep mHas mOwner mPrice mWrong mMindHas mMindOwner mMindPrice mMindWrong _ _ hP hD hS ls (lv_sub hl [0] rfl) hw
        · have hw := hw.2 c9
          refine lv_aload_n hx hb dX8_ends_86 rfl (lv_at hl 0 rfl) ?_
          refine bw_pvi (wc := (wdX8_sum cI cJ cT cII cJJ ad mN mStep mSeen mPlans mBooks mTexted mIsKept mSpot mKeeps mMindStep mAt mWhat mWhole mIsBroken mWorth mHas)) (As := []) (rest := []) ⟨hx, hb, hml, hown, hts⟩ (mX8_sum l dC dI cI cJ cT cII cJJ ad mN mStep mSeen mPlans mBooks mTexted mIsKept mSpot mKeeps mMindStep mAt mWhat mWhole mIsBroken mWorth mHas _ hw) (cwV 0 hts gX8_ends_X8_sum rfl rfl rfl hdX8_sum ⟨Nat.le_of_ble_eq_true rfl, Nat.le_of_ble_eq_true rfl⟩) hK hP [0, 1, 2] rfl rfl rfl rfl rfl hl.1 rfl (Nat.le_of_ble_eq_true rfl) ⟨Nat.le_of_ble_eq_true rfl, Nat.le_of_ble_eq_true rfl⟩ dX8_ends_87 (fun r16 hw => ?_)
          refine lv_goto (tgt := 97) hx hb dX8_ends_90 (by decide) ?_
          exact kB97 r16 mStep mMindStep mHas mOwner mPrice mWrong mMindHas mMindOwner mMindPrice mMindWrong _ _ hP hD hS ls (lv_sub hl [0] rfl) hw
      · have hw := hw.2 c8
        refine lv_aload_n hx hb dX8_ends_26 rfl (lv_at hl 0 rfl) ?_
        refine va_get (D := (dC, dI)) (ci := 8) (v := .ref (ad 7)) (C := RX8) (T := TX8) (N := 36) hx hb hts (fun w h => List.mem_cons_of_mem _ (List.mem_append_right _ h)) hown hK hP 0 rfl rfl 8 (by decide) (hts (.fieldLink RX8 37 "BidMarketModel" "planWhat" "[I") (List.mem_of_getElem? (i := 2) rfl)) (fun _ h9 => h9) rfl dX8_ends_27 ?_
        refine lv_iload_n hx hb dX8_ends_30 rfl (lv_at hl 2 rfl) ?_
        have h17 := hw.1
        have hw := hw.2
        refine va_iald hx hb hK hP 5 0 rfl rfl h17 dX8_ends_31 ?_
        refine lv_if_ne (tgt := 43) hx hb dX8_ends_32 (by decide) (fun c18 => ?_) (fun c18 => ?_)
        · have hw := hw.1 c18
          refine lv_aload_n hx hb dX8_ends_43 rfl (lv_at hl 0 rfl) ?_
          refine va_get (D := (dC, dI)) (ci := 8) (v := .ref (ad 7)) (C := RX8) (T := TX8) (N := 36) hx hb hts (fun w h => List.mem_cons_of_mem _ (List.mem_append_right _ h)) hown hK hP 0 rfl rfl 8 (by decide) (hts (.fieldLink RX8 37 "BidMarketModel" "planWhat" "[I") (List.mem_of_getElem? (i := 2) rfl)) (fun _ h9 => h9) rfl dX8_ends_44 ?_
          refine lv_iload_n hx hb dX8_ends_47 rfl (lv_at hl 2 rfl) ?_
          have h19 := hw.1
          have hw := hw.2
          refine va_iald hx hb hK hP 5 0 rfl rfl h19 dX8_ends_48 ?_
          refine lv_iconst (v := 1) hx hb dX8_ends_49 (by decide) ?_
          refine lv_icmp_ne (tgt := 66) hx hb dX8_ends_50 (by decide) (fun c20 => ?_) (fun c20 => ?_)
          · have hw := hw.1 c20
            refine lv_aload_n hx hb dX8_ends_66 rfl (lv_at hl 0 rfl) ?_
            refine lv_aload_n hx hb dX8_ends_67 rfl (lv_at hl 0 rfl) ?_
            refine va_get (D := (dC, dI)) (ci := 8) (v := .ref (ad 8)) (C := RX8) (T := TX8) (N := 36) hx hb hts (fun w h => List.mem_cons_of_mem _ (List.mem_append_right _ h)) hown hK hP 0 rfl rfl 9 (by decide) (hts (.fieldLink RX8 40 "BidMarketModel" "planN" "[I") (List.mem_of_getElem? (i := 3) rfl)) (fun _ h9 => h9) rfl dX8_ends_68 ?_
            refine lv_iload_n hx hb dX8_ends_71 rfl (lv_at hl 2 rfl) ?_
            have h21 := hw.1
            have hw := hw.2
            refine va_iald hx hb hK hP 6 0 rfl rfl h21 dX8_ends_72 ?_
            refine va_put (D := (dC, dI)) (ci := 8) (v := .int (mPlanN v2.toNatClampNeg)) (ty := .int) (C := RX8) (T := TX8) (N := 36) hx hb hts (fun w h => List.mem_cons_of_mem _ (List.mem_append_right _ h)) tyX8 tyX8_ok nmX8 hown hK hP hD hS 0 rfl rfl 1 (by decide) (hts (.fieldLink RX8 15 "BidMarketModel" "step" "I") (List.mem_of_getElem? (i := 4) rfl)) (fun _ h9 => h9) rfl (by decide +kernel) rfl rfl (Nat.le_of_ble_eq_true rfl) dX8_ends_73 (fun H locs hP hD hS => ?_)
            have hP : va_P (dC, dI) vwCl (wdX8_ends cI cJ cT cII cJJ ad mN (mPlanN v2.toNatClampNeg) mSeen mPlans mBooks mTexted mIsKept mSpot mKeeps mMindStep mAt mWhat mWhole mIsBroken mWorth mHas mOwner mPrice mPlanWhat mPlanN mWrong mMindHas mMindOwner mMindPrice mMindWrong) H := hP
            have hD : va_D A (wdX8_ends cI cJ cT cII cJJ ad mN (mPlanN v2.toNatClampNeg) mSeen mPlans mBooks mTexted mIsKept mSpot mKeeps mMindStep mAt mWhat mWhole mIsBroken mWorth mHas mOwner mPrice mPlanWhat mPlanN mWrong mMindHas mMindOwner mMindPrice mMindWrong) := hD
            exact kB76 (wpX8_ends_B18 mN mPlans mWorth mPlanWhat mPlanN a1 Post f) ih v2 (mPlanN v2.toNatClampNeg) mMindStep mHas mOwner mPrice mWrong mMindHas mMindOwner mMindPrice mMindWrong _ _ hP hD hS ls hl hw
          · have hw := hw.2 c20
            refine lv_aload_n hx hb dX8_ends_53 rfl (lv_at hl 0 rfl) ?_
            refine lv_aload_n hx hb dX8_ends_54 rfl (lv_at hl 0 rfl) ?_
            refine va_get (D := (dC, dI)) (ci := 8) (v := .ref (ad 8)) (C := RX8) (T := TX8) (N := 36) hx hb hts (fun w h => List.mem_cons_of_mem _ (List.mem_append_right _ h)) hown hK hP 0 rfl rfl 9 (by decide) (hts (.fieldLink RX8 40 "BidMarketModel" "planN" "[I") (List.mem_of_getElem? (i := 3) rfl)) (fun _ h9 => h9) rfl dX8_ends_55 ?_
            refine lv_iload_n hx hb dX8_ends_58 rfl (lv_at hl 2 rfl) ?_
            have h23 := hw.1
            have hw := hw.2
            refine va_iald hx hb hK hP 6 0 rfl rfl h23 dX8_ends_59 ?_
            refine bw_wvv (wc := (wdX8_loses cI cJ cT cII cJJ ad mN mStep mSeen mPlans mBooks mTexted mIsKept mSpot mKeeps mMindStep mAt mWhat mWhole mIsBroken mHas mOwner)) (w1 := (fun (u : (Nat → Int32) × (Nat → Int32)) => wdX8_loses cI cJ cT cII cJJ ad mN mStep mSeen mPlans mBooks mTexted mIsKept mSpot mKeeps mMindStep mAt mWhat mWhole mIsBroken u.1 u.2)) (As := [.int (mPlanN v2.toNatClampNeg)]) (rest := []) ⟨hx, hb, hml, hown, hts⟩ (mX8_loses l dC dI cI cJ cT cII cJJ ad _ mN mStep mSeen mPlans mBooks mTexted mIsKept mSpot mKeeps mMindStep mAt mWhat mWhole mIsBroken mHas mOwner (mPlanN v2.toNatClampNeg) _ hw) (cwV 1 hts gX8_ends_X8_loses rfl rfl rfl hdX8_loses ⟨Nat.le_of_ble_eq_true rfl, Nat.le_of_ble_eq_true rfl⟩) hK hP hD hS hA [0, 2, 3] rfl (by decide) (fun _ => rfl) rfl rfl rfl rfl hl.1 rfl (Nat.le_of_ble_eq_true rfl) ⟨Nat.le_of_ble_eq_true rfl, Nat.le_of_ble_eq_true rfl⟩ dX8_ends_60 (fun u H locs hw hP hD hS => ?_)
            obtain ⟨y24, y25⟩ := u
            try dsimp only at hw
            have hP : va_P (dC, dI) vwCl (wdX8_ends cI cJ cT cII cJJ ad mN mStep mSeen mPlans mBooks mTexted mIsKept mSpot mKeeps mMindStep mAt mWhat mWhole mIsBroken mWorth y24 y25 mPrice mPlanWhat mPlanN mWrong mMindHas mMindOwner mMindPrice mMindWrong) H := hP
            have hD : va_D A (wdX8_ends cI cJ cT cII cJJ ad mN mStep mSeen mPlans mBooks mTexted mIsKept mSpot mKeeps mMindStep mAt mWhat mWhole mIsBroken mWorth y24 y25 mPrice mPlanWhat mPlanN mWrong mMindHas mMindOwner mMindPrice mMindWrong) := hD
            refine lv_goto (tgt := 76) hx hb dX8_ends_63 (by decide) ?_
            exact kB76 (wpX8_ends_B18 mN mPlans mWorth mPlanWhat mPlanN a1 Post f) ih v2 mStep mMindStep y24 y25 mPrice mWrong mMindHas mMindOwner mMindPrice mMindWrong _ _ hP hD hS ls hl hw
        · have hw := hw.2 c18
          refine lv_aload_n hx hb dX8_ends_35 rfl (lv_at hl 0 rfl) ?_
          refine bw_wvi (wc := (wdX8_bid cI cJ cT cII cJJ ad mN mStep mSeen mPlans mBooks mTexted mIsKept mSpot mKeeps mMindStep mAt mWhat mWhole mIsBroken mWorth mHas mOwner mPrice)) (w1 := (fun (u : (Nat → Int32) × (Nat → Int32) × (Nat → Int32)) => wdX8_bid cI cJ cT cII cJJ ad mN mStep mSeen mPlans mBooks mTexted mIsKept mSpot mKeeps mMindStep mAt mWhat mWhole mIsBroken mWorth u.1 u.2.1 u.2.2)) (As := []) (rest := []) ⟨hx, hb, hml, hown, hts⟩ (mX8_bid l dC dI cI cJ cT cII cJJ ad _ mN mStep mSeen mPlans mBooks mTexted mIsKept mSpot mKeeps mMindStep mAt mWhat mWhole mIsBroken mWorth mHas mOwner mPrice _ hw) (cwV 0 hts gX8_ends_X8_bid rfl rfl rfl hdX8_bid ⟨Nat.le_of_ble_eq_true rfl, Nat.le_of_ble_eq_true rfl⟩) hK hP hD hS hA [0, 1, 2, 3, 4] rfl (by decide) (fun _ => rfl) rfl rfl rfl rfl hl.1 rfl (Nat.le_of_ble_eq_true rfl) ⟨Nat.le_of_ble_eq_true rfl, Nat.le_of_ble_eq_true rfl⟩ dX8_ends_36 (fun r26 u H locs hw hP hD hS => ?_)
          obtain ⟨y27, y28, y29⟩ := u
          try dsimp only at hw
          have hP : va_P (dC, dI) vwCl (wdX8_ends cI cJ cT cII cJJ ad mN mStep mSeen mPlans mBooks mTexted mIsKept mSpot mKeeps mMindStep mAt mWhat mWhole mIsBroken mWorth y27 y28 y29 mPlanWhat mPlanN mWrong mMindHas mMindOwner mMindPrice mMindWrong) H := hP
          have hD : va_D A (wdX8_ends cI cJ cT cII cJJ ad mN mStep mSeen mPlans mBooks mTexted mIsKept mSpot mKeeps mMindStep mAt mWhat mWhole mIsBroken mWorth y27 y28 y29 mPlanWhat mPlanN mWrong mMindHas mMindOwner mMindPrice mMindWrong) := hD
          refine lv_pop hx hb dX8_ends_39 rfl ?_
          refine lv_goto (tgt := 76) hx hb dX8_ends_40 (by decide) ?_
          exact kB76 (wpX8_ends_B18 mN mPlans mWorth mPlanWhat mPlanN a1 Post f) ih v2 mStep mMindStep y27 y28 y29 mWrong mMindHas mMindOwner mMindPrice mMindWrong _ _ hP hD hS ls hl hw
  unfold wpX8_ends at hw
  refine lv_iload_n hx hb dX8_ends_0 rfl (lv_at hl 1 rfl) ?_
  refine lv_i2l hx hb dX8_ends_1 rfl ?_
  refine lv_lconst (v := 0) hx hb dX8_ends_2 (by decide) ?_
  refine lv_lconst (v := 1) hx hb dX8_ends_3 (by decide) ?_
  refine bw_psi (wc := []) (As := [.long a1.toInt64, .long 0, .long 1]) (rest := []) ⟨hx, hb, hml, hown, hts⟩ (mX8_in l dC dI cI cJ cT cII cJJ a1.toInt64 0 1 _ hw) (va_cwS 3 hts gX8_ends_X8_in rfl rfl rfl hdX8_in ⟨Nat.le_of_ble_eq_true rfl, Nat.le_of_ble_eq_true rfl⟩) hK hP [] rfl rfl hl.1 rfl (Nat.le_of_ble_eq_true rfl) ⟨Nat.le_of_ble_eq_true rfl, Nat.le_of_ble_eq_true rfl⟩ dX8_ends_4 (fun r1 hw => ?_)
  refine lv_if_ne (tgt := 12) hx hb dX8_ends_7 (by decide) (fun c2 => ?_) (fun c2 => ?_)
  · have hw := hw.1 c2
    refine lv_aload_n hx hb dX8_ends_12 rfl (lv_at hl 0 rfl) ?_
    refine bw_wvv (wc := (wdX8_minds cI cJ cT cII cJJ ad mN mStep mSeen mPlans mBooks mTexted mIsKept mSpot mKeeps mMindStep mAt mWhat mWhole mIsBroken mHas mOwner mPrice mWrong mMindHas mMindOwner mMindPrice mMindWrong)) (w1 := (fun (u : Int32 × (Nat → Int32) × (Nat → Int32) × (Nat → Int32) × (Nat → Int32)) => wdX8_minds cI cJ cT cII cJJ ad mN mStep mSeen mPlans mBooks mTexted mIsKept mSpot mKeeps u.1 mAt mWhat mWhole mIsBroken mHas mOwner mPrice mWrong u.2.1 u.2.2.1 u.2.2.2.1 u.2.2.2.2)) (As := []) (rest := []) ⟨hx, hb, hml, hown, hts⟩ (mX8_minds l dC dI cI cJ cT cII cJJ ad _ mN mStep mSeen mPlans mBooks mTexted mIsKept mSpot mKeeps mMindStep mAt mWhat mWhole mIsBroken mHas mOwner mPrice mWrong mMindHas mMindOwner mMindPrice mMindWrong _ hw) (cwV 0 hts gX8_ends_X8_minds rfl rfl rfl hdX8_minds ⟨Nat.le_of_ble_eq_true rfl, Nat.le_of_ble_eq_true rfl⟩) hK hP hD hS hA [0, 2, 3, 4, 7, 8, 9, 10, 11] rfl (by decide) (fun _ => rfl) rfl rfl rfl rfl hl.1 rfl (Nat.le_of_ble_eq_true rfl) ⟨Nat.le_of_ble_eq_true rfl, Nat.le_of_ble_eq_true rfl⟩ dX8_ends_13 (fun u H locs hw hP hD hS => ?_)
    obtain ⟨y3, y4, y5, y6, y7⟩ := u
    try dsimp only at hw
    have hP : va_P (dC, dI) vwCl (wdX8_ends cI cJ cT cII cJJ ad mN mStep mSeen mPlans mBooks mTexted mIsKept mSpot mKeeps y3 mAt mWhat mWhole mIsBroken mWorth mHas mOwner mPrice mPlanWhat mPlanN mWrong y4 y5 y6 y7) H := hP
    have hD : va_D A (wdX8_ends cI cJ cT cII cJJ ad mN mStep mSeen mPlans mBooks mTexted mIsKept mSpot mKeeps y3 mAt mWhat mWhole mIsBroken mWorth mHas mOwner mPrice mPlanWhat mPlanN mWrong y4 y5 y6 y7) := hD
    refine lv_iconst (v := 0) hx hb dX8_ends_16 (by decide) ?_
    refine lv_istore_n (lv' := [(2, .int 0), (0, .ref (ad 0)), (1, .int a1)]) hx hb dX8_ends_17 rfl hl (by decide) rfl (fun ls hl => ?_)
    obtain ⟨f1, hw⟩ := hw
    exact kB18 f1 0 mStep y3 mHas mOwner mPrice mWrong y4 y5 y6 y7 _ _ hP hD hS ls (lv_sub hl [1, 2, 0] rfl) hw
  · have hw := hw.2 c2
    refine lv_iconst (v := (-1)) hx hb dX8_ends_10 (by decide) ?_
    exact W.iret (v := (-1)) hx hb hr (fun t ht hW => ⟨⟨(-1), (mStep, mMindStep, mHas, mOwner, mPrice, mWrong, mMindHas, mMindOwner, mMindPrice, mMindWrong), rfl, hw, by show va_P _ _ _ t.heap; rw [ht]; exact hP⟩, hS.F ht⟩) hS.2.2 dX8_ends_11
set_option maxHeartbeats 4000000 in
set_option maxRecDepth 100000 in
theorem mX8_book (l : Launch) (dC : Nat → ClassId) (dI : Nat → Nat → Nat) (cI cJ cT cII cJJ : ClassId) (ad : Nat → Nat) (sz : Nat) (mN : Int32) (mStep : Int32) (mSeen : Int32) (mPlans : Int32) (mBooks : Int32) (mTexted : Int32) (mIsKept : Int32) (mSpot : Int32) (mKeeps : Int32) (mMindStep : Int32) (mAt : Int32) (mWhat : Int32) (mWhole : Int32) (mIsBroken : Int32) (mBookThing : Nat → Int32) (mBookPrice : Nat → Int32) (a1 : Int32) (a2 : Int32) (Post : Int32 → Int32 → (Nat → Int32) → (Nat → Int32) → Prop) (hw : wpX8_book mN mBooks mBookThing mBookPrice a1 a2 Post) : Met l yX8_book wsX8_book ({ frames := 2, cells := 0, slots := 0, locals := 46 } : Room) (va_Pc [.ref (ad 0), .int a1, .int a2] (fun U => U.heap.size = sz ∧ va_P (dC, dI) vwCl (wdX8_book cI cJ cT cII cJJ ad mN mStep mSeen mPlans mBooks mTexted mIsKept mSpot mKeeps mMindStep mAt mWhat mWhole mIsBroken mBookThing mBookPrice) U.heap ∧ va_K (dC, dI) vwCl (bw_tys cI cJ cT cII cJJ) U ∧ va_D (fun _ => True) (wdX8_book cI cJ cT cII cJJ ad mN mStep mSeen mPlans mBooks mTexted mIsKept mSpot mKeeps mMindStep mAt mWhat mWhole mIsBroken mBookThing mBookPrice))) (va_Qi (fun (r : Int32) (u : Int32 × (Nat → Int32) × (Nat → Int32)) => Post r u.1 u.2.1 u.2.2) (fun (u : Int32 × (Nat → Int32) × (Nat → Int32)) t => va_P (dC, dI) vwCl (wdX8_book cI cJ cT cII cJJ ad mN mStep mSeen mPlans u.1 mTexted mIsKept mSpot mKeeps mMindStep mAt mWhat mWhole mIsBroken u.2.1 u.2.2) t.heap) (va_A (wdX8_book cI cJ cT cII cJJ ad mN mStep mSeen mPlans mBooks mTexted mIsKept mSpot mKeeps mMindStep mAt mWhat mWhole mIsBroken mBookThing mBookPrice) sz)) 0 0 (va_A (wdX8_book cI cJ cT cII cJJ ad mN mStep mSeen mPlans mBooks mTexted mIsKept mSpot mKeeps mMindStep mAt mWhat mWhole mIsBroken mBookThing mBookPrice) sz) := by
  refine Met.ofW (cc := cX8_book) (maxL := 3) (ret := (some .int)) (by decide) rfl ?_
  intro p e s m args below meth c s₁ B hml hv
  obtain ⟨rfl, hsz, hP, hK, hD0⟩ := hv
  have hx := B.exec
  have hb := B.bytes
  have hr := B.returns
  have hts := atoms_spec (ws := wsX8_book) B.pre
  have hown : s.vm.findClass RX8 = some m.cls := findClass_of_methodNamed B.named
  have hlocks := B.notSynchronized
  subst hsz
  have hD := hD0.self (sz := s.heap.size)
  generalize hAe : va_A (wdX8_book cI cJ cT cII cJJ ad mN mStep mSeen mPlans mBooks mTexted mIsKept mSpot mKeeps mMindStep mAt mWhat mWhole mIsBroken mBookThing mBookPrice) s.heap.size = A at hD ⊢
  have hA : ∀ q : Nat, s.heap.size ≤ q → A q := fun q h => by rw [← hAe]; exact Or.inr h
  have hS : va_S A s.heap s.heap [] := va_S.rf
  have hl := lv_entry ([.ref (ad 0), .int a1, .int a2]) (n := 3) (Nat.le_of_ble_eq_true rfl)
  rw [lg_entry_eq]
  generalize (lg_sl ([.ref (ad 0), .int a1, .int a2]) ++ List.replicate (3 - (lg_sl ([.ref (ad 0), .int a1, .int a2])).length) Slot.unset).toArray = ls at hl ⊢
  have hl : lv_has ls 3 [(0, .ref (ad 0)), (1, .int a1), (2, .int a2)] := hl
  unfold wpX8_book at hw
  refine lv_iload_n hx hb dX8_book_0 rfl (lv_at hl 1 rfl) ?_
  refine lv_iconst (v := (-1)) hx hb dX8_book_1 (by decide) ?_
  refine lv_icmp_ne (tgt := 12) hx hb dX8_book_2 (by decide) (fun c1 => ?_) (fun c1 => ?_)
  · have hw := hw.1 c1
    refine lv_aload_n hx hb dX8_book_12 rfl (lv_at hl 0 rfl) ?_
    refine lv_iload_n hx hb dX8_book_13 rfl (lv_at hl 1 rfl) ?_
    refine bw_pvi (wc := (wdX8_isOne cI cJ cT cII cJJ ad mN mStep mSeen mPlans mBooks mTexted mIsKept mSpot mKeeps mMindStep mAt mWhat mWhole mIsBroken)) (As := [.int a1]) (rest := []) ⟨hx, hb, hml, hown, hts⟩ (mX8_isOne l dC dI cI cJ cT cII cJJ ad mN mStep mSeen mPlans mBooks mTexted mIsKept mSpot mKeeps mMindStep mAt mWhat mWhole mIsBroken a1 _ hw) (cwV 1 hts gX8_book_X8_isOne rfl rfl rfl hdX8_isOne ⟨Nat.le_of_ble_eq_true rfl, Nat.le_of_ble_eq_true rfl⟩) hK hP [0] rfl rfl rfl rfl rfl hl.1 rfl (Nat.le_of_ble_eq_true rfl) ⟨Nat.le_of_ble_eq_true rfl, Nat.le_of_ble_eq_true rfl⟩ dX8_book_14 (fun r2 hw => ?_)
    refine lv_if_ne (tgt := 22) hx hb dX8_book_17 (by decide) (fun c3 => ?_) (fun c3 => ?_)
    · have hw := hw.1 c3
      refine lv_iload_n hx hb dX8_book_22 rfl (lv_at hl 2 rfl) ?_
      refine lv_i2l hx hb dX8_book_23 rfl ?_
      refine lv_lconst (v := 0) hx hb dX8_book_24 (by decide) ?_
      refine lv_ldc2 hx hb hown (hts (.constantLong RX8 296 (9999)) (List.mem_of_getElem? (i := 2) rfl)) dX8_book_25 ?_
      refine bw_psi (wc := []) (As := [.long a2.toInt64, .long 0, .long 9999]) (rest := []) ⟨hx, hb, hml, hown, hts⟩ (mX8_in l dC dI cI cJ cT cII cJJ a2.toInt64 0 9999 _ hw) (va_cwS 3 hts gX8_book_X8_in rfl rfl rfl hdX8_in ⟨Nat.le_of_ble_eq_true rfl, Nat.le_of_ble_eq_true rfl⟩) hK hP [] rfl rfl hl.1 rfl (Nat.le_of_ble_eq_true rfl) ⟨Nat.le_of_ble_eq_true rfl, Nat.le_of_ble_eq_true rfl⟩ dX8_book_28 (fun r4 hw => ?_)
      refine lv_if_ne (tgt := 37) hx hb dX8_book_31 (by decide) (fun c5 => ?_) (fun c5 => ?_)
      · have hw := hw.1 c5
        refine lv_aload_n hx hb dX8_book_37 rfl (lv_at hl 0 rfl) ?_
        refine va_get (D := (dC, dI)) (ci := 8) (v := .int mBooks) (C := RX8) (T := TX8) (N := 36) hx hb hts (fun w h => List.mem_cons_of_mem _ (List.mem_append_right _ h)) hown hK hP 0 rfl rfl 14 (by decide) (hts (.fieldLink RX8 117 "BidMarketModel" "books" "I") (List.mem_of_getElem? (i := 1) rfl)) (fun _ h9 => h9) rfl dX8_book_38 ?_
        refine lv_bipush (v := 8) hx hb dX8_book_41 (by decide) ?_
        refine lv_icmp_ne (tgt := 49) hx hb dX8_book_43 (by decide) (fun c6 => ?_) (fun c6 => ?_)
        · have hw := hw.1 c6
          refine lv_aload_n hx hb dX8_book_49 rfl (lv_at hl 0 rfl) ?_
          refine va_get (D := (dC, dI)) (ci := 8) (v := .ref (ad 9)) (C := RX8) (T := TX8) (N := 36) hx hb hts (fun w h => List.mem_cons_of_mem _ (List.mem_append_right _ h)) hown hK hP 0 rfl rfl 10 (by decide) (hts (.fieldLink RX8 43 "BidMarketModel" "bookThing" "[I") (List.mem_of_getElem? (i := 3) rfl)) (fun _ h9 => h9) rfl dX8_book_50 ?_
          refine lv_aload_n hx hb dX8_book_53 rfl (lv_at hl 0 rfl) ?_
          refine va_get (D := (dC, dI)) (ci := 8) (v := .int mBooks) (C := RX8) (T := TX8) (N := 36) hx hb hts (fun w h => List.mem_cons_of_mem _ (List.mem_append_right _ h)) hown hK hP 0 rfl rfl 14 (by decide) (hts (.fieldLink RX8 117 "BidMarketModel" "books" "I") (List.mem_of_getElem? (i := 1) rfl)) (fun _ h9 => h9) rfl dX8_book_54 ?_
          refine lv_iload_n hx hb dX8_book_57 rfl (lv_at hl 1 rfl) ?_
          have h7 := hw.1
          have hw := hw.2
          refine va_iast hx hb hK hP hD hS 1 0 rfl rfl h7 dX8_book_58 (fun H locs hP hD hS => ?_)
          have hP : va_P (dC, dI) vwCl (wdX8_book cI cJ cT cII cJJ ad mN mStep mSeen mPlans mBooks mTexted mIsKept mSpot mKeeps mMindStep mAt mWhat mWhole mIsBroken (upd mBookThing mBooks.toNatClampNeg a1) mBookPrice) H := hP
          have hD : va_D A (wdX8_book cI cJ cT cII cJJ ad mN mStep mSeen mPlans mBooks mTexted mIsKept mSpot mKeeps mMindStep mAt mWhat mWhole mIsBroken (upd mBookThing mBooks.toNatClampNeg a1) mBookPrice) := hD
          refine lv_aload_n hx hb dX8_book_59 rfl (lv_at hl 0 rfl) ?_
          refine va_get (D := (dC, dI)) (ci := 8) (v := .ref (ad 10)) (C := RX8) (T := TX8) (N := 36) hx hb hts (fun w h => List.mem_cons_of_mem _ (List.mem_append_right _ h)) hown hK hP 0 rfl rfl 11 (by decide) (hts (.fieldLink RX8 46 "BidMarketModel" "bookPrice" "[I") (List.mem_of_getElem? (i := 4) rfl)) (fun _ h9 => h9) rfl dX8_book_60 ?_
          refine lv_aload_n hx hb dX8_book_63 rfl (lv_at hl 0 rfl) ?_
          refine va_get (D := (dC, dI)) (ci := 8) (v := .int mBooks) (C := RX8) (T := TX8) (N := 36) hx hb hts (fun w h => List.mem_cons_of_mem _ (List.mem_append_right _ h)) hown hK hP 0 rfl rfl 14 (by decide) (hts (.fieldLink RX8 117 "BidMarketModel" "books" "I") (List.mem_of_getElem? (i := 1) rfl)) (fun _ h9 => h9) rfl dX8_book_64 ?_
          refine lv_iload_n hx hb dX8_book_67 rfl (lv_at hl 2 rfl) ?_
          have h8 := hw.1
          have hw := hw.2
          refine va_iast hx hb hK hP hD hS 2 0 rfl rfl h8 dX8_book_68 (fun H locs hP hD hS => ?_)
          have hP : va_P (dC, dI) vwCl (wdX8_book cI cJ cT cII cJJ ad mN mStep mSeen mPlans mBooks mTexted mIsKept mSpot mKeeps mMindStep mAt mWhat mWhole mIsBroken (upd mBookThing mBooks.toNatClampNeg a1) (upd mBookPrice mBooks.toNatClampNeg a2)) H := hP
          have hD : va_D A (wdX8_book cI cJ cT cII cJJ ad mN mStep mSeen mPlans mBooks mTexted mIsKept mSpot mKeeps mMindStep mAt mWhat mWhole mIsBroken (upd mBookThing mBooks.toNatClampNeg a1) (upd mBookPrice mBooks.toNatClampNeg a2)) := hD
          refine lv_aload_n hx hb dX8_book_69 rfl (lv_at hl 0 rfl) ?_
          refine lv_dup hx hb dX8_book_70 rfl ?_
          refine va_get (D := (dC, dI)) (ci := 8) (v := .int mBooks) (C := RX8) (T := TX8) (N := 36) hx hb hts (fun w h => List.mem_cons_of_mem _ (List.mem_append_right _ h)) hown hK hP 0 rfl rfl 14 (by decide) (hts (.fieldLink RX8 117 "BidMarketModel" "books" "I") (List.mem_of_getElem? (i := 1) rfl)) (fun _ h9 => h9) rfl dX8_book_71 ?_
          refine lv_iconst (v := 1) hx hb dX8_book_74 (by decide) ?_
          refine lv_iadd hx hb dX8_book_75 ?_
          refine va_put (D := (dC, dI)) (ci := 8) (v := .int (mBooks + 1)) (ty := .int) (C := RX8) (T := TX8) (N := 36) hx hb hts (fun w h => List.mem_cons_of_mem _ (List.mem_append_right _ h)) tyX8 tyX8_ok nmX8 hown hK hP hD hS 0 rfl rfl 14 (by decide) (hts (.fieldLink RX8 117 "BidMarketModel" "books" "I") (List.mem_of_getElem? (i := 1) rfl)) (fun _ h9 => h9) rfl (by decide +kernel) rfl rfl (Nat.le_of_ble_eq_true rfl) dX8_book_76 (fun H locs hP hD hS => ?_)
          have hP : va_P (dC, dI) vwCl (wdX8_book cI cJ cT cII cJJ ad mN mStep mSeen mPlans (mBooks + 1) mTexted mIsKept mSpot mKeeps mMindStep mAt mWhat mWhole mIsBroken (upd mBookThing mBooks.toNatClampNeg a1) (upd mBookPrice mBooks.toNatClampNeg a2)) H := hP
          have hD : va_D A (wdX8_book cI cJ cT cII cJJ ad mN mStep mSeen mPlans (mBooks + 1) mTexted mIsKept mSpot mKeeps mMindStep mAt mWhat mWhole mIsBroken (upd mBookThing mBooks.toNatClampNeg a1) (upd mBookPrice mBooks.toNatClampNeg a2)) := hD
          refine lv_aload_n hx hb dX8_book_79 rfl (lv_at hl 0 rfl) ?_
          refine va_get (D := (dC, dI)) (ci := 8) (v := .int (mBooks + 1)) (C := RX8) (T := TX8) (N := 36) hx hb hts (fun w h => List.mem_cons_of_mem _ (List.mem_append_right _ h)) hown hK hP 0 rfl rfl 14 (by decide) (hts (.fieldLink RX8 117 "BidMarketModel" "books" "I") (List.mem_of_getElem? (i := 1) rfl)) (fun _ h9 => h9) rfl dX8_book_80 ?_
          exact W.iret (v := mBooks + 1) hx hb hr (fun t ht hW => ⟨⟨mBooks + 1, (mBooks + 1, upd mBookThing mBooks.toNatClampNeg a1, upd mBookPrice mBooks.toNatClampNeg a2), rfl, hw, by show va_P _ _ _ t.heap; rw [ht]; exact hP⟩, hS.F ht⟩) hS.2.2 dX8_book_83
        · have hw := hw.2 c6
          refine lv_bipush (v := (-4)) hx hb dX8_book_46 (by decide) ?_
          exact W.iret (v := (-4)) hx hb hr (fun t ht hW => ⟨⟨(-4), (mBooks, mBookThing, mBookPrice), rfl, hw, by show va_P _ _ _ t.heap; rw [ht]; exact hP⟩, hS.F ht⟩) hS.2.2 dX8_book_48
      · have hw := hw.2 c5
        refine lv_bipush (v := (-2)) hx hb dX8_book_34 (by decide) ?_
        exact W.iret (v := (-2)) hx hb hr (fun t ht hW => ⟨⟨(-2), (mBooks, mBookThing, mBookPrice), rfl, hw, by show va_P _ _ _ t.heap; rw [ht]; exact hP⟩, hS.F ht⟩) hS.2.2 dX8_book_36
    · have hw := hw.2 c3
      refine lv_iconst (v := (-1)) hx hb dX8_book_20 (by decide) ?_
      exact W.iret (v := (-1)) hx hb hr (fun t ht hW => ⟨⟨(-1), (mBooks, mBookThing, mBookPrice), rfl, hw, by show va_P _ _ _ t.heap; rw [ht]; exact hP⟩, hS.F ht⟩) hS.2.2 dX8_book_21
  · have hw := hw.2 c1
    refine lv_aload_n hx hb dX8_book_5 rfl (lv_at hl 0 rfl) ?_
    refine lv_iconst (v := 0) hx hb dX8_book_6 (by decide) ?_
    refine va_put (D := (dC, dI)) (ci := 8) (v := .int 0) (ty := .int) (C := RX8) (T := TX8) (N := 36) hx hb hts (fun w h => List.mem_cons_of_mem _ (List.mem_append_right _ h)) tyX8 tyX8_ok nmX8 hown hK hP hD hS 0 rfl rfl 14 (by decide) (hts (.fieldLink RX8 117 "BidMarketModel" "books" "I") (List.mem_of_getElem? (i := 1) rfl)) (fun _ h9 => h9) rfl (by decide +kernel) rfl rfl (Nat.le_of_ble_eq_true rfl) dX8_book_7 (fun H locs hP hD hS => ?_)
    have hP : va_P (dC, dI) vwCl (wdX8_book cI cJ cT cII cJJ ad mN mStep mSeen mPlans 0 mTexted mIsKept mSpot mKeeps mMindStep mAt mWhat mWhole mIsBroken mBookThing mBookPrice) H := hP
    have hD : va_D A (wdX8_book cI cJ cT cII cJJ ad mN mStep mSeen mPlans 0 mTexted mIsKept mSpot mKeeps mMindStep mAt mWhat mWhole mIsBroken mBookThing mBookPrice) := hD
    refine lv_iconst (v := 0) hx hb dX8_book_10 (by decide) ?_
    exact W.iret (v := 0) hx hb hr (fun t ht hW => ⟨⟨0, (0, mBookThing, mBookPrice), rfl, hw, by show va_P _ _ _ t.heap; rw [ht]; exact hP⟩, hS.F ht⟩) hS.2.2 dX8_book_11
set_option maxHeartbeats 4000000 in
set_option maxRecDepth 100000 in
theorem mX8_looked (l : Launch) (dC : Nat → ClassId) (dI : Nat → Nat → Nat) (cI cJ cT cII cJJ : ClassId) (ad : Nat → Nat) (mN : Int32) (mStep : Int32) (mSeen : Int32) (mPlans : Int32) (mBooks : Int32) (mTexted : Int32) (mIsKept : Int32) (mSpot : Int32) (mKeeps : Int32) (mMindStep : Int32) (mAt : Int32) (mWhat : Int32) (mWhole : Int32) (mIsBroken : Int32) (mPrice : Nat → Int32) (mBookThing : Nat → Int32) (mBookPrice : Nat → Int32) (Post : Int32 → Prop) (hw : wpX8_looked mBooks mPrice mBookThing mBookPrice Post) : Met l yX8_looked wsX8_looked ({ frames := 0, cells := 0, slots := 0, locals := 0 } : Room) (va_Pc [.ref (ad 0)] (fun U => va_P (dC, dI) vwCl (wdX8_looked cI cJ cT cII cJJ ad mN mStep mSeen mPlans mBooks mTexted mIsKept mSpot mKeeps mMindStep mAt mWhat mWhole mIsBroken mPrice mBookThing mBookPrice) U.heap ∧ va_K (dC, dI) vwCl (bw_tys cI cJ cT cII cJJ) U)) (vp_Si Post) 0 0 (fun _ => False) := by
  refine Met.ofW (cc := cX8_looked) (maxL := 2) (ret := (some .int)) (by decide) rfl ?_
  intro p e s m args below meth c s₁ B hml hv
  obtain ⟨rfl, hP, hK⟩ := hv
  have hx := B.exec
  have hb := B.bytes
  have hr := B.returns
  have hts := atoms_spec (ws := wsX8_looked) B.pre
  have hown : s.vm.findClass RX8 = some m.cls := findClass_of_methodNamed B.named
  have hlocks := B.notSynchronized
  have hl := lv_entry ([.ref (ad 0)]) (n := 2) (Nat.le_of_ble_eq_true rfl)
  rw [lg_entry_eq]
  generalize (lg_sl ([.ref (ad 0)]) ++ List.replicate (2 - (lg_sl ([.ref (ad 0)])).length) Slot.unset).toArray = ls at hl ⊢
  have hl : lv_has ls 2 [(0, .ref (ad 0))] := hl
  have kB2 : ∀ f : Nat, ∀ (v1 : Int32), ∀ ls : Array Slot, lv_has ls 2 [(0, .ref (ad 0)), (1, .int v1)] → wpX8_looked_B2 mBooks mPrice mBookThing mBookPrice Post f v1 → W p l e (headSpec wsX8_looked ({ frames := 0, cells := 0, slots := 0, locals := 0 } : Room)).room s m ([.ref (ad 0)] : List Value).toArray below meth c s.heap [] 0 0 (MQ below (vp_Si Post) ([.ref (ad 0)] : List Value).toArray s 0 0 (fun _ => False)) (F0 m 2 ls []) := by
    intro  f
    induction f with
    | zero => intro v1 ls hl hw; exact (show False from hw).elim
    | succ f ih =>
      intro v1 ls hl hw
      rw [wpX8_looked_B2] at hw
      refine lv_iload_n hx hb dX8_looked_2 rfl (lv_at hl 1 rfl) ?_
      refine lv_aload_n hx hb dX8_looked_3 rfl (lv_at hl 0 rfl) ?_
      refine va_get (D := (dC, dI)) (ci := 8) (v := .int mBooks) (C := RX8) (T := TX8) (N := 36) hx hb hts (fun w h => List.mem_cons_of_mem _ (List.mem_append_right _ h)) hown hK hP 0 rfl rfl 14 (by decide) (hts (.fieldLink RX8 117 "BidMarketModel" "books" "I") (List.mem_of_getElem? (i := 1) rfl)) (fun _ h9 => h9) rfl dX8_looked_4 ?_
      refine lv_icmp_ge (tgt := 38) hx hb dX8_looked_7 (by decide) (fun c1 => ?_) (fun c1 => ?_)
      · have hw := hw.1 c1
        refine lv_bipush (v := (-5)) hx hb dX8_looked_38 (by decide) ?_
        exact W.iret (v := (-5)) hx hb hr (fun t ht hW => ⟨(-5), rfl, hw, ht⟩) (fun _ h => by cases h) dX8_looked_40
      · have hw := hw.2 c1
        refine lv_aload_n hx hb dX8_looked_10 rfl (lv_at hl 0 rfl) ?_
        refine va_get (D := (dC, dI)) (ci := 8) (v := .ref (ad 4)) (C := RX8) (T := TX8) (N := 36) hx hb hts (fun w h => List.mem_cons_of_mem _ (List.mem_append_right _ h)) hown hK hP 0 rfl rfl 5 (by decide) (hts (.fieldLink RX8 28 "BidMarketModel" "price" "[I") (List.mem_of_getElem? (i := 2) rfl)) (fun _ h9 => h9) rfl dX8_looked_11 ?_
        refine lv_aload_n hx hb dX8_looked_14 rfl (lv_at hl 0 rfl) ?_
        refine va_get (D := (dC, dI)) (ci := 8) (v := .ref (ad 9)) (C := RX8) (T := TX8) (N := 36) hx hb hts (fun w h => List.mem_cons_of_mem _ (List.mem_append_right _ h)) hown hK hP 0 rfl rfl 10 (by decide) (hts (.fieldLink RX8 43 "BidMarketModel" "bookThing" "[I") (List.mem_of_getElem? (i := 3) rfl)) (fun _ h9 => h9) rfl dX8_looked_15 ?_
        refine lv_iload_n hx hb dX8_looked_18 rfl (lv_at hl 1 rfl) ?_
        have h2 := hw.1
        have hw := hw.2
        refine va_iald hx hb hK hP 2 0 rfl rfl h2 dX8_looked_19 ?_
        have h3 := hw.1
        have hw := hw.2
        refine va_iald hx hb hK hP 1 0 rfl rfl h3 dX8_looked_20 ?_
        refine lv_aload_n hx hb dX8_looked_21 rfl (lv_at hl 0 rfl) ?_
        refine va_get (D := (dC, dI)) (ci := 8) (v := .ref (ad 10)) (C := RX8) (T := TX8) (N := 36) hx hb hts (fun w h => List.mem_cons_of_mem _ (List.mem_append_right _ h)) hown hK hP 0 rfl rfl 11 (by decide) (hts (.fieldLink RX8 46 "BidMarketModel" "bookPrice" "[I") (List.mem_of_getElem? (i := 4) rfl)) (fun _ h9 => h9) rfl dX8_looked_22 ?_
        refine lv_iload_n hx hb dX8_looked_25 rfl (lv_at hl 1 rfl) ?_
        have h4 := hw.1
        have hw := hw.2
        refine va_iald hx hb hK hP 3 0 rfl rfl h4 dX8_looked_26 ?_
        refine lv_icmp_eq (tgt := 32) hx hb dX8_looked_27 (by decide) (fun c5 => ?_) (fun c5 => ?_)
        · have hw := hw.1 c5
          obtain ⟨x6, ex6⟩ : ∃ y : Int32, y = v1 + 1 := ⟨_, rfl⟩
          have hw := hw x6 ex6
          refine lv_iinc (v := x6) (lv' := [(1, .int x6), (0, .ref (ad 0))]) hx hb dX8_looked_32 hl (k := 1) rfl (by rw [ex6]; rfl) (by decide) rfl (fun ls hl => ?_)
          refine lv_goto (tgt := 2) hx hb dX8_looked_35 (by decide) ?_
          exact ih x6 ls (lv_sub hl [1, 0] rfl) hw
        · have hw := hw.2 c5
          refine lv_iload_n hx hb dX8_looked_30 rfl (lv_at hl 1 rfl) ?_
          exact W.iret (v := v1) hx hb hr (fun t ht hW => ⟨v1, rfl, hw, ht⟩) (fun _ h => by cases h) dX8_looked_31
  unfold wpX8_looked at hw
  refine lv_iconst (v := 0) hx hb dX8_looked_0 (by decide) ?_
  refine lv_istore_n (lv' := [(1, .int 0), (0, .ref (ad 0))]) hx hb dX8_looked_1 rfl hl (by decide) rfl (fun ls hl => ?_)
  obtain ⟨f1, hw⟩ := hw
  exact kB2 f1 0 ls (lv_sub hl [1, 0] rfl) hw
set_option maxHeartbeats 4000000 in
set_option maxRecDepth 100000 in
theorem mX8_isTape (l : Launch) (dC : Nat → ClassId) (dI : Nat → Nat → Nat) (cI cJ cT cII cJJ : ClassId) (a0 : Int32) (Post : Int32 → Prop) (hw : wpX8_isTape a0 Post) : Met l yX8_isTape wsX8_isTape ({ frames := 1, cells := 0, slots := 0, locals := 25 } : Room) (va_Pc [.int a0] (fun U => va_P (dC, dI) vwCl [] U.heap ∧ va_K (dC, dI) vwCl (bw_tys cI cJ cT cII cJJ) U)) (vp_Si Post) 0 0 (fun _ => False) := by
  refine Met.ofW (cc := cX8_isTape) (maxL := 1) (ret := (some .boolean)) (by decide) rfl ?_
  intro p e s m args below meth c s₁ B hml hv
  obtain ⟨rfl, hP, hK⟩ := hv
  have hx := B.exec
  have hb := B.bytes
  have hr := B.returns
  have hts := atoms_spec (ws := wsX8_isTape) B.pre
  have hown : s.vm.findClass RX8 = some m.cls := findClass_of_methodNamed B.named
  have hlocks := B.notSynchronized
  have hl := lv_entry ([.int a0]) (n := 1) (Nat.le_of_ble_eq_true rfl)
  rw [lg_entry_eq]
  generalize (lg_sl ([.int a0]) ++ List.replicate (1 - (lg_sl ([.int a0])).length) Slot.unset).toArray = ls at hl ⊢
  have hl : lv_has ls 1 [(0, .int a0)] := hl
  unfold wpX8_isTape at hw
  refine lv_iload_n hx hb dX8_isTape_0 rfl (lv_at hl 0 rfl) ?_
  refine lv_i2l hx hb dX8_isTape_1 rfl ?_
  refine lv_lconst (v := 0) hx hb dX8_isTape_2 (by decide) ?_
  refine lv_ldc2 hx hb hown (hts (.constantLong RX8 298 (5)) (List.mem_of_getElem? (i := 1) rfl)) dX8_isTape_3 ?_
  refine bw_psi (wc := []) (As := [.long a0.toInt64, .long 0, .long 5]) (rest := []) ⟨hx, hb, hml, hown, hts⟩ (mX8_in l dC dI cI cJ cT cII cJJ a0.toInt64 0 5 _ hw) (va_cwS 3 hts gX8_isTape_X8_in rfl rfl rfl hdX8_in ⟨Nat.le_of_ble_eq_true rfl, Nat.le_of_ble_eq_true rfl⟩) hK (va_P.nil) [] rfl rfl hl.1 rfl (Nat.le_of_ble_eq_true rfl) ⟨Nat.le_of_ble_eq_true rfl, Nat.le_of_ble_eq_true rfl⟩ dX8_isTape_6 (fun r1 hw => ?_)
  have h2 := hw.1
  have hw := hw.2
  exact W.zret (v := r1) hx hb hr (bw_z h2) (fun t ht hW => ⟨r1, rfl, hw, ht⟩) (fun _ h => by cases h) dX8_isTape_9
set_option maxHeartbeats 4000000 in
set_option maxRecDepth 100000 in
theorem mX8_judge (l : Launch) (dC : Nat → ClassId) (dI : Nat → Nat → Nat) (cI cJ cT cII cJJ : ClassId) (ad : Nat → Nat) (mN : Int32) (mStep : Int32) (mSeen : Int32) (mPlans : Int32) (mBooks : Int32) (mTexted : Int32) (mIsKept : Int32) (mSpot : Int32) (mKeeps : Int32) (mMindStep : Int32) (mAt : Int32) (mWhat : Int32) (mWhole : Int32) (mIsBroken : Int32) (mPrice : Nat → Int32) (mTapeSort : Nat → Int32) (mTapeSize : Nat → Int32) (mTapes : Nat → Nat → Int64) (a1 : Int32) (a2 : Int32) (Post : Int32 → Prop) (hw : wpX8_judge mN mPrice mTapeSort mTapeSize mTapes a1 a2 Post) : Met l yX8_judge wsX8_judge ({ frames := 2, cells := 0, slots := 0, locals := 45 } : Room) (va_Pc [.ref (ad 0), .int a1, .int a2] (fun U => va_P (dC, dI) vwCl (wdX8_judge cI cJ cT cII cJJ ad mN mStep mSeen mPlans mBooks mTexted mIsKept mSpot mKeeps mMindStep mAt mWhat mWhole mIsBroken mPrice mTapeSort mTapeSize mTapes) U.heap ∧ va_K (dC, dI) vwCl (bw_tys cI cJ cT cII cJJ) U)) (vp_Si Post) 0 0 (fun _ => False) := by
  refine Met.ofW (cc := cX8_judge) (maxL := 4) (ret := (some .int)) (by decide) rfl ?_
  intro p e s m args below meth c s₁ B hml hv
  obtain ⟨rfl, hP, hK⟩ := hv
  have hx := B.exec
  have hb := B.bytes
  have hr := B.returns
  have hts := atoms_spec (ws := wsX8_judge) B.pre
  have hown : s.vm.findClass RX8 = some m.cls := findClass_of_methodNamed B.named
  have hlocks := B.notSynchronized
  have hl := lv_entry ([.ref (ad 0), .int a1, .int a2]) (n := 4) (Nat.le_of_ble_eq_true rfl)
  rw [lg_entry_eq]
  generalize (lg_sl ([.ref (ad 0), .int a1, .int a2]) ++ List.replicate (4 - (lg_sl ([.ref (ad 0), .int a1, .int a2])).length) Slot.unset).toArray = ls at hl ⊢
  have hl : lv_has ls 4 [(0, .ref (ad 0)), (1, .int a1), (2, .int a2)] := hl
  have kB57 : ∀ (v3 : Int32), ∀ ls : Array Slot, lv_has ls 4 [(3, .int v3)] → wpX8_judge_B57 mN mPrice mTapeSort mTapeSize mTapes a1 a2 Post v3 → W p l e (headSpec wsX8_judge ({ frames := 2, cells := 0, slots := 0, locals := 45 } : Room)).room s m ([.ref (ad 0), .int a1, .int a2] : List Value).toArray below meth c s.heap [] 0 0 (MQ below (vp_Si Post) ([.ref (ad 0), .int a1, .int a2] : List Value).toArray s 0 0 (fun _ => False)) (F0 m 57 ls []) := by
    intro v3 ls hl hw
    unfold wpX8_judge_B57 at hw
    refine lv_bipush (v := 100) hx hb dX8_judge_57 (by decide) ?_
    refine lv_iload_n hx hb dX8_judge_59 rfl (lv_at hl 0 rfl) ?_
    refine lv_iadd hx hb dX8_judge_60 ?_
    exact W.iret (v := 100 + v3) hx hb hr (fun t ht hW => ⟨100 + v3, rfl, hw, ht⟩) (fun _ h => by cases h) dX8_judge_61
  have kB33 : ∀ f : Nat, ∀ (v3 : Int32), ∀ ls : Array Slot, lv_has ls 4 [(0, .ref (ad 0)), (1, .int a1), (2, .int a2), (3, .int v3)] → wpX8_judge_B33 mN mPrice mTapeSort mTapeSize mTapes a1 a2 Post f v3 → W p l e (headSpec wsX8_judge ({ frames := 2, cells := 0, slots := 0, locals := 45 } : Room)).room s m ([.ref (ad 0), .int a1, .int a2] : List Value).toArray below meth c s.heap [] 0 0 (MQ below (vp_Si Post) ([.ref (ad 0), .int a1, .int a2] : List Value).toArray s 0 0 (fun _ => False)) (F0 m 33 ls []) := by
    intro  f
    induction f with
    | zero => intro v3 ls hl hw; exact (show False from hw).elim
    | succ f ih =>
      intro v3 ls hl hw
      rw [wpX8_judge_B33] at hw
      refine lv_iload_n hx hb dX8_judge_33 rfl (lv_at hl 3 rfl) ?_
      refine lv_aload_n hx hb dX8_judge_34 rfl (lv_at hl 0 rfl) ?_
      refine va_get (D := (dC, dI)) (ci := 8) (v := .int mN) (C := RX8) (T := TX8) (N := 36) hx hb hts (fun w h => List.mem_cons_of_mem _ (List.mem_append_right _ h)) hown hK hP 0 rfl rfl 0 (by decide) (hts (.fieldLink RX8 9 "BidMarketModel" "n" "I") (List.mem_of_getElem? (i := 2) rfl)) (fun _ h9 => h9) rfl dX8_judge_35 ?_
      refine lv_icmp_ge (tgt := 91) hx hb dX8_judge_38 (by decide) (fun c5 => ?_) (fun c5 => ?_)
      · have hw := hw.1 c5
        refine lv_bipush (v := (-5)) hx hb dX8_judge_91 (by decide) ?_
        exact W.iret (v := (-5)) hx hb hr (fun t ht hW => ⟨(-5), rfl, hw, ht⟩) (fun _ h => by cases h) dX8_judge_93
      · have hw := hw.2 c5
        refine lv_iload_n hx hb dX8_judge_41 rfl (lv_at hl 2 rfl) ?_
        refine lv_if_lt (tgt := 57) hx hb dX8_judge_42 (by decide) (fun c6 => ?_) (fun c6 => ?_)
        · have hw := hw.1 c6
          exact kB57 v3 ls (lv_sub hl [3] rfl) hw
        · have hw := hw.2 c6
          refine lv_iload_n hx hb dX8_judge_45 rfl (lv_at hl 2 rfl) ?_
          refine lv_aload_n hx hb dX8_judge_46 rfl (lv_at hl 0 rfl) ?_
          refine va_get (D := (dC, dI)) (ci := 8) (v := .ref (ad 21)) (C := RX8) (T := TX8) (N := 36) hx hb hts (fun w h => List.mem_cons_of_mem _ (List.mem_append_right _ h)) hown hK hP 0 rfl rfl 34 (by decide) (hts (.fieldLink RX8 81 "BidMarketModel" "tapeSize" "[I") (List.mem_of_getElem? (i := 3) rfl)) (fun _ h9 => h9) rfl dX8_judge_47 ?_
          refine lv_iload_n hx hb dX8_judge_50 rfl (lv_at hl 1 rfl) ?_
          have h7 := hw.1
          have hw := hw.2
          refine va_iald hx hb hK hP 4 0 rfl rfl h7 dX8_judge_51 ?_
          refine lv_iload_n hx hb dX8_judge_52 rfl (lv_at hl 3 rfl) ?_
          refine lv_isub hx hb dX8_judge_53 ?_
          refine lv_icmp_lt (tgt := 62) hx hb dX8_judge_54 (by decide) (fun c8 => ?_) (fun c8 => ?_)
          · have hw := hw.1 c8
            refine lv_aload_n hx hb dX8_judge_62 rfl (lv_at hl 0 rfl) ?_
            refine va_get (D := (dC, dI)) (ci := 8) (v := .ref (ad 19)) (C := RX8) (T := TX8) (N := 36) hx hb hts (fun w h => List.mem_cons_of_mem _ (List.mem_append_right _ h)) hown hK hP 0 rfl rfl 32 (by decide) (hts (.fieldLink RX8 75 "BidMarketModel" "tapes" "[[J") (List.mem_of_getElem? (i := 4) rfl)) (fun _ h9 => h9) rfl dX8_judge_63 ?_
            refine lv_iload_n hx hb dX8_judge_66 rfl (lv_at hl 1 rfl) ?_
            have h9 := hw.1
            have hw := hw.2
            have q10 := bw_lt h9
            refine bw_aald (g := fun i => ad (i + 23)) (b := ad (a1.toNatClampNeg + 23)) hx hb hK hP 2 4 rfl rfl rfl (fun k h => if_pos h) h9 rfl dX8_judge_67 ?_
            refine lv_iload_n hx hb dX8_judge_68 rfl (lv_at hl 2 rfl) ?_
            refine lv_iload_n hx hb dX8_judge_69 rfl (lv_at hl 3 rfl) ?_
            refine lv_iadd hx hb dX8_judge_70 ?_
            have h11 := hw.1
            have hw := hw.2
            have g12 : ∀ k, k < 6 → ((wdX8_judge cI cJ cT cII cJJ ad mN mStep mSeen mPlans mBooks mTexted mIsKept mSpot mKeeps mMindStep mAt mWhat mWhole mIsBroken mPrice mTapeSort mTapeSize mTapes))[5 + k]? = some (ad (k + 23), .inl (cJ, 60, .inr (.inl (mTapes k)))) := bw_all6 rfl rfl rfl rfl rfl rfl
            refine va_lald hx hb hK hP (5 + a1.toNatClampNeg) 1 (g12 _ q10) rfl h11 dX8_judge_71 ?_
            refine lv_aload_n hx hb dX8_judge_72 rfl (lv_at hl 0 rfl) ?_
            refine va_get (D := (dC, dI)) (ci := 8) (v := .ref (ad 4)) (C := RX8) (T := TX8) (N := 36) hx hb hts (fun w h => List.mem_cons_of_mem _ (List.mem_append_right _ h)) hown hK hP 0 rfl rfl 5 (by decide) (hts (.fieldLink RX8 28 "BidMarketModel" "price" "[I") (List.mem_of_getElem? (i := 5) rfl)) (fun _ h9 => h9) rfl dX8_judge_73 ?_
            refine lv_iload_n hx hb dX8_judge_76 rfl (lv_at hl 3 rfl) ?_
            have h13 := hw.1
            have hw := hw.2
            refine va_iald hx hb hK hP 1 0 rfl rfl h13 dX8_judge_77 ?_
            refine lv_i2l hx hb dX8_judge_78 rfl ?_
            refine W.lcmp hx hb dX8_judge_79 ?_
            refine lv_if_eq (tgt := 85) hx hb dX8_judge_80 (by decide) (fun c14 => ?_) (fun c14 => ?_)
            · have hw := hw.1 c14
              obtain ⟨x15, ex15⟩ : ∃ y : Int32, y = v3 + 1 := ⟨_, rfl⟩
              have hw := hw x15 ex15
              refine lv_iinc (v := x15) (lv' := [(3, .int x15), (0, .ref (ad 0)), (1, .int a1), (2, .int a2)]) hx hb dX8_judge_85 hl (k := 3) rfl (by rw [ex15]; rfl) (by decide) rfl (fun ls hl => ?_)
              refine lv_goto (tgt := 33) hx hb dX8_judge_88 (by decide) ?_
              exact ih x15 ls (lv_sub hl [1, 2, 3, 0] rfl) hw
            · have hw := hw.2 c14
              refine lv_iload_n hx hb dX8_judge_83 rfl (lv_at hl 3 rfl) ?_
              exact W.iret (v := v3) hx hb hr (fun t ht hW => ⟨v3, rfl, hw, ht⟩) (fun _ h => by cases h) dX8_judge_84
          · have hw := hw.2 c8
            exact kB57 v3 ls (lv_sub hl [3] rfl) hw
  have kB31 : ∀ ls : Array Slot, lv_has ls 4 [(0, .ref (ad 0)), (1, .int a1), (2, .int a2)] → wpX8_judge_B31 mN mPrice mTapeSort mTapeSize mTapes a1 a2 Post → W p l e (headSpec wsX8_judge ({ frames := 2, cells := 0, slots := 0, locals := 45 } : Room)).room s m ([.ref (ad 0), .int a1, .int a2] : List Value).toArray below meth c s.heap [] 0 0 (MQ below (vp_Si Post) ([.ref (ad 0), .int a1, .int a2] : List Value).toArray s 0 0 (fun _ => False)) (F0 m 31 ls []) := by
    intro ls hl hw
    unfold wpX8_judge_B31 at hw
    refine lv_iconst (v := 0) hx hb dX8_judge_31 (by decide) ?_
    refine lv_istore_n (lv' := [(3, .int 0), (0, .ref (ad 0)), (1, .int a1), (2, .int a2)]) hx hb dX8_judge_32 rfl hl (by decide) rfl (fun ls hl => ?_)
    obtain ⟨f1, hw⟩ := hw
    exact kB33 f1 0 ls (lv_sub hl [1, 2, 3, 0] rfl) hw
  unfold wpX8_judge at hw
  refine lv_iload_n hx hb dX8_judge_0 rfl (lv_at hl 1 rfl) ?_
  refine bw_psi (wc := []) (As := [.int a1]) (rest := []) ⟨hx, hb, hml, hown, hts⟩ (mX8_isTape l dC dI cI cJ cT cII cJJ a1 _ hw) (va_cwS 1 hts gX8_judge_X8_isTape rfl rfl rfl hdX8_isTape ⟨Nat.le_of_ble_eq_true rfl, Nat.le_of_ble_eq_true rfl⟩) hK hP [] rfl rfl hl.1 rfl (Nat.le_of_ble_eq_true rfl) ⟨Nat.le_of_ble_eq_true rfl, Nat.le_of_ble_eq_true rfl⟩ dX8_judge_1 (fun r1 hw => ?_)
  refine lv_if_ne (tgt := 9) hx hb dX8_judge_4 (by decide) (fun c2 => ?_) (fun c2 => ?_)
  · have hw := hw.1 c2
    refine lv_aload_n hx hb dX8_judge_9 rfl (lv_at hl 0 rfl) ?_
    refine va_get (D := (dC, dI)) (ci := 8) (v := .ref (ad 20)) (C := RX8) (T := TX8) (N := 36) hx hb hts (fun w h => List.mem_cons_of_mem _ (List.mem_append_right _ h)) hown hK hP 0 rfl rfl 33 (by decide) (hts (.fieldLink RX8 78 "BidMarketModel" "tapeSort" "[I") (List.mem_of_getElem? (i := 1) rfl)) (fun _ h9 => h9) rfl dX8_judge_10 ?_
    refine lv_iload_n hx hb dX8_judge_13 rfl (lv_at hl 1 rfl) ?_
    have h3 := hw.1
    have hw := hw.2
    refine va_iald hx hb hK hP 3 0 rfl rfl h3 dX8_judge_14 ?_
    refine lv_if_lt (tgt := 31) hx hb dX8_judge_15 (by decide) (fun c4 => ?_) (fun c4 => ?_)
    · have hw := hw.1 c4
      exact kB31 ls hl hw
    · have hw := hw.2 c4
      refine lv_aload_n hx hb dX8_judge_18 rfl (lv_at hl 0 rfl) ?_
      refine va_get (D := (dC, dI)) (ci := 8) (v := .ref (ad 20)) (C := RX8) (T := TX8) (N := 36) hx hb hts (fun w h => List.mem_cons_of_mem _ (List.mem_append_right _ h)) hown hK hP 0 rfl rfl 33 (by decide) (hts (.fieldLink RX8 78 "BidMarketModel" "tapeSort" "[I") (List.mem_of_getElem? (i := 1) rfl)) (fun _ h9 => h9) rfl dX8_judge_19 ?_
      refine lv_iload_n hx hb dX8_judge_22 rfl (lv_at hl 1 rfl) ?_
      have h16 := hw.1
      have hw := hw.2
      refine va_iald hx hb hK hP 3 0 rfl rfl h16 dX8_judge_23 ?_
      refine lv_iconst (v := 3) hx hb dX8_judge_24 (by decide) ?_
      refine lv_icmp_eq (tgt := 31) hx hb dX8_judge_25 (by decide) (fun c17 => ?_) (fun c17 => ?_)
      · have hw := hw.1 c17
        exact kB31 ls hl hw
      · have hw := hw.2 c17
        refine lv_bipush (v := (-12)) hx hb dX8_judge_28 (by decide) ?_
        exact W.iret (v := (-12)) hx hb hr (fun t ht hW => ⟨(-12), rfl, hw, ht⟩) (fun _ h => by cases h) dX8_judge_30
  · have hw := hw.2 c2
    refine lv_iconst (v := (-1)) hx hb dX8_judge_7 (by decide) ?_
    exact W.iret (v := (-1)) hx hb hr (fun t ht hW => ⟨(-1), rfl, hw, ht⟩) (fun _ h => by cases h) dX8_judge_8
set_option maxHeartbeats 4000000 in
set_option maxRecDepth 100000 in
theorem mX8_forbidden (l : Launch) (dC : Nat → ClassId) (dI : Nat → Nat → Nat) (cI cJ cT cII cJJ : ClassId) (ad : Nat → Nat) (mN : Int32) (mStep : Int32) (mSeen : Int32) (mPlans : Int32) (mBooks : Int32) (mTexted : Int32) (mIsKept : Int32) (mSpot : Int32) (mKeeps : Int32) (mMindStep : Int32) (mAt : Int32) (mWhat : Int32) (mWhole : Int32) (mIsBroken : Int32) (mWorth : Nat → Int32) (Post : Int32 → Prop) (hw : wpX8_forbidden mN mWorth Post) : Met l yX8_forbidden wsX8_forbidden ({ frames := 2, cells := 0, slots := 0, locals := 45 } : Room) (va_Pc [.ref (ad 0)] (fun U => va_P (dC, dI) vwCl (wdX8_forbidden cI cJ cT cII cJJ ad mN mStep mSeen mPlans mBooks mTexted mIsKept mSpot mKeeps mMindStep mAt mWhat mWhole mIsBroken mWorth) U.heap ∧ va_K (dC, dI) vwCl (bw_tys cI cJ cT cII cJJ) U)) (vp_Si Post) 0 0 (fun _ => False) := by
  refine Met.ofW (cc := cX8_forbidden) (maxL := 3) (ret := (some .int)) (by decide) rfl ?_
  intro p e s m args below meth c s₁ B hml hv
  obtain ⟨rfl, hP, hK⟩ := hv
  have hx := B.exec
  have hb := B.bytes
  have hr := B.returns
  have hts := atoms_spec (ws := wsX8_forbidden) B.pre
  have hown : s.vm.findClass RX8 = some m.cls := findClass_of_methodNamed B.named
  have hlocks := B.notSynchronized
  have hl := lv_entry ([.ref (ad 0)]) (n := 3) (Nat.le_of_ble_eq_true rfl)
  rw [lg_entry_eq]
  generalize (lg_sl ([.ref (ad 0)]) ++ List.replicate (3 - (lg_sl ([.ref (ad 0)])).length) Slot.unset).toArray = ls at hl ⊢
  have hl : lv_has ls 3 [(0, .ref (ad 0))] := hl
  have kB4 : ∀ f : Nat, ∀ (v1 : Int32) (v2 : Int32), ∀ ls : Array Slot, lv_has ls 3 [(0, .ref (ad 0)), (1, .int v1), (2, .int v2)] → wpX8_forbidden_B4 mN mWorth Post f v1 v2 → W p l e (headSpec wsX8_forbidden ({ frames := 2, cells := 0, slots := 0, locals := 45 } : Room)).room s m ([.ref (ad 0)] : List Value).toArray below meth c s.heap [] 0 0 (MQ below (vp_Si Post) ([.ref (ad 0)] : List Value).toArray s 0 0 (fun _ => False)) (F0 m 4 ls []) := by
    intro  f
    induction f with
    | zero => intro v1 v2 ls hl hw; exact (show False from hw).elim
    | succ f ih =>
      intro v1 v2 ls hl hw
      rw [wpX8_forbidden_B4] at hw
      refine lv_iload_n hx hb dX8_forbidden_4 rfl (lv_at hl 2 rfl) ?_
      refine lv_aload_n hx hb dX8_forbidden_5 rfl (lv_at hl 0 rfl) ?_
      refine va_get (D := (dC, dI)) (ci := 8) (v := .int mN) (C := RX8) (T := TX8) (N := 36) hx hb hts (fun w h => List.mem_cons_of_mem _ (List.mem_append_right _ h)) hown hK hP 0 rfl rfl 0 (by decide) (hts (.fieldLink RX8 9 "BidMarketModel" "n" "I") (List.mem_of_getElem? (i := 1) rfl)) (fun _ h9 => h9) rfl dX8_forbidden_6 ?_
      refine lv_icmp_ge (tgt := 34) hx hb dX8_forbidden_9 (by decide) (fun c1 => ?_) (fun c1 => ?_)
      · have hw := hw.1 c1
        refine lv_iload_n hx hb dX8_forbidden_34 rfl (lv_at hl 1 rfl) ?_
        exact W.iret (v := v1) hx hb hr (fun t ht hW => ⟨v1, rfl, hw, ht⟩) (fun _ h => by cases h) dX8_forbidden_35
      · have hw := hw.2 c1
        refine lv_iload_n hx hb dX8_forbidden_12 rfl (lv_at hl 1 rfl) ?_
        refine lv_aload_n hx hb dX8_forbidden_13 rfl (lv_at hl 0 rfl) ?_
        refine va_get (D := (dC, dI)) (ci := 8) (v := .int mN) (C := RX8) (T := TX8) (N := 36) hx hb hts (fun w h => List.mem_cons_of_mem _ (List.mem_append_right _ h)) hown hK hP 0 rfl rfl 0 (by decide) (hts (.fieldLink RX8 9 "BidMarketModel" "n" "I") (List.mem_of_getElem? (i := 1) rfl)) (fun _ h9 => h9) rfl dX8_forbidden_14 ?_
        refine lv_aload_n hx hb dX8_forbidden_17 rfl (lv_at hl 0 rfl) ?_
        refine lv_iload_n hx hb dX8_forbidden_18 rfl (lv_at hl 2 rfl) ?_
        refine bw_pvi (wc := (wdX8_open cI cJ cT cII cJJ ad mN mStep mSeen mPlans mBooks mTexted mIsKept mSpot mKeeps mMindStep mAt mWhat mWhole mIsBroken mWorth)) (As := [.int v2]) (rest := [.int mN, .int v1]) ⟨hx, hb, hml, hown, hts⟩ (mX8_open l dC dI cI cJ cT cII cJJ ad mN mStep mSeen mPlans mBooks mTexted mIsKept mSpot mKeeps mMindStep mAt mWhat mWhole mIsBroken mWorth v2 _ hw) (cwV 1 hts gX8_forbidden_X8_open rfl rfl rfl hdX8_open ⟨Nat.le_of_ble_eq_true rfl, Nat.le_of_ble_eq_true rfl⟩) hK hP [0, 1] rfl rfl rfl rfl rfl hl.1 rfl (Nat.le_of_ble_eq_true rfl) ⟨Nat.le_of_ble_eq_true rfl, Nat.le_of_ble_eq_true rfl⟩ dX8_forbidden_19 (fun r2 hw => ?_)
        refine bw_psi (wc := []) (As := [.int r2]) (rest := [.int mN, .int v1]) ⟨hx, hb, hml, hown, hts⟩ (mX8_bits l dC dI cI cJ cT cII cJJ r2 _ hw) (va_cwS 1 hts gX8_forbidden_X8_bits rfl rfl rfl hdX8_bits ⟨Nat.le_of_ble_eq_true rfl, Nat.le_of_ble_eq_true rfl⟩) hK hP [] rfl rfl hl.1 rfl (Nat.le_of_ble_eq_true rfl) ⟨Nat.le_of_ble_eq_true rfl, Nat.le_of_ble_eq_true rfl⟩ dX8_forbidden_22 (fun r3 hw => ?_)
        refine lv_isub hx hb dX8_forbidden_25 ?_
        refine lv_iadd hx hb dX8_forbidden_26 ?_
        refine lv_topi (fun x4 ex4 => ?_)
        have hw := hw x4 ex4
        refine lv_istore_n (lv' := [(1, .int x4), (0, .ref (ad 0)), (2, .int v2)]) hx hb dX8_forbidden_27 rfl hl (by decide) rfl (fun ls hl => ?_)
        obtain ⟨x5, ex5⟩ : ∃ y : Int32, y = v2 + 1 := ⟨_, rfl⟩
        have hw := hw x5 ex5
        refine lv_iinc (v := x5) (lv' := [(2, .int x5), (1, .int x4), (0, .ref (ad 0))]) hx hb dX8_forbidden_28 hl (k := 2) rfl (by rw [ex5]; rfl) (by decide) rfl (fun ls hl => ?_)
        refine lv_goto (tgt := 4) hx hb dX8_forbidden_31 (by decide) ?_
        exact ih x4 x5 ls (lv_sub hl [2, 1, 0] rfl) hw
  unfold wpX8_forbidden at hw
  refine lv_iconst (v := 0) hx hb dX8_forbidden_0 (by decide) ?_
  refine lv_istore_n (lv' := [(1, .int 0), (0, .ref (ad 0))]) hx hb dX8_forbidden_1 rfl hl (by decide) rfl (fun ls hl => ?_)
  refine lv_iconst (v := 0) hx hb dX8_forbidden_2 (by decide) ?_
  refine lv_istore_n (lv' := [(2, .int 0), (1, .int 0), (0, .ref (ad 0))]) hx hb dX8_forbidden_3 rfl hl (by decide) rfl (fun ls hl => ?_)
  obtain ⟨f1, hw⟩ := hw
  exact kB4 f1 0 0 ls (lv_sub hl [2, 1, 0] rfl) hw
set_option maxHeartbeats 4000000 in
set_option maxRecDepth 100000 in
theorem mX8_count (l : Launch) (dC : Nat → ClassId) (dI : Nat → Nat → Nat) (cI cJ cT cII cJJ : ClassId) (ad : Nat → Nat) (mN : Int32) (mStep : Int32) (mSeen : Int32) (mPlans : Int32) (mBooks : Int32) (mTexted : Int32) (mIsKept : Int32) (mSpot : Int32) (mKeeps : Int32) (mMindStep : Int32) (mAt : Int32) (mWhat : Int32) (mWhole : Int32) (mIsBroken : Int32) (mWorth : Nat → Int32) (a1 : Int32) (Post : Int32 → Prop) (hw : wpX8_count mN mSeen mPlans mBooks mTexted mWorth a1 Post) : Met l yX8_count wsX8_count ({ frames := 3, cells := 0, slots := 0, locals := 67 } : Room) (va_Pc [.ref (ad 0), .int a1] (fun U => va_P (dC, dI) vwCl (wdX8_count cI cJ cT cII cJJ ad mN mStep mSeen mPlans mBooks mTexted mIsKept mSpot mKeeps mMindStep mAt mWhat mWhole mIsBroken mWorth) U.heap ∧ va_K (dC, dI) vwCl (bw_tys cI cJ cT cII cJJ) U)) (vp_Si Post) 0 0 (fun _ => False) := by
  refine Met.ofW (cc := cX8_count) (maxL := 2) (ret := (some .int)) (by decide) rfl ?_
  intro p e s m args below meth c s₁ B hml hv
  obtain ⟨rfl, hP, hK⟩ := hv
  have hx := B.exec
  have hb := B.bytes
  have hr := B.returns
  have hts := atoms_spec (ws := wsX8_count) B.pre
  have hown : s.vm.findClass RX8 = some m.cls := findClass_of_methodNamed B.named
  have hlocks := B.notSynchronized
  have hl := lv_entry ([.ref (ad 0), .int a1]) (n := 2) (Nat.le_of_ble_eq_true rfl)
  rw [lg_entry_eq]
  generalize (lg_sl ([.ref (ad 0), .int a1]) ++ List.replicate (2 - (lg_sl ([.ref (ad 0), .int a1])).length) Slot.unset).toArray = ls at hl ⊢
  have hl : lv_has ls 2 [(0, .ref (ad 0)), (1, .int a1)] := hl
  unfold wpX8_count at hw
  refine lv_iload_n hx hb dX8_count_0 rfl (lv_at hl 1 rfl) ?_
  by_cases c1 : a1.toInt < 0 ∨ 5 < a1.toInt
  · have hw := hw.1 c1
    refine lv_tableOut (tgt := 70) hx hb dX8_count_1 c1 (by decide) ?_
    refine lv_bipush (v := (-2)) hx hb dX8_count_70 (by decide) ?_
    exact W.iret (v := (-2)) hx hb hr (fun t ht hW => ⟨(-2), rfl, hw, ht⟩) (fun _ h => by cases h) dX8_count_72
  have hw := hw.2
  by_cases c2 : a1 = 0
  · have hw := hw.1 c2
    refine lv_tableIn (tgt := 40) (off := 39) hx hb dX8_count_1 (fun h => c1 (Or.inl h)) (fun h => c1 (Or.inr h)) (by rw [c2]; rfl) (by decide) ?_
    refine lv_aload_n hx hb dX8_count_40 rfl (lv_at hl 0 rfl) ?_
    refine va_get (D := (dC, dI)) (ci := 8) (v := .int mN) (C := RX8) (T := TX8) (N := 36) hx hb hts (fun w h => List.mem_cons_of_mem _ (List.mem_append_right _ h)) hown hK hP 0 rfl rfl 0 (by decide) (hts (.fieldLink RX8 9 "BidMarketModel" "n" "I") (List.mem_of_getElem? (i := 1) rfl)) (fun _ h9 => h9) rfl dX8_count_41 ?_
    exact W.iret (v := mN) hx hb hr (fun t ht hW => ⟨mN, rfl, hw, ht⟩) (fun _ h => by cases h) dX8_count_44
  have hw := hw.2
  by_cases c3 : a1 = 1
  · have hw := hw.1 c3
    refine lv_tableIn (tgt := 45) (off := 44) hx hb dX8_count_1 (fun h => c1 (Or.inl h)) (fun h => c1 (Or.inr h)) (by rw [c3]; rfl) (by decide) ?_
    refine lv_aload_n hx hb dX8_count_45 rfl (lv_at hl 0 rfl) ?_
    refine va_get (D := (dC, dI)) (ci := 8) (v := .int mSeen) (C := RX8) (T := TX8) (N := 36) hx hb hts (fun w h => List.mem_cons_of_mem _ (List.mem_append_right _ h)) hown hK hP 0 rfl rfl 12 (by decide) (hts (.fieldLink RX8 111 "BidMarketModel" "seen" "I") (List.mem_of_getElem? (i := 2) rfl)) (fun _ h9 => h9) rfl dX8_count_46 ?_
    exact W.iret (v := mSeen) hx hb hr (fun t ht hW => ⟨mSeen, rfl, hw, ht⟩) (fun _ h => by cases h) dX8_count_49
  have hw := hw.2
  by_cases c4 : a1 = 2
  · have hw := hw.1 c4
    refine lv_tableIn (tgt := 50) (off := 49) hx hb dX8_count_1 (fun h => c1 (Or.inl h)) (fun h => c1 (Or.inr h)) (by rw [c4]; rfl) (by decide) ?_
    refine lv_aload_n hx hb dX8_count_50 rfl (lv_at hl 0 rfl) ?_
    refine va_get (D := (dC, dI)) (ci := 8) (v := .int mPlans) (C := RX8) (T := TX8) (N := 36) hx hb hts (fun w h => List.mem_cons_of_mem _ (List.mem_append_right _ h)) hown hK hP 0 rfl rfl 13 (by decide) (hts (.fieldLink RX8 114 "BidMarketModel" "plans" "I") (List.mem_of_getElem? (i := 3) rfl)) (fun _ h9 => h9) rfl dX8_count_51 ?_
    exact W.iret (v := mPlans) hx hb hr (fun t ht hW => ⟨mPlans, rfl, hw, ht⟩) (fun _ h => by cases h) dX8_count_54
  have hw := hw.2
  by_cases c5 : a1 = 3
  · have hw := hw.1 c5
    refine lv_tableIn (tgt := 55) (off := 54) hx hb dX8_count_1 (fun h => c1 (Or.inl h)) (fun h => c1 (Or.inr h)) (by rw [c5]; rfl) (by decide) ?_
    refine lv_aload_n hx hb dX8_count_55 rfl (lv_at hl 0 rfl) ?_
    refine va_get (D := (dC, dI)) (ci := 8) (v := .int mBooks) (C := RX8) (T := TX8) (N := 36) hx hb hts (fun w h => List.mem_cons_of_mem _ (List.mem_append_right _ h)) hown hK hP 0 rfl rfl 14 (by decide) (hts (.fieldLink RX8 117 "BidMarketModel" "books" "I") (List.mem_of_getElem? (i := 4) rfl)) (fun _ h9 => h9) rfl dX8_count_56 ?_
    exact W.iret (v := mBooks) hx hb hr (fun t ht hW => ⟨mBooks, rfl, hw, ht⟩) (fun _ h => by cases h) dX8_count_59
  have hw := hw.2
  by_cases c6 : a1 = 4
  · have hw := hw.1 c6
    refine lv_tableIn (tgt := 60) (off := 59) hx hb dX8_count_1 (fun h => c1 (Or.inl h)) (fun h => c1 (Or.inr h)) (by rw [c6]; rfl) (by decide) ?_
    refine lv_aload_n hx hb dX8_count_60 rfl (lv_at hl 0 rfl) ?_
    refine va_get (D := (dC, dI)) (ci := 8) (v := .int mTexted) (C := RX8) (T := TX8) (N := 36) hx hb hts (fun w h => List.mem_cons_of_mem _ (List.mem_append_right _ h)) hown hK hP 0 rfl rfl 17 (by decide) (hts (.fieldLink RX8 180 "BidMarketModel" "texted" "I") (List.mem_of_getElem? (i := 5) rfl)) (fun _ h9 => h9) rfl dX8_count_61 ?_
    exact W.iret (v := mTexted) hx hb hr (fun t ht hW => ⟨mTexted, rfl, hw, ht⟩) (fun _ h => by cases h) dX8_count_64
  have hw := hw.2
  by_cases c7 : a1 = 5
  · have hw := hw c7
    refine lv_tableIn (tgt := 65) (off := 64) hx hb dX8_count_1 (fun h => c1 (Or.inl h)) (fun h => c1 (Or.inr h)) (by rw [c7]; rfl) (by decide) ?_
    refine lv_aload_n hx hb dX8_count_65 rfl (lv_at hl 0 rfl) ?_
    refine bw_pvi (wc := (wdX8_forbidden cI cJ cT cII cJJ ad mN mStep mSeen mPlans mBooks mTexted mIsKept mSpot mKeeps mMindStep mAt mWhat mWhole mIsBroken mWorth)) (As := []) (rest := []) ⟨hx, hb, hml, hown, hts⟩ (mX8_forbidden l dC dI cI cJ cT cII cJJ ad mN mStep mSeen mPlans mBooks mTexted mIsKept mSpot mKeeps mMindStep mAt mWhat mWhole mIsBroken mWorth _ hw) (cwV 0 hts gX8_count_X8_forbidden rfl rfl rfl hdX8_forbidden ⟨Nat.le_of_ble_eq_true rfl, Nat.le_of_ble_eq_true rfl⟩) hK hP [0, 1] rfl rfl rfl rfl rfl hl.1 rfl (Nat.le_of_ble_eq_true rfl) ⟨Nat.le_of_ble_eq_true rfl, Nat.le_of_ble_eq_true rfl⟩ dX8_count_66 (fun r8 hw => ?_)
    exact W.iret (v := r8) hx hb hr (fun t ht hW => ⟨r8, rfl, hw, ht⟩) (fun _ h => by cases h) dX8_count_69
  exact (bw_sw 5 c1 (fun k hk => match k, hk with | 0, _ => c2 | 1, _ => c3 | 2, _ => c4 | 3, _ => c5 | 4, _ => c6 | 5, _ => c7 | k + 6, h => absurd h (by omega))).elim
set_option maxHeartbeats 4000000 in
set_option maxRecDepth 100000 in
theorem mX8_tape (l : Launch) (dC : Nat → ClassId) (dI : Nat → Nat → Nat) (cI cJ cT cII cJJ : ClassId) (ad : Nat → Nat) (sz : Nat) (mN : Int32) (mStep : Int32) (mSeen : Int32) (mPlans : Int32) (mBooks : Int32) (mTexted : Int32) (mIsKept : Int32) (mSpot : Int32) (mKeeps : Int32) (mMindStep : Int32) (mAt : Int32) (mWhat : Int32) (mWhole : Int32) (mIsBroken : Int32) (mTapeSort : Nat → Int32) (mTapeSize : Nat → Int32) (mTapes : Nat → Nat → Int64) (a1 : Int32) (a2 : Int32) (a3 : Int32) (Post : Int32 → (Nat → Int32) → (Nat → Int32) → (Nat → Nat → Int64) → Prop) (hw : wpX8_tape mTapeSort mTapeSize mTapes a1 a2 a3 Post) : Met l yX8_tape wsX8_tape ({ frames := 2, cells := 0, slots := 0, locals := 45 } : Room) (va_Pc [.ref (ad 0), .int a1, .int a2, .int a3] (fun U => U.heap.size = sz ∧ va_P (dC, dI) vwCl (wdX8_tape cI cJ cT cII cJJ ad mN mStep mSeen mPlans mBooks mTexted mIsKept mSpot mKeeps mMindStep mAt mWhat mWhole mIsBroken mTapeSort mTapeSize mTapes) U.heap ∧ va_K (dC, dI) vwCl (bw_tys cI cJ cT cII cJJ) U ∧ va_D (fun _ => True) (wdX8_tape cI cJ cT cII cJJ ad mN mStep mSeen mPlans mBooks mTexted mIsKept mSpot mKeeps mMindStep mAt mWhat mWhole mIsBroken mTapeSort mTapeSize mTapes))) (va_Qi (fun (r : Int32) (u : (Nat → Int32) × (Nat → Int32) × (Nat → Nat → Int64)) => Post r u.1 u.2.1 u.2.2) (fun (u : (Nat → Int32) × (Nat → Int32) × (Nat → Nat → Int64)) t => va_P (dC, dI) vwCl (wdX8_tape cI cJ cT cII cJJ ad mN mStep mSeen mPlans mBooks mTexted mIsKept mSpot mKeeps mMindStep mAt mWhat mWhole mIsBroken u.1 u.2.1 u.2.2) t.heap) (va_A (wdX8_tape cI cJ cT cII cJJ ad mN mStep mSeen mPlans mBooks mTexted mIsKept mSpot mKeeps mMindStep mAt mWhat mWhole mIsBroken mTapeSort mTapeSize mTapes) sz)) 0 0 (va_A (wdX8_tape cI cJ cT cII cJJ ad mN mStep mSeen mPlans mBooks mTexted mIsKept mSpot mKeeps mMindStep mAt mWhat mWhole mIsBroken mTapeSort mTapeSize mTapes) sz) := by
  refine Met.ofW (cc := cX8_tape) (maxL := 5) (ret := (some .int)) (by decide) rfl ?_
  intro p e s m args below meth c s₁ B hml hv
  obtain ⟨rfl, hsz, hP, hK, hD0⟩ := hv
  have hx := B.exec
  have hb := B.bytes
  have hr := B.returns
  have hts := atoms_spec (ws := wsX8_tape) B.pre
  have hown : s.vm.findClass RX8 = some m.cls := findClass_of_methodNamed B.named
  have hlocks := B.notSynchronized
  subst hsz
  have hD := hD0.self (sz := s.heap.size)
  generalize hAe : va_A (wdX8_tape cI cJ cT cII cJJ ad mN mStep mSeen mPlans mBooks mTexted mIsKept mSpot mKeeps mMindStep mAt mWhat mWhole mIsBroken mTapeSort mTapeSize mTapes) s.heap.size = A at hD ⊢
  have hA : ∀ q : Nat, s.heap.size ≤ q → A q := fun q h => by rw [← hAe]; exact Or.inr h
  have hS : va_S A s.heap s.heap [] := va_S.rf
  have hl := lv_entry ([.ref (ad 0), .int a1, .int a2, .int a3]) (n := 5) (Nat.le_of_ble_eq_true rfl)
  rw [lg_entry_eq]
  generalize (lg_sl ([.ref (ad 0), .int a1, .int a2, .int a3]) ++ List.replicate (5 - (lg_sl ([.ref (ad 0), .int a1, .int a2, .int a3])).length) Slot.unset).toArray = ls at hl ⊢
  have hl : lv_has ls 5 [(0, .ref (ad 0)), (1, .int a1), (2, .int a2), (3, .int a3)] := hl
  have kB72 : ∀ f : Nat, ∀ (v4 : Int32) (mTapeSort : Nat → Int32) (mTapeSize : Nat → Int32) (mTapes : Nat → Nat → Int64), ∀ (H : Heap) (locs : List Loc), va_P (dC, dI) vwCl (wdX8_tape cI cJ cT cII cJJ ad mN mStep mSeen mPlans mBooks mTexted mIsKept mSpot mKeeps mMindStep mAt mWhat mWhole mIsBroken mTapeSort mTapeSize mTapes) H → va_D A (wdX8_tape cI cJ cT cII cJJ ad mN mStep mSeen mPlans mBooks mTexted mIsKept mSpot mKeeps mMindStep mAt mWhat mWhole mIsBroken mTapeSort mTapeSize mTapes) → va_S A s.heap H locs → ∀ ls : Array Slot, lv_has ls 5 [(0, .ref (ad 0)), (1, .int a1), (4, .int v4)] → wpX8_tape_B72 a1 a2 a3 Post f v4 mTapeSort mTapeSize mTapes → W p l e (headSpec wsX8_tape ({ frames := 2, cells := 0, slots := 0, locals := 45 } : Room)).room s m ([.ref (ad 0), .int a1, .int a2, .int a3] : List Value).toArray below meth c H locs 0 0 (MQ below (va_Qi (fun (r : Int32) (u : (Nat → Int32) × (Nat → Int32) × (Nat → Nat → Int64)) => Post r u.1 u.2.1 u.2.2) (fun (u : (Nat → Int32) × (Nat → Int32) × (Nat → Nat → Int64)) t => va_P (dC, dI) vwCl (wdX8_tape cI cJ cT cII cJJ ad mN mStep mSeen mPlans mBooks mTexted mIsKept mSpot mKeeps mMindStep mAt mWhat mWhole mIsBroken u.1 u.2.1 u.2.2) t.heap) A) ([.ref (ad 0), .int a1, .int a2, .int a3] : List Value).toArray s 0 0 A) (F0 m 72 ls []) := by
    intro  f
    induction f with
    | zero => intro v4 mTapeSort mTapeSize mTapes H locs hP hD hS ls hl hw; exact (show False from hw).elim
    | succ f ih =>
      intro v4 mTapeSort mTapeSize mTapes H locs hP hD hS ls hl hw
      rw [wpX8_tape_B72] at hw
      refine lv_iload hx hb dX8_tape_72 (lv_at hl 2 rfl) ?_
      refine lv_bipush (v := 60) hx hb dX8_tape_74 (by decide) ?_
      refine lv_icmp_ge (tgt := 95) hx hb dX8_tape_76 (by decide) (fun c10 => ?_) (fun c10 => ?_)
      · have hw := hw.1 c10
        refine lv_iconst (v := 1) hx hb dX8_tape_95 (by decide) ?_
        exact W.iret (v := 1) hx hb hr (fun t ht hW => ⟨⟨1, (mTapeSort, mTapeSize, mTapes), rfl, hw, by show va_P _ _ _ t.heap; rw [ht]; exact hP⟩, hS.F ht⟩) hS.2.2 dX8_tape_96
      · have hw := hw.2 c10
        refine lv_aload_n hx hb dX8_tape_79 rfl (lv_at hl 0 rfl) ?_
        refine va_get (D := (dC, dI)) (ci := 8) (v := .ref (ad 19)) (C := RX8) (T := TX8) (N := 36) hx hb hts (fun w h => List.mem_cons_of_mem _ (List.mem_append_right _ h)) hown hK hP 0 rfl rfl 32 (by decide) (hts (.fieldLink RX8 75 "BidMarketModel" "tapes" "[[J") (List.mem_of_getElem? (i := 5) rfl)) (fun _ h9 => h9) rfl dX8_tape_80 ?_
        refine lv_iload_n hx hb dX8_tape_83 rfl (lv_at hl 1 rfl) ?_
        have h11 := hw.1
        have hw := hw.2
        have q12 := bw_lt h11
        refine bw_aald (g := fun i => ad (i + 23)) (b := ad (a1.toNatClampNeg + 23)) hx hb hK hP 1 4 rfl rfl rfl (fun k h => if_pos h) h11 rfl dX8_tape_84 ?_
        refine lv_iload hx hb dX8_tape_85 (lv_at hl 2 rfl) ?_
        refine lv_lconst (v := 0) hx hb dX8_tape_87 (by decide) ?_
        have h13 := hw.1
        have hw := hw.2
        have g14 : ∀ k, k < 6 → ((wdX8_tape cI cJ cT cII cJJ ad mN mStep mSeen mPlans mBooks mTexted mIsKept mSpot mKeeps mMindStep mAt mWhat mWhole mIsBroken mTapeSort mTapeSize mTapes))[4 + k]? = some (ad (k + 23), .inl (cJ, 60, .inr (.inl (mTapes k)))) := bw_all6 rfl rfl rfl rfl rfl rfl
        refine va_last hx hb hK hP hD hS (4 + a1.toNatClampNeg) 1 (g14 _ q12) rfl h13 dX8_tape_88 (fun H locs hP hD hS => ?_)
        have g15 : ∀ k, k < 6 → ∀ f : Nat → Int64, ((wdX8_tape cI cJ cT cII cJJ ad mN mStep mSeen mPlans mBooks mTexted mIsKept mSpot mKeeps mMindStep mAt mWhat mWhole mIsBroken mTapeSort mTapeSize mTapes)).set (4 + k) (ad (k + 23), .inl (cJ, 60, .inr (.inl f))) = (wdX8_tape cI cJ cT cII cJJ ad mN mStep mSeen mPlans mBooks mTexted mIsKept mSpot mKeeps mMindStep mAt mWhat mWhole mIsBroken mTapeSort mTapeSize (va_up mTapes k f)) := bw_all6 (fun _ => rfl) (fun _ => rfl) (fun _ => rfl) (fun _ => rfl) (fun _ => rfl) (fun _ => rfl)
        rw [g15 _ q12] at hP hD
        have hP : va_P (dC, dI) vwCl (wdX8_tape cI cJ cT cII cJJ ad mN mStep mSeen mPlans mBooks mTexted mIsKept mSpot mKeeps mMindStep mAt mWhat mWhole mIsBroken mTapeSort mTapeSize (va_up mTapes a1.toNatClampNeg (vp_updL (mTapes a1.toNatClampNeg) v4.toNatClampNeg 0))) H := hP
        have hD : va_D A (wdX8_tape cI cJ cT cII cJJ ad mN mStep mSeen mPlans mBooks mTexted mIsKept mSpot mKeeps mMindStep mAt mWhat mWhole mIsBroken mTapeSort mTapeSize (va_up mTapes a1.toNatClampNeg (vp_updL (mTapes a1.toNatClampNeg) v4.toNatClampNeg 0))) := hD
        obtain ⟨x16, ex16⟩ : ∃ y : Int32, y = v4 + 1 := ⟨_, rfl⟩
        have hw := hw x16 ex16
        refine lv_iinc (v := x16) (lv' := [(4, .int x16), (0, .ref (ad 0)), (1, .int a1)]) hx hb dX8_tape_89 hl (k := 2) rfl (by rw [ex16]; rfl) (by decide) rfl (fun ls hl => ?_)
        refine lv_goto (tgt := 72) hx hb dX8_tape_92 (by decide) ?_
        exact ih x16 mTapeSort mTapeSize (va_up mTapes a1.toNatClampNeg (vp_updL (mTapes a1.toNatClampNeg) v4.toNatClampNeg 0)) _ _ hP hD hS ls (lv_sub hl [1, 2, 0] rfl) hw
  have kB68 : ∀ (s1 : Int32) (s2 : Int32) (mTapeSort : Nat → Int32) (mTapeSize : Nat → Int32) (mTapes : Nat → Nat → Int64), ∀ (H : Heap) (locs : List Loc), va_P (dC, dI) vwCl (wdX8_tape cI cJ cT cII cJJ ad mN mStep mSeen mPlans mBooks mTexted mIsKept mSpot mKeeps mMindStep mAt mWhat mWhole mIsBroken mTapeSort mTapeSize mTapes) H → va_D A (wdX8_tape cI cJ cT cII cJJ ad mN mStep mSeen mPlans mBooks mTexted mIsKept mSpot mKeeps mMindStep mAt mWhat mWhole mIsBroken mTapeSort mTapeSize mTapes) → va_S A s.heap H locs → ∀ ls : Array Slot, lv_has ls 5 [(0, .ref (ad 0)), (1, .int a1)] → wpX8_tape_B68 a1 a2 a3 Post s1 s2 mTapeSort mTapeSize mTapes → W p l e (headSpec wsX8_tape ({ frames := 2, cells := 0, slots := 0, locals := 45 } : Room)).room s m ([.ref (ad 0), .int a1, .int a2, .int a3] : List Value).toArray below meth c H locs 0 0 (MQ below (va_Qi (fun (r : Int32) (u : (Nat → Int32) × (Nat → Int32) × (Nat → Nat → Int64)) => Post r u.1 u.2.1 u.2.2) (fun (u : (Nat → Int32) × (Nat → Int32) × (Nat → Nat → Int64)) t => va_P (dC, dI) vwCl (wdX8_tape cI cJ cT cII cJJ ad mN mStep mSeen mPlans mBooks mTexted mIsKept mSpot mKeeps mMindStep mAt mWhat mWhole mIsBroken u.1 u.2.1 u.2.2) t.heap) A) ([.ref (ad 0), .int a1, .int a2, .int a3] : List Value).toArray s 0 0 A) (F0 m 68 ls [.int s2, .int s1, .ref (ad 21)]) := by
    intro s1 s2 mTapeSort mTapeSize mTapes H locs hP hD hS ls hl hw
    unfold wpX8_tape_B68 at hw
    have h9 := hw.1
    have hw := hw.2
    refine va_iast hx hb hK hP hD hS 3 0 rfl rfl h9 dX8_tape_68 (fun H locs hP hD hS => ?_)
    have hP : va_P (dC, dI) vwCl (wdX8_tape cI cJ cT cII cJJ ad mN mStep mSeen mPlans mBooks mTexted mIsKept mSpot mKeeps mMindStep mAt mWhat mWhole mIsBroken mTapeSort (upd mTapeSize s1.toNatClampNeg s2) mTapes) H := hP
    have hD : va_D A (wdX8_tape cI cJ cT cII cJJ ad mN mStep mSeen mPlans mBooks mTexted mIsKept mSpot mKeeps mMindStep mAt mWhat mWhole mIsBroken mTapeSort (upd mTapeSize s1.toNatClampNeg s2) mTapes) := hD
    refine lv_iconst (v := 0) hx hb dX8_tape_69 (by decide) ?_
    refine lv_istore (lv' := [(4, .int 0), (0, .ref (ad 0)), (1, .int a1)]) hx hb dX8_tape_70 hl (by decide) rfl (fun ls hl => ?_)
    obtain ⟨f1, hw⟩ := hw
    exact kB72 f1 0 mTapeSort (upd mTapeSize s1.toNatClampNeg s2) mTapes _ _ hP hD hS ls (lv_sub hl [1, 2, 0] rfl) hw
  have kB47 : ∀ (mTapeSort : Nat → Int32) (mTapeSize : Nat → Int32) (mTapes : Nat → Nat → Int64), ∀ (H : Heap) (locs : List Loc), va_P (dC, dI) vwCl (wdX8_tape cI cJ cT cII cJJ ad mN mStep mSeen mPlans mBooks mTexted mIsKept mSpot mKeeps mMindStep mAt mWhat mWhole mIsBroken mTapeSort mTapeSize mTapes) H → va_D A (wdX8_tape cI cJ cT cII cJJ ad mN mStep mSeen mPlans mBooks mTexted mIsKept mSpot mKeeps mMindStep mAt mWhat mWhole mIsBroken mTapeSort mTapeSize mTapes) → va_S A s.heap H locs → ∀ ls : Array Slot, lv_has ls 5 [(0, .ref (ad 0)), (1, .int a1), (2, .int a2), (3, .int a3)] → wpX8_tape_B47 a1 a2 a3 Post mTapeSort mTapeSize mTapes → W p l e (headSpec wsX8_tape ({ frames := 2, cells := 0, slots := 0, locals := 45 } : Room)).room s m ([.ref (ad 0), .int a1, .int a2, .int a3] : List Value).toArray below meth c H locs 0 0 (MQ below (va_Qi (fun (r : Int32) (u : (Nat → Int32) × (Nat → Int32) × (Nat → Nat → Int64)) => Post r u.1 u.2.1 u.2.2) (fun (u : (Nat → Int32) × (Nat → Int32) × (Nat → Nat → Int64)) t => va_P (dC, dI) vwCl (wdX8_tape cI cJ cT cII cJJ ad mN mStep mSeen mPlans mBooks mTexted mIsKept mSpot mKeeps mMindStep mAt mWhat mWhole mIsBroken u.1 u.2.1 u.2.2) t.heap) A) ([.ref (ad 0), .int a1, .int a2, .int a3] : List Value).toArray s 0 0 A) (F0 m 47 ls []) := by
    intro mTapeSort mTapeSize mTapes H locs hP hD hS ls hl hw
    unfold wpX8_tape_B47 at hw
    refine lv_aload_n hx hb dX8_tape_47 rfl (lv_at hl 0 rfl) ?_
    refine va_get (D := (dC, dI)) (ci := 8) (v := .ref (ad 20)) (C := RX8) (T := TX8) (N := 36) hx hb hts (fun w h => List.mem_cons_of_mem _ (List.mem_append_right _ h)) hown hK hP 0 rfl rfl 33 (by decide) (hts (.fieldLink RX8 78 "BidMarketModel" "tapeSort" "[I") (List.mem_of_getElem? (i := 3) rfl)) (fun _ h9 => h9) rfl dX8_tape_48 ?_
    refine lv_iload_n hx hb dX8_tape_51 rfl (lv_at hl 1 rfl) ?_
    refine lv_iload_n hx hb dX8_tape_52 rfl (lv_at hl 2 rfl) ?_
    have h7 := hw.1
    have hw := hw.2
    refine va_iast hx hb hK hP hD hS 2 0 rfl rfl h7 dX8_tape_53 (fun H locs hP hD hS => ?_)
    have hP : va_P (dC, dI) vwCl (wdX8_tape cI cJ cT cII cJJ ad mN mStep mSeen mPlans mBooks mTexted mIsKept mSpot mKeeps mMindStep mAt mWhat mWhole mIsBroken (upd mTapeSort a1.toNatClampNeg a2) mTapeSize mTapes) H := hP
    have hD : va_D A (wdX8_tape cI cJ cT cII cJJ ad mN mStep mSeen mPlans mBooks mTexted mIsKept mSpot mKeeps mMindStep mAt mWhat mWhole mIsBroken (upd mTapeSort a1.toNatClampNeg a2) mTapeSize mTapes) := hD
    refine lv_aload_n hx hb dX8_tape_54 rfl (lv_at hl 0 rfl) ?_
    refine va_get (D := (dC, dI)) (ci := 8) (v := .ref (ad 21)) (C := RX8) (T := TX8) (N := 36) hx hb hts (fun w h => List.mem_cons_of_mem _ (List.mem_append_right _ h)) hown hK hP 0 rfl rfl 34 (by decide) (hts (.fieldLink RX8 81 "BidMarketModel" "tapeSize" "[I") (List.mem_of_getElem? (i := 4) rfl)) (fun _ h9 => h9) rfl dX8_tape_55 ?_
    refine lv_iload_n hx hb dX8_tape_58 rfl (lv_at hl 1 rfl) ?_
    refine lv_iload_n hx hb dX8_tape_59 rfl (lv_at hl 2 rfl) ?_
    refine lv_if_ge (tgt := 67) hx hb dX8_tape_60 (by decide) (fun c8 => ?_) (fun c8 => ?_)
    · have hw := hw.1 c8
      refine lv_iload_n hx hb dX8_tape_67 rfl (lv_at hl 3 rfl) ?_
      exact kB68 a1 a3 (upd mTapeSort a1.toNatClampNeg a2) mTapeSize mTapes _ _ hP hD hS ls (lv_sub hl [0, 1] rfl) hw
    · have hw := hw.2 c8
      refine lv_iconst (v := 0) hx hb dX8_tape_63 (by decide) ?_
      refine lv_goto (tgt := 68) hx hb dX8_tape_64 (by decide) ?_
      exact kB68 a1 0 (upd mTapeSort a1.toNatClampNeg a2) mTapeSize mTapes _ _ hP hD hS ls (lv_sub hl [0, 1] rfl) hw
  have kB36 : ∀ (mTapeSort : Nat → Int32) (mTapeSize : Nat → Int32) (mTapes : Nat → Nat → Int64), ∀ (H : Heap) (locs : List Loc), va_P (dC, dI) vwCl (wdX8_tape cI cJ cT cII cJJ ad mN mStep mSeen mPlans mBooks mTexted mIsKept mSpot mKeeps mMindStep mAt mWhat mWhole mIsBroken mTapeSort mTapeSize mTapes) H → va_D A (wdX8_tape cI cJ cT cII cJJ ad mN mStep mSeen mPlans mBooks mTexted mIsKept mSpot mKeeps mMindStep mAt mWhat mWhole mIsBroken mTapeSort mTapeSize mTapes) → va_S A s.heap H locs → ∀ ls : Array Slot, lv_has ls 5 [(0, .ref (ad 0)), (1, .int a1), (2, .int a2), (3, .int a3)] → wpX8_tape_B36 a1 a2 a3 Post mTapeSort mTapeSize mTapes → W p l e (headSpec wsX8_tape ({ frames := 2, cells := 0, slots := 0, locals := 45 } : Room)).room s m ([.ref (ad 0), .int a1, .int a2, .int a3] : List Value).toArray below meth c H locs 0 0 (MQ below (va_Qi (fun (r : Int32) (u : (Nat → Int32) × (Nat → Int32) × (Nat → Nat → Int64)) => Post r u.1 u.2.1 u.2.2) (fun (u : (Nat → Int32) × (Nat → Int32) × (Nat → Nat → Int64)) t => va_P (dC, dI) vwCl (wdX8_tape cI cJ cT cII cJJ ad mN mStep mSeen mPlans mBooks mTexted mIsKept mSpot mKeeps mMindStep mAt mWhat mWhole mIsBroken u.1 u.2.1 u.2.2) t.heap) A) ([.ref (ad 0), .int a1, .int a2, .int a3] : List Value).toArray s 0 0 A) (F0 m 36 ls []) := by
    intro mTapeSort mTapeSize mTapes H locs hP hD hS ls hl hw
    unfold wpX8_tape_B36 at hw
    refine lv_iload_n hx hb dX8_tape_36 rfl (lv_at hl 2 rfl) ?_
    refine lv_if_lt (tgt := 47) hx hb dX8_tape_37 (by decide) (fun c6 => ?_) (fun c6 => ?_)
    · have hw := hw.1 c6
      exact kB47 mTapeSort mTapeSize mTapes _ _ hP hD hS ls hl hw
    · have hw := hw.2 c6
      refine lv_iload_n hx hb dX8_tape_40 rfl (lv_at hl 3 rfl) ?_
      refine lv_if_ge (tgt := 47) hx hb dX8_tape_41 (by decide) (fun c17 => ?_) (fun c17 => ?_)
      · have hw := hw.1 c17
        exact kB47 mTapeSort mTapeSize mTapes _ _ hP hD hS ls hl hw
      · have hw := hw.2 c17
        refine lv_bipush (v := (-14)) hx hb dX8_tape_44 (by decide) ?_
        exact W.iret (v := (-14)) hx hb hr (fun t ht hW => ⟨⟨(-14), (mTapeSort, mTapeSize, mTapes), rfl, hw, by show va_P _ _ _ t.heap; rw [ht]; exact hP⟩, hS.F ht⟩) hS.2.2 dX8_tape_46
  unfold wpX8_tape at hw
  refine lv_iload_n hx hb dX8_tape_0 rfl (lv_at hl 1 rfl) ?_
  refine bw_psi (wc := []) (As := [.int a1]) (rest := []) ⟨hx, hb, hml, hown, hts⟩ (mX8_isTape l dC dI cI cJ cT cII cJJ a1 _ hw) (va_cwS 1 hts gX8_tape_X8_isTape rfl rfl rfl hdX8_isTape ⟨Nat.le_of_ble_eq_true rfl, Nat.le_of_ble_eq_true rfl⟩) hK hP [] rfl rfl hl.1 rfl (Nat.le_of_ble_eq_true rfl) ⟨Nat.le_of_ble_eq_true rfl, Nat.le_of_ble_eq_true rfl⟩ dX8_tape_1 (fun r1 hw => ?_)
  refine lv_if_ne (tgt := 9) hx hb dX8_tape_4 (by decide) (fun c2 => ?_) (fun c2 => ?_)
  · have hw := hw.1 c2
    refine lv_iload_n hx hb dX8_tape_9 rfl (lv_at hl 2 rfl) ?_
    refine lv_i2l hx hb dX8_tape_10 rfl ?_
    refine lv_ldc2 hx hb hown (hts (.constantLong RX8 167 (-1)) (List.mem_of_getElem? (i := 1) rfl)) dX8_tape_11 ?_
    refine lv_ldc2 hx hb hown (hts (.constantLong RX8 306 (4)) (List.mem_of_getElem? (i := 2) rfl)) dX8_tape_14 ?_
    refine bw_psi (wc := []) (As := [.long a2.toInt64, .long ((-1)), .long 4]) (rest := []) ⟨hx, hb, hml, hown, hts⟩ (mX8_in l dC dI cI cJ cT cII cJJ a2.toInt64 ((-1)) 4 _ hw) (va_cwS 3 hts gX8_tape_X8_in rfl rfl rfl hdX8_in ⟨Nat.le_of_ble_eq_true rfl, Nat.le_of_ble_eq_true rfl⟩) hK hP [] rfl rfl hl.1 rfl (Nat.le_of_ble_eq_true rfl) ⟨Nat.le_of_ble_eq_true rfl, Nat.le_of_ble_eq_true rfl⟩ dX8_tape_17 (fun r3 hw => ?_)
    refine lv_if_eq (tgt := 33) hx hb dX8_tape_20 (by decide) (fun c4 => ?_) (fun c4 => ?_)
    · have hw := hw.1 c4
      refine lv_bipush (v := (-2)) hx hb dX8_tape_33 (by decide) ?_
      exact W.iret (v := (-2)) hx hb hr (fun t ht hW => ⟨⟨(-2), (mTapeSort, mTapeSize, mTapes), rfl, hw, by show va_P _ _ _ t.heap; rw [ht]; exact hP⟩, hS.F ht⟩) hS.2.2 dX8_tape_35
    · have hw := hw.2 c4
      refine lv_iload_n hx hb dX8_tape_23 rfl (lv_at hl 2 rfl) ?_
      refine lv_if_lt (tgt := 36) hx hb dX8_tape_24 (by decide) (fun c5 => ?_) (fun c5 => ?_)
      · have hw := hw.1 c5
        exact kB36 mTapeSort mTapeSize mTapes _ _ hP hD hS ls hl hw
      · have hw := hw.2 c5
        refine lv_iload_n hx hb dX8_tape_27 rfl (lv_at hl 3 rfl) ?_
        refine lv_bipush (v := 60) hx hb dX8_tape_28 (by decide) ?_
        refine lv_icmp_le (tgt := 36) hx hb dX8_tape_30 (by decide) (fun c18 => ?_) (fun c18 => ?_)
        · have hw := hw.1 c18
          exact kB36 mTapeSort mTapeSize mTapes _ _ hP hD hS ls hl hw
        · have hw := hw.2 c18
          refine lv_bipush (v := (-2)) hx hb dX8_tape_33 (by decide) ?_
          exact W.iret (v := (-2)) hx hb hr (fun t ht hW => ⟨⟨(-2), (mTapeSort, mTapeSize, mTapes), rfl, hw, by show va_P _ _ _ t.heap; rw [ht]; exact hP⟩, hS.F ht⟩) hS.2.2 dX8_tape_35
  · have hw := hw.2 c2
    refine lv_iconst (v := (-1)) hx hb dX8_tape_7 (by decide) ?_
    exact W.iret (v := (-1)) hx hb hr (fun t ht hW => ⟨⟨(-1), (mTapeSort, mTapeSize, mTapes), rfl, hw, by show va_P _ _ _ t.heap; rw [ht]; exact hP⟩, hS.F ht⟩) hS.2.2 dX8_tape_8
set_option maxHeartbeats 4000000 in
set_option maxRecDepth 100000 in
theorem mX8_fit (l : Launch) (dC : Nat → ClassId) (dI : Nat → Nat → Nat) (cI cJ cT cII cJJ : ClassId) (a0 : Int32) (a1 : Int64) (Post : Int64 → Prop) (hw : wpX8_fit a0 a1 Post) : Met l yX8_fit wsX8_fit ({ frames := 0, cells := 0, slots := 0, locals := 0 } : Room) (va_Pc [.int a0, .long a1] (fun U => va_P (dC, dI) vwCl [] U.heap ∧ va_K (dC, dI) vwCl (bw_tys cI cJ cT cII cJJ) U)) (vp_Sl Post) 0 0 (fun _ => False) := by
  refine Met.ofW (cc := cX8_fit) (maxL := 3) (ret := (some .long)) (by decide) rfl ?_
  intro p e s m args below meth c s₁ B hml hv
  obtain ⟨rfl, hP, hK⟩ := hv
  have hx := B.exec
  have hb := B.bytes
  have hr := B.returns
  have hts := atoms_spec (ws := wsX8_fit) B.pre
  have hown : s.vm.findClass RX8 = some m.cls := findClass_of_methodNamed B.named
  have hlocks := B.notSynchronized
  have hl := lv_entry ([.int a0, .long a1]) (n := 3) (Nat.le_of_ble_eq_true rfl)
  rw [lg_entry_eq]
  generalize (lg_sl ([.int a0, .long a1]) ++ List.replicate (3 - (lg_sl ([.int a0, .long a1])).length) Slot.unset).toArray = ls at hl ⊢
  have hl : lv_has ls 3 [(0, .int a0), (1, .long a1)] := hl
  unfold wpX8_fit at hw
  refine lv_iload_n hx hb dX8_fit_0 rfl (lv_at hl 0 rfl) ?_
  by_cases c1 : a0.toInt < 0 ∨ 3 < a0.toInt
  · have hw := hw.1 c1
    refine lv_tableOut (tgt := 48) hx hb dX8_fit_1 c1 (by decide) ?_
    refine lv_lload_n hx hb dX8_fit_48 rfl (lv_at hl 1 rfl) ?_
    refine lv_lconst (v := 0) hx hb dX8_fit_49 (by decide) ?_
    refine W.lcmp hx hb dX8_fit_50 ?_
    refine lv_if_eq (tgt := 58) hx hb dX8_fit_51 (by decide) (fun c2 => ?_) (fun c2 => ?_)
    · have hw := hw.1 c2
      refine lv_lconst (v := 0) hx hb dX8_fit_58 (by decide) ?_
      exact W.lret (v := 0) hx hb hr (fun t ht hW => ⟨0, rfl, hw, ht⟩) (fun _ h => by cases h) dX8_fit_59
    · have hw := hw.2 c2
      refine lv_lconst (v := 1) hx hb dX8_fit_54 (by decide) ?_
      refine lv_goto (tgt := 59) hx hb dX8_fit_55 (by decide) ?_
      exact W.lret (v := 1) hx hb hr (fun t ht hW => ⟨1, rfl, hw, ht⟩) (fun _ h => by cases h) dX8_fit_59
  have hw := hw.2
  by_cases c3 : a0 = 0
  · have hw := hw.1 c3
    refine lv_tableIn (tgt := 32) (off := 31) hx hb dX8_fit_1 (fun h => c1 (Or.inl h)) (fun h => c1 (Or.inr h)) (by rw [c3]; rfl) (by decide) ?_
    refine lv_lload_n hx hb dX8_fit_32 rfl (lv_at hl 1 rfl) ?_
    refine lv_l2i hx hb dX8_fit_33 rfl ?_
    refine lv_i2b hx hb dX8_fit_34 rfl ?_
    refine lv_i2l hx hb dX8_fit_35 rfl ?_
    exact W.lret (v := a1.toInt32.toInt8.toInt32.toInt64) hx hb hr (fun t ht hW => ⟨a1.toInt32.toInt8.toInt32.toInt64, rfl, hw, ht⟩) (fun _ h => by cases h) dX8_fit_36
  have hw := hw.2
  by_cases c4 : a0 = 1
  · have hw := hw.1 c4
    refine lv_tableIn (tgt := 37) (off := 36) hx hb dX8_fit_1 (fun h => c1 (Or.inl h)) (fun h => c1 (Or.inr h)) (by rw [c4]; rfl) (by decide) ?_
    refine lv_lload_n hx hb dX8_fit_37 rfl (lv_at hl 1 rfl) ?_
    refine lv_l2i hx hb dX8_fit_38 rfl ?_
    refine lv_i2s hx hb dX8_fit_39 rfl ?_
    refine lv_i2l hx hb dX8_fit_40 rfl ?_
    exact W.lret (v := a1.toInt32.toInt16.toInt32.toInt64) hx hb hr (fun t ht hW => ⟨a1.toInt32.toInt16.toInt32.toInt64, rfl, hw, ht⟩) (fun _ h => by cases h) dX8_fit_41
  have hw := hw.2
  by_cases c5 : a0 = 2
  · have hw := hw.1 c5
    refine lv_tableIn (tgt := 42) (off := 41) hx hb dX8_fit_1 (fun h => c1 (Or.inl h)) (fun h => c1 (Or.inr h)) (by rw [c5]; rfl) (by decide) ?_
    refine lv_lload_n hx hb dX8_fit_42 rfl (lv_at hl 1 rfl) ?_
    refine lv_l2i hx hb dX8_fit_43 rfl ?_
    refine lv_i2l hx hb dX8_fit_44 rfl ?_
    exact W.lret (v := a1.toInt32.toInt64) hx hb hr (fun t ht hW => ⟨a1.toInt32.toInt64, rfl, hw, ht⟩) (fun _ h => by cases h) dX8_fit_45
  have hw := hw.2
  by_cases c6 : a0 = 3
  · have hw := hw c6
    refine lv_tableIn (tgt := 46) (off := 45) hx hb dX8_fit_1 (fun h => c1 (Or.inl h)) (fun h => c1 (Or.inr h)) (by rw [c6]; rfl) (by decide) ?_
    refine lv_lload_n hx hb dX8_fit_46 rfl (lv_at hl 1 rfl) ?_
    exact W.lret (v := a1) hx hb hr (fun t ht hW => ⟨a1, rfl, hw, ht⟩) (fun _ h => by cases h) dX8_fit_47
  exact (bw_sw 3 c1 (fun k hk => match k, hk with | 0, _ => c3 | 1, _ => c4 | 2, _ => c5 | 3, _ => c6 | k + 4, h => absurd h (by omega))).elim
set_option maxHeartbeats 4000000 in
set_option maxRecDepth 100000 in
theorem mX8_item (l : Launch) (dC : Nat → ClassId) (dI : Nat → Nat → Nat) (cI cJ cT cII cJJ : ClassId) (ad : Nat → Nat) (sz : Nat) (mN : Int32) (mStep : Int32) (mSeen : Int32) (mPlans : Int32) (mBooks : Int32) (mTexted : Int32) (mIsKept : Int32) (mSpot : Int32) (mKeeps : Int32) (mMindStep : Int32) (mAt : Int32) (mWhat : Int32) (mWhole : Int32) (mIsBroken : Int32) (mTapeSort : Nat → Int32) (mTapeSize : Nat → Int32) (mTapes : Nat → Nat → Int64) (a1 : Int32) (a2 : Int32) (a3 : Int64) (Post : Int32 → (Nat → Nat → Int64) → Prop) (hw : wpX8_item mTapeSort mTapeSize mTapes a1 a2 a3 Post) : Met l yX8_item wsX8_item ({ frames := 2, cells := 0, slots := 0, locals := 45 } : Room) (va_Pc [.ref (ad 0), .int a1, .int a2, .long a3] (fun U => U.heap.size = sz ∧ va_P (dC, dI) vwCl (wdX8_item cI cJ cT cII cJJ ad mN mStep mSeen mPlans mBooks mTexted mIsKept mSpot mKeeps mMindStep mAt mWhat mWhole mIsBroken mTapeSort mTapeSize mTapes) U.heap ∧ va_K (dC, dI) vwCl (bw_tys cI cJ cT cII cJJ) U ∧ va_D (fun _ => True) (wdX8_item cI cJ cT cII cJJ ad mN mStep mSeen mPlans mBooks mTexted mIsKept mSpot mKeeps mMindStep mAt mWhat mWhole mIsBroken mTapeSort mTapeSize mTapes))) (va_Qi (fun (r : Int32) (u : (Nat → Nat → Int64)) => Post r u) (fun (u : (Nat → Nat → Int64)) t => va_P (dC, dI) vwCl (wdX8_item cI cJ cT cII cJJ ad mN mStep mSeen mPlans mBooks mTexted mIsKept mSpot mKeeps mMindStep mAt mWhat mWhole mIsBroken mTapeSort mTapeSize u) t.heap) (va_A (wdX8_item cI cJ cT cII cJJ ad mN mStep mSeen mPlans mBooks mTexted mIsKept mSpot mKeeps mMindStep mAt mWhat mWhole mIsBroken mTapeSort mTapeSize mTapes) sz)) 0 0 (va_A (wdX8_item cI cJ cT cII cJJ ad mN mStep mSeen mPlans mBooks mTexted mIsKept mSpot mKeeps mMindStep mAt mWhat mWhole mIsBroken mTapeSort mTapeSize mTapes) sz) := by
  refine Met.ofW (cc := cX8_item) (maxL := 5) (ret := (some .int)) (by decide) rfl ?_
  intro p e s m args below meth c s₁ B hml hv
  obtain ⟨rfl, hsz, hP, hK, hD0⟩ := hv
  have hx := B.exec
  have hb := B.bytes
  have hr := B.returns
  have hts := atoms_spec (ws := wsX8_item) B.pre
  have hown : s.vm.findClass RX8 = some m.cls := findClass_of_methodNamed B.named
  have hlocks := B.notSynchronized
  subst hsz
  have hD := hD0.self (sz := s.heap.size)
  generalize hAe : va_A (wdX8_item cI cJ cT cII cJJ ad mN mStep mSeen mPlans mBooks mTexted mIsKept mSpot mKeeps mMindStep mAt mWhat mWhole mIsBroken mTapeSort mTapeSize mTapes) s.heap.size = A at hD ⊢
  have hA : ∀ q : Nat, s.heap.size ≤ q → A q := fun q h => by rw [← hAe]; exact Or.inr h
  have hS : va_S A s.heap s.heap [] := va_S.rf
  have hl := lv_entry ([.ref (ad 0), .int a1, .int a2, .long a3]) (n := 5) (Nat.le_of_ble_eq_true rfl)
  rw [lg_entry_eq]
  generalize (lg_sl ([.ref (ad 0), .int a1, .int a2, .long a3]) ++ List.replicate (5 - (lg_sl ([.ref (ad 0), .int a1, .int a2, .long a3])).length) Slot.unset).toArray = ls at hl ⊢
  have hl : lv_has ls 5 [(0, .ref (ad 0)), (1, .int a1), (2, .int a2), (3, .long a3)] := hl
  unfold wpX8_item at hw
  refine lv_iload_n hx hb dX8_item_0 rfl (lv_at hl 1 rfl) ?_
  refine bw_psi (wc := []) (As := [.int a1]) (rest := []) ⟨hx, hb, hml, hown, hts⟩ (mX8_isTape l dC dI cI cJ cT cII cJJ a1 _ hw) (va_cwS 1 hts gX8_item_X8_isTape rfl rfl rfl hdX8_isTape ⟨Nat.le_of_ble_eq_true rfl, Nat.le_of_ble_eq_true rfl⟩) hK hP [] rfl rfl hl.1 rfl (Nat.le_of_ble_eq_true rfl) ⟨Nat.le_of_ble_eq_true rfl, Nat.le_of_ble_eq_true rfl⟩ dX8_item_1 (fun r1 hw => ?_)
  refine lv_if_ne (tgt := 9) hx hb dX8_item_4 (by decide) (fun c2 => ?_) (fun c2 => ?_)
  · have hw := hw.1 c2
    refine lv_aload_n hx hb dX8_item_9 rfl (lv_at hl 0 rfl) ?_
    refine va_get (D := (dC, dI)) (ci := 8) (v := .ref (ad 20)) (C := RX8) (T := TX8) (N := 36) hx hb hts (fun w h => List.mem_cons_of_mem _ (List.mem_append_right _ h)) hown hK hP 0 rfl rfl 33 (by decide) (hts (.fieldLink RX8 78 "BidMarketModel" "tapeSort" "[I") (List.mem_of_getElem? (i := 1) rfl)) (fun _ h9 => h9) rfl dX8_item_10 ?_
    refine lv_iload_n hx hb dX8_item_13 rfl (lv_at hl 1 rfl) ?_
    have h3 := hw.1
    have hw := hw.2
    refine va_iald hx hb hK hP 2 0 rfl rfl h3 dX8_item_14 ?_
    refine lv_if_ge (tgt := 21) hx hb dX8_item_15 (by decide) (fun c4 => ?_) (fun c4 => ?_)
    · have hw := hw.1 c4
      refine lv_iload_n hx hb dX8_item_21 rfl (lv_at hl 2 rfl) ?_
      refine lv_i2l hx hb dX8_item_22 rfl ?_
      refine lv_lconst (v := 0) hx hb dX8_item_23 (by decide) ?_
      refine lv_aload_n hx hb dX8_item_24 rfl (lv_at hl 0 rfl) ?_
      refine va_get (D := (dC, dI)) (ci := 8) (v := .ref (ad 21)) (C := RX8) (T := TX8) (N := 36) hx hb hts (fun w h => List.mem_cons_of_mem _ (List.mem_append_right _ h)) hown hK hP 0 rfl rfl 34 (by decide) (hts (.fieldLink RX8 81 "BidMarketModel" "tapeSize" "[I") (List.mem_of_getElem? (i := 2) rfl)) (fun _ h9 => h9) rfl dX8_item_25 ?_
      refine lv_iload_n hx hb dX8_item_28 rfl (lv_at hl 1 rfl) ?_
      have h5 := hw.1
      have hw := hw.2
      refine va_iald hx hb hK hP 3 0 rfl rfl h5 dX8_item_29 ?_
      refine lv_iconst (v := 1) hx hb dX8_item_30 (by decide) ?_
      refine lv_isub hx hb dX8_item_31 ?_
      refine lv_i2l hx hb dX8_item_32 rfl ?_
      refine bw_psi (wc := []) (As := [.long a2.toInt64, .long 0, .long (((mTapeSize a1.toNatClampNeg) - 1).toInt64)]) (rest := []) ⟨hx, hb, hml, hown, hts⟩ (mX8_in l dC dI cI cJ cT cII cJJ a2.toInt64 0 (((mTapeSize a1.toNatClampNeg) - 1).toInt64) _ hw) (va_cwS 3 hts gX8_item_X8_in rfl rfl rfl hdX8_in ⟨Nat.le_of_ble_eq_true rfl, Nat.le_of_ble_eq_true rfl⟩) hK hP [] rfl rfl hl.1 rfl (Nat.le_of_ble_eq_true rfl) ⟨Nat.le_of_ble_eq_true rfl, Nat.le_of_ble_eq_true rfl⟩ dX8_item_33 (fun r6 hw => ?_)
      refine lv_if_ne (tgt := 42) hx hb dX8_item_36 (by decide) (fun c7 => ?_) (fun c7 => ?_)
      · have hw := hw.1 c7
        refine lv_aload_n hx hb dX8_item_42 rfl (lv_at hl 0 rfl) ?_
        refine va_get (D := (dC, dI)) (ci := 8) (v := .ref (ad 19)) (C := RX8) (T := TX8) (N := 36) hx hb hts (fun w h => List.mem_cons_of_mem _ (List.mem_append_right _ h)) hown hK hP 0 rfl rfl 32 (by decide) (hts (.fieldLink RX8 75 "BidMarketModel" "tapes" "[[J") (List.mem_of_getElem? (i := 3) rfl)) (fun _ h9 => h9) rfl dX8_item_43 ?_
        refine lv_iload_n hx hb dX8_item_46 rfl (lv_at hl 1 rfl) ?_
        have h8 := hw.1
        have hw := hw.2
        have q9 := bw_lt h8
        refine bw_aald (g := fun i => ad (i + 23)) (b := ad (a1.toNatClampNeg + 23)) hx hb hK hP 1 4 rfl rfl rfl (fun k h => if_pos h) h8 rfl dX8_item_47 ?_
        refine lv_iload_n hx hb dX8_item_48 rfl (lv_at hl 2 rfl) ?_
        refine lv_aload_n hx hb dX8_item_49 rfl (lv_at hl 0 rfl) ?_
        refine va_get (D := (dC, dI)) (ci := 8) (v := .ref (ad 20)) (C := RX8) (T := TX8) (N := 36) hx hb hts (fun w h => List.mem_cons_of_mem _ (List.mem_append_right _ h)) hown hK hP 0 rfl rfl 33 (by decide) (hts (.fieldLink RX8 78 "BidMarketModel" "tapeSort" "[I") (List.mem_of_getElem? (i := 1) rfl)) (fun _ h9 => h9) rfl dX8_item_50 ?_
        refine lv_iload_n hx hb dX8_item_53 rfl (lv_at hl 1 rfl) ?_
        have h10 := hw.1
        have hw := hw.2
        refine va_iald hx hb hK hP 2 0 rfl rfl h10 dX8_item_54 ?_
        refine lv_lload_n hx hb dX8_item_55 rfl (lv_at hl 3 rfl) ?_
        refine bw_psl (wc := []) (As := [.int (mTapeSort a1.toNatClampNeg), .long a3]) (rest := [.int a2, .ref (ad (a1.toNatClampNeg + 23))]) ⟨hx, hb, hml, hown, hts⟩ (mX8_fit l dC dI cI cJ cT cII cJJ (mTapeSort a1.toNatClampNeg) a3 _ hw) (va_cwS 2 hts gX8_item_X8_fit rfl rfl rfl hdX8_fit ⟨Nat.le_of_ble_eq_true rfl, Nat.le_of_ble_eq_true rfl⟩) hK hP [] rfl rfl hl.1 rfl (Nat.le_of_ble_eq_true rfl) ⟨Nat.le_of_ble_eq_true rfl, Nat.le_of_ble_eq_true rfl⟩ dX8_item_56 (fun r11 hw => ?_)
        have h12 := hw.1
        have hw := hw.2
        have g13 : ∀ k, k < 6 → ((wdX8_item cI cJ cT cII cJJ ad mN mStep mSeen mPlans mBooks mTexted mIsKept mSpot mKeeps mMindStep mAt mWhat mWhole mIsBroken mTapeSort mTapeSize mTapes))[4 + k]? = some (ad (k + 23), .inl (cJ, 60, .inr (.inl (mTapes k)))) := bw_all6 rfl rfl rfl rfl rfl rfl
        refine va_last hx hb hK hP hD hS (4 + a1.toNatClampNeg) 1 (g13 _ q9) rfl h12 dX8_item_59 (fun H locs hP hD hS => ?_)
        have g14 : ∀ k, k < 6 → ∀ f : Nat → Int64, ((wdX8_item cI cJ cT cII cJJ ad mN mStep mSeen mPlans mBooks mTexted mIsKept mSpot mKeeps mMindStep mAt mWhat mWhole mIsBroken mTapeSort mTapeSize mTapes)).set (4 + k) (ad (k + 23), .inl (cJ, 60, .inr (.inl f))) = (wdX8_item cI cJ cT cII cJJ ad mN mStep mSeen mPlans mBooks mTexted mIsKept mSpot mKeeps mMindStep mAt mWhat mWhole mIsBroken mTapeSort mTapeSize (va_up mTapes k f)) := bw_all6 (fun _ => rfl) (fun _ => rfl) (fun _ => rfl) (fun _ => rfl) (fun _ => rfl) (fun _ => rfl)
        rw [g14 _ q9] at hP hD
        have hP : va_P (dC, dI) vwCl (wdX8_item cI cJ cT cII cJJ ad mN mStep mSeen mPlans mBooks mTexted mIsKept mSpot mKeeps mMindStep mAt mWhat mWhole mIsBroken mTapeSort mTapeSize (va_up mTapes a1.toNatClampNeg (vp_updL (mTapes a1.toNatClampNeg) a2.toNatClampNeg r11))) H := hP
        have hD : va_D A (wdX8_item cI cJ cT cII cJJ ad mN mStep mSeen mPlans mBooks mTexted mIsKept mSpot mKeeps mMindStep mAt mWhat mWhole mIsBroken mTapeSort mTapeSize (va_up mTapes a1.toNatClampNeg (vp_updL (mTapes a1.toNatClampNeg) a2.toNatClampNeg r11))) := hD
        refine lv_iconst (v := 1) hx hb dX8_item_60 (by decide) ?_
        exact W.iret (v := 1) hx hb hr (fun t ht hW => ⟨⟨1, va_up mTapes a1.toNatClampNeg (vp_updL (mTapes a1.toNatClampNeg) a2.toNatClampNeg r11), rfl, hw, by show va_P _ _ _ t.heap; rw [ht]; exact hP⟩, hS.F ht⟩) hS.2.2 dX8_item_61
      · have hw := hw.2 c7
        refine lv_bipush (v := (-13)) hx hb dX8_item_39 (by decide) ?_
        exact W.iret (v := (-13)) hx hb hr (fun t ht hW => ⟨⟨(-13), mTapes, rfl, hw, by show va_P _ _ _ t.heap; rw [ht]; exact hP⟩, hS.F ht⟩) hS.2.2 dX8_item_41
    · have hw := hw.2 c4
      refine lv_bipush (v := (-11)) hx hb dX8_item_18 (by decide) ?_
      exact W.iret (v := (-11)) hx hb hr (fun t ht hW => ⟨⟨(-11), mTapes, rfl, hw, by show va_P _ _ _ t.heap; rw [ht]; exact hP⟩, hS.F ht⟩) hS.2.2 dX8_item_20
  · have hw := hw.2 c2
    refine lv_iconst (v := (-1)) hx hb dX8_item_7 (by decide) ?_
    exact W.iret (v := (-1)) hx hb hr (fun t ht hW => ⟨⟨(-1), mTapes, rfl, hw, by show va_P _ _ _ t.heap; rw [ht]; exact hP⟩, hS.F ht⟩) hS.2.2 dX8_item_8
set_option maxHeartbeats 4000000 in
set_option maxRecDepth 100000 in
theorem mX8_peek (l : Launch) (dC : Nat → ClassId) (dI : Nat → Nat → Nat) (cI cJ cT cII cJJ : ClassId) (ad : Nat → Nat) (mN : Int32) (mStep : Int32) (mSeen : Int32) (mPlans : Int32) (mBooks : Int32) (mTexted : Int32) (mIsKept : Int32) (mSpot : Int32) (mKeeps : Int32) (mMindStep : Int32) (mAt : Int32) (mWhat : Int32) (mWhole : Int32) (mIsBroken : Int32) (mTapeSort : Nat → Int32) (mTapeSize : Nat → Int32) (mTapes : Nat → Nat → Int64) (a1 : Int32) (a2 : Int32) (Post : Int64 → Prop) (hw : wpX8_peek mTapeSort mTapeSize mTapes a1 a2 Post) : Met l yX8_peek wsX8_peek ({ frames := 2, cells := 0, slots := 0, locals := 45 } : Room) (va_Pc [.ref (ad 0), .int a1, .int a2] (fun U => va_P (dC, dI) vwCl (wdX8_peek cI cJ cT cII cJJ ad mN mStep mSeen mPlans mBooks mTexted mIsKept mSpot mKeeps mMindStep mAt mWhat mWhole mIsBroken mTapeSort mTapeSize mTapes) U.heap ∧ va_K (dC, dI) vwCl (bw_tys cI cJ cT cII cJJ) U)) (vp_Sl Post) 0 0 (fun _ => False) := by
  refine Met.ofW (cc := cX8_peek) (maxL := 3) (ret := (some .long)) (by decide) rfl ?_
  intro p e s m args below meth c s₁ B hml hv
  obtain ⟨rfl, hP, hK⟩ := hv
  have hx := B.exec
  have hb := B.bytes
  have hr := B.returns
  have hts := atoms_spec (ws := wsX8_peek) B.pre
  have hown : s.vm.findClass RX8 = some m.cls := findClass_of_methodNamed B.named
  have hlocks := B.notSynchronized
  have hl := lv_entry ([.ref (ad 0), .int a1, .int a2]) (n := 3) (Nat.le_of_ble_eq_true rfl)
  rw [lg_entry_eq]
  generalize (lg_sl ([.ref (ad 0), .int a1, .int a2]) ++ List.replicate (3 - (lg_sl ([.ref (ad 0), .int a1, .int a2])).length) Slot.unset).toArray = ls at hl ⊢
  have hl : lv_has ls 3 [(0, .ref (ad 0)), (1, .int a1), (2, .int a2)] := hl
  unfold wpX8_peek at hw
  refine lv_iload_n hx hb dX8_peek_0 rfl (lv_at hl 1 rfl) ?_
  refine bw_psi (wc := []) (As := [.int a1]) (rest := []) ⟨hx, hb, hml, hown, hts⟩ (mX8_isTape l dC dI cI cJ cT cII cJJ a1 _ hw) (va_cwS 1 hts gX8_peek_X8_isTape rfl rfl rfl hdX8_isTape ⟨Nat.le_of_ble_eq_true rfl, Nat.le_of_ble_eq_true rfl⟩) hK hP [] rfl rfl hl.1 rfl (Nat.le_of_ble_eq_true rfl) ⟨Nat.le_of_ble_eq_true rfl, Nat.le_of_ble_eq_true rfl⟩ dX8_peek_1 (fun r1 hw => ?_)
  refine lv_if_eq (tgt := 45) hx hb dX8_peek_4 (by decide) (fun c2 => ?_) (fun c2 => ?_)
  · have hw := hw.1 c2
    refine lv_ldc2 hx hb hown (hts (.constantLong RX8 233 (-9223372036854775808)) (List.mem_of_getElem? (i := 4) rfl)) dX8_peek_45 ?_
    exact W.lret (v := (-9223372036854775808)) hx hb hr (fun t ht hW => ⟨(-9223372036854775808), rfl, hw, ht⟩) (fun _ h => by cases h) dX8_peek_48
  · have hw := hw.2 c2
    refine lv_aload_n hx hb dX8_peek_7 rfl (lv_at hl 0 rfl) ?_
    refine va_get (D := (dC, dI)) (ci := 8) (v := .ref (ad 20)) (C := RX8) (T := TX8) (N := 36) hx hb hts (fun w h => List.mem_cons_of_mem _ (List.mem_append_right _ h)) hown hK hP 0 rfl rfl 33 (by decide) (hts (.fieldLink RX8 78 "BidMarketModel" "tapeSort" "[I") (List.mem_of_getElem? (i := 1) rfl)) (fun _ h9 => h9) rfl dX8_peek_8 ?_
    refine lv_iload_n hx hb dX8_peek_11 rfl (lv_at hl 1 rfl) ?_
    have h3 := hw.1
    have hw := hw.2
    refine va_iald hx hb hK hP 2 0 rfl rfl h3 dX8_peek_12 ?_
    refine lv_if_lt (tgt := 45) hx hb dX8_peek_13 (by decide) (fun c4 => ?_) (fun c4 => ?_)
    · have hw := hw.1 c4
      refine lv_ldc2 hx hb hown (hts (.constantLong RX8 233 (-9223372036854775808)) (List.mem_of_getElem? (i := 4) rfl)) dX8_peek_45 ?_
      exact W.lret (v := (-9223372036854775808)) hx hb hr (fun t ht hW => ⟨(-9223372036854775808), rfl, hw, ht⟩) (fun _ h => by cases h) dX8_peek_48
    · have hw := hw.2 c4
      refine lv_iload_n hx hb dX8_peek_16 rfl (lv_at hl 2 rfl) ?_
      refine lv_i2l hx hb dX8_peek_17 rfl ?_
      refine lv_lconst (v := 0) hx hb dX8_peek_18 (by decide) ?_
      refine lv_aload_n hx hb dX8_peek_19 rfl (lv_at hl 0 rfl) ?_
      refine va_get (D := (dC, dI)) (ci := 8) (v := .ref (ad 21)) (C := RX8) (T := TX8) (N := 36) hx hb hts (fun w h => List.mem_cons_of_mem _ (List.mem_append_right _ h)) hown hK hP 0 rfl rfl 34 (by decide) (hts (.fieldLink RX8 81 "BidMarketModel" "tapeSize" "[I") (List.mem_of_getElem? (i := 2) rfl)) (fun _ h9 => h9) rfl dX8_peek_20 ?_
      refine lv_iload_n hx hb dX8_peek_23 rfl (lv_at hl 1 rfl) ?_
      have h5 := hw.1
      have hw := hw.2
      refine va_iald hx hb hK hP 3 0 rfl rfl h5 dX8_peek_24 ?_
      refine lv_iconst (v := 1) hx hb dX8_peek_25 (by decide) ?_
      refine lv_isub hx hb dX8_peek_26 ?_
      refine lv_i2l hx hb dX8_peek_27 rfl ?_
      refine bw_psi (wc := []) (As := [.long a2.toInt64, .long 0, .long (((mTapeSize a1.toNatClampNeg) - 1).toInt64)]) (rest := []) ⟨hx, hb, hml, hown, hts⟩ (mX8_in l dC dI cI cJ cT cII cJJ a2.toInt64 0 (((mTapeSize a1.toNatClampNeg) - 1).toInt64) _ hw) (va_cwS 3 hts gX8_peek_X8_in rfl rfl rfl hdX8_in ⟨Nat.le_of_ble_eq_true rfl, Nat.le_of_ble_eq_true rfl⟩) hK hP [] rfl rfl hl.1 rfl (Nat.le_of_ble_eq_true rfl) ⟨Nat.le_of_ble_eq_true rfl, Nat.le_of_ble_eq_true rfl⟩ dX8_peek_28 (fun r6 hw => ?_)
      refine lv_if_eq (tgt := 45) hx hb dX8_peek_31 (by decide) (fun c7 => ?_) (fun c7 => ?_)
      · have hw := hw.1 c7
        refine lv_ldc2 hx hb hown (hts (.constantLong RX8 233 (-9223372036854775808)) (List.mem_of_getElem? (i := 4) rfl)) dX8_peek_45 ?_
        exact W.lret (v := (-9223372036854775808)) hx hb hr (fun t ht hW => ⟨(-9223372036854775808), rfl, hw, ht⟩) (fun _ h => by cases h) dX8_peek_48
      · have hw := hw.2 c7
        refine lv_aload_n hx hb dX8_peek_34 rfl (lv_at hl 0 rfl) ?_
        refine va_get (D := (dC, dI)) (ci := 8) (v := .ref (ad 19)) (C := RX8) (T := TX8) (N := 36) hx hb hts (fun w h => List.mem_cons_of_mem _ (List.mem_append_right _ h)) hown hK hP 0 rfl rfl 32 (by decide) (hts (.fieldLink RX8 75 "BidMarketModel" "tapes" "[[J") (List.mem_of_getElem? (i := 3) rfl)) (fun _ h9 => h9) rfl dX8_peek_35 ?_
        refine lv_iload_n hx hb dX8_peek_38 rfl (lv_at hl 1 rfl) ?_
        have h8 := hw.1
        have hw := hw.2
        have q9 := bw_lt h8
        refine bw_aald (g := fun i => ad (i + 23)) (b := ad (a1.toNatClampNeg + 23)) hx hb hK hP 1 4 rfl rfl rfl (fun k h => if_pos h) h8 rfl dX8_peek_39 ?_
        refine lv_iload_n hx hb dX8_peek_40 rfl (lv_at hl 2 rfl) ?_
        have h10 := hw.1
        have hw := hw.2
        have g11 : ∀ k, k < 6 → ((wdX8_peek cI cJ cT cII cJJ ad mN mStep mSeen mPlans mBooks mTexted mIsKept mSpot mKeeps mMindStep mAt mWhat mWhole mIsBroken mTapeSort mTapeSize mTapes))[4 + k]? = some (ad (k + 23), .inl (cJ, 60, .inr (.inl (mTapes k)))) := bw_all6 rfl rfl rfl rfl rfl rfl
        refine va_lald hx hb hK hP (4 + a1.toNatClampNeg) 1 (g11 _ q9) rfl h10 dX8_peek_41 ?_
        refine lv_goto (tgt := 48) hx hb dX8_peek_42 (by decide) ?_
        exact W.lret (v := ((mTapes a1.toNatClampNeg)) a2.toNatClampNeg) hx hb hr (fun t ht hW => ⟨((mTapes a1.toNatClampNeg)) a2.toNatClampNeg, rfl, hw, ht⟩) (fun _ h => by cases h) dX8_peek_48
set_option maxHeartbeats 4000000 in
set_option maxRecDepth 100000 in
theorem mX8_shift (l : Launch) (dC : Nat → ClassId) (dI : Nat → Nat → Nat) (cI cJ cT cII cJJ : ClassId) (ad : Nat → Nat) (sz : Nat) (mN : Int32) (mStep : Int32) (mSeen : Int32) (mPlans : Int32) (mBooks : Int32) (mTexted : Int32) (mIsKept : Int32) (mSpot : Int32) (mKeeps : Int32) (mMindStep : Int32) (mAt : Int32) (mWhat : Int32) (mWhole : Int32) (mIsBroken : Int32) (mTapeSort : Nat → Int32) (mTapeSize : Nat → Int32) (mMoved : Nat → Int64) (mTapes : Nat → Nat → Int64) (a1 : Int32) (a2 : Int32) (a3 : Int32) (a4 : Int32) (a5 : Int32) (Post : Int32 → (Nat → Int64) → (Nat → Nat → Int64) → Prop) (hw : wpX8_shift mTapeSort mTapeSize mMoved mTapes a1 a2 a3 a4 a5 Post) : Met l yX8_shift wsX8_shift ({ frames := 2, cells := 0, slots := 0, locals := 45 } : Room) (va_Pc [.ref (ad 0), .int a1, .int a2, .int a3, .int a4, .int a5] (fun U => U.heap.size = sz ∧ va_P (dC, dI) vwCl (wdX8_shift cI cJ cT cII cJJ ad mN mStep mSeen mPlans mBooks mTexted mIsKept mSpot mKeeps mMindStep mAt mWhat mWhole mIsBroken mTapeSort mTapeSize mMoved mTapes) U.heap ∧ va_K (dC, dI) vwCl (bw_tys cI cJ cT cII cJJ) U ∧ va_D (fun _ => True) (wdX8_shift cI cJ cT cII cJJ ad mN mStep mSeen mPlans mBooks mTexted mIsKept mSpot mKeeps mMindStep mAt mWhat mWhole mIsBroken mTapeSort mTapeSize mMoved mTapes))) (va_Qi (fun (r : Int32) (u : (Nat → Int64) × (Nat → Nat → Int64)) => Post r u.1 u.2) (fun (u : (Nat → Int64) × (Nat → Nat → Int64)) t => va_P (dC, dI) vwCl (wdX8_shift cI cJ cT cII cJJ ad mN mStep mSeen mPlans mBooks mTexted mIsKept mSpot mKeeps mMindStep mAt mWhat mWhole mIsBroken mTapeSort mTapeSize u.1 u.2) t.heap) (va_A (wdX8_shift cI cJ cT cII cJJ ad mN mStep mSeen mPlans mBooks mTexted mIsKept mSpot mKeeps mMindStep mAt mWhat mWhole mIsBroken mTapeSort mTapeSize mMoved mTapes) sz)) 0 0 (va_A (wdX8_shift cI cJ cT cII cJJ ad mN mStep mSeen mPlans mBooks mTexted mIsKept mSpot mKeeps mMindStep mAt mWhat mWhole mIsBroken mTapeSort mTapeSize mMoved mTapes) sz) := by
  refine Met.ofW (cc := cX8_shift) (maxL := 7) (ret := (some .int)) (by decide) rfl ?_
  intro p e s m args below meth c s₁ B hml hv
  obtain ⟨rfl, hsz, hP, hK, hD0⟩ := hv
  have hx := B.exec
  have hb := B.bytes
  have hr := B.returns
  have hts := atoms_spec (ws := wsX8_shift) B.pre
  have hown : s.vm.findClass RX8 = some m.cls := findClass_of_methodNamed B.named
  have hlocks := B.notSynchronized
  subst hsz
  have hD := hD0.self (sz := s.heap.size)
  generalize hAe : va_A (wdX8_shift cI cJ cT cII cJJ ad mN mStep mSeen mPlans mBooks mTexted mIsKept mSpot mKeeps mMindStep mAt mWhat mWhole mIsBroken mTapeSort mTapeSize mMoved mTapes) s.heap.size = A at hD ⊢
  have hA : ∀ q : Nat, s.heap.size ≤ q → A q := fun q h => by rw [← hAe]; exact Or.inr h
  have hS : va_S A s.heap s.heap [] := va_S.rf
  have hl := lv_entry ([.ref (ad 0), .int a1, .int a2, .int a3, .int a4, .int a5]) (n := 7) (Nat.le_of_ble_eq_true rfl)
  rw [lg_entry_eq]
  generalize (lg_sl ([.ref (ad 0), .int a1, .int a2, .int a3, .int a4, .int a5]) ++ List.replicate (7 - (lg_sl ([.ref (ad 0), .int a1, .int a2, .int a3, .int a4, .int a5])).length) Slot.unset).toArray = ls at hl ⊢
  have hl : lv_has ls 7 [(0, .ref (ad 0)), (1, .int a1), (2, .int a2), (3, .int a3), (4, .int a4), (5, .int a5)] := hl
  have kB158 : ∀ f : Nat, ∀ (v6 : Int32) (mMoved : Nat → Int64) (mTapes : Nat → Nat → Int64), ∀ (H : Heap) (locs : List Loc), va_P (dC, dI) vwCl (wdX8_shift cI cJ cT cII cJJ ad mN mStep mSeen mPlans mBooks mTexted mIsKept mSpot mKeeps mMindStep mAt mWhat mWhole mIsBroken mTapeSort mTapeSize mMoved mTapes) H → va_D A (wdX8_shift cI cJ cT cII cJJ ad mN mStep mSeen mPlans mBooks mTexted mIsKept mSpot mKeeps mMindStep mAt mWhat mWhole mIsBroken mTapeSort mTapeSize mMoved mTapes) → va_S A s.heap H locs → ∀ ls : Array Slot, lv_has ls 7 [(0, .ref (ad 0)), (3, .int a3), (4, .int a4), (5, .int a5), (6, .int v6)] → wpX8_shift_B158 mTapeSort mTapeSize a1 a2 a3 a4 a5 Post f v6 mMoved mTapes → W p l e (headSpec wsX8_shift ({ frames := 2, cells := 0, slots := 0, locals := 45 } : Room)).room s m ([.ref (ad 0), .int a1, .int a2, .int a3, .int a4, .int a5] : List Value).toArray below meth c H locs 0 0 (MQ below (va_Qi (fun (r : Int32) (u : (Nat → Int64) × (Nat → Nat → Int64)) => Post r u.1 u.2) (fun (u : (Nat → Int64) × (Nat → Nat → Int64)) t => va_P (dC, dI) vwCl (wdX8_shift cI cJ cT cII cJJ ad mN mStep mSeen mPlans mBooks mTexted mIsKept mSpot mKeeps mMindStep mAt mWhat mWhole mIsBroken mTapeSort mTapeSize u.1 u.2) t.heap) A) ([.ref (ad 0), .int a1, .int a2, .int a3, .int a4, .int a5] : List Value).toArray s 0 0 A) (F0 m 158 ls []) := by
    intro  f
    induction f with
    | zero => intro v6 mMoved mTapes H locs hP hD hS ls hl hw; exact (show False from hw).elim
    | succ f ih =>
      intro v6 mMoved mTapes H locs hP hD hS ls hl hw
      rw [wpX8_shift_B158] at hw
      refine lv_iload hx hb dX8_shift_158 (lv_at hl 4 rfl) ?_
      refine lv_iload hx hb dX8_shift_160 (lv_at hl 3 rfl) ?_
      refine lv_icmp_ge (tgt := 190) hx hb dX8_shift_162 (by decide) (fun c24 => ?_) (fun c24 => ?_)
      · have hw := hw.1 c24
        refine lv_iload hx hb dX8_shift_190 (lv_at hl 3 rfl) ?_
        exact W.iret (v := a5) hx hb hr (fun t ht hW => ⟨⟨a5, (mMoved, mTapes), rfl, hw, by show va_P _ _ _ t.heap; rw [ht]; exact hP⟩, hS.F ht⟩) hS.2.2 dX8_shift_192
      · have hw := hw.2 c24
        refine lv_aload_n hx hb dX8_shift_165 rfl (lv_at hl 0 rfl) ?_
        refine va_get (D := (dC, dI)) (ci := 8) (v := .ref (ad 19)) (C := RX8) (T := TX8) (N := 36) hx hb hts (fun w h => List.mem_cons_of_mem _ (List.mem_append_right _ h)) hown hK hP 0 rfl rfl 32 (by decide) (hts (.fieldLink RX8 75 "BidMarketModel" "tapes" "[[J") (List.mem_of_getElem? (i := 4) rfl)) (fun _ h9 => h9) rfl dX8_shift_166 ?_
        refine lv_iload_n hx hb dX8_shift_169 rfl (lv_at hl 1 rfl) ?_
        have h25 := hw.1
        have hw := hw.2
        have q26 := bw_lt h25
        refine bw_aald (g := fun i => ad (i + 23)) (b := ad (a3.toNatClampNeg + 23)) hx hb hK hP 1 4 rfl rfl rfl (fun k h => if_pos h) h25 rfl dX8_shift_170 ?_
        refine lv_iload hx hb dX8_shift_171 (lv_at hl 2 rfl) ?_
        refine lv_iload hx hb dX8_shift_173 (lv_at hl 4 rfl) ?_
        refine lv_iadd hx hb dX8_shift_175 ?_
        refine lv_aload_n hx hb dX8_shift_176 rfl (lv_at hl 0 rfl) ?_
        refine va_get (D := (dC, dI)) (ci := 8) (v := .ref (ad 22)) (C := RX8) (T := TX8) (N := 36) hx hb hts (fun w h => List.mem_cons_of_mem _ (List.mem_append_right _ h)) hown hK hP 0 rfl rfl 35 (by decide) (hts (.fieldLink RX8 84 "BidMarketModel" "moved" "[J") (List.mem_of_getElem? (i := 3) rfl)) (fun _ h9 => h9) rfl dX8_shift_177 ?_
        refine lv_iload hx hb dX8_shift_180 (lv_at hl 4 rfl) ?_
        have h27 := hw.1
        have hw := hw.2
        refine va_lald hx hb hK hP 4 1 rfl rfl h27 dX8_shift_182 ?_
        have h28 := hw.1
        have hw := hw.2
        have g29 : ∀ k, k < 6 → ((wdX8_shift cI cJ cT cII cJJ ad mN mStep mSeen mPlans mBooks mTexted mIsKept mSpot mKeeps mMindStep mAt mWhat mWhole mIsBroken mTapeSort mTapeSize mMoved mTapes))[5 + k]? = some (ad (k + 23), .inl (cJ, 60, .inr (.inl (mTapes k)))) := bw_all6 rfl rfl rfl rfl rfl rfl
        refine va_last hx hb hK hP hD hS (5 + a3.toNatClampNeg) 1 (g29 _ q26) rfl h28 dX8_shift_183 (fun H locs hP hD hS => ?_)
        have g30 : ∀ k, k < 6 → ∀ f : Nat → Int64, ((wdX8_shift cI cJ cT cII cJJ ad mN mStep mSeen mPlans mBooks mTexted mIsKept mSpot mKeeps mMindStep mAt mWhat mWhole mIsBroken mTapeSort mTapeSize mMoved mTapes)).set (5 + k) (ad (k + 23), .inl (cJ, 60, .inr (.inl f))) = (wdX8_shift cI cJ cT cII cJJ ad mN mStep mSeen mPlans mBooks mTexted mIsKept mSpot mKeeps mMindStep mAt mWhat mWhole mIsBroken mTapeSort mTapeSize mMoved (va_up mTapes k f)) := bw_all6 (fun _ => rfl) (fun _ => rfl) (fun _ => rfl) (fun _ => rfl) (fun _ => rfl) (fun _ => rfl)
        rw [g30 _ q26] at hP hD
        have hP : va_P (dC, dI) vwCl (wdX8_shift cI cJ cT cII cJJ ad mN mStep mSeen mPlans mBooks mTexted mIsKept mSpot mKeeps mMindStep mAt mWhat mWhole mIsBroken mTapeSort mTapeSize mMoved (va_up mTapes a3.toNatClampNeg (vp_updL (mTapes a3.toNatClampNeg) (a4 + v6).toNatClampNeg (mMoved v6.toNatClampNeg)))) H := hP
        have hD : va_D A (wdX8_shift cI cJ cT cII cJJ ad mN mStep mSeen mPlans mBooks mTexted mIsKept mSpot mKeeps mMindStep mAt mWhat mWhole mIsBroken mTapeSort mTapeSize mMoved (va_up mTapes a3.toNatClampNeg (vp_updL (mTapes a3.toNatClampNeg) (a4 + v6).toNatClampNeg (mMoved v6.toNatClampNeg)))) := hD
        obtain ⟨x31, ex31⟩ : ∃ y : Int32, y = v6 + 1 := ⟨_, rfl⟩
        have hw := hw x31 ex31
        refine lv_iinc (v := x31) (lv' := [(6, .int x31), (0, .ref (ad 0)), (3, .int a3), (4, .int a4), (5, .int a5)]) hx hb dX8_shift_184 hl (k := 4) rfl (by rw [ex31]; rfl) (by decide) rfl (fun ls hl => ?_)
        refine lv_goto (tgt := 158) hx hb dX8_shift_187 (by decide) ?_
        exact ih x31 mMoved (va_up mTapes a3.toNatClampNeg (vp_updL (mTapes a3.toNatClampNeg) (a4 + v6).toNatClampNeg (mMoved v6.toNatClampNeg))) _ _ hP hD hS ls (lv_sub hl [1, 2, 3, 4, 0] rfl) hw
  have kB124 : ∀ f : Nat, ∀ (v6 : Int32) (mMoved : Nat → Int64) (mTapes : Nat → Nat → Int64), ∀ (H : Heap) (locs : List Loc), va_P (dC, dI) vwCl (wdX8_shift cI cJ cT cII cJJ ad mN mStep mSeen mPlans mBooks mTexted mIsKept mSpot mKeeps mMindStep mAt mWhat mWhole mIsBroken mTapeSort mTapeSize mMoved mTapes) H → va_D A (wdX8_shift cI cJ cT cII cJJ ad mN mStep mSeen mPlans mBooks mTexted mIsKept mSpot mKeeps mMindStep mAt mWhat mWhole mIsBroken mTapeSort mTapeSize mMoved mTapes) → va_S A s.heap H locs → ∀ ls : Array Slot, lv_has ls 7 [(0, .ref (ad 0)), (1, .int a1), (2, .int a2), (3, .int a3), (4, .int a4), (5, .int a5), (6, .int v6)] → wpX8_shift_B124 mTapeSort mTapeSize a1 a2 a3 a4 a5 Post f v6 mMoved mTapes → W p l e (headSpec wsX8_shift ({ frames := 2, cells := 0, slots := 0, locals := 45 } : Room)).room s m ([.ref (ad 0), .int a1, .int a2, .int a3, .int a4, .int a5] : List Value).toArray below meth c H locs 0 0 (MQ below (va_Qi (fun (r : Int32) (u : (Nat → Int64) × (Nat → Nat → Int64)) => Post r u.1 u.2) (fun (u : (Nat → Int64) × (Nat → Nat → Int64)) t => va_P (dC, dI) vwCl (wdX8_shift cI cJ cT cII cJJ ad mN mStep mSeen mPlans mBooks mTexted mIsKept mSpot mKeeps mMindStep mAt mWhat mWhole mIsBroken mTapeSort mTapeSize u.1 u.2) t.heap) A) ([.ref (ad 0), .int a1, .int a2, .int a3, .int a4, .int a5] : List Value).toArray s 0 0 A) (F0 m 124 ls []) := by
    intro  f
    induction f with
    | zero => intro v6 mMoved mTapes H locs hP hD hS ls hl hw; exact (show False from hw).elim
    | succ f ih =>
      intro v6 mMoved mTapes H locs hP hD hS ls hl hw
      rw [wpX8_shift_B124] at hw
      refine lv_iload hx hb dX8_shift_124 (lv_at hl 6 rfl) ?_
      refine lv_iload hx hb dX8_shift_126 (lv_at hl 5 rfl) ?_
      refine lv_icmp_ge (tgt := 155) hx hb dX8_shift_128 (by decide) (fun c23 => ?_) (fun c23 => ?_)
      · have hw := hw.1 c23
        refine lv_iconst (v := 0) hx hb dX8_shift_155 (by decide) ?_
        refine lv_istore (lv' := [(6, .int 0), (0, .ref (ad 0)), (1, .int a1), (2, .int a2), (3, .int a3), (4, .int a4), (5, .int a5)]) hx hb dX8_shift_156 hl (by decide) rfl (fun ls hl => ?_)
        obtain ⟨f1, hw⟩ := hw
        exact kB158 f1 0 mMoved mTapes _ _ hP hD hS ls (lv_sub hl [1, 4, 5, 6, 0] rfl) hw
      · have hw := hw.2 c23
        refine lv_aload_n hx hb dX8_shift_131 rfl (lv_at hl 0 rfl) ?_
        refine va_get (D := (dC, dI)) (ci := 8) (v := .ref (ad 22)) (C := RX8) (T := TX8) (N := 36) hx hb hts (fun w h => List.mem_cons_of_mem _ (List.mem_append_right _ h)) hown hK hP 0 rfl rfl 35 (by decide) (hts (.fieldLink RX8 84 "BidMarketModel" "moved" "[J") (List.mem_of_getElem? (i := 3) rfl)) (fun _ h9 => h9) rfl dX8_shift_132 ?_
        refine lv_iload hx hb dX8_shift_135 (lv_at hl 6 rfl) ?_
        refine lv_aload_n hx hb dX8_shift_137 rfl (lv_at hl 0 rfl) ?_
        refine va_get (D := (dC, dI)) (ci := 8) (v := .ref (ad 19)) (C := RX8) (T := TX8) (N := 36) hx hb hts (fun w h => List.mem_cons_of_mem _ (List.mem_append_right _ h)) hown hK hP 0 rfl rfl 32 (by decide) (hts (.fieldLink RX8 75 "BidMarketModel" "tapes" "[[J") (List.mem_of_getElem? (i := 4) rfl)) (fun _ h9 => h9) rfl dX8_shift_138 ?_
        refine lv_iload_n hx hb dX8_shift_141 rfl (lv_at hl 1 rfl) ?_
        have h32 := hw.1
        have hw := hw.2
        have q33 := bw_lt h32
        refine bw_aald (g := fun i => ad (i + 23)) (b := ad (a1.toNatClampNeg + 23)) hx hb hK hP 1 4 rfl rfl rfl (fun k h => if_pos h) h32 rfl dX8_shift_142 ?_
        refine lv_iload_n hx hb dX8_shift_143 rfl (lv_at hl 2 rfl) ?_
        refine lv_iload hx hb dX8_shift_144 (lv_at hl 6 rfl) ?_
        refine lv_iadd hx hb dX8_shift_146 ?_
        have h34 := hw.1
        have hw := hw.2
        have g35 : ∀ k, k < 6 → ((wdX8_shift cI cJ cT cII cJJ ad mN mStep mSeen mPlans mBooks mTexted mIsKept mSpot mKeeps mMindStep mAt mWhat mWhole mIsBroken mTapeSort mTapeSize mMoved mTapes))[5 + k]? = some (ad (k + 23), .inl (cJ, 60, .inr (.inl (mTapes k)))) := bw_all6 rfl rfl rfl rfl rfl rfl
        refine va_lald hx hb hK hP (5 + a1.toNatClampNeg) 1 (g35 _ q33) rfl h34 dX8_shift_147 ?_
        have h36 := hw.1
        have hw := hw.2
        refine va_last hx hb hK hP hD hS 4 1 rfl rfl h36 dX8_shift_148 (fun H locs hP hD hS => ?_)
        have hP : va_P (dC, dI) vwCl (wdX8_shift cI cJ cT cII cJJ ad mN mStep mSeen mPlans mBooks mTexted mIsKept mSpot mKeeps mMindStep mAt mWhat mWhole mIsBroken mTapeSort mTapeSize (vp_updL mMoved v6.toNatClampNeg (((mTapes a1.toNatClampNeg)) (a2 + v6).toNatClampNeg)) mTapes) H := hP
        have hD : va_D A (wdX8_shift cI cJ cT cII cJJ ad mN mStep mSeen mPlans mBooks mTexted mIsKept mSpot mKeeps mMindStep mAt mWhat mWhole mIsBroken mTapeSort mTapeSize (vp_updL mMoved v6.toNatClampNeg (((mTapes a1.toNatClampNeg)) (a2 + v6).toNatClampNeg)) mTapes) := hD
        obtain ⟨x37, ex37⟩ : ∃ y : Int32, y = v6 + 1 := ⟨_, rfl⟩
        have hw := hw x37 ex37
        refine lv_iinc (v := x37) (lv' := [(6, .int x37), (0, .ref (ad 0)), (1, .int a1), (2, .int a2), (3, .int a3), (4, .int a4), (5, .int a5)]) hx hb dX8_shift_149 hl (k := 6) rfl (by rw [ex37]; rfl) (by decide) rfl (fun ls hl => ?_)
        refine lv_goto (tgt := 124) hx hb dX8_shift_152 (by decide) ?_
        exact ih x37 (vp_updL mMoved v6.toNatClampNeg (((mTapes a1.toNatClampNeg)) (a2 + v6).toNatClampNeg)) mTapes _ _ hP hD hS ls (lv_sub hl [1, 2, 3, 4, 5, 6, 0] rfl) hw
  unfold wpX8_shift at hw
  refine lv_iload_n hx hb dX8_shift_0 rfl (lv_at hl 1 rfl) ?_
  refine bw_psi (wc := []) (As := [.int a1]) (rest := []) ⟨hx, hb, hml, hown, hts⟩ (mX8_isTape l dC dI cI cJ cT cII cJJ a1 _ hw) (va_cwS 1 hts gX8_shift_X8_isTape rfl rfl rfl hdX8_isTape ⟨Nat.le_of_ble_eq_true rfl, Nat.le_of_ble_eq_true rfl⟩) hK hP [] rfl rfl hl.1 rfl (Nat.le_of_ble_eq_true rfl) ⟨Nat.le_of_ble_eq_true rfl, Nat.le_of_ble_eq_true rfl⟩ dX8_shift_1 (fun r1 hw => ?_)
  refine lv_if_eq (tgt := 14) hx hb dX8_shift_4 (by decide) (fun c2 => ?_) (fun c2 => ?_)
  · have hw := hw.1 c2
    refine lv_iconst (v := (-1)) hx hb dX8_shift_14 (by decide) ?_
    exact W.iret (v := (-1)) hx hb hr (fun t ht hW => ⟨⟨(-1), (mMoved, mTapes), rfl, hw, by show va_P _ _ _ t.heap; rw [ht]; exact hP⟩, hS.F ht⟩) hS.2.2 dX8_shift_15
  · have hw := hw.2 c2
    refine lv_iload_n hx hb dX8_shift_7 rfl (lv_at hl 3 rfl) ?_
    refine bw_psi (wc := []) (As := [.int a3]) (rest := []) ⟨hx, hb, hml, hown, hts⟩ (mX8_isTape l dC dI cI cJ cT cII cJJ a3 _ hw) (va_cwS 1 hts gX8_shift_X8_isTape rfl rfl rfl hdX8_isTape ⟨Nat.le_of_ble_eq_true rfl, Nat.le_of_ble_eq_true rfl⟩) hK hP [] rfl rfl hl.1 rfl (Nat.le_of_ble_eq_true rfl) ⟨Nat.le_of_ble_eq_true rfl, Nat.le_of_ble_eq_true rfl⟩ dX8_shift_8 (fun r3 hw => ?_)
    refine lv_if_ne (tgt := 16) hx hb dX8_shift_11 (by decide) (fun c4 => ?_) (fun c4 => ?_)
    · have hw := hw.1 c4
      refine lv_aload_n hx hb dX8_shift_16 rfl (lv_at hl 0 rfl) ?_
      refine va_get (D := (dC, dI)) (ci := 8) (v := .ref (ad 20)) (C := RX8) (T := TX8) (N := 36) hx hb hts (fun w h => List.mem_cons_of_mem _ (List.mem_append_right _ h)) hown hK hP 0 rfl rfl 33 (by decide) (hts (.fieldLink RX8 78 "BidMarketModel" "tapeSort" "[I") (List.mem_of_getElem? (i := 1) rfl)) (fun _ h9 => h9) rfl dX8_shift_17 ?_
      refine lv_iload_n hx hb dX8_shift_20 rfl (lv_at hl 1 rfl) ?_
      have h5 := hw.1
      have hw := hw.2
      refine va_iald hx hb hK hP 2 0 rfl rfl h5 dX8_shift_21 ?_
      refine lv_if_lt (tgt := 34) hx hb dX8_shift_22 (by decide) (fun c6 => ?_) (fun c6 => ?_)
      · have hw := hw.1 c6
        refine lv_bipush (v := (-11)) hx hb dX8_shift_34 (by decide) ?_
        exact W.iret (v := (-11)) hx hb hr (fun t ht hW => ⟨⟨(-11), (mMoved, mTapes), rfl, hw, by show va_P _ _ _ t.heap; rw [ht]; exact hP⟩, hS.F ht⟩) hS.2.2 dX8_shift_36
      · have hw := hw.2 c6
        refine lv_aload_n hx hb dX8_shift_25 rfl (lv_at hl 0 rfl) ?_
        refine va_get (D := (dC, dI)) (ci := 8) (v := .ref (ad 20)) (C := RX8) (T := TX8) (N := 36) hx hb hts (fun w h => List.mem_cons_of_mem _ (List.mem_append_right _ h)) hown hK hP 0 rfl rfl 33 (by decide) (hts (.fieldLink RX8 78 "BidMarketModel" "tapeSort" "[I") (List.mem_of_getElem? (i := 1) rfl)) (fun _ h9 => h9) rfl dX8_shift_26 ?_
        refine lv_iload_n hx hb dX8_shift_29 rfl (lv_at hl 3 rfl) ?_
        have h7 := hw.1
        have hw := hw.2
        refine va_iald hx hb hK hP 2 0 rfl rfl h7 dX8_shift_30 ?_
        refine lv_if_ge (tgt := 37) hx hb dX8_shift_31 (by decide) (fun c8 => ?_) (fun c8 => ?_)
        · have hw := hw.1 c8
          refine lv_aload_n hx hb dX8_shift_37 rfl (lv_at hl 0 rfl) ?_
          refine va_get (D := (dC, dI)) (ci := 8) (v := .ref (ad 20)) (C := RX8) (T := TX8) (N := 36) hx hb hts (fun w h => List.mem_cons_of_mem _ (List.mem_append_right _ h)) hown hK hP 0 rfl rfl 33 (by decide) (hts (.fieldLink RX8 78 "BidMarketModel" "tapeSort" "[I") (List.mem_of_getElem? (i := 1) rfl)) (fun _ h9 => h9) rfl dX8_shift_38 ?_
          refine lv_iload_n hx hb dX8_shift_41 rfl (lv_at hl 1 rfl) ?_
          have h9 := hw.1
          have hw := hw.2
          refine va_iald hx hb hK hP 2 0 rfl rfl h9 dX8_shift_42 ?_
          refine lv_aload_n hx hb dX8_shift_43 rfl (lv_at hl 0 rfl) ?_
          refine va_get (D := (dC, dI)) (ci := 8) (v := .ref (ad 20)) (C := RX8) (T := TX8) (N := 36) hx hb hts (fun w h => List.mem_cons_of_mem _ (List.mem_append_right _ h)) hown hK hP 0 rfl rfl 33 (by decide) (hts (.fieldLink RX8 78 "BidMarketModel" "tapeSort" "[I") (List.mem_of_getElem? (i := 1) rfl)) (fun _ h9 => h9) rfl dX8_shift_44 ?_
          refine lv_iload_n hx hb dX8_shift_47 rfl (lv_at hl 3 rfl) ?_
          have h10 := hw.1
          have hw := hw.2
          refine va_iald hx hb hK hP 2 0 rfl rfl h10 dX8_shift_48 ?_
          refine lv_icmp_eq (tgt := 55) hx hb dX8_shift_49 (by decide) (fun c11 => ?_) (fun c11 => ?_)
          · have hw := hw.1 c11
            refine lv_iload hx hb dX8_shift_55 (lv_at hl 5 rfl) ?_
            refine lv_if_lt (tgt := 118) hx hb dX8_shift_57 (by decide) (fun c12 => ?_) (fun c12 => ?_)
            · have hw := hw.1 c12
              refine lv_bipush (v := (-13)) hx hb dX8_shift_118 (by decide) ?_
              exact W.iret (v := (-13)) hx hb hr (fun t ht hW => ⟨⟨(-13), (mMoved, mTapes), rfl, hw, by show va_P _ _ _ t.heap; rw [ht]; exact hP⟩, hS.F ht⟩) hS.2.2 dX8_shift_120
            · have hw := hw.2 c12
              refine lv_iload_n hx hb dX8_shift_60 rfl (lv_at hl 2 rfl) ?_
              refine lv_if_lt (tgt := 118) hx hb dX8_shift_61 (by decide) (fun c13 => ?_) (fun c13 => ?_)
              · have hw := hw.1 c13
                refine lv_bipush (v := (-13)) hx hb dX8_shift_118 (by decide) ?_
                exact W.iret (v := (-13)) hx hb hr (fun t ht hW => ⟨⟨(-13), (mMoved, mTapes), rfl, hw, by show va_P _ _ _ t.heap; rw [ht]; exact hP⟩, hS.F ht⟩) hS.2.2 dX8_shift_120
              · have hw := hw.2 c13
                refine lv_iload hx hb dX8_shift_64 (lv_at hl 4 rfl) ?_
                refine lv_if_lt (tgt := 118) hx hb dX8_shift_66 (by decide) (fun c14 => ?_) (fun c14 => ?_)
                · have hw := hw.1 c14
                  refine lv_bipush (v := (-13)) hx hb dX8_shift_118 (by decide) ?_
                  exact W.iret (v := (-13)) hx hb hr (fun t ht hW => ⟨⟨(-13), (mMoved, mTapes), rfl, hw, by show va_P _ _ _ t.heap; rw [ht]; exact hP⟩, hS.F ht⟩) hS.2.2 dX8_shift_120
                · have hw := hw.2 c14
                  refine lv_iload hx hb dX8_shift_69 (lv_at hl 5 rfl) ?_
                  refine lv_aload_n hx hb dX8_shift_71 rfl (lv_at hl 0 rfl) ?_
                  refine va_get (D := (dC, dI)) (ci := 8) (v := .ref (ad 21)) (C := RX8) (T := TX8) (N := 36) hx hb hts (fun w h => List.mem_cons_of_mem _ (List.mem_append_right _ h)) hown hK hP 0 rfl rfl 34 (by decide) (hts (.fieldLink RX8 81 "BidMarketModel" "tapeSize" "[I") (List.mem_of_getElem? (i := 2) rfl)) (fun _ h9 => h9) rfl dX8_shift_72 ?_
                  refine lv_iload_n hx hb dX8_shift_75 rfl (lv_at hl 1 rfl) ?_
                  have h15 := hw.1
                  have hw := hw.2
                  refine va_iald hx hb hK hP 3 0 rfl rfl h15 dX8_shift_76 ?_
                  refine lv_icmp_gt (tgt := 118) hx hb dX8_shift_77 (by decide) (fun c16 => ?_) (fun c16 => ?_)
                  · have hw := hw.1 c16
                    refine lv_bipush (v := (-13)) hx hb dX8_shift_118 (by decide) ?_
                    exact W.iret (v := (-13)) hx hb hr (fun t ht hW => ⟨⟨(-13), (mMoved, mTapes), rfl, hw, by show va_P _ _ _ t.heap; rw [ht]; exact hP⟩, hS.F ht⟩) hS.2.2 dX8_shift_120
                  · have hw := hw.2 c16
                    refine lv_iload hx hb dX8_shift_80 (lv_at hl 5 rfl) ?_
                    refine lv_aload_n hx hb dX8_shift_82 rfl (lv_at hl 0 rfl) ?_
                    refine va_get (D := (dC, dI)) (ci := 8) (v := .ref (ad 21)) (C := RX8) (T := TX8) (N := 36) hx hb hts (fun w h => List.mem_cons_of_mem _ (List.mem_append_right _ h)) hown hK hP 0 rfl rfl 34 (by decide) (hts (.fieldLink RX8 81 "BidMarketModel" "tapeSize" "[I") (List.mem_of_getElem? (i := 2) rfl)) (fun _ h9 => h9) rfl dX8_shift_83 ?_
                    refine lv_iload_n hx hb dX8_shift_86 rfl (lv_at hl 3 rfl) ?_
                    have h17 := hw.1
                    have hw := hw.2
                    refine va_iald hx hb hK hP 3 0 rfl rfl h17 dX8_shift_87 ?_
                    refine lv_icmp_gt (tgt := 118) hx hb dX8_shift_88 (by decide) (fun c18 => ?_) (fun c18 => ?_)
                    · have hw := hw.1 c18
                      refine lv_bipush (v := (-13)) hx hb dX8_shift_118 (by decide) ?_
                      exact W.iret (v := (-13)) hx hb hr (fun t ht hW => ⟨⟨(-13), (mMoved, mTapes), rfl, hw, by show va_P _ _ _ t.heap; rw [ht]; exact hP⟩, hS.F ht⟩) hS.2.2 dX8_shift_120
                    · have hw := hw.2 c18
                      refine lv_iload_n hx hb dX8_shift_91 rfl (lv_at hl 2 rfl) ?_
                      refine lv_aload_n hx hb dX8_shift_92 rfl (lv_at hl 0 rfl) ?_
                      refine va_get (D := (dC, dI)) (ci := 8) (v := .ref (ad 21)) (C := RX8) (T := TX8) (N := 36) hx hb hts (fun w h => List.mem_cons_of_mem _ (List.mem_append_right _ h)) hown hK hP 0 rfl rfl 34 (by decide) (hts (.fieldLink RX8 81 "BidMarketModel" "tapeSize" "[I") (List.mem_of_getElem? (i := 2) rfl)) (fun _ h9 => h9) rfl dX8_shift_93 ?_
                      refine lv_iload_n hx hb dX8_shift_96 rfl (lv_at hl 1 rfl) ?_
                      have h19 := hw.1
                      have hw := hw.2
                      refine va_iald hx hb hK hP 3 0 rfl rfl h19 dX8_shift_97 ?_
                      refine lv_iload hx hb dX8_shift_98 (lv_at hl 5 rfl) ?_
                      refine lv_isub hx hb dX8_shift_100 ?_
                      refine lv_icmp_gt (tgt := 118) hx hb dX8_shift_101 (by decide) (fun c20 => ?_) (fun c20 => ?_)
                      · have hw := hw.1 c20
                        refine lv_bipush (v := (-13)) hx hb dX8_shift_118 (by decide) ?_
                        exact W.iret (v := (-13)) hx hb hr (fun t ht hW => ⟨⟨(-13), (mMoved, mTapes), rfl, hw, by show va_P _ _ _ t.heap; rw [ht]; exact hP⟩, hS.F ht⟩) hS.2.2 dX8_shift_120
                      · have hw := hw.2 c20
                        refine lv_iload hx hb dX8_shift_104 (lv_at hl 4 rfl) ?_
                        refine lv_aload_n hx hb dX8_shift_106 rfl (lv_at hl 0 rfl) ?_
                        refine va_get (D := (dC, dI)) (ci := 8) (v := .ref (ad 21)) (C := RX8) (T := TX8) (N := 36) hx hb hts (fun w h => List.mem_cons_of_mem _ (List.mem_append_right _ h)) hown hK hP 0 rfl rfl 34 (by decide) (hts (.fieldLink RX8 81 "BidMarketModel" "tapeSize" "[I") (List.mem_of_getElem? (i := 2) rfl)) (fun _ h9 => h9) rfl dX8_shift_107 ?_
                        refine lv_iload_n hx hb dX8_shift_110 rfl (lv_at hl 3 rfl) ?_
                        have h21 := hw.1
                        have hw := hw.2
                        refine va_iald hx hb hK hP 3 0 rfl rfl h21 dX8_shift_111 ?_
                        refine lv_iload hx hb dX8_shift_112 (lv_at hl 5 rfl) ?_
                        refine lv_isub hx hb dX8_shift_114 ?_
                        refine lv_icmp_le (tgt := 121) hx hb dX8_shift_115 (by decide) (fun c22 => ?_) (fun c22 => ?_)
                        · have hw := hw.1 c22
                          refine lv_iconst (v := 0) hx hb dX8_shift_121 (by decide) ?_
                          refine lv_istore (lv' := [(6, .int 0), (0, .ref (ad 0)), (1, .int a1), (2, .int a2), (3, .int a3), (4, .int a4), (5, .int a5)]) hx hb dX8_shift_122 hl (by decide) rfl (fun ls hl => ?_)
                          obtain ⟨f1, hw⟩ := hw
                          exact kB124 f1 0 mMoved mTapes _ _ hP hD hS ls (lv_sub hl [1, 2, 3, 4, 5, 6, 0] rfl) hw
                        · have hw := hw.2 c22
                          refine lv_bipush (v := (-13)) hx hb dX8_shift_118 (by decide) ?_
                          exact W.iret (v := (-13)) hx hb hr (fun t ht hW => ⟨⟨(-13), (mMoved, mTapes), rfl, hw, by show va_P _ _ _ t.heap; rw [ht]; exact hP⟩, hS.F ht⟩) hS.2.2 dX8_shift_120
          · have hw := hw.2 c11
            refine lv_bipush (v := (-12)) hx hb dX8_shift_52 (by decide) ?_
            exact W.iret (v := (-12)) hx hb hr (fun t ht hW => ⟨⟨(-12), (mMoved, mTapes), rfl, hw, by show va_P _ _ _ t.heap; rw [ht]; exact hP⟩, hS.F ht⟩) hS.2.2 dX8_shift_54
        · have hw := hw.2 c8
          refine lv_bipush (v := (-11)) hx hb dX8_shift_34 (by decide) ?_
          exact W.iret (v := (-11)) hx hb hr (fun t ht hW => ⟨⟨(-11), (mMoved, mTapes), rfl, hw, by show va_P _ _ _ t.heap; rw [ht]; exact hP⟩, hS.F ht⟩) hS.2.2 dX8_shift_36
    · have hw := hw.2 c4
      refine lv_iconst (v := (-1)) hx hb dX8_shift_14 (by decide) ?_
      exact W.iret (v := (-1)) hx hb hr (fun t ht hW => ⟨⟨(-1), (mMoved, mTapes), rfl, hw, by show va_P _ _ _ t.heap; rw [ht]; exact hP⟩, hS.F ht⟩) hS.2.2 dX8_shift_15
