set_option maxHeartbeats 4000000 in
set_option maxRecDepth 100000 in
theorem law_loop {p : Program} {l : Launch} {e : Env} {s : State} {m : MethodId} {b L : Nat} {xs : Nat → Int32} {below : List Frame} {meth : Method} {c : Code} {dC : Nat → ClassId} {dI : Nat → Nat → Nat} {cI cJ cT cII cJJ : ClassId} {ad7 ad8 : Nat → Nat} {sc : Nat} (hL : L ≤ 3072) (C0 : lw_At p s m meth c b L xs) (C : lw_C p s m #[Value.ref b] meth c dC dI cI cJ cT cII cJJ (fun q : Nat => s.heap.size ≤ q)) (hSC : bw_SC sc (fun q : Nat => s.heap.size ≤ q) s s.heap) :
    ∀ (n j : Nat) (H : Heap) (locs : List Loc) (Wd : va_W) (ls : Array Slot), 6 * j ≤ L → L < 6 * j + n → lw_I cI cJ cT cII cJJ ad7 ad8 (2000 + 941 * (j : Int)) Wd → va_P (dC, dI) vwCl Wd H → va_D (fun q : Nat => s.heap.size ≤ q) Wd → va_S (fun q : Nat => s.heap.size ≤ q) s.heap H locs → lv_has ls 4 [(3, .int (nI (6 * j))), (2, .ref (ad8 0)), (1, .ref (ad7 0)), (0, .ref b)] →
    W p l e room_1 s m #[Value.ref b] below meth c H locs 110 2417 (lw_Z below #[Value.ref b] s) (F0 m 18 ls []) := by
  obtain ⟨hx, hb, hr, hml, hown, hts, hX, hbl, hlocks, hgv⟩ := C0
  have hbA : ¬ (fun q : Nat => s.heap.size ≤ q) b := Nat.not_le.mpr hbl
  intro n
  induction n with
  | zero => intro j H locs Wd ls h1 h2; exact absurd h2 (by omega)
  | succ n ih =>
    intro j H locs Wd ls h1 h2 hI hP hD hS hl
    refine lv_iload_n hx hb dL_law_18 rfl (lv_at hl 0 rfl) ?_
    refine lv_aload_n hx hb dL_law_19 rfl (lv_at hl 3 rfl) ?_
    refine va_slen hx hb hX hbl hbA hS dL_law_20 ?_
    refine lv_bipush (v := 6) hx hb dL_law_21 (by decide) ?_
    refine lv_isub hx hb dL_law_23 ?_
    have e6 : (nI L - 6).toInt = (L : Int) - 6 := by
      rw [fb_subI (by rw [nI_toInt (by omega)]; show _ ≤ _ - (6 : Int); omega) (by rw [nI_toInt (by omega)]; show _ - (6 : Int) < _; omega), nI_toInt (by omega)]; rfl
    refine lv_icmp_gt (tgt := 1065) hx hb dL_law_24 (by decide) (fun c1 => ?_) (fun c1 => ?_)
    · refine lv_iconst (v := 1) hx hb dL_law_1065 (by decide) ?_
      refine va_forget (fun q hq => hS.2.2 q hq) ?_
      refine W.widen (k := 600000) (n := 7302250) (Nat.le_of_ble_eq_true rfl) (Nat.le_of_ble_eq_true rfl) ?_
      exact lw_ret hx hb hr hlocks dL_law_1066
    have hi : 6 * j + 6 ≤ L := by
      have c2 : ¬ nI L - 6 < nI (6 * j) := c1
      rw [fa_lt, e6, nI_toInt (by omega)] at c2
      omega
    have h_0 : vp_in (nI (6 * j)) L := vp_in_nI (by omega) (by omega)
    have hf : 110 ≤ room_1.cells ∧ 2417 ≤ room_1.slots := ⟨Nat.le_of_ble_eq_true rfl, Nat.le_of_ble_eq_true rfl⟩
    have hB0 : (2000 : Int) ≤ 2000 + 941 * (j : Int) := by omega
    have hB : 2000 + 941 * (j : Int) ≤ 1000000 := by omega
    have next : ∀ (Wd : va_W) (H : Heap) (locs : List Loc), lw_I cI cJ cT cII cJJ ad7 ad8 (2000 + 941 * (j : Int) + 941) Wd → va_P (dC, dI) vwCl Wd H → va_D (fun q : Nat => s.heap.size ≤ q) Wd → va_S (fun q : Nat => s.heap.size ≤ q) s.heap H locs → W p l e room_1 s m #[Value.ref b] below meth c H locs 110 2417 (lw_Z below #[Value.ref b] s) (F0 m 1059 ls []) := by
      intro Wd H locs hI hP hD hS
      refine lv_iinc (v := nI (6 * (j + 1))) (lv' := [(3, .int (nI (6 * (j + 1)))), (2, .ref (ad8 0)), (1, .ref (ad7 0)), (0, .ref b)]) hx hb dL_law_1059 hl (k := 0) rfl (by rw [show nI (6 * (j + 1)) = nI (6 * j) + 6 from (nI_add (6 * j) 6).symm]; rfl) (by decide) rfl (fun ls hl => ?_)
      refine lv_goto (tgt := 18) hx hb dL_law_1062 (by decide) ?_
      refine ih (j + 1) H locs Wd ls (by omega) (by omega) ?_ hP hD hS hl
      rw [show (2000 + 941 * ((j + 1 : Nat) : Int)) = 2000 + 941 * (j : Int) + 941 by omega]
      exact hI
    refine lv_aload_n hx hb dL_law_27 rfl (lv_at hl 3 rfl) ?_
    refine lv_iload_n hx hb dL_law_28 rfl (lv_at hl 0 rfl) ?_
    refine va_sld hx hb hX hbl hbA hS h_0 dL_law_29 ?_
    refine lv_bipush (v := 31) hx hb dL_law_30 (by decide) ?_
    refine lv_iand hx hb dL_law_32 ?_
    generalize xs (nI (6 * j)).toNatClampNeg &&& 31 = x
    by_cases c0 : x.toInt < 0 ∨ 30 < x.toInt
    · refine lv_tableOut (tgt := 1059) hx hb dL_law_33 c0 (by decide) ?_
      obtain ⟨im, gn, gpa, gbr, gth, gpe, gpr, gw, gseru, gserl, gserr, gplru, gplrl, gplrr, gboru, gborl, gborr, kn, kpa, kbr, kth, kpe, kpr, kw, kseru, kserl, kserr, kplru, kplrl, kplrr, kboru, kborl, kborr, xn, xpa, xbr, xth, xpe, xpr, xw, su, tl, tc, ta, tk, tb, tp, tt, tw, ck, cc, cd, so, le, it, mN, mStep, mSeen, mPlans, mBooks, mTexted, mIsKept, mSpot, mKeeps, mMindStep, mAt, mWhat, mWhole, mIsBroken, mWorth, mHas, mOwner, mPrice, mSeenWho, mSeenWhat, mPlanWhat, mPlanN, mBookThing, mBookPrice, mWrong, mText, mImaged, mMindHas, mMindOwner, mMindPrice, mMindWrong, mMostBy, mTapeSort, mTapeSize, mMoved, mTapes, hw, hR⟩ := hI
      exact next _ H locs ⟨_, _, _, _, _, _, _, _, _, _, _, _, _, _, _, _, _, _, _, _, _, _, _, _, _, _, _, _, _, _, _, _, _, _, _, _, _, _, _, _, _, _, _, _, _, _, _, _, _, _, _, _, _, _, _, _, _, _, _, _, _, _, _, _, _, _, _, _, _, _, _, _, _, _, _, _, _, _, _, _, _, _, _, _, _, _, _, _, _, _, _, hw, pz_R_mono hR (by omega)⟩ hP hD hS
    by_cases c1 : x = 0
    · refine lv_tableIn (tgt := 172) (off := 139) hx hb dL_law_33 (fun h => c0 (Or.inl h)) (fun h => c0 (Or.inr h)) (by rw [c1]; rfl) (by decide) ?_
      exact lw_case_size C hX hbl hbA hL hi hB0 hB hI hP hD hS hl hf next
    by_cases c2 : x = 1
    · refine lv_tableIn (tgt := 195) (off := 162) hx hb dL_law_33 (fun h => c0 (Or.inl h)) (fun h => c0 (Or.inr h)) (by rw [c2]; rfl) (by decide) ?_
      exact lw_case_worth C hX hbl hbA hL hi hB0 hB hI hP hD hS hl hf next
    by_cases c3 : x = 2
    · refine lv_tableIn (tgt := 238) (off := 205) hx hb dL_law_33 (fun h => c0 (Or.inl h)) (fun h => c0 (Or.inr h)) (by rw [c3]; rfl) (by decide) ?_
      exact lw_case_step C hX hbl hbA hL hi hB0 hB hI hP hD hS hl hf next
    by_cases c4 : x = 3
    · refine lv_tableIn (tgt := 261) (off := 228) hx hb dL_law_33 (fun h => c0 (Or.inl h)) (fun h => c0 (Or.inr h)) (by rw [c4]; rfl) (by decide) ?_
      exact lw_case_feed C hX hbl hbA hL hi hB0 hB hI hP hD hS hl hf next
    by_cases c5 : x = 4
    · refine lv_tableIn (tgt := 284) (off := 251) hx hb dL_law_33 (fun h => c0 (Or.inl h)) (fun h => c0 (Or.inr h)) (by rw [c5]; rfl) (by decide) ?_
      exact lw_case_read C hX hbl hbA hL hi hB0 hB hI hP hD hS hl hf next
    by_cases c6 : x = 5
    · refine lv_tableIn (tgt := 297) (off := 264) hx hb dL_law_33 (fun h => c0 (Or.inl h)) (fun h => c0 (Or.inr h)) (by rw [c6]; rfl) (by decide) ?_
      exact lw_case_of C hX hbl hbA hL hi hB0 hB hI hP hD hS hl hf next
    by_cases c7 : x = 6
    · refine lv_tableIn (tgt := 341) (off := 308) hx hb dL_law_33 (fun h => c0 (Or.inl h)) (fun h => c0 (Or.inr h)) (by rw [c7]; rfl) (by decide) ?_
      exact lw_case_person C hX hbl hbA hL hi hB0 hB hI hP hD hS hl hf next
    by_cases c8 : x = 7
    · refine lv_tableIn (tgt := 374) (off := 341) hx hb dL_law_33 (fun h => c0 (Or.inl h)) (fun h => c0 (Or.inr h)) (by rw [c8]; rfl) (by decide) ?_
      exact lw_case_thing C hX hbl hbA hL hi hB0 hB hI hP hD hS hl hf next
    by_cases c9 : x = 8
    · refine lv_tableIn (tgt := 407) (off := 374) hx hb dL_law_33 (fun h => c0 (Or.inl h)) (fun h => c0 (Or.inr h)) (by rw [c9]; rfl) (by decide) ?_
      exact lw_case_bid C hX hbl hbA hL hi hB0 hB hI hP hD hS hl hf next
    by_cases c10 : x = 9
    · refine lv_tableIn (tgt := 420) (off := 387) hx hb dL_law_33 (fun h => c0 (Or.inl h)) (fun h => c0 (Or.inr h)) (by rw [c10]; rfl) (by decide) ?_
      exact lw_case_auction C hX hbl hbA hL hi hB0 hB hI hP hD hS hl hf next
    by_cases c11 : x = 10
    · refine lv_tableIn (tgt := 433) (off := 400) hx hb dL_law_33 (fun h => c0 (Or.inl h)) (fun h => c0 (Or.inr h)) (by rw [c11]; rfl) (by decide) ?_
      exact lw_case_scaled C hSC hX hbl hbA hL hi hB0 hB hI hP hD hS hl hf next
    by_cases c12 : x = 11
    · refine lv_tableIn (tgt := 446) (off := 413) hx hb dL_law_33 (fun h => c0 (Or.inl h)) (fun h => c0 (Or.inr h)) (by rw [c12]; rfl) (by decide) ?_
      exact lw_case_fresh C hX hbl hbA hL hi hB0 hB hI hP hD hS hl hf next
    by_cases c13 : x = 12
    · refine lv_tableIn (tgt := 459) (off := 426) hx hb dL_law_33 (fun h => c0 (Or.inl h)) (fun h => c0 (Or.inr h)) (by rw [c13]; rfl) (by decide) ?_
      exact lw_case_leave C hX hbl hbA hL hi hB0 hB hI hP hD hS hl hf next
    by_cases c14 : x = 13
    · refine lv_tableIn (tgt := 482) (off := 449) hx hb dL_law_33 (fun h => c0 (Or.inl h)) (fun h => c0 (Or.inr h)) (by rw [c14]; rfl) (by decide) ?_
      exact lw_case_told C hX hbl hbA hL hi hB0 hB hI hP hD hS hl hf next
    by_cases c15 : x = 14
    · refine lv_tableIn (tgt := 505) (off := 472) hx hb dL_law_33 (fun h => c0 (Or.inl h)) (fun h => c0 (Or.inr h)) (by rw [c15]; rfl) (by decide) ?_
      exact lw_case_wrong C hX hbl hbA hL hi hB0 hB hI hP hD hS hl hf next
    by_cases c16 : x = 15
    · refine lv_tableIn (tgt := 528) (off := 495) hx hb dL_law_33 (fun h => c0 (Or.inl h)) (fun h => c0 (Or.inr h)) (by rw [c16]; rfl) (by decide) ?_
      exact lw_case_see C hX hbl hbA hL hi hB0 hB hI hP hD hS hl hf next
    by_cases c17 : x = 16
    · refine lv_tableIn (tgt := 561) (off := 528) hx hb dL_law_33 (fun h => c0 (Or.inl h)) (fun h => c0 (Or.inr h)) (by rw [c17]; rfl) (by decide) ?_
      exact lw_case_fits C hX hbl hbA hL hi hB0 hB hI hP hD hS hl hf next
    by_cases c18 : x = 17
    · refine lv_tableIn (tgt := 604) (off := 571) hx hb dL_law_33 (fun h => c0 (Or.inl h)) (fun h => c0 (Or.inr h)) (by rw [c18]; rfl) (by decide) ?_
      exact lw_case_odds C hX hbl hbA hL hi hB0 hB hI hP hD hS hl hf next
    by_cases c19 : x = 18
    · refine lv_tableIn (tgt := 638) (off := 605) hx hb dL_law_33 (fun h => c0 (Or.inl h)) (fun h => c0 (Or.inr h)) (by rw [c19]; rfl) (by decide) ?_
      exact lw_case_mean C hX hbl hbA hL hi hB0 hB hI hP hD hS hl hf next
    by_cases c20 : x = 19
    · refine lv_tableIn (tgt := 662) (off := 629) hx hb dL_law_33 (fun h => c0 (Or.inl h)) (fun h => c0 (Or.inr h)) (by rw [c20]; rfl) (by decide) ?_
      exact lw_case_plan C hX hbl hbA hL hi hB0 hB hI hP hD hS hl hf next
    by_cases c21 : x = 20
    · refine lv_tableIn (tgt := 695) (off := 662) hx hb dL_law_33 (fun h => c0 (Or.inl h)) (fun h => c0 (Or.inr h)) (by rw [c21]; rfl) (by decide) ?_
      exact lw_case_ends C hX hbl hbA hL hi hB0 hB hI hP hD hS hl hf next
    by_cases c22 : x = 21
    · refine lv_tableIn (tgt := 718) (off := 685) hx hb dL_law_33 (fun h => c0 (Or.inl h)) (fun h => c0 (Or.inr h)) (by rw [c22]; rfl) (by decide) ?_
      exact lw_case_book C hX hbl hbA hL hi hB0 hB hI hP hD hS hl hf next
    by_cases c23 : x = 22
    · refine lv_tableIn (tgt := 751) (off := 718) hx hb dL_law_33 (fun h => c0 (Or.inl h)) (fun h => c0 (Or.inr h)) (by rw [c23]; rfl) (by decide) ?_
      exact lw_case_looked C hX hbl hbA hL hi hB0 hB hI hP hD hS hl hf next
    by_cases c24 : x = 23
    · refine lv_tableIn (tgt := 764) (off := 731) hx hb dL_law_33 (fun h => c0 (Or.inl h)) (fun h => c0 (Or.inr h)) (by rw [c24]; rfl) (by decide) ?_
      exact lw_case_judge C hX hbl hbA hL hi hB0 hB hI hP hD hS hl hf next
    by_cases c25 : x = 24
    · refine lv_tableIn (tgt := 797) (off := 764) hx hb dL_law_33 (fun h => c0 (Or.inl h)) (fun h => c0 (Or.inr h)) (by rw [c25]; rfl) (by decide) ?_
      exact lw_case_image C hX hbl hbA hL hi hB0 hB hI hP hD hS hl hf next
    by_cases c26 : x = 25
    · refine lv_tableIn (tgt := 810) (off := 777) hx hb dL_law_33 (fun h => c0 (Or.inl h)) (fun h => c0 (Or.inr h)) (by rw [c26]; rfl) (by decide) ?_
      exact lw_case_undo C hX hbl hbA hL hi hB0 hB hI hP hD hS hl hf next
    by_cases c27 : x = 26
    · refine lv_tableIn (tgt := 823) (off := 790) hx hb dL_law_33 (fun h => c0 (Or.inl h)) (fun h => c0 (Or.inr h)) (by rw [c27]; rfl) (by decide) ?_
      exact lw_case_count C hX hbl hbA hL hi hB0 hB hI hP hD hS hl hf next
    by_cases c28 : x = 27
    · refine lv_tableIn (tgt := 846) (off := 813) hx hb dL_law_33 (fun h => c0 (Or.inl h)) (fun h => c0 (Or.inr h)) (by rw [c28]; rfl) (by decide) ?_
      exact lw_case_tape C hX hbl hbA hL hi hB0 hB hI hP hD hS hl hf next
    by_cases c29 : x = 28
    · refine lv_tableIn (tgt := 889) (off := 856) hx hb dL_law_33 (fun h => c0 (Or.inl h)) (fun h => c0 (Or.inr h)) (by rw [c29]; rfl) (by decide) ?_
      exact lw_case_item C hX hbl hbA hL hi hB0 hB hI hP hD hS hl hf next
    by_cases c30 : x = 29
    · refine lv_tableIn (tgt := 962) (off := 929) hx hb dL_law_33 (fun h => c0 (Or.inl h)) (fun h => c0 (Or.inr h)) (by rw [c30]; rfl) (by decide) ?_
      exact lw_case_peek C hX hbl hbA hL hi hB0 hB hI hP hD hS hl hf next
    by_cases c31 : x = 30
    · refine lv_tableIn (tgt := 996) (off := 963) hx hb dL_law_33 (fun h => c0 (Or.inl h)) (fun h => c0 (Or.inr h)) (by rw [c31]; rfl) (by decide) ?_
      exact lw_case_shift C hX hbl hbA hL hi hB0 hB hI hP hD hS hl hf next
    exact (bw_sw 30 c0 (fun k hk => match k, hk with | 0, _ => c1 | 1, _ => c2 | 2, _ => c3 | 3, _ => c4 | 4, _ => c5 | 5, _ => c6 | 6, _ => c7 | 7, _ => c8 | 8, _ => c9 | 9, _ => c10 | 10, _ => c11 | 11, _ => c12 | 12, _ => c13 | 13, _ => c14 | 14, _ => c15 | 15, _ => c16 | 16, _ => c17 | 17, _ => c18 | 18, _ => c19 | 19, _ => c20 | 20, _ => c21 | 21, _ => c22 | 22, _ => c23 | 23, _ => c24 | 24, _ => c25 | 25, _ => c26 | 26, _ => c27 | 27, _ => c28 | 28, _ => c29 | 29, _ => c30 | 30, _ => c31 | k + 31, h => absurd h (by omega))).elim
