/-! the law: each kind of call -/
set_option maxHeartbeats 4000000 in
set_option maxRecDepth 100000 in
theorem lw_case_size {p : Program} {l : Launch} {e : Env} {s : State} {m : MethodId} {b L : Nat} {xs : Nat → Int32} {below : List Frame} {meth : Method} {c : Code} {H : Heap} {locs : List Loc} {cells slots : Nat} {Q : State → Prop} {ls : Array Slot} {dC : Nat → ClassId} {dI : Nat → Nat → Nat} {cI cJ cT cII cJJ : ClassId} {A : Nat → Prop} {ad7 ad8 : Nat → Nat} {Wd : va_W} {B : Int} {i : Nat} (C : lw_C p s m #[Value.ref b] meth c dC dI cI cJ cT cII cJJ A) (hX : va_X b L xs s s.heap) (hbl : b < s.heap.size) (hbA : ¬ A b) (hL : L ≤ 3072) (hi : i + 6 ≤ L) (hB0 : 2000 ≤ B) (hB : B ≤ 1000000) (hI : lw_I cI cJ cT cII cJJ ad7 ad8 B Wd) (hP : va_P (dC, dI) vwCl Wd H) (hD : va_D A Wd) (hS : va_S A s.heap H locs) (hl : lv_has ls 4 [(3, .int (nI i)), (2, .ref (ad8 0)), (1, .ref (ad7 0)), (0, .ref b)]) (hf : cells ≤ room_1.cells ∧ slots ≤ room_1.slots)
    (kk : ∀ (Wd : va_W) (H : Heap) (locs : List Loc), lw_I cI cJ cT cII cJJ ad7 ad8 (B + 941) Wd → va_P (dC, dI) vwCl Wd H → va_D A Wd → va_S A s.heap H locs → W p l e room_1 s m #[Value.ref b] below meth c H locs cells slots Q (F0 m 1059 ls [])) : W p l e room_1 s m #[Value.ref b] below meth c H locs cells slots Q (F0 m 172 ls []) := by
  obtain ⟨im, gn, gpa, gbr, gth, gpe, gpr, gw, gseru, gserl, gserr, gplru, gplrl, gplrr, gboru, gborl, gborr, kn, kpa, kbr, kth, kpe, kpr, kw, kseru, kserl, kserr, kplru, kplrl, kplrr, kboru, kborl, kborr, xn, xpa, xbr, xth, xpe, xpr, xw, su, tl, tc, ta, tk, tb, tp, tt, tw, ck, cc, cd, so, le, it, mN, mStep, mSeen, mPlans, mBooks, mTexted, mIsKept, mSpot, mKeeps, mMindStep, mAt, mWhat, mWhole, mIsBroken, mWorth, mHas, mOwner, mPrice, mSeenWho, mSeenWhat, mPlanWhat, mPlanN, mBookThing, mBookPrice, mWrong, mText, mImaged, mMindHas, mMindOwner, mMindPrice, mMindWrong, mMostBy, mTapeSort, mTapeSize, mMoved, mTapes, rfl, N, rfl, rfl, rfl, rfl, rfl, rfl, hM, hQ, hK, hz, hT, hC, hA⟩ := hI
  have hx := C.1
  have hb := C.2.1
  have hown := C.2.2.2.1
  have hts := C.2.2.2.2.1
  have h_1 : vp_in (nI i + 1) L := by rw [show nI i + 1 = nI (i + 1) from nI_add i 1]; exact vp_in_nI (by omega) (by omega)
  have h_2 : vp_in (nI i + 2) L := by rw [show nI i + 2 = nI (i + 2) from nI_add i 2]; exact vp_in_nI (by omega) (by omega)
  have h_3 : vp_in (nI i + 3) L := by rw [show nI i + 3 = nI (i + 3) from nI_add i 3]; exact vp_in_nI (by omega) (by omega)
  have h_4 : vp_in (nI i + 4) L := by rw [show nI i + 4 = nI (i + 4) from nI_add i 4]; exact vp_in_nI (by omega) (by omega)
  have h_5 : vp_in (nI i + 5) L := by rw [show nI i + 5 = nI (i + 5) from nI_add i 5]; exact vp_in_nI (by omega) (by omega)
  refine lv_aload_n hx hb dL_law_172 rfl (lv_at hl 2 rfl) ?_
  refine lv_aload_n hx hb dL_law_173 rfl (lv_at hl 3 rfl) ?_
  refine lv_iload_n hx hb dL_law_174 rfl (lv_at hl 0 rfl) ?_
  refine lv_iconst (v := 1) hx hb dL_law_175 (by decide) ?_
  refine lv_iadd hx hb dL_law_176 ?_
  refine va_sld hx hb hX hbl hbA hS h_1 dL_law_177 ?_
  refine lc_X7_size C im (nI N) gpa gbr gth gpe gpr gw gseru gserl gserr gplru gplrl gplrr gboru gborl gborr kn kpa kbr kth kpe kpr kw kseru kserl kserr kplru kplrl kplrr kboru kborl kborr xn xpa xbr xth xpe xpr xw su tl tc ta tk tb tp tt tw ck cc cd so le it (xs (nI i + 1).toNatClampNeg) (pc_size hM (by omega) hQ) hP hD hS hl.1 (Nat.le_of_ble_eq_true rfl) hf dL_law_178 (fun r7 gn' gth' gpe' gpr' gw' gseru' gplru' gboru' H locs hw hP hD hS => ?_)
  have hP := bw_comP hP
  have hD := bw_comD hD
  refine lv_aload_n hx hb dL_law_181 rfl (lv_at hl 1 rfl) ?_
  refine lv_aload_n hx hb dL_law_182 rfl (lv_at hl 3 rfl) ?_
  refine lv_iload_n hx hb dL_law_183 rfl (lv_at hl 0 rfl) ?_
  refine lv_iconst (v := 1) hx hb dL_law_184 (by decide) ?_
  refine lv_iadd hx hb dL_law_185 ?_
  refine va_sld hx hb hX hbl hbA hS h_1 dL_law_186 ?_
  refine lc_X8_size C (nI N) gpa mSeen mPlans mBooks mTexted mIsKept mSpot mKeeps mMindStep mAt mWhat mWhole mIsBroken mWorth gth gpe gpr mSeenWho mSeenWhat mPlanWhat mPlanN mBookThing mBookPrice mWrong mText mImaged mMindHas mMindOwner mMindPrice mMindWrong mMostBy mTapeSort mTapeSize mMoved mTapes (xs (nI i + 1).toNatClampNeg) hw hP hD hS hl.1 (Nat.le_of_ble_eq_true rfl) hf dL_law_187 (fun r8 mN' mSeen' mPlans' mBooks' mWorth' mHas' mOwner' mPrice' H locs hw hP hD hS => ?_)
  have hP := bw_comP hP
  have hD := bw_comD hD
  obtain ⟨e, N2, rfl, rfl, rfl, rfl, rfl, hM2, hQ2⟩ := hw
  refine lv_icmp_eq (tgt := 1059) hx hb dL_law_190 (by decide) (fun c1 => ?_) (fun c1 => absurd e.symm c1)
  exact kk _ H locs ⟨_, _, _, _, _, _, _, _, _, _, _, _, _, _, _, _, _, _, _, _, _, _, _, _, _, _, _, _, _, _, _, _, _, _, _, _, _, _, _, _, _, _, _, _, _, _, _, _, _, _, _, _, _, _, _, _, _, _, _, _, _, _, _, _, _, _, _, _, _, _, _, _, _, _, _, _, _, _, _, _, _, _, _, _, _, _, _, _, _, _, _, rfl, pz_R_mono ⟨N2, rfl, rfl, rfl, rfl, rfl, rfl, hM2, hQ2, hK, hz, hT, hC, hA⟩ (by omega)⟩ hP hD hS
set_option maxHeartbeats 4000000 in
set_option maxRecDepth 100000 in
theorem lw_case_worth {p : Program} {l : Launch} {e : Env} {s : State} {m : MethodId} {b L : Nat} {xs : Nat → Int32} {below : List Frame} {meth : Method} {c : Code} {H : Heap} {locs : List Loc} {cells slots : Nat} {Q : State → Prop} {ls : Array Slot} {dC : Nat → ClassId} {dI : Nat → Nat → Nat} {cI cJ cT cII cJJ : ClassId} {A : Nat → Prop} {ad7 ad8 : Nat → Nat} {Wd : va_W} {B : Int} {i : Nat} (C : lw_C p s m #[Value.ref b] meth c dC dI cI cJ cT cII cJJ A) (hX : va_X b L xs s s.heap) (hbl : b < s.heap.size) (hbA : ¬ A b) (hL : L ≤ 3072) (hi : i + 6 ≤ L) (hB0 : 2000 ≤ B) (hB : B ≤ 1000000) (hI : lw_I cI cJ cT cII cJJ ad7 ad8 B Wd) (hP : va_P (dC, dI) vwCl Wd H) (hD : va_D A Wd) (hS : va_S A s.heap H locs) (hl : lv_has ls 4 [(3, .int (nI i)), (2, .ref (ad8 0)), (1, .ref (ad7 0)), (0, .ref b)]) (hf : cells ≤ room_1.cells ∧ slots ≤ room_1.slots)
    (kk : ∀ (Wd : va_W) (H : Heap) (locs : List Loc), lw_I cI cJ cT cII cJJ ad7 ad8 (B + 941) Wd → va_P (dC, dI) vwCl Wd H → va_D A Wd → va_S A s.heap H locs → W p l e room_1 s m #[Value.ref b] below meth c H locs cells slots Q (F0 m 1059 ls [])) : W p l e room_1 s m #[Value.ref b] below meth c H locs cells slots Q (F0 m 195 ls []) := by
  obtain ⟨im, gn, gpa, gbr, gth, gpe, gpr, gw, gseru, gserl, gserr, gplru, gplrl, gplrr, gboru, gborl, gborr, kn, kpa, kbr, kth, kpe, kpr, kw, kseru, kserl, kserr, kplru, kplrl, kplrr, kboru, kborl, kborr, xn, xpa, xbr, xth, xpe, xpr, xw, su, tl, tc, ta, tk, tb, tp, tt, tw, ck, cc, cd, so, le, it, mN, mStep, mSeen, mPlans, mBooks, mTexted, mIsKept, mSpot, mKeeps, mMindStep, mAt, mWhat, mWhole, mIsBroken, mWorth, mHas, mOwner, mPrice, mSeenWho, mSeenWhat, mPlanWhat, mPlanN, mBookThing, mBookPrice, mWrong, mText, mImaged, mMindHas, mMindOwner, mMindPrice, mMindWrong, mMostBy, mTapeSort, mTapeSize, mMoved, mTapes, rfl, N, rfl, rfl, rfl, rfl, rfl, rfl, hM, hQ, hK, hz, hT, hC, hA⟩ := hI
  have hx := C.1
  have hb := C.2.1
  have hown := C.2.2.2.1
  have hts := C.2.2.2.2.1
  have h_1 : vp_in (nI i + 1) L := by rw [show nI i + 1 = nI (i + 1) from nI_add i 1]; exact vp_in_nI (by omega) (by omega)
  have h_2 : vp_in (nI i + 2) L := by rw [show nI i + 2 = nI (i + 2) from nI_add i 2]; exact vp_in_nI (by omega) (by omega)
  have h_3 : vp_in (nI i + 3) L := by rw [show nI i + 3 = nI (i + 3) from nI_add i 3]; exact vp_in_nI (by omega) (by omega)
  have h_4 : vp_in (nI i + 4) L := by rw [show nI i + 4 = nI (i + 4) from nI_add i 4]; exact vp_in_nI (by omega) (by omega)
  have h_5 : vp_in (nI i + 5) L := by rw [show nI i + 5 = nI (i + 5) from nI_add i 5]; exact vp_in_nI (by omega) (by omega)
  refine lv_aload_n hx hb dL_law_195 rfl (lv_at hl 2 rfl) ?_
  refine lv_aload_n hx hb dL_law_196 rfl (lv_at hl 3 rfl) ?_
  refine lv_iload_n hx hb dL_law_197 rfl (lv_at hl 0 rfl) ?_
  refine lv_iconst (v := 1) hx hb dL_law_198 (by decide) ?_
  refine lv_iadd hx hb dL_law_199 ?_
  refine va_sld hx hb hX hbl hbA hS h_1 dL_law_200 ?_
  refine lv_aload_n hx hb dL_law_201 rfl (lv_at hl 3 rfl) ?_
  refine lv_iload_n hx hb dL_law_202 rfl (lv_at hl 0 rfl) ?_
  refine lv_iconst (v := 2) hx hb dL_law_203 (by decide) ?_
  refine lv_iadd hx hb dL_law_204 ?_
  refine va_sld hx hb hX hbl hbA hS h_2 dL_law_205 ?_
  refine lv_aload_n hx hb dL_law_206 rfl (lv_at hl 3 rfl) ?_
  refine lv_iload_n hx hb dL_law_207 rfl (lv_at hl 0 rfl) ?_
  refine lv_iconst (v := 3) hx hb dL_law_208 (by decide) ?_
  refine lv_iadd hx hb dL_law_209 ?_
  refine va_sld hx hb hX hbl hbA hS h_3 dL_law_210 ?_
  refine lc_X7_worth C im (nI N) gpa gbr gth gpe gpr gw gseru gserl gserr gplru gplrl gplrr gboru gborl gborr kn kpa kbr kth kpe kpr kw kseru kserl kserr kplru kplrl kplrr kboru kborl kborr xn xpa xbr xth xpe xpr xw su tl tc ta tk tb tp tt tw ck cc cd so le it (xs (nI i + 1).toNatClampNeg) (xs (nI i + 2).toNatClampNeg) (xs (nI i + 3).toNatClampNeg) (pc_worth hM) hP hD hS hl.1 (Nat.le_of_ble_eq_true rfl) hf dL_law_211 (fun r7 gth' gpe' gw' H locs hw hP hD hS => ?_)
  have hP := bw_comP hP
  have hD := bw_comD hD
  refine lv_aload_n hx hb dL_law_214 rfl (lv_at hl 1 rfl) ?_
  refine lv_aload_n hx hb dL_law_215 rfl (lv_at hl 3 rfl) ?_
  refine lv_iload_n hx hb dL_law_216 rfl (lv_at hl 0 rfl) ?_
  refine lv_iconst (v := 1) hx hb dL_law_217 (by decide) ?_
  refine lv_iadd hx hb dL_law_218 ?_
  refine va_sld hx hb hX hbl hbA hS h_1 dL_law_219 ?_
  refine lv_aload_n hx hb dL_law_220 rfl (lv_at hl 3 rfl) ?_
  refine lv_iload_n hx hb dL_law_221 rfl (lv_at hl 0 rfl) ?_
  refine lv_iconst (v := 2) hx hb dL_law_222 (by decide) ?_
  refine lv_iadd hx hb dL_law_223 ?_
  refine va_sld hx hb hX hbl hbA hS h_2 dL_law_224 ?_
  refine lv_aload_n hx hb dL_law_225 rfl (lv_at hl 3 rfl) ?_
  refine lv_iload_n hx hb dL_law_226 rfl (lv_at hl 0 rfl) ?_
  refine lv_iconst (v := 3) hx hb dL_law_227 (by decide) ?_
  refine lv_iadd hx hb dL_law_228 ?_
  refine va_sld hx hb hX hbl hbA hS h_3 dL_law_229 ?_
  refine lc_X8_worth C (nI N) gpa mSeen mPlans mBooks mTexted mIsKept mSpot mKeeps mMindStep mAt mWhat mWhole mIsBroken mWorth gth gpe gpr mSeenWho mSeenWhat mPlanWhat mPlanN mBookThing mBookPrice mWrong mText mImaged mMindHas mMindOwner mMindPrice mMindWrong mMostBy mTapeSort mTapeSize mMoved mTapes (xs (nI i + 1).toNatClampNeg) (xs (nI i + 2).toNatClampNeg) (xs (nI i + 3).toNatClampNeg) hw hP hD hS hl.1 (Nat.le_of_ble_eq_true rfl) hf dL_law_230 (fun r8 mWorth' mHas' mOwner' H locs hw hP hD hS => ?_)
  have hP := bw_comP hP
  have hD := bw_comD hD
  obtain ⟨e, rfl, rfl, hM2⟩ := hw
  refine lv_icmp_eq (tgt := 1059) hx hb dL_law_233 (by decide) (fun c1 => ?_) (fun c1 => absurd e.symm c1)
  exact kk _ H locs ⟨_, _, _, _, _, _, _, _, _, _, _, _, _, _, _, _, _, _, _, _, _, _, _, _, _, _, _, _, _, _, _, _, _, _, _, _, _, _, _, _, _, _, _, _, _, _, _, _, _, _, _, _, _, _, _, _, _, _, _, _, _, _, _, _, _, _, _, _, _, _, _, _, _, _, _, _, _, _, _, _, _, _, _, _, _, _, _, _, _, _, _, rfl, pz_R_mono ⟨N, rfl, rfl, rfl, rfl, rfl, rfl, hM2, hQ, hK, hz, hT, hC, hA⟩ (by omega)⟩ hP hD hS
set_option maxHeartbeats 4000000 in
set_option maxRecDepth 100000 in
theorem lw_case_step {p : Program} {l : Launch} {e : Env} {s : State} {m : MethodId} {b L : Nat} {xs : Nat → Int32} {below : List Frame} {meth : Method} {c : Code} {H : Heap} {locs : List Loc} {cells slots : Nat} {Q : State → Prop} {ls : Array Slot} {dC : Nat → ClassId} {dI : Nat → Nat → Nat} {cI cJ cT cII cJJ : ClassId} {A : Nat → Prop} {ad7 ad8 : Nat → Nat} {Wd : va_W} {B : Int} {i : Nat} (C : lw_C p s m #[Value.ref b] meth c dC dI cI cJ cT cII cJJ A) (hX : va_X b L xs s s.heap) (hbl : b < s.heap.size) (hbA : ¬ A b) (hL : L ≤ 3072) (hi : i + 6 ≤ L) (hB0 : 2000 ≤ B) (hB : B ≤ 1000000) (hI : lw_I cI cJ cT cII cJJ ad7 ad8 B Wd) (hP : va_P (dC, dI) vwCl Wd H) (hD : va_D A Wd) (hS : va_S A s.heap H locs) (hl : lv_has ls 4 [(3, .int (nI i)), (2, .ref (ad8 0)), (1, .ref (ad7 0)), (0, .ref b)]) (hf : cells ≤ room_1.cells ∧ slots ≤ room_1.slots)
    (kk : ∀ (Wd : va_W) (H : Heap) (locs : List Loc), lw_I cI cJ cT cII cJJ ad7 ad8 (B + 941) Wd → va_P (dC, dI) vwCl Wd H → va_D A Wd → va_S A s.heap H locs → W p l e room_1 s m #[Value.ref b] below meth c H locs cells slots Q (F0 m 1059 ls [])) : W p l e room_1 s m #[Value.ref b] below meth c H locs cells slots Q (F0 m 238 ls []) := by
  obtain ⟨im, gn, gpa, gbr, gth, gpe, gpr, gw, gseru, gserl, gserr, gplru, gplrl, gplrr, gboru, gborl, gborr, kn, kpa, kbr, kth, kpe, kpr, kw, kseru, kserl, kserr, kplru, kplrl, kplrr, kboru, kborl, kborr, xn, xpa, xbr, xth, xpe, xpr, xw, su, tl, tc, ta, tk, tb, tp, tt, tw, ck, cc, cd, so, le, it, mN, mStep, mSeen, mPlans, mBooks, mTexted, mIsKept, mSpot, mKeeps, mMindStep, mAt, mWhat, mWhole, mIsBroken, mWorth, mHas, mOwner, mPrice, mSeenWho, mSeenWhat, mPlanWhat, mPlanN, mBookThing, mBookPrice, mWrong, mText, mImaged, mMindHas, mMindOwner, mMindPrice, mMindWrong, mMostBy, mTapeSort, mTapeSize, mMoved, mTapes, rfl, N, rfl, rfl, rfl, rfl, rfl, rfl, hM, hQ, hK, hz, hT, hC, hA⟩ := hI
  have hx := C.1
  have hb := C.2.1
  have hown := C.2.2.2.1
  have hts := C.2.2.2.2.1
  have h_1 : vp_in (nI i + 1) L := by rw [show nI i + 1 = nI (i + 1) from nI_add i 1]; exact vp_in_nI (by omega) (by omega)
  have h_2 : vp_in (nI i + 2) L := by rw [show nI i + 2 = nI (i + 2) from nI_add i 2]; exact vp_in_nI (by omega) (by omega)
  have h_3 : vp_in (nI i + 3) L := by rw [show nI i + 3 = nI (i + 3) from nI_add i 3]; exact vp_in_nI (by omega) (by omega)
  have h_4 : vp_in (nI i + 4) L := by rw [show nI i + 4 = nI (i + 4) from nI_add i 4]; exact vp_in_nI (by omega) (by omega)
  have h_5 : vp_in (nI i + 5) L := by rw [show nI i + 5 = nI (i + 5) from nI_add i 5]; exact vp_in_nI (by omega) (by omega)
  refine lv_aload_n hx hb dL_law_238 rfl (lv_at hl 2 rfl) ?_
  refine lv_aload_n hx hb dL_law_239 rfl (lv_at hl 3 rfl) ?_
  refine lv_iload_n hx hb dL_law_240 rfl (lv_at hl 0 rfl) ?_
  refine lv_iconst (v := 1) hx hb dL_law_241 (by decide) ?_
  refine lv_iadd hx hb dL_law_242 ?_
  refine va_sld hx hb hX hbl hbA hS h_1 dL_law_243 ?_
  refine lc_X7_step C im (nI N) gpa gbr gth gpe gpr gw gseru gserl gserr gplru gplrl gplrr gboru gborl gborr kn kpa kbr kth kpe kpr kw kseru kserl kserr kplru kplrl kplrr kboru kborl kborr xn xpa xbr xth xpe xpr xw su tl tc ta tk tb tp tt tw ck cc cd so le it (xs (nI i + 1).toNatClampNeg) (pc_step hM) hP hD hS hl.1 (Nat.le_of_ble_eq_true rfl) hf dL_law_244 (fun r7 gpa' H locs hw hP hD hS => ?_)
  have hP := bw_comP hP
  have hD := bw_comD hD
  refine lv_aload_n hx hb dL_law_247 rfl (lv_at hl 1 rfl) ?_
  refine lv_aload_n hx hb dL_law_248 rfl (lv_at hl 3 rfl) ?_
  refine lv_iload_n hx hb dL_law_249 rfl (lv_at hl 0 rfl) ?_
  refine lv_iconst (v := 1) hx hb dL_law_250 (by decide) ?_
  refine lv_iadd hx hb dL_law_251 ?_
  refine va_sld hx hb hX hbl hbA hS h_1 dL_law_252 ?_
  refine lc_X8_step C (nI N) gpa mSeen mPlans mBooks mTexted mIsKept mSpot mKeeps mMindStep mAt mWhat mWhole mIsBroken mWorth gth gpe gpr mSeenWho mSeenWhat mPlanWhat mPlanN mBookThing mBookPrice mWrong mText mImaged mMindHas mMindOwner mMindPrice mMindWrong mMostBy mTapeSort mTapeSize mMoved mTapes (xs (nI i + 1).toNatClampNeg) hw hP hD hS hl.1 (Nat.le_of_ble_eq_true rfl) hf dL_law_253 (fun r8 mStep' H locs hw hP hD hS => ?_)
  have hP := bw_comP hP
  have hD := bw_comD hD
  obtain ⟨e, rfl, hM2⟩ := hw
  refine lv_icmp_eq (tgt := 1059) hx hb dL_law_256 (by decide) (fun c1 => ?_) (fun c1 => absurd e.symm c1)
  exact kk _ H locs ⟨_, _, _, _, _, _, _, _, _, _, _, _, _, _, _, _, _, _, _, _, _, _, _, _, _, _, _, _, _, _, _, _, _, _, _, _, _, _, _, _, _, _, _, _, _, _, _, _, _, _, _, _, _, _, _, _, _, _, _, _, _, _, _, _, _, _, _, _, _, _, _, _, _, _, _, _, _, _, _, _, _, _, _, _, _, _, _, _, _, _, _, rfl, pz_R_mono ⟨N, rfl, rfl, rfl, rfl, rfl, rfl, hM2, hQ, hK, hz, hT, hC, hA⟩ (by omega)⟩ hP hD hS
set_option maxHeartbeats 4000000 in
set_option maxRecDepth 100000 in
theorem lw_case_feed {p : Program} {l : Launch} {e : Env} {s : State} {m : MethodId} {b L : Nat} {xs : Nat → Int32} {below : List Frame} {meth : Method} {c : Code} {H : Heap} {locs : List Loc} {cells slots : Nat} {Q : State → Prop} {ls : Array Slot} {dC : Nat → ClassId} {dI : Nat → Nat → Nat} {cI cJ cT cII cJJ : ClassId} {A : Nat → Prop} {ad7 ad8 : Nat → Nat} {Wd : va_W} {B : Int} {i : Nat} (C : lw_C p s m #[Value.ref b] meth c dC dI cI cJ cT cII cJJ A) (hX : va_X b L xs s s.heap) (hbl : b < s.heap.size) (hbA : ¬ A b) (hL : L ≤ 3072) (hi : i + 6 ≤ L) (hB0 : 2000 ≤ B) (hB : B ≤ 1000000) (hI : lw_I cI cJ cT cII cJJ ad7 ad8 B Wd) (hP : va_P (dC, dI) vwCl Wd H) (hD : va_D A Wd) (hS : va_S A s.heap H locs) (hl : lv_has ls 4 [(3, .int (nI i)), (2, .ref (ad8 0)), (1, .ref (ad7 0)), (0, .ref b)]) (hf : cells ≤ room_1.cells ∧ slots ≤ room_1.slots)
    (kk : ∀ (Wd : va_W) (H : Heap) (locs : List Loc), lw_I cI cJ cT cII cJJ ad7 ad8 (B + 941) Wd → va_P (dC, dI) vwCl Wd H → va_D A Wd → va_S A s.heap H locs → W p l e room_1 s m #[Value.ref b] below meth c H locs cells slots Q (F0 m 1059 ls [])) : W p l e room_1 s m #[Value.ref b] below meth c H locs cells slots Q (F0 m 261 ls []) := by
  obtain ⟨im, gn, gpa, gbr, gth, gpe, gpr, gw, gseru, gserl, gserr, gplru, gplrl, gplrr, gboru, gborl, gborr, kn, kpa, kbr, kth, kpe, kpr, kw, kseru, kserl, kserr, kplru, kplrl, kplrr, kboru, kborl, kborr, xn, xpa, xbr, xth, xpe, xpr, xw, su, tl, tc, ta, tk, tb, tp, tt, tw, ck, cc, cd, so, le, it, mN, mStep, mSeen, mPlans, mBooks, mTexted, mIsKept, mSpot, mKeeps, mMindStep, mAt, mWhat, mWhole, mIsBroken, mWorth, mHas, mOwner, mPrice, mSeenWho, mSeenWhat, mPlanWhat, mPlanN, mBookThing, mBookPrice, mWrong, mText, mImaged, mMindHas, mMindOwner, mMindPrice, mMindWrong, mMostBy, mTapeSort, mTapeSize, mMoved, mTapes, rfl, N, rfl, rfl, rfl, rfl, rfl, rfl, hM, hQ, hK, hz, hT, hC, hA⟩ := hI
  have hx := C.1
  have hb := C.2.1
  have hown := C.2.2.2.1
  have hts := C.2.2.2.2.1
  have h_1 : vp_in (nI i + 1) L := by rw [show nI i + 1 = nI (i + 1) from nI_add i 1]; exact vp_in_nI (by omega) (by omega)
  have h_2 : vp_in (nI i + 2) L := by rw [show nI i + 2 = nI (i + 2) from nI_add i 2]; exact vp_in_nI (by omega) (by omega)
  have h_3 : vp_in (nI i + 3) L := by rw [show nI i + 3 = nI (i + 3) from nI_add i 3]; exact vp_in_nI (by omega) (by omega)
  have h_4 : vp_in (nI i + 4) L := by rw [show nI i + 4 = nI (i + 4) from nI_add i 4]; exact vp_in_nI (by omega) (by omega)
  have h_5 : vp_in (nI i + 5) L := by rw [show nI i + 5 = nI (i + 5) from nI_add i 5]; exact vp_in_nI (by omega) (by omega)
  refine lv_aload_n hx hb dL_law_261 rfl (lv_at hl 2 rfl) ?_
  refine lv_aload_n hx hb dL_law_262 rfl (lv_at hl 3 rfl) ?_
  refine lv_iload_n hx hb dL_law_263 rfl (lv_at hl 0 rfl) ?_
  refine lv_iconst (v := 1) hx hb dL_law_264 (by decide) ?_
  refine lv_iadd hx hb dL_law_265 ?_
  refine va_sld hx hb hX hbl hbA hS h_1 dL_law_266 ?_
  refine lc_X7_feed C im (nI N) gpa gbr gth gpe gpr gw gseru gserl gserr gplru gplrl gplrr gboru gborl gborr kn kpa kbr kth kpe kpr kw kseru kserl kserr kplru kplrl kplrr kboru kborl kborr xn xpa xbr xth xpe xpr xw su tl tc ta tk tb tp tt tw ck cc cd so le it (xs (nI i + 1).toNatClampNeg) (pc_feed hT) hP hD hS hl.1 (Nat.le_of_ble_eq_true rfl) hf dL_law_267 (fun r7 tl' tb' H locs hw hP hD hS => ?_)
  have hP := bw_comP hP
  have hD := bw_comD hD
  refine lv_aload_n hx hb dL_law_270 rfl (lv_at hl 1 rfl) ?_
  refine lv_aload_n hx hb dL_law_271 rfl (lv_at hl 3 rfl) ?_
  refine lv_iload_n hx hb dL_law_272 rfl (lv_at hl 0 rfl) ?_
  refine lv_iconst (v := 1) hx hb dL_law_273 (by decide) ?_
  refine lv_iadd hx hb dL_law_274 ?_
  refine va_sld hx hb hX hbl hbA hS h_1 dL_law_275 ?_
  refine lc_X8_feed C (nI N) gpa mSeen mPlans mBooks mTexted mIsKept mSpot mKeeps mMindStep mAt mWhat mWhole mIsBroken mWorth gth gpe gpr mSeenWho mSeenWhat mPlanWhat mPlanN mBookThing mBookPrice mWrong mText mImaged mMindHas mMindOwner mMindPrice mMindWrong mMostBy mTapeSort mTapeSize mMoved mTapes (xs (nI i + 1).toNatClampNeg) hw hP hD hS hl.1 (Nat.le_of_ble_eq_true rfl) hf dL_law_276 (fun r8 mTexted' mText' H locs hw hP hD hS => ?_)
  have hP := bw_comP hP
  have hD := bw_comD hD
  obtain ⟨e, hT2⟩ := hw
  refine lv_icmp_eq (tgt := 1059) hx hb dL_law_279 (by decide) (fun c1 => ?_) (fun c1 => absurd e.symm c1)
  exact kk _ H locs ⟨_, _, _, _, _, _, _, _, _, _, _, _, _, _, _, _, _, _, _, _, _, _, _, _, _, _, _, _, _, _, _, _, _, _, _, _, _, _, _, _, _, _, _, _, _, _, _, _, _, _, _, _, _, _, _, _, _, _, _, _, _, _, _, _, _, _, _, _, _, _, _, _, _, _, _, _, _, _, _, _, _, _, _, _, _, _, _, _, _, _, _, rfl, pz_R_mono ⟨N, rfl, rfl, rfl, rfl, rfl, rfl, hM, hQ, hK, hz, hT2, hC, hA⟩ (by omega)⟩ hP hD hS
set_option maxHeartbeats 4000000 in
set_option maxRecDepth 100000 in
theorem lw_case_read {p : Program} {l : Launch} {e : Env} {s : State} {m : MethodId} {b L : Nat} {xs : Nat → Int32} {below : List Frame} {meth : Method} {c : Code} {H : Heap} {locs : List Loc} {cells slots : Nat} {Q : State → Prop} {ls : Array Slot} {dC : Nat → ClassId} {dI : Nat → Nat → Nat} {cI cJ cT cII cJJ : ClassId} {A : Nat → Prop} {ad7 ad8 : Nat → Nat} {Wd : va_W} {B : Int} {i : Nat} (C : lw_C p s m #[Value.ref b] meth c dC dI cI cJ cT cII cJJ A) (hX : va_X b L xs s s.heap) (hbl : b < s.heap.size) (hbA : ¬ A b) (hL : L ≤ 3072) (hi : i + 6 ≤ L) (hB0 : 2000 ≤ B) (hB : B ≤ 1000000) (hI : lw_I cI cJ cT cII cJJ ad7 ad8 B Wd) (hP : va_P (dC, dI) vwCl Wd H) (hD : va_D A Wd) (hS : va_S A s.heap H locs) (hl : lv_has ls 4 [(3, .int (nI i)), (2, .ref (ad8 0)), (1, .ref (ad7 0)), (0, .ref b)]) (hf : cells ≤ room_1.cells ∧ slots ≤ room_1.slots)
    (kk : ∀ (Wd : va_W) (H : Heap) (locs : List Loc), lw_I cI cJ cT cII cJJ ad7 ad8 (B + 941) Wd → va_P (dC, dI) vwCl Wd H → va_D A Wd → va_S A s.heap H locs → W p l e room_1 s m #[Value.ref b] below meth c H locs cells slots Q (F0 m 1059 ls [])) : W p l e room_1 s m #[Value.ref b] below meth c H locs cells slots Q (F0 m 284 ls []) := by
  obtain ⟨im, gn, gpa, gbr, gth, gpe, gpr, gw, gseru, gserl, gserr, gplru, gplrl, gplrr, gboru, gborl, gborr, kn, kpa, kbr, kth, kpe, kpr, kw, kseru, kserl, kserr, kplru, kplrl, kplrr, kboru, kborl, kborr, xn, xpa, xbr, xth, xpe, xpr, xw, su, tl, tc, ta, tk, tb, tp, tt, tw, ck, cc, cd, so, le, it, mN, mStep, mSeen, mPlans, mBooks, mTexted, mIsKept, mSpot, mKeeps, mMindStep, mAt, mWhat, mWhole, mIsBroken, mWorth, mHas, mOwner, mPrice, mSeenWho, mSeenWhat, mPlanWhat, mPlanN, mBookThing, mBookPrice, mWrong, mText, mImaged, mMindHas, mMindOwner, mMindPrice, mMindWrong, mMostBy, mTapeSort, mTapeSize, mMoved, mTapes, rfl, N, rfl, rfl, rfl, rfl, rfl, rfl, hM, hQ, hK, hz, hT, hC, hA⟩ := hI
  have hx := C.1
  have hb := C.2.1
  have hown := C.2.2.2.1
  have hts := C.2.2.2.2.1
  have h_1 : vp_in (nI i + 1) L := by rw [show nI i + 1 = nI (i + 1) from nI_add i 1]; exact vp_in_nI (by omega) (by omega)
  have h_2 : vp_in (nI i + 2) L := by rw [show nI i + 2 = nI (i + 2) from nI_add i 2]; exact vp_in_nI (by omega) (by omega)
  have h_3 : vp_in (nI i + 3) L := by rw [show nI i + 3 = nI (i + 3) from nI_add i 3]; exact vp_in_nI (by omega) (by omega)
  have h_4 : vp_in (nI i + 4) L := by rw [show nI i + 4 = nI (i + 4) from nI_add i 4]; exact vp_in_nI (by omega) (by omega)
  have h_5 : vp_in (nI i + 5) L := by rw [show nI i + 5 = nI (i + 5) from nI_add i 5]; exact vp_in_nI (by omega) (by omega)
  refine lv_aload_n hx hb dL_law_284 rfl (lv_at hl 2 rfl) ?_
  refine lc_X7_read C im (nI N) gpa gbr gth gpe gpr gw gseru gserl gserr gplru gplrl gplrr gboru gborl gborr kn kpa kbr kth kpe kpr kw kseru kserl kserr kplru kplrl kplrr kboru kborl kborr xn xpa xbr xth xpe xpr xw su tl tc ta tk tb tp tt tw ck cc cd so le it  (pc_read hM hT hC) hP hD hS hl.1 (Nat.le_of_ble_eq_true rfl) hf dL_law_285 (fun r7 gth' gpe' gw' tl' tc' ta' tk' tp' tt' tw' ck' cc' cd' H locs hw hP hD hS => ?_)
  have hP := bw_comP hP
  have hD := bw_comD hD
  refine lv_aload_n hx hb dL_law_288 rfl (lv_at hl 1 rfl) ?_
  refine lc_X8_read C (nI N) gpa mSeen mPlans mBooks mTexted mIsKept mSpot mKeeps mMindStep mAt mWhat mWhole mIsBroken mWorth gth gpe gpr mSeenWho mSeenWhat mPlanWhat mPlanN mBookThing mBookPrice mWrong mText mImaged mMindHas mMindOwner mMindPrice mMindWrong mMostBy mTapeSort mTapeSize mMoved mTapes  hw hP hD hS hl.1 (Nat.le_of_ble_eq_true rfl) hf dL_law_289 (fun r8 mTexted' mAt' mWhat' mWhole' mWorth' mHas' mOwner' mWrong' H locs hw hP hD hS => ?_)
  have hP := bw_comP hP
  have hD := bw_comD hD
  obtain ⟨e, rfl, rfl, hM2, hT2, hC2⟩ := hw
  refine lv_icmp_eq (tgt := 1059) hx hb dL_law_292 (by decide) (fun c1 => ?_) (fun c1 => absurd e.symm c1)
  exact kk _ H locs ⟨_, _, _, _, _, _, _, _, _, _, _, _, _, _, _, _, _, _, _, _, _, _, _, _, _, _, _, _, _, _, _, _, _, _, _, _, _, _, _, _, _, _, _, _, _, _, _, _, _, _, _, _, _, _, _, _, _, _, _, _, _, _, _, _, _, _, _, _, _, _, _, _, _, _, _, _, _, _, _, _, _, _, _, _, _, _, _, _, _, _, _, rfl, pz_R_mono ⟨N, rfl, rfl, rfl, rfl, rfl, rfl, hM2, hQ, hK, hz, hT2, hC2, hA⟩ (by omega)⟩ hP hD hS
set_option maxHeartbeats 4000000 in
set_option maxRecDepth 100000 in
theorem lw_case_of {p : Program} {l : Launch} {e : Env} {s : State} {m : MethodId} {b L : Nat} {xs : Nat → Int32} {below : List Frame} {meth : Method} {c : Code} {H : Heap} {locs : List Loc} {cells slots : Nat} {Q : State → Prop} {ls : Array Slot} {dC : Nat → ClassId} {dI : Nat → Nat → Nat} {cI cJ cT cII cJJ : ClassId} {A : Nat → Prop} {ad7 ad8 : Nat → Nat} {Wd : va_W} {B : Int} {i : Nat} (C : lw_C p s m #[Value.ref b] meth c dC dI cI cJ cT cII cJJ A) (hX : va_X b L xs s s.heap) (hbl : b < s.heap.size) (hbA : ¬ A b) (hL : L ≤ 3072) (hi : i + 6 ≤ L) (hB0 : 2000 ≤ B) (hB : B ≤ 1000000) (hI : lw_I cI cJ cT cII cJJ ad7 ad8 B Wd) (hP : va_P (dC, dI) vwCl Wd H) (hD : va_D A Wd) (hS : va_S A s.heap H locs) (hl : lv_has ls 4 [(3, .int (nI i)), (2, .ref (ad8 0)), (1, .ref (ad7 0)), (0, .ref b)]) (hf : cells ≤ room_1.cells ∧ slots ≤ room_1.slots)
    (kk : ∀ (Wd : va_W) (H : Heap) (locs : List Loc), lw_I cI cJ cT cII cJJ ad7 ad8 (B + 941) Wd → va_P (dC, dI) vwCl Wd H → va_D A Wd → va_S A s.heap H locs → W p l e room_1 s m #[Value.ref b] below meth c H locs cells slots Q (F0 m 1059 ls [])) : W p l e room_1 s m #[Value.ref b] below meth c H locs cells slots Q (F0 m 297 ls []) := by
  obtain ⟨im, gn, gpa, gbr, gth, gpe, gpr, gw, gseru, gserl, gserr, gplru, gplrl, gplrr, gboru, gborl, gborr, kn, kpa, kbr, kth, kpe, kpr, kw, kseru, kserl, kserr, kplru, kplrl, kplrr, kboru, kborl, kborr, xn, xpa, xbr, xth, xpe, xpr, xw, su, tl, tc, ta, tk, tb, tp, tt, tw, ck, cc, cd, so, le, it, mN, mStep, mSeen, mPlans, mBooks, mTexted, mIsKept, mSpot, mKeeps, mMindStep, mAt, mWhat, mWhole, mIsBroken, mWorth, mHas, mOwner, mPrice, mSeenWho, mSeenWhat, mPlanWhat, mPlanN, mBookThing, mBookPrice, mWrong, mText, mImaged, mMindHas, mMindOwner, mMindPrice, mMindWrong, mMostBy, mTapeSort, mTapeSize, mMoved, mTapes, rfl, N, rfl, rfl, rfl, rfl, rfl, rfl, hM, hQ, hK, hz, hT, hC, hA⟩ := hI
  have hx := C.1
  have hb := C.2.1
  have hown := C.2.2.2.1
  have hts := C.2.2.2.2.1
  have h_1 : vp_in (nI i + 1) L := by rw [show nI i + 1 = nI (i + 1) from nI_add i 1]; exact vp_in_nI (by omega) (by omega)
  have h_2 : vp_in (nI i + 2) L := by rw [show nI i + 2 = nI (i + 2) from nI_add i 2]; exact vp_in_nI (by omega) (by omega)
  have h_3 : vp_in (nI i + 3) L := by rw [show nI i + 3 = nI (i + 3) from nI_add i 3]; exact vp_in_nI (by omega) (by omega)
  have h_4 : vp_in (nI i + 4) L := by rw [show nI i + 4 = nI (i + 4) from nI_add i 4]; exact vp_in_nI (by omega) (by omega)
  have h_5 : vp_in (nI i + 5) L := by rw [show nI i + 5 = nI (i + 5) from nI_add i 5]; exact vp_in_nI (by omega) (by omega)
  refine lv_aload_n hx hb dL_law_297 rfl (lv_at hl 2 rfl) ?_
  refine lv_aload_n hx hb dL_law_298 rfl (lv_at hl 3 rfl) ?_
  refine lv_iload_n hx hb dL_law_299 rfl (lv_at hl 0 rfl) ?_
  refine lv_iconst (v := 1) hx hb dL_law_300 (by decide) ?_
  refine lv_iadd hx hb dL_law_301 ?_
  refine va_sld hx hb hX hbl hbA hS h_1 dL_law_302 ?_
  refine lv_aload_n hx hb dL_law_303 rfl (lv_at hl 3 rfl) ?_
  refine lv_iload_n hx hb dL_law_304 rfl (lv_at hl 0 rfl) ?_
  refine lv_iconst (v := 2) hx hb dL_law_305 (by decide) ?_
  refine lv_iadd hx hb dL_law_306 ?_
  refine va_sld hx hb hX hbl hbA hS h_2 dL_law_307 ?_
  refine lv_aload_n hx hb dL_law_308 rfl (lv_at hl 3 rfl) ?_
  refine lv_iload_n hx hb dL_law_309 rfl (lv_at hl 0 rfl) ?_
  refine lv_iconst (v := 3) hx hb dL_law_310 (by decide) ?_
  refine lv_iadd hx hb dL_law_311 ?_
  refine va_sld hx hb hX hbl hbA hS h_3 dL_law_312 ?_
  refine lc_X7_of C im (nI N) gpa gbr gth gpe gpr gw gseru gserl gserr gplru gplrl gplrr gboru gborl gborr kn kpa kbr kth kpe kpr kw kseru kserl kserr kplru kplrl kplrr kboru kborl kborr xn xpa xbr xth xpe xpr xw su tl tc ta tk tb tp tt tw ck cc cd so le it (xs (nI i + 1).toNatClampNeg) (xs (nI i + 2).toNatClampNeg) (xs (nI i + 3).toNatClampNeg) (pc_of hM) hP hD hS hl.1 (Nat.le_of_ble_eq_true rfl) hf dL_law_313 (fun r7 hw => ?_)
  have hP := bw_comP hP
  have hD := bw_comD hD
  refine lv_aload_n hx hb dL_law_316 rfl (lv_at hl 1 rfl) ?_
  refine lv_aload_n hx hb dL_law_317 rfl (lv_at hl 3 rfl) ?_
  refine lv_iload_n hx hb dL_law_318 rfl (lv_at hl 0 rfl) ?_
  refine lv_iconst (v := 1) hx hb dL_law_319 (by decide) ?_
  refine lv_iadd hx hb dL_law_320 ?_
  refine va_sld hx hb hX hbl hbA hS h_1 dL_law_321 ?_
  refine lv_aload_n hx hb dL_law_322 rfl (lv_at hl 3 rfl) ?_
  refine lv_iload_n hx hb dL_law_323 rfl (lv_at hl 0 rfl) ?_
  refine lv_iconst (v := 2) hx hb dL_law_324 (by decide) ?_
  refine lv_iadd hx hb dL_law_325 ?_
  refine va_sld hx hb hX hbl hbA hS h_2 dL_law_326 ?_
  refine lv_aload_n hx hb dL_law_327 rfl (lv_at hl 3 rfl) ?_
  refine lv_iload_n hx hb dL_law_328 rfl (lv_at hl 0 rfl) ?_
  refine lv_iconst (v := 3) hx hb dL_law_329 (by decide) ?_
  refine lv_iadd hx hb dL_law_330 ?_
  refine va_sld hx hb hX hbl hbA hS h_3 dL_law_331 ?_
  refine lc_X8_of C (nI N) gpa mSeen mPlans mBooks mTexted mIsKept mSpot mKeeps mMindStep mAt mWhat mWhole mIsBroken mWorth gth gpe gpr mSeenWho mSeenWhat mPlanWhat mPlanN mBookThing mBookPrice mWrong mText mImaged mMindHas mMindOwner mMindPrice mMindWrong mMostBy mTapeSort mTapeSize mMoved mTapes (xs (nI i + 1).toNatClampNeg) (xs (nI i + 2).toNatClampNeg) (xs (nI i + 3).toNatClampNeg) hw hP hD hS hl.1 (Nat.le_of_ble_eq_true rfl) hf dL_law_332 (fun r8 hw => ?_)
  have hP := bw_comP hP
  have hD := bw_comD hD
  have e := hw
  refine W.lcmp hx hb dL_law_335 ?_
  refine lv_if_eq (tgt := 1059) hx hb dL_law_336 (by decide) (fun c1 => ?_) (fun c1 => absurd ((lg_cmp_eq _ _).mpr e.symm) c1)
  exact kk _ H locs ⟨_, _, _, _, _, _, _, _, _, _, _, _, _, _, _, _, _, _, _, _, _, _, _, _, _, _, _, _, _, _, _, _, _, _, _, _, _, _, _, _, _, _, _, _, _, _, _, _, _, _, _, _, _, _, _, _, _, _, _, _, _, _, _, _, _, _, _, _, _, _, _, _, _, _, _, _, _, _, _, _, _, _, _, _, _, _, _, _, _, _, _, rfl, pz_R_mono ⟨N, rfl, rfl, rfl, rfl, rfl, rfl, hM, hQ, hK, hz, hT, hC, hA⟩ (by omega)⟩ hP hD hS
set_option maxHeartbeats 4000000 in
set_option maxRecDepth 100000 in
theorem lw_case_person {p : Program} {l : Launch} {e : Env} {s : State} {m : MethodId} {b L : Nat} {xs : Nat → Int32} {below : List Frame} {meth : Method} {c : Code} {H : Heap} {locs : List Loc} {cells slots : Nat} {Q : State → Prop} {ls : Array Slot} {dC : Nat → ClassId} {dI : Nat → Nat → Nat} {cI cJ cT cII cJJ : ClassId} {A : Nat → Prop} {ad7 ad8 : Nat → Nat} {Wd : va_W} {B : Int} {i : Nat} (C : lw_C p s m #[Value.ref b] meth c dC dI cI cJ cT cII cJJ A) (hX : va_X b L xs s s.heap) (hbl : b < s.heap.size) (hbA : ¬ A b) (hL : L ≤ 3072) (hi : i + 6 ≤ L) (hB0 : 2000 ≤ B) (hB : B ≤ 1000000) (hI : lw_I cI cJ cT cII cJJ ad7 ad8 B Wd) (hP : va_P (dC, dI) vwCl Wd H) (hD : va_D A Wd) (hS : va_S A s.heap H locs) (hl : lv_has ls 4 [(3, .int (nI i)), (2, .ref (ad8 0)), (1, .ref (ad7 0)), (0, .ref b)]) (hf : cells ≤ room_1.cells ∧ slots ≤ room_1.slots)
    (kk : ∀ (Wd : va_W) (H : Heap) (locs : List Loc), lw_I cI cJ cT cII cJJ ad7 ad8 (B + 941) Wd → va_P (dC, dI) vwCl Wd H → va_D A Wd → va_S A s.heap H locs → W p l e room_1 s m #[Value.ref b] below meth c H locs cells slots Q (F0 m 1059 ls [])) : W p l e room_1 s m #[Value.ref b] below meth c H locs cells slots Q (F0 m 341 ls []) := by
  obtain ⟨im, gn, gpa, gbr, gth, gpe, gpr, gw, gseru, gserl, gserr, gplru, gplrl, gplrr, gboru, gborl, gborr, kn, kpa, kbr, kth, kpe, kpr, kw, kseru, kserl, kserr, kplru, kplrl, kplrr, kboru, kborl, kborr, xn, xpa, xbr, xth, xpe, xpr, xw, su, tl, tc, ta, tk, tb, tp, tt, tw, ck, cc, cd, so, le, it, mN, mStep, mSeen, mPlans, mBooks, mTexted, mIsKept, mSpot, mKeeps, mMindStep, mAt, mWhat, mWhole, mIsBroken, mWorth, mHas, mOwner, mPrice, mSeenWho, mSeenWhat, mPlanWhat, mPlanN, mBookThing, mBookPrice, mWrong, mText, mImaged, mMindHas, mMindOwner, mMindPrice, mMindWrong, mMostBy, mTapeSort, mTapeSize, mMoved, mTapes, rfl, N, rfl, rfl, rfl, rfl, rfl, rfl, hM, hQ, hK, hz, hT, hC, hA⟩ := hI
  have hx := C.1
  have hb := C.2.1
  have hown := C.2.2.2.1
  have hts := C.2.2.2.2.1
  have h_1 : vp_in (nI i + 1) L := by rw [show nI i + 1 = nI (i + 1) from nI_add i 1]; exact vp_in_nI (by omega) (by omega)
  have h_2 : vp_in (nI i + 2) L := by rw [show nI i + 2 = nI (i + 2) from nI_add i 2]; exact vp_in_nI (by omega) (by omega)
  have h_3 : vp_in (nI i + 3) L := by rw [show nI i + 3 = nI (i + 3) from nI_add i 3]; exact vp_in_nI (by omega) (by omega)
  have h_4 : vp_in (nI i + 4) L := by rw [show nI i + 4 = nI (i + 4) from nI_add i 4]; exact vp_in_nI (by omega) (by omega)
  have h_5 : vp_in (nI i + 5) L := by rw [show nI i + 5 = nI (i + 5) from nI_add i 5]; exact vp_in_nI (by omega) (by omega)
  refine lv_aload_n hx hb dL_law_341 rfl (lv_at hl 2 rfl) ?_
  refine lv_aload_n hx hb dL_law_342 rfl (lv_at hl 3 rfl) ?_
  refine lv_iload_n hx hb dL_law_343 rfl (lv_at hl 0 rfl) ?_
  refine lv_iconst (v := 1) hx hb dL_law_344 (by decide) ?_
  refine lv_iadd hx hb dL_law_345 ?_
  refine va_sld hx hb hX hbl hbA hS h_1 dL_law_346 ?_
  refine lv_aload_n hx hb dL_law_347 rfl (lv_at hl 3 rfl) ?_
  refine lv_iload_n hx hb dL_law_348 rfl (lv_at hl 0 rfl) ?_
  refine lv_iconst (v := 2) hx hb dL_law_349 (by decide) ?_
  refine lv_iadd hx hb dL_law_350 ?_
  refine va_sld hx hb hX hbl hbA hS h_2 dL_law_351 ?_
  refine lc_X7_person C im (nI N) gpa gbr gth gpe gpr gw gseru gserl gserr gplru gplrl gplrr gboru gborl gborr kn kpa kbr kth kpe kpr kw kseru kserl kserr kplru kplrl kplrr kboru kborl kborr xn xpa xbr xth xpe xpr xw su tl tc ta tk tb tp tt tw ck cc cd so le it (xs (nI i + 1).toNatClampNeg) (xs (nI i + 2).toNatClampNeg) (pc_person hM) hP hD hS hl.1 (Nat.le_of_ble_eq_true rfl) hf dL_law_352 (fun r7 hw => ?_)
  have hP := bw_comP hP
  have hD := bw_comD hD
  refine lv_aload_n hx hb dL_law_355 rfl (lv_at hl 1 rfl) ?_
  refine lv_aload_n hx hb dL_law_356 rfl (lv_at hl 3 rfl) ?_
  refine lv_iload_n hx hb dL_law_357 rfl (lv_at hl 0 rfl) ?_
  refine lv_iconst (v := 1) hx hb dL_law_358 (by decide) ?_
  refine lv_iadd hx hb dL_law_359 ?_
  refine va_sld hx hb hX hbl hbA hS h_1 dL_law_360 ?_
  refine lv_aload_n hx hb dL_law_361 rfl (lv_at hl 3 rfl) ?_
  refine lv_iload_n hx hb dL_law_362 rfl (lv_at hl 0 rfl) ?_
  refine lv_iconst (v := 2) hx hb dL_law_363 (by decide) ?_
  refine lv_iadd hx hb dL_law_364 ?_
  refine va_sld hx hb hX hbl hbA hS h_2 dL_law_365 ?_
  refine lc_X8_person C (nI N) gpa mSeen mPlans mBooks mTexted mIsKept mSpot mKeeps mMindStep mAt mWhat mWhole mIsBroken mWorth gth gpe gpr mSeenWho mSeenWhat mPlanWhat mPlanN mBookThing mBookPrice mWrong mText mImaged mMindHas mMindOwner mMindPrice mMindWrong mMostBy mTapeSort mTapeSize mMoved mTapes (xs (nI i + 1).toNatClampNeg) (xs (nI i + 2).toNatClampNeg) hw hP hD hS hl.1 (Nat.le_of_ble_eq_true rfl) hf dL_law_366 (fun r8 hw => ?_)
  have hP := bw_comP hP
  have hD := bw_comD hD
  have e := hw
  refine lv_icmp_eq (tgt := 1059) hx hb dL_law_369 (by decide) (fun c1 => ?_) (fun c1 => absurd e.symm c1)
  exact kk _ H locs ⟨_, _, _, _, _, _, _, _, _, _, _, _, _, _, _, _, _, _, _, _, _, _, _, _, _, _, _, _, _, _, _, _, _, _, _, _, _, _, _, _, _, _, _, _, _, _, _, _, _, _, _, _, _, _, _, _, _, _, _, _, _, _, _, _, _, _, _, _, _, _, _, _, _, _, _, _, _, _, _, _, _, _, _, _, _, _, _, _, _, _, _, rfl, pz_R_mono ⟨N, rfl, rfl, rfl, rfl, rfl, rfl, hM, hQ, hK, hz, hT, hC, hA⟩ (by omega)⟩ hP hD hS
set_option maxHeartbeats 4000000 in
set_option maxRecDepth 100000 in
theorem lw_case_thing {p : Program} {l : Launch} {e : Env} {s : State} {m : MethodId} {b L : Nat} {xs : Nat → Int32} {below : List Frame} {meth : Method} {c : Code} {H : Heap} {locs : List Loc} {cells slots : Nat} {Q : State → Prop} {ls : Array Slot} {dC : Nat → ClassId} {dI : Nat → Nat → Nat} {cI cJ cT cII cJJ : ClassId} {A : Nat → Prop} {ad7 ad8 : Nat → Nat} {Wd : va_W} {B : Int} {i : Nat} (C : lw_C p s m #[Value.ref b] meth c dC dI cI cJ cT cII cJJ A) (hX : va_X b L xs s s.heap) (hbl : b < s.heap.size) (hbA : ¬ A b) (hL : L ≤ 3072) (hi : i + 6 ≤ L) (hB0 : 2000 ≤ B) (hB : B ≤ 1000000) (hI : lw_I cI cJ cT cII cJJ ad7 ad8 B Wd) (hP : va_P (dC, dI) vwCl Wd H) (hD : va_D A Wd) (hS : va_S A s.heap H locs) (hl : lv_has ls 4 [(3, .int (nI i)), (2, .ref (ad8 0)), (1, .ref (ad7 0)), (0, .ref b)]) (hf : cells ≤ room_1.cells ∧ slots ≤ room_1.slots)
    (kk : ∀ (Wd : va_W) (H : Heap) (locs : List Loc), lw_I cI cJ cT cII cJJ ad7 ad8 (B + 941) Wd → va_P (dC, dI) vwCl Wd H → va_D A Wd → va_S A s.heap H locs → W p l e room_1 s m #[Value.ref b] below meth c H locs cells slots Q (F0 m 1059 ls [])) : W p l e room_1 s m #[Value.ref b] below meth c H locs cells slots Q (F0 m 374 ls []) := by
  obtain ⟨im, gn, gpa, gbr, gth, gpe, gpr, gw, gseru, gserl, gserr, gplru, gplrl, gplrr, gboru, gborl, gborr, kn, kpa, kbr, kth, kpe, kpr, kw, kseru, kserl, kserr, kplru, kplrl, kplrr, kboru, kborl, kborr, xn, xpa, xbr, xth, xpe, xpr, xw, su, tl, tc, ta, tk, tb, tp, tt, tw, ck, cc, cd, so, le, it, mN, mStep, mSeen, mPlans, mBooks, mTexted, mIsKept, mSpot, mKeeps, mMindStep, mAt, mWhat, mWhole, mIsBroken, mWorth, mHas, mOwner, mPrice, mSeenWho, mSeenWhat, mPlanWhat, mPlanN, mBookThing, mBookPrice, mWrong, mText, mImaged, mMindHas, mMindOwner, mMindPrice, mMindWrong, mMostBy, mTapeSort, mTapeSize, mMoved, mTapes, rfl, N, rfl, rfl, rfl, rfl, rfl, rfl, hM, hQ, hK, hz, hT, hC, hA⟩ := hI
  have hx := C.1
  have hb := C.2.1
  have hown := C.2.2.2.1
  have hts := C.2.2.2.2.1
  have h_1 : vp_in (nI i + 1) L := by rw [show nI i + 1 = nI (i + 1) from nI_add i 1]; exact vp_in_nI (by omega) (by omega)
  have h_2 : vp_in (nI i + 2) L := by rw [show nI i + 2 = nI (i + 2) from nI_add i 2]; exact vp_in_nI (by omega) (by omega)
  have h_3 : vp_in (nI i + 3) L := by rw [show nI i + 3 = nI (i + 3) from nI_add i 3]; exact vp_in_nI (by omega) (by omega)
  have h_4 : vp_in (nI i + 4) L := by rw [show nI i + 4 = nI (i + 4) from nI_add i 4]; exact vp_in_nI (by omega) (by omega)
  have h_5 : vp_in (nI i + 5) L := by rw [show nI i + 5 = nI (i + 5) from nI_add i 5]; exact vp_in_nI (by omega) (by omega)
  refine lv_aload_n hx hb dL_law_374 rfl (lv_at hl 2 rfl) ?_
  refine lv_aload_n hx hb dL_law_375 rfl (lv_at hl 3 rfl) ?_
  refine lv_iload_n hx hb dL_law_376 rfl (lv_at hl 0 rfl) ?_
  refine lv_iconst (v := 1) hx hb dL_law_377 (by decide) ?_
  refine lv_iadd hx hb dL_law_378 ?_
  refine va_sld hx hb hX hbl hbA hS h_1 dL_law_379 ?_
  refine lv_aload_n hx hb dL_law_380 rfl (lv_at hl 3 rfl) ?_
  refine lv_iload_n hx hb dL_law_381 rfl (lv_at hl 0 rfl) ?_
  refine lv_iconst (v := 2) hx hb dL_law_382 (by decide) ?_
  refine lv_iadd hx hb dL_law_383 ?_
  refine va_sld hx hb hX hbl hbA hS h_2 dL_law_384 ?_
  refine lc_X7_thing C im (nI N) gpa gbr gth gpe gpr gw gseru gserl gserr gplru gplrl gplrr gboru gborl gborr kn kpa kbr kth kpe kpr kw kseru kserl kserr kplru kplrl kplrr kboru kborl kborr xn xpa xbr xth xpe xpr xw su tl tc ta tk tb tp tt tw ck cc cd so le it (xs (nI i + 1).toNatClampNeg) (xs (nI i + 2).toNatClampNeg) (pc_thing hM) hP hD hS hl.1 (Nat.le_of_ble_eq_true rfl) hf dL_law_385 (fun r7 hw => ?_)
  have hP := bw_comP hP
  have hD := bw_comD hD
  refine lv_aload_n hx hb dL_law_388 rfl (lv_at hl 1 rfl) ?_
  refine lv_aload_n hx hb dL_law_389 rfl (lv_at hl 3 rfl) ?_
  refine lv_iload_n hx hb dL_law_390 rfl (lv_at hl 0 rfl) ?_
  refine lv_iconst (v := 1) hx hb dL_law_391 (by decide) ?_
  refine lv_iadd hx hb dL_law_392 ?_
  refine va_sld hx hb hX hbl hbA hS h_1 dL_law_393 ?_
  refine lv_aload_n hx hb dL_law_394 rfl (lv_at hl 3 rfl) ?_
  refine lv_iload_n hx hb dL_law_395 rfl (lv_at hl 0 rfl) ?_
  refine lv_iconst (v := 2) hx hb dL_law_396 (by decide) ?_
  refine lv_iadd hx hb dL_law_397 ?_
  refine va_sld hx hb hX hbl hbA hS h_2 dL_law_398 ?_
  refine lc_X8_thing C (nI N) gpa mSeen mPlans mBooks mTexted mIsKept mSpot mKeeps mMindStep mAt mWhat mWhole mIsBroken mWorth gth gpe gpr mSeenWho mSeenWhat mPlanWhat mPlanN mBookThing mBookPrice mWrong mText mImaged mMindHas mMindOwner mMindPrice mMindWrong mMostBy mTapeSort mTapeSize mMoved mTapes (xs (nI i + 1).toNatClampNeg) (xs (nI i + 2).toNatClampNeg) hw hP hD hS hl.1 (Nat.le_of_ble_eq_true rfl) hf dL_law_399 (fun r8 hw => ?_)
  have hP := bw_comP hP
  have hD := bw_comD hD
  have e := hw
  refine lv_icmp_eq (tgt := 1059) hx hb dL_law_402 (by decide) (fun c1 => ?_) (fun c1 => absurd e.symm c1)
  exact kk _ H locs ⟨_, _, _, _, _, _, _, _, _, _, _, _, _, _, _, _, _, _, _, _, _, _, _, _, _, _, _, _, _, _, _, _, _, _, _, _, _, _, _, _, _, _, _, _, _, _, _, _, _, _, _, _, _, _, _, _, _, _, _, _, _, _, _, _, _, _, _, _, _, _, _, _, _, _, _, _, _, _, _, _, _, _, _, _, _, _, _, _, _, _, _, rfl, pz_R_mono ⟨N, rfl, rfl, rfl, rfl, rfl, rfl, hM, hQ, hK, hz, hT, hC, hA⟩ (by omega)⟩ hP hD hS
set_option maxHeartbeats 4000000 in
set_option maxRecDepth 100000 in
theorem lw_case_bid {p : Program} {l : Launch} {e : Env} {s : State} {m : MethodId} {b L : Nat} {xs : Nat → Int32} {below : List Frame} {meth : Method} {c : Code} {H : Heap} {locs : List Loc} {cells slots : Nat} {Q : State → Prop} {ls : Array Slot} {dC : Nat → ClassId} {dI : Nat → Nat → Nat} {cI cJ cT cII cJJ : ClassId} {A : Nat → Prop} {ad7 ad8 : Nat → Nat} {Wd : va_W} {B : Int} {i : Nat} (C : lw_C p s m #[Value.ref b] meth c dC dI cI cJ cT cII cJJ A) (hX : va_X b L xs s s.heap) (hbl : b < s.heap.size) (hbA : ¬ A b) (hL : L ≤ 3072) (hi : i + 6 ≤ L) (hB0 : 2000 ≤ B) (hB : B ≤ 1000000) (hI : lw_I cI cJ cT cII cJJ ad7 ad8 B Wd) (hP : va_P (dC, dI) vwCl Wd H) (hD : va_D A Wd) (hS : va_S A s.heap H locs) (hl : lv_has ls 4 [(3, .int (nI i)), (2, .ref (ad8 0)), (1, .ref (ad7 0)), (0, .ref b)]) (hf : cells ≤ room_1.cells ∧ slots ≤ room_1.slots)
    (kk : ∀ (Wd : va_W) (H : Heap) (locs : List Loc), lw_I cI cJ cT cII cJJ ad7 ad8 (B + 941) Wd → va_P (dC, dI) vwCl Wd H → va_D A Wd → va_S A s.heap H locs → W p l e room_1 s m #[Value.ref b] below meth c H locs cells slots Q (F0 m 1059 ls [])) : W p l e room_1 s m #[Value.ref b] below meth c H locs cells slots Q (F0 m 407 ls []) := by
  obtain ⟨im, gn, gpa, gbr, gth, gpe, gpr, gw, gseru, gserl, gserr, gplru, gplrl, gplrr, gboru, gborl, gborr, kn, kpa, kbr, kth, kpe, kpr, kw, kseru, kserl, kserr, kplru, kplrl, kplrr, kboru, kborl, kborr, xn, xpa, xbr, xth, xpe, xpr, xw, su, tl, tc, ta, tk, tb, tp, tt, tw, ck, cc, cd, so, le, it, mN, mStep, mSeen, mPlans, mBooks, mTexted, mIsKept, mSpot, mKeeps, mMindStep, mAt, mWhat, mWhole, mIsBroken, mWorth, mHas, mOwner, mPrice, mSeenWho, mSeenWhat, mPlanWhat, mPlanN, mBookThing, mBookPrice, mWrong, mText, mImaged, mMindHas, mMindOwner, mMindPrice, mMindWrong, mMostBy, mTapeSort, mTapeSize, mMoved, mTapes, rfl, N, rfl, rfl, rfl, rfl, rfl, rfl, hM, hQ, hK, hz, hT, hC, hA⟩ := hI
  have hx := C.1
  have hb := C.2.1
  have hown := C.2.2.2.1
  have hts := C.2.2.2.2.1
  have h_1 : vp_in (nI i + 1) L := by rw [show nI i + 1 = nI (i + 1) from nI_add i 1]; exact vp_in_nI (by omega) (by omega)
  have h_2 : vp_in (nI i + 2) L := by rw [show nI i + 2 = nI (i + 2) from nI_add i 2]; exact vp_in_nI (by omega) (by omega)
  have h_3 : vp_in (nI i + 3) L := by rw [show nI i + 3 = nI (i + 3) from nI_add i 3]; exact vp_in_nI (by omega) (by omega)
  have h_4 : vp_in (nI i + 4) L := by rw [show nI i + 4 = nI (i + 4) from nI_add i 4]; exact vp_in_nI (by omega) (by omega)
  have h_5 : vp_in (nI i + 5) L := by rw [show nI i + 5 = nI (i + 5) from nI_add i 5]; exact vp_in_nI (by omega) (by omega)
  refine lv_aload_n hx hb dL_law_407 rfl (lv_at hl 2 rfl) ?_
  refine lc_X7_bid C im (nI N) gpa gbr gth gpe gpr gw gseru gserl gserr gplru gplrl gplrr gboru gborl gborr kn kpa kbr kth kpe kpr kw kseru kserl kserr kplru kplrl kplrr kboru kborl kborr xn xpa xbr xth xpe xpr xw su tl tc ta tk tb tp tt tw ck cc cd so le it  (pc_bid hM hB) hP hD hS hl.1 (Nat.le_of_ble_eq_true rfl) hf dL_law_408 (fun r7 gth' gpe' gpr' H locs hw hP hD hS => ?_)
  have hP := bw_comP hP
  have hD := bw_comD hD
  refine lv_aload_n hx hb dL_law_411 rfl (lv_at hl 1 rfl) ?_
  refine lc_X8_bid C (nI N) gpa mSeen mPlans mBooks mTexted mIsKept mSpot mKeeps mMindStep mAt mWhat mWhole mIsBroken mWorth gth gpe gpr mSeenWho mSeenWhat mPlanWhat mPlanN mBookThing mBookPrice mWrong mText mImaged mMindHas mMindOwner mMindPrice mMindWrong mMostBy mTapeSort mTapeSize mMoved mTapes  hw hP hD hS hl.1 (Nat.le_of_ble_eq_true rfl) hf dL_law_412 (fun r8 mHas' mOwner' mPrice' H locs hw hP hD hS => ?_)
  have hP := bw_comP hP
  have hD := bw_comD hD
  obtain ⟨e, rfl, rfl, rfl, hM2⟩ := hw
  refine lv_icmp_eq (tgt := 1059) hx hb dL_law_415 (by decide) (fun c1 => ?_) (fun c1 => absurd e.symm c1)
  exact kk _ H locs ⟨_, _, _, _, _, _, _, _, _, _, _, _, _, _, _, _, _, _, _, _, _, _, _, _, _, _, _, _, _, _, _, _, _, _, _, _, _, _, _, _, _, _, _, _, _, _, _, _, _, _, _, _, _, _, _, _, _, _, _, _, _, _, _, _, _, _, _, _, _, _, _, _, _, _, _, _, _, _, _, _, _, _, _, _, _, _, _, _, _, _, _, rfl, ⟨N, rfl, rfl, rfl, rfl, rfl, rfl, hM2, hQ, pz_RK_mono hK (by omega), hz, hT, hC, hA⟩⟩ hP hD hS
set_option maxHeartbeats 4000000 in
set_option maxRecDepth 100000 in
theorem lw_case_auction {p : Program} {l : Launch} {e : Env} {s : State} {m : MethodId} {b L : Nat} {xs : Nat → Int32} {below : List Frame} {meth : Method} {c : Code} {H : Heap} {locs : List Loc} {cells slots : Nat} {Q : State → Prop} {ls : Array Slot} {dC : Nat → ClassId} {dI : Nat → Nat → Nat} {cI cJ cT cII cJJ : ClassId} {A : Nat → Prop} {ad7 ad8 : Nat → Nat} {Wd : va_W} {B : Int} {i : Nat} (C : lw_C p s m #[Value.ref b] meth c dC dI cI cJ cT cII cJJ A) (hX : va_X b L xs s s.heap) (hbl : b < s.heap.size) (hbA : ¬ A b) (hL : L ≤ 3072) (hi : i + 6 ≤ L) (hB0 : 2000 ≤ B) (hB : B ≤ 1000000) (hI : lw_I cI cJ cT cII cJJ ad7 ad8 B Wd) (hP : va_P (dC, dI) vwCl Wd H) (hD : va_D A Wd) (hS : va_S A s.heap H locs) (hl : lv_has ls 4 [(3, .int (nI i)), (2, .ref (ad8 0)), (1, .ref (ad7 0)), (0, .ref b)]) (hf : cells ≤ room_1.cells ∧ slots ≤ room_1.slots)
    (kk : ∀ (Wd : va_W) (H : Heap) (locs : List Loc), lw_I cI cJ cT cII cJJ ad7 ad8 (B + 941) Wd → va_P (dC, dI) vwCl Wd H → va_D A Wd → va_S A s.heap H locs → W p l e room_1 s m #[Value.ref b] below meth c H locs cells slots Q (F0 m 1059 ls [])) : W p l e room_1 s m #[Value.ref b] below meth c H locs cells slots Q (F0 m 420 ls []) := by
  obtain ⟨im, gn, gpa, gbr, gth, gpe, gpr, gw, gseru, gserl, gserr, gplru, gplrl, gplrr, gboru, gborl, gborr, kn, kpa, kbr, kth, kpe, kpr, kw, kseru, kserl, kserr, kplru, kplrl, kplrr, kboru, kborl, kborr, xn, xpa, xbr, xth, xpe, xpr, xw, su, tl, tc, ta, tk, tb, tp, tt, tw, ck, cc, cd, so, le, it, mN, mStep, mSeen, mPlans, mBooks, mTexted, mIsKept, mSpot, mKeeps, mMindStep, mAt, mWhat, mWhole, mIsBroken, mWorth, mHas, mOwner, mPrice, mSeenWho, mSeenWhat, mPlanWhat, mPlanN, mBookThing, mBookPrice, mWrong, mText, mImaged, mMindHas, mMindOwner, mMindPrice, mMindWrong, mMostBy, mTapeSort, mTapeSize, mMoved, mTapes, rfl, N, rfl, rfl, rfl, rfl, rfl, rfl, hM, hQ, hK, hz, hT, hC, hA⟩ := hI
  have hx := C.1
  have hb := C.2.1
  have hown := C.2.2.2.1
  have hts := C.2.2.2.2.1
  have h_1 : vp_in (nI i + 1) L := by rw [show nI i + 1 = nI (i + 1) from nI_add i 1]; exact vp_in_nI (by omega) (by omega)
  have h_2 : vp_in (nI i + 2) L := by rw [show nI i + 2 = nI (i + 2) from nI_add i 2]; exact vp_in_nI (by omega) (by omega)
  have h_3 : vp_in (nI i + 3) L := by rw [show nI i + 3 = nI (i + 3) from nI_add i 3]; exact vp_in_nI (by omega) (by omega)
  have h_4 : vp_in (nI i + 4) L := by rw [show nI i + 4 = nI (i + 4) from nI_add i 4]; exact vp_in_nI (by omega) (by omega)
  have h_5 : vp_in (nI i + 5) L := by rw [show nI i + 5 = nI (i + 5) from nI_add i 5]; exact vp_in_nI (by omega) (by omega)
  refine lv_aload_n hx hb dL_law_420 rfl (lv_at hl 2 rfl) ?_
  refine lc_X7_auction C im (nI N) gpa gbr gth gpe gpr gw gseru gserl gserr gplru gplrl gplrr gboru gborl gborr kn kpa kbr kth kpe kpr kw kseru kserl kserr kplru kplrl kplrr kboru kborl kborr xn xpa xbr xth xpe xpr xw su tl tc ta tk tb tp tt tw ck cc cd so le it  (pc_auction hM hC hB hB0) hP hD hS hl.1 (Nat.le_of_ble_eq_true rfl) hf dL_law_421 (fun r7 gbr' gth' gpe' gpr' ck' cc' cd' H locs hw hP hD hS => ?_)
  have hP := bw_comP hP
  have hD := bw_comD hD
  refine lv_aload_n hx hb dL_law_424 rfl (lv_at hl 1 rfl) ?_
  refine lc_X8_auction C (nI N) gpa mSeen mPlans mBooks mTexted mIsKept mSpot mKeeps mMindStep mAt mWhat mWhole mIsBroken mWorth gth gpe gpr mSeenWho mSeenWhat mPlanWhat mPlanN mBookThing mBookPrice mWrong mText mImaged mMindHas mMindOwner mMindPrice mMindWrong mMostBy mTapeSort mTapeSize mMoved mTapes  hw hP hD hS hl.1 (Nat.le_of_ble_eq_true rfl) hf dL_law_425 (fun r8 mIsBroken' mHas' mOwner' mPrice' mWrong' H locs hw hP hD hS => ?_)
  have hP := bw_comP hP
  have hD := bw_comD hD
  obtain ⟨e, rfl, rfl, rfl, hC2, hM2⟩ := hw
  refine lv_icmp_eq (tgt := 1059) hx hb dL_law_428 (by decide) (fun c1 => ?_) (fun c1 => absurd e.symm c1)
  exact kk _ H locs ⟨_, _, _, _, _, _, _, _, _, _, _, _, _, _, _, _, _, _, _, _, _, _, _, _, _, _, _, _, _, _, _, _, _, _, _, _, _, _, _, _, _, _, _, _, _, _, _, _, _, _, _, _, _, _, _, _, _, _, _, _, _, _, _, _, _, _, _, _, _, _, _, _, _, _, _, _, _, _, _, _, _, _, _, _, _, _, _, _, _, _, _, rfl, ⟨N, rfl, rfl, rfl, rfl, rfl, rfl, hM2, hQ, pz_RK_mono hK (by omega), hz, hT, hC2, hA⟩⟩ hP hD hS
set_option maxHeartbeats 4000000 in
set_option maxRecDepth 100000 in
theorem lw_case_scaled {p : Program} {l : Launch} {e : Env} {s : State} {m : MethodId} {b L : Nat} {xs : Nat → Int32} {below : List Frame} {meth : Method} {c : Code} {H : Heap} {locs : List Loc} {cells slots : Nat} {Q : State → Prop} {ls : Array Slot} {dC : Nat → ClassId} {dI : Nat → Nat → Nat} {cI cJ cT cII cJJ : ClassId} {A : Nat → Prop} {ad7 ad8 : Nat → Nat} {Wd : va_W} {B : Int} {i : Nat} (C : lw_C p s m #[Value.ref b] meth c dC dI cI cJ cT cII cJJ A) {sc : Nat} (hSC : bw_SC sc A s s.heap) (hX : va_X b L xs s s.heap) (hbl : b < s.heap.size) (hbA : ¬ A b) (hL : L ≤ 3072) (hi : i + 6 ≤ L) (hB0 : 2000 ≤ B) (hB : B ≤ 1000000) (hI : lw_I cI cJ cT cII cJJ ad7 ad8 B Wd) (hP : va_P (dC, dI) vwCl Wd H) (hD : va_D A Wd) (hS : va_S A s.heap H locs) (hl : lv_has ls 4 [(3, .int (nI i)), (2, .ref (ad8 0)), (1, .ref (ad7 0)), (0, .ref b)]) (hf : cells ≤ room_1.cells ∧ slots ≤ room_1.slots)
    (kk : ∀ (Wd : va_W) (H : Heap) (locs : List Loc), lw_I cI cJ cT cII cJJ ad7 ad8 (B + 941) Wd → va_P (dC, dI) vwCl Wd H → va_D A Wd → va_S A s.heap H locs → W p l e room_1 s m #[Value.ref b] below meth c H locs cells slots Q (F0 m 1059 ls [])) : W p l e room_1 s m #[Value.ref b] below meth c H locs cells slots Q (F0 m 433 ls []) := by
  obtain ⟨im, gn, gpa, gbr, gth, gpe, gpr, gw, gseru, gserl, gserr, gplru, gplrl, gplrr, gboru, gborl, gborr, kn, kpa, kbr, kth, kpe, kpr, kw, kseru, kserl, kserr, kplru, kplrl, kplrr, kboru, kborl, kborr, xn, xpa, xbr, xth, xpe, xpr, xw, su, tl, tc, ta, tk, tb, tp, tt, tw, ck, cc, cd, so, le, it, mN, mStep, mSeen, mPlans, mBooks, mTexted, mIsKept, mSpot, mKeeps, mMindStep, mAt, mWhat, mWhole, mIsBroken, mWorth, mHas, mOwner, mPrice, mSeenWho, mSeenWhat, mPlanWhat, mPlanN, mBookThing, mBookPrice, mWrong, mText, mImaged, mMindHas, mMindOwner, mMindPrice, mMindWrong, mMostBy, mTapeSort, mTapeSize, mMoved, mTapes, rfl, N, rfl, rfl, rfl, rfl, rfl, rfl, hM, hQ, hK, hz, hT, hC, hA⟩ := hI
  have hx := C.1
  have hb := C.2.1
  have hown := C.2.2.2.1
  have hts := C.2.2.2.2.1
  have h_1 : vp_in (nI i + 1) L := by rw [show nI i + 1 = nI (i + 1) from nI_add i 1]; exact vp_in_nI (by omega) (by omega)
  have h_2 : vp_in (nI i + 2) L := by rw [show nI i + 2 = nI (i + 2) from nI_add i 2]; exact vp_in_nI (by omega) (by omega)
  have h_3 : vp_in (nI i + 3) L := by rw [show nI i + 3 = nI (i + 3) from nI_add i 3]; exact vp_in_nI (by omega) (by omega)
  have h_4 : vp_in (nI i + 4) L := by rw [show nI i + 4 = nI (i + 4) from nI_add i 4]; exact vp_in_nI (by omega) (by omega)
  have h_5 : vp_in (nI i + 5) L := by rw [show nI i + 5 = nI (i + 5) from nI_add i 5]; exact vp_in_nI (by omega) (by omega)
  refine lv_aload_n hx hb dL_law_433 rfl (lv_at hl 2 rfl) ?_
  refine lc_X7_scaled C hSC im (nI N) gpa gbr gth gpe gpr gw gseru gserl gserr gplru gplrl gplrr gboru gborl gborr kn kpa kbr kth kpe kpr kw kseru kserl kserr kplru kplrl kplrr kboru kborl kborr xn xpa xbr xth xpe xpr xw su tl tc ta tk tb tp tt tw ck cc cd so le it  (pc_scaled hM hC hB hB0) hP hD hS hl.1 (Nat.le_of_ble_eq_true rfl) hf dL_law_434 (fun r7 gpa' gbr' gth' gpe' gpr' ck' cc' cd' H locs hw hP hD hS => ?_)
  have hP := bw_comP hP
  have hD := bw_comD hD
  refine lv_aload_n hx hb dL_law_437 rfl (lv_at hl 1 rfl) ?_
  refine lc_X8_scaled C (nI N) gpa mSeen mPlans mBooks mTexted mIsKept mSpot mKeeps mMindStep mAt mWhat mWhole mIsBroken mWorth gth gpe gpr mSeenWho mSeenWhat mPlanWhat mPlanN mBookThing mBookPrice mWrong mText mImaged mMindHas mMindOwner mMindPrice mMindWrong mMostBy mTapeSort mTapeSize mMoved mTapes  hw hP hD hS hl.1 (Nat.le_of_ble_eq_true rfl) hf dL_law_438 (fun r8 mStep' mIsBroken' mHas' mOwner' mPrice' mWrong' H locs hw hP hD hS => ?_)
  have hP := bw_comP hP
  have hD := bw_comD hD
  obtain ⟨e, rfl, rfl, rfl, rfl, rfl, hC2, hM2⟩ := hw
  refine lv_icmp_eq (tgt := 1059) hx hb dL_law_441 (by decide) (fun c1 => ?_) (fun c1 => absurd e.symm c1)
  exact kk _ H locs ⟨_, _, _, _, _, _, _, _, _, _, _, _, _, _, _, _, _, _, _, _, _, _, _, _, _, _, _, _, _, _, _, _, _, _, _, _, _, _, _, _, _, _, _, _, _, _, _, _, _, _, _, _, _, _, _, _, _, _, _, _, _, _, _, _, _, _, _, _, _, _, _, _, _, _, _, _, _, _, _, _, _, _, _, _, _, _, _, _, _, _, _, rfl, ⟨N, rfl, rfl, rfl, rfl, rfl, rfl, hM2, hQ, pz_RK_mono hK (by omega), hz, hT, hC2, hA⟩⟩ hP hD hS
set_option maxHeartbeats 4000000 in
set_option maxRecDepth 100000 in
theorem lw_case_fresh {p : Program} {l : Launch} {e : Env} {s : State} {m : MethodId} {b L : Nat} {xs : Nat → Int32} {below : List Frame} {meth : Method} {c : Code} {H : Heap} {locs : List Loc} {cells slots : Nat} {Q : State → Prop} {ls : Array Slot} {dC : Nat → ClassId} {dI : Nat → Nat → Nat} {cI cJ cT cII cJJ : ClassId} {A : Nat → Prop} {ad7 ad8 : Nat → Nat} {Wd : va_W} {B : Int} {i : Nat} (C : lw_C p s m #[Value.ref b] meth c dC dI cI cJ cT cII cJJ A) (hX : va_X b L xs s s.heap) (hbl : b < s.heap.size) (hbA : ¬ A b) (hL : L ≤ 3072) (hi : i + 6 ≤ L) (hB0 : 2000 ≤ B) (hB : B ≤ 1000000) (hI : lw_I cI cJ cT cII cJJ ad7 ad8 B Wd) (hP : va_P (dC, dI) vwCl Wd H) (hD : va_D A Wd) (hS : va_S A s.heap H locs) (hl : lv_has ls 4 [(3, .int (nI i)), (2, .ref (ad8 0)), (1, .ref (ad7 0)), (0, .ref b)]) (hf : cells ≤ room_1.cells ∧ slots ≤ room_1.slots)
    (kk : ∀ (Wd : va_W) (H : Heap) (locs : List Loc), lw_I cI cJ cT cII cJJ ad7 ad8 (B + 941) Wd → va_P (dC, dI) vwCl Wd H → va_D A Wd → va_S A s.heap H locs → W p l e room_1 s m #[Value.ref b] below meth c H locs cells slots Q (F0 m 1059 ls [])) : W p l e room_1 s m #[Value.ref b] below meth c H locs cells slots Q (F0 m 446 ls []) := by
  obtain ⟨im, gn, gpa, gbr, gth, gpe, gpr, gw, gseru, gserl, gserr, gplru, gplrl, gplrr, gboru, gborl, gborr, kn, kpa, kbr, kth, kpe, kpr, kw, kseru, kserl, kserr, kplru, kplrl, kplrr, kboru, kborl, kborr, xn, xpa, xbr, xth, xpe, xpr, xw, su, tl, tc, ta, tk, tb, tp, tt, tw, ck, cc, cd, so, le, it, mN, mStep, mSeen, mPlans, mBooks, mTexted, mIsKept, mSpot, mKeeps, mMindStep, mAt, mWhat, mWhole, mIsBroken, mWorth, mHas, mOwner, mPrice, mSeenWho, mSeenWhat, mPlanWhat, mPlanN, mBookThing, mBookPrice, mWrong, mText, mImaged, mMindHas, mMindOwner, mMindPrice, mMindWrong, mMostBy, mTapeSort, mTapeSize, mMoved, mTapes, rfl, N, rfl, rfl, rfl, rfl, rfl, rfl, hM, hQ, hK, hz, hT, hC, hA⟩ := hI
  have hx := C.1
  have hb := C.2.1
  have hown := C.2.2.2.1
  have hts := C.2.2.2.2.1
  have h_1 : vp_in (nI i + 1) L := by rw [show nI i + 1 = nI (i + 1) from nI_add i 1]; exact vp_in_nI (by omega) (by omega)
  have h_2 : vp_in (nI i + 2) L := by rw [show nI i + 2 = nI (i + 2) from nI_add i 2]; exact vp_in_nI (by omega) (by omega)
  have h_3 : vp_in (nI i + 3) L := by rw [show nI i + 3 = nI (i + 3) from nI_add i 3]; exact vp_in_nI (by omega) (by omega)
  have h_4 : vp_in (nI i + 4) L := by rw [show nI i + 4 = nI (i + 4) from nI_add i 4]; exact vp_in_nI (by omega) (by omega)
  have h_5 : vp_in (nI i + 5) L := by rw [show nI i + 5 = nI (i + 5) from nI_add i 5]; exact vp_in_nI (by omega) (by omega)
  refine lv_aload_n hx hb dL_law_446 rfl (lv_at hl 2 rfl) ?_
  refine lc_X7_fresh C im (nI N) gpa gbr gth gpe gpr gw gseru gserl gserr gplru gplrl gplrr gboru gborl gborr kn kpa kbr kth kpe kpr kw kseru kserl kserr kplru kplrl kplrr kboru kborl kborr xn xpa xbr xth xpe xpr xw su tl tc ta tk tb tp tt tw ck cc cd so le it  (pc_fresh hM (by omega)) hP hD hS hl.1 (Nat.le_of_ble_eq_true rfl) hf dL_law_447 (fun r7 gth' gpe' gpr' H locs hw hP hD hS => ?_)
  have hP := bw_comP hP
  have hD := bw_comD hD
  refine lv_aload_n hx hb dL_law_450 rfl (lv_at hl 1 rfl) ?_
  refine lc_X8_fresh C (nI N) gpa mSeen mPlans mBooks mTexted mIsKept mSpot mKeeps mMindStep mAt mWhat mWhole mIsBroken mWorth gth gpe gpr mSeenWho mSeenWhat mPlanWhat mPlanN mBookThing mBookPrice mWrong mText mImaged mMindHas mMindOwner mMindPrice mMindWrong mMostBy mTapeSort mTapeSize mMoved mTapes  hw hP hD hS hl.1 (Nat.le_of_ble_eq_true rfl) hf dL_law_451 (fun r8 mHas' mOwner' mPrice' H locs hw hP hD hS => ?_)
  have hP := bw_comP hP
  have hD := bw_comD hD
  obtain ⟨e, rfl, rfl, rfl, hM2⟩ := hw
  refine lv_icmp_eq (tgt := 1059) hx hb dL_law_454 (by decide) (fun c1 => ?_) (fun c1 => absurd e.symm c1)
  exact kk _ H locs ⟨_, _, _, _, _, _, _, _, _, _, _, _, _, _, _, _, _, _, _, _, _, _, _, _, _, _, _, _, _, _, _, _, _, _, _, _, _, _, _, _, _, _, _, _, _, _, _, _, _, _, _, _, _, _, _, _, _, _, _, _, _, _, _, _, _, _, _, _, _, _, _, _, _, _, _, _, _, _, _, _, _, _, _, _, _, _, _, _, _, _, _, rfl, pz_R_mono ⟨N, rfl, rfl, rfl, rfl, rfl, rfl, hM2, hQ, hK, hz, hT, hC, hA⟩ (by omega)⟩ hP hD hS
set_option maxHeartbeats 4000000 in
set_option maxRecDepth 100000 in
theorem lw_case_leave {p : Program} {l : Launch} {e : Env} {s : State} {m : MethodId} {b L : Nat} {xs : Nat → Int32} {below : List Frame} {meth : Method} {c : Code} {H : Heap} {locs : List Loc} {cells slots : Nat} {Q : State → Prop} {ls : Array Slot} {dC : Nat → ClassId} {dI : Nat → Nat → Nat} {cI cJ cT cII cJJ : ClassId} {A : Nat → Prop} {ad7 ad8 : Nat → Nat} {Wd : va_W} {B : Int} {i : Nat} (C : lw_C p s m #[Value.ref b] meth c dC dI cI cJ cT cII cJJ A) (hX : va_X b L xs s s.heap) (hbl : b < s.heap.size) (hbA : ¬ A b) (hL : L ≤ 3072) (hi : i + 6 ≤ L) (hB0 : 2000 ≤ B) (hB : B ≤ 1000000) (hI : lw_I cI cJ cT cII cJJ ad7 ad8 B Wd) (hP : va_P (dC, dI) vwCl Wd H) (hD : va_D A Wd) (hS : va_S A s.heap H locs) (hl : lv_has ls 4 [(3, .int (nI i)), (2, .ref (ad8 0)), (1, .ref (ad7 0)), (0, .ref b)]) (hf : cells ≤ room_1.cells ∧ slots ≤ room_1.slots)
    (kk : ∀ (Wd : va_W) (H : Heap) (locs : List Loc), lw_I cI cJ cT cII cJJ ad7 ad8 (B + 941) Wd → va_P (dC, dI) vwCl Wd H → va_D A Wd → va_S A s.heap H locs → W p l e room_1 s m #[Value.ref b] below meth c H locs cells slots Q (F0 m 1059 ls [])) : W p l e room_1 s m #[Value.ref b] below meth c H locs cells slots Q (F0 m 459 ls []) := by
  obtain ⟨im, gn, gpa, gbr, gth, gpe, gpr, gw, gseru, gserl, gserr, gplru, gplrl, gplrr, gboru, gborl, gborr, kn, kpa, kbr, kth, kpe, kpr, kw, kseru, kserl, kserr, kplru, kplrl, kplrr, kboru, kborl, kborr, xn, xpa, xbr, xth, xpe, xpr, xw, su, tl, tc, ta, tk, tb, tp, tt, tw, ck, cc, cd, so, le, it, mN, mStep, mSeen, mPlans, mBooks, mTexted, mIsKept, mSpot, mKeeps, mMindStep, mAt, mWhat, mWhole, mIsBroken, mWorth, mHas, mOwner, mPrice, mSeenWho, mSeenWhat, mPlanWhat, mPlanN, mBookThing, mBookPrice, mWrong, mText, mImaged, mMindHas, mMindOwner, mMindPrice, mMindWrong, mMostBy, mTapeSort, mTapeSize, mMoved, mTapes, rfl, N, rfl, rfl, rfl, rfl, rfl, rfl, hM, hQ, hK, hz, hT, hC, hA⟩ := hI
  have hx := C.1
  have hb := C.2.1
  have hown := C.2.2.2.1
  have hts := C.2.2.2.2.1
  have h_1 : vp_in (nI i + 1) L := by rw [show nI i + 1 = nI (i + 1) from nI_add i 1]; exact vp_in_nI (by omega) (by omega)
  have h_2 : vp_in (nI i + 2) L := by rw [show nI i + 2 = nI (i + 2) from nI_add i 2]; exact vp_in_nI (by omega) (by omega)
  have h_3 : vp_in (nI i + 3) L := by rw [show nI i + 3 = nI (i + 3) from nI_add i 3]; exact vp_in_nI (by omega) (by omega)
  have h_4 : vp_in (nI i + 4) L := by rw [show nI i + 4 = nI (i + 4) from nI_add i 4]; exact vp_in_nI (by omega) (by omega)
  have h_5 : vp_in (nI i + 5) L := by rw [show nI i + 5 = nI (i + 5) from nI_add i 5]; exact vp_in_nI (by omega) (by omega)
  refine lv_aload_n hx hb dL_law_459 rfl (lv_at hl 2 rfl) ?_
  refine lv_aload_n hx hb dL_law_460 rfl (lv_at hl 3 rfl) ?_
  refine lv_iload_n hx hb dL_law_461 rfl (lv_at hl 0 rfl) ?_
  refine lv_iconst (v := 1) hx hb dL_law_462 (by decide) ?_
  refine lv_iadd hx hb dL_law_463 ?_
  refine va_sld hx hb hX hbl hbA hS h_1 dL_law_464 ?_
  refine lc_X7_leave C im (nI N) gpa gbr gth gpe gpr gw gseru gserl gserr gplru gplrl gplrr gboru gborl gborr kn kpa kbr kth kpe kpr kw kseru kserl kserr kplru kplrl kplrr kboru kborl kborr xn xpa xbr xth xpe xpr xw su tl tc ta tk tb tp tt tw ck cc cd so le it (xs (nI i + 1).toNatClampNeg) (pc_leave hM) hP hD hS hl.1 (Nat.le_of_ble_eq_true rfl) hf dL_law_465 (fun r7 gth' gpe' H locs hw hP hD hS => ?_)
  have hP := bw_comP hP
  have hD := bw_comD hD
  refine lv_aload_n hx hb dL_law_468 rfl (lv_at hl 1 rfl) ?_
  refine lv_aload_n hx hb dL_law_469 rfl (lv_at hl 3 rfl) ?_
  refine lv_iload_n hx hb dL_law_470 rfl (lv_at hl 0 rfl) ?_
  refine lv_iconst (v := 1) hx hb dL_law_471 (by decide) ?_
  refine lv_iadd hx hb dL_law_472 ?_
  refine va_sld hx hb hX hbl hbA hS h_1 dL_law_473 ?_
  refine lc_X8_leave C (nI N) gpa mSeen mPlans mBooks mTexted mIsKept mSpot mKeeps mMindStep mAt mWhat mWhole mIsBroken mWorth gth gpe gpr mSeenWho mSeenWhat mPlanWhat mPlanN mBookThing mBookPrice mWrong mText mImaged mMindHas mMindOwner mMindPrice mMindWrong mMostBy mTapeSort mTapeSize mMoved mTapes (xs (nI i + 1).toNatClampNeg) hw hP hD hS hl.1 (Nat.le_of_ble_eq_true rfl) hf dL_law_474 (fun r8 mHas' mOwner' H locs hw hP hD hS => ?_)
  have hP := bw_comP hP
  have hD := bw_comD hD
  obtain ⟨e, rfl, rfl, hM2⟩ := hw
  refine lv_icmp_eq (tgt := 1059) hx hb dL_law_477 (by decide) (fun c1 => ?_) (fun c1 => absurd e.symm c1)
  exact kk _ H locs ⟨_, _, _, _, _, _, _, _, _, _, _, _, _, _, _, _, _, _, _, _, _, _, _, _, _, _, _, _, _, _, _, _, _, _, _, _, _, _, _, _, _, _, _, _, _, _, _, _, _, _, _, _, _, _, _, _, _, _, _, _, _, _, _, _, _, _, _, _, _, _, _, _, _, _, _, _, _, _, _, _, _, _, _, _, _, _, _, _, _, _, _, rfl, pz_R_mono ⟨N, rfl, rfl, rfl, rfl, rfl, rfl, hM2, hQ, hK, hz, hT, hC, hA⟩ (by omega)⟩ hP hD hS
set_option maxHeartbeats 4000000 in
set_option maxRecDepth 100000 in
theorem lw_case_told {p : Program} {l : Launch} {e : Env} {s : State} {m : MethodId} {b L : Nat} {xs : Nat → Int32} {below : List Frame} {meth : Method} {c : Code} {H : Heap} {locs : List Loc} {cells slots : Nat} {Q : State → Prop} {ls : Array Slot} {dC : Nat → ClassId} {dI : Nat → Nat → Nat} {cI cJ cT cII cJJ : ClassId} {A : Nat → Prop} {ad7 ad8 : Nat → Nat} {Wd : va_W} {B : Int} {i : Nat} (C : lw_C p s m #[Value.ref b] meth c dC dI cI cJ cT cII cJJ A) (hX : va_X b L xs s s.heap) (hbl : b < s.heap.size) (hbA : ¬ A b) (hL : L ≤ 3072) (hi : i + 6 ≤ L) (hB0 : 2000 ≤ B) (hB : B ≤ 1000000) (hI : lw_I cI cJ cT cII cJJ ad7 ad8 B Wd) (hP : va_P (dC, dI) vwCl Wd H) (hD : va_D A Wd) (hS : va_S A s.heap H locs) (hl : lv_has ls 4 [(3, .int (nI i)), (2, .ref (ad8 0)), (1, .ref (ad7 0)), (0, .ref b)]) (hf : cells ≤ room_1.cells ∧ slots ≤ room_1.slots)
    (kk : ∀ (Wd : va_W) (H : Heap) (locs : List Loc), lw_I cI cJ cT cII cJJ ad7 ad8 (B + 941) Wd → va_P (dC, dI) vwCl Wd H → va_D A Wd → va_S A s.heap H locs → W p l e room_1 s m #[Value.ref b] below meth c H locs cells slots Q (F0 m 1059 ls [])) : W p l e room_1 s m #[Value.ref b] below meth c H locs cells slots Q (F0 m 482 ls []) := by
  obtain ⟨im, gn, gpa, gbr, gth, gpe, gpr, gw, gseru, gserl, gserr, gplru, gplrl, gplrr, gboru, gborl, gborr, kn, kpa, kbr, kth, kpe, kpr, kw, kseru, kserl, kserr, kplru, kplrl, kplrr, kboru, kborl, kborr, xn, xpa, xbr, xth, xpe, xpr, xw, su, tl, tc, ta, tk, tb, tp, tt, tw, ck, cc, cd, so, le, it, mN, mStep, mSeen, mPlans, mBooks, mTexted, mIsKept, mSpot, mKeeps, mMindStep, mAt, mWhat, mWhole, mIsBroken, mWorth, mHas, mOwner, mPrice, mSeenWho, mSeenWhat, mPlanWhat, mPlanN, mBookThing, mBookPrice, mWrong, mText, mImaged, mMindHas, mMindOwner, mMindPrice, mMindWrong, mMostBy, mTapeSort, mTapeSize, mMoved, mTapes, rfl, N, rfl, rfl, rfl, rfl, rfl, rfl, hM, hQ, hK, hz, hT, hC, hA⟩ := hI
  have hx := C.1
  have hb := C.2.1
  have hown := C.2.2.2.1
  have hts := C.2.2.2.2.1
  have h_1 : vp_in (nI i + 1) L := by rw [show nI i + 1 = nI (i + 1) from nI_add i 1]; exact vp_in_nI (by omega) (by omega)
  have h_2 : vp_in (nI i + 2) L := by rw [show nI i + 2 = nI (i + 2) from nI_add i 2]; exact vp_in_nI (by omega) (by omega)
  have h_3 : vp_in (nI i + 3) L := by rw [show nI i + 3 = nI (i + 3) from nI_add i 3]; exact vp_in_nI (by omega) (by omega)
  have h_4 : vp_in (nI i + 4) L := by rw [show nI i + 4 = nI (i + 4) from nI_add i 4]; exact vp_in_nI (by omega) (by omega)
  have h_5 : vp_in (nI i + 5) L := by rw [show nI i + 5 = nI (i + 5) from nI_add i 5]; exact vp_in_nI (by omega) (by omega)
  refine lv_aload_n hx hb dL_law_482 rfl (lv_at hl 2 rfl) ?_
  refine lv_aload_n hx hb dL_law_483 rfl (lv_at hl 3 rfl) ?_
  refine lv_iload_n hx hb dL_law_484 rfl (lv_at hl 0 rfl) ?_
  refine lv_iconst (v := 1) hx hb dL_law_485 (by decide) ?_
  refine lv_iadd hx hb dL_law_486 ?_
  refine va_sld hx hb hX hbl hbA hS h_1 dL_law_487 ?_
  refine lc_X7_told C im (nI N) gpa gbr gth gpe gpr gw gseru gserl gserr gplru gplrl gplrr gboru gborl gborr kn kpa kbr kth kpe kpr kw kseru kserl kserr kplru kplrl kplrr kboru kborl kborr xn xpa xbr xth xpe xpr xw su tl tc ta tk tb tp tt tw ck cc cd so le it (xs (nI i + 1).toNatClampNeg) (pc_told hM) hP hD hS hl.1 (Nat.le_of_ble_eq_true rfl) hf dL_law_488 (fun r7 su' H locs hw hP hD hS => ?_)
  have hP := bw_comP hP
  have hD := bw_comD hD
  refine lv_aload_n hx hb dL_law_491 rfl (lv_at hl 1 rfl) ?_
  refine lv_aload_n hx hb dL_law_492 rfl (lv_at hl 3 rfl) ?_
  refine lv_iload_n hx hb dL_law_493 rfl (lv_at hl 0 rfl) ?_
  refine lv_iconst (v := 1) hx hb dL_law_494 (by decide) ?_
  refine lv_iadd hx hb dL_law_495 ?_
  refine va_sld hx hb hX hbl hbA hS h_1 dL_law_496 ?_
  refine lc_X8_told C (nI N) gpa mSeen mPlans mBooks mTexted mIsKept mSpot mKeeps mMindStep mAt mWhat mWhole mIsBroken mWorth gth gpe gpr mSeenWho mSeenWhat mPlanWhat mPlanN mBookThing mBookPrice mWrong mText mImaged mMindHas mMindOwner mMindPrice mMindWrong mMostBy mTapeSort mTapeSize mMoved mTapes (xs (nI i + 1).toNatClampNeg) hw hP hD hS hl.1 (Nat.le_of_ble_eq_true rfl) hf dL_law_497 (fun r8 mMostBy' H locs hw hP hD hS => ?_)
  have hP := bw_comP hP
  have hD := bw_comD hD
  have e := hw
  refine lv_icmp_eq (tgt := 1059) hx hb dL_law_500 (by decide) (fun c1 => ?_) (fun c1 => absurd e.symm c1)
  exact kk _ H locs ⟨_, _, _, _, _, _, _, _, _, _, _, _, _, _, _, _, _, _, _, _, _, _, _, _, _, _, _, _, _, _, _, _, _, _, _, _, _, _, _, _, _, _, _, _, _, _, _, _, _, _, _, _, _, _, _, _, _, _, _, _, _, _, _, _, _, _, _, _, _, _, _, _, _, _, _, _, _, _, _, _, _, _, _, _, _, _, _, _, _, _, _, rfl, pz_R_mono ⟨N, rfl, rfl, rfl, rfl, rfl, rfl, hM, hQ, hK, hz, hT, hC, hA⟩ (by omega)⟩ hP hD hS
set_option maxHeartbeats 4000000 in
set_option maxRecDepth 100000 in
theorem lw_case_wrong {p : Program} {l : Launch} {e : Env} {s : State} {m : MethodId} {b L : Nat} {xs : Nat → Int32} {below : List Frame} {meth : Method} {c : Code} {H : Heap} {locs : List Loc} {cells slots : Nat} {Q : State → Prop} {ls : Array Slot} {dC : Nat → ClassId} {dI : Nat → Nat → Nat} {cI cJ cT cII cJJ : ClassId} {A : Nat → Prop} {ad7 ad8 : Nat → Nat} {Wd : va_W} {B : Int} {i : Nat} (C : lw_C p s m #[Value.ref b] meth c dC dI cI cJ cT cII cJJ A) (hX : va_X b L xs s s.heap) (hbl : b < s.heap.size) (hbA : ¬ A b) (hL : L ≤ 3072) (hi : i + 6 ≤ L) (hB0 : 2000 ≤ B) (hB : B ≤ 1000000) (hI : lw_I cI cJ cT cII cJJ ad7 ad8 B Wd) (hP : va_P (dC, dI) vwCl Wd H) (hD : va_D A Wd) (hS : va_S A s.heap H locs) (hl : lv_has ls 4 [(3, .int (nI i)), (2, .ref (ad8 0)), (1, .ref (ad7 0)), (0, .ref b)]) (hf : cells ≤ room_1.cells ∧ slots ≤ room_1.slots)
    (kk : ∀ (Wd : va_W) (H : Heap) (locs : List Loc), lw_I cI cJ cT cII cJJ ad7 ad8 (B + 941) Wd → va_P (dC, dI) vwCl Wd H → va_D A Wd → va_S A s.heap H locs → W p l e room_1 s m #[Value.ref b] below meth c H locs cells slots Q (F0 m 1059 ls [])) : W p l e room_1 s m #[Value.ref b] below meth c H locs cells slots Q (F0 m 505 ls []) := by
  obtain ⟨im, gn, gpa, gbr, gth, gpe, gpr, gw, gseru, gserl, gserr, gplru, gplrl, gplrr, gboru, gborl, gborr, kn, kpa, kbr, kth, kpe, kpr, kw, kseru, kserl, kserr, kplru, kplrl, kplrr, kboru, kborl, kborr, xn, xpa, xbr, xth, xpe, xpr, xw, su, tl, tc, ta, tk, tb, tp, tt, tw, ck, cc, cd, so, le, it, mN, mStep, mSeen, mPlans, mBooks, mTexted, mIsKept, mSpot, mKeeps, mMindStep, mAt, mWhat, mWhole, mIsBroken, mWorth, mHas, mOwner, mPrice, mSeenWho, mSeenWhat, mPlanWhat, mPlanN, mBookThing, mBookPrice, mWrong, mText, mImaged, mMindHas, mMindOwner, mMindPrice, mMindWrong, mMostBy, mTapeSort, mTapeSize, mMoved, mTapes, rfl, N, rfl, rfl, rfl, rfl, rfl, rfl, hM, hQ, hK, hz, hT, hC, hA⟩ := hI
  have hx := C.1
  have hb := C.2.1
  have hown := C.2.2.2.1
  have hts := C.2.2.2.2.1
  have h_1 : vp_in (nI i + 1) L := by rw [show nI i + 1 = nI (i + 1) from nI_add i 1]; exact vp_in_nI (by omega) (by omega)
  have h_2 : vp_in (nI i + 2) L := by rw [show nI i + 2 = nI (i + 2) from nI_add i 2]; exact vp_in_nI (by omega) (by omega)
  have h_3 : vp_in (nI i + 3) L := by rw [show nI i + 3 = nI (i + 3) from nI_add i 3]; exact vp_in_nI (by omega) (by omega)
  have h_4 : vp_in (nI i + 4) L := by rw [show nI i + 4 = nI (i + 4) from nI_add i 4]; exact vp_in_nI (by omega) (by omega)
  have h_5 : vp_in (nI i + 5) L := by rw [show nI i + 5 = nI (i + 5) from nI_add i 5]; exact vp_in_nI (by omega) (by omega)
  refine lv_aload_n hx hb dL_law_505 rfl (lv_at hl 2 rfl) ?_
  refine lv_aload_n hx hb dL_law_506 rfl (lv_at hl 3 rfl) ?_
  refine lv_iload_n hx hb dL_law_507 rfl (lv_at hl 0 rfl) ?_
  refine lv_iconst (v := 1) hx hb dL_law_508 (by decide) ?_
  refine lv_iadd hx hb dL_law_509 ?_
  refine va_sld hx hb hX hbl hbA hS h_1 dL_law_510 ?_
  refine lc_X7_wrong C im (nI N) gpa gbr gth gpe gpr gw gseru gserl gserr gplru gplrl gplrr gboru gborl gborr kn kpa kbr kth kpe kpr kw kseru kserl kserr kplru kplrl kplrr kboru kborl kborr xn xpa xbr xth xpe xpr xw su tl tc ta tk tb tp tt tw ck cc cd so le it (xs (nI i + 1).toNatClampNeg) (pc_wrong hC) hP hD hS hl.1 (Nat.le_of_ble_eq_true rfl) hf dL_law_511 (fun r7 hw => ?_)
  have hP := bw_comP hP
  have hD := bw_comD hD
  refine lv_aload_n hx hb dL_law_514 rfl (lv_at hl 1 rfl) ?_
  refine lv_aload_n hx hb dL_law_515 rfl (lv_at hl 3 rfl) ?_
  refine lv_iload_n hx hb dL_law_516 rfl (lv_at hl 0 rfl) ?_
  refine lv_iconst (v := 1) hx hb dL_law_517 (by decide) ?_
  refine lv_iadd hx hb dL_law_518 ?_
  refine va_sld hx hb hX hbl hbA hS h_1 dL_law_519 ?_
  refine lc_X8_wrong C (nI N) gpa mSeen mPlans mBooks mTexted mIsKept mSpot mKeeps mMindStep mAt mWhat mWhole mIsBroken mWorth gth gpe gpr mSeenWho mSeenWhat mPlanWhat mPlanN mBookThing mBookPrice mWrong mText mImaged mMindHas mMindOwner mMindPrice mMindWrong mMostBy mTapeSort mTapeSize mMoved mTapes (xs (nI i + 1).toNatClampNeg) hw hP hD hS hl.1 (Nat.le_of_ble_eq_true rfl) hf dL_law_520 (fun r8 hw => ?_)
  have hP := bw_comP hP
  have hD := bw_comD hD
  have e := hw
  refine lv_icmp_eq (tgt := 1059) hx hb dL_law_523 (by decide) (fun c1 => ?_) (fun c1 => absurd e.symm c1)
  exact kk _ H locs ⟨_, _, _, _, _, _, _, _, _, _, _, _, _, _, _, _, _, _, _, _, _, _, _, _, _, _, _, _, _, _, _, _, _, _, _, _, _, _, _, _, _, _, _, _, _, _, _, _, _, _, _, _, _, _, _, _, _, _, _, _, _, _, _, _, _, _, _, _, _, _, _, _, _, _, _, _, _, _, _, _, _, _, _, _, _, _, _, _, _, _, _, rfl, pz_R_mono ⟨N, rfl, rfl, rfl, rfl, rfl, rfl, hM, hQ, hK, hz, hT, hC, hA⟩ (by omega)⟩ hP hD hS
set_option maxHeartbeats 4000000 in
set_option maxRecDepth 100000 in
theorem lw_case_see {p : Program} {l : Launch} {e : Env} {s : State} {m : MethodId} {b L : Nat} {xs : Nat → Int32} {below : List Frame} {meth : Method} {c : Code} {H : Heap} {locs : List Loc} {cells slots : Nat} {Q : State → Prop} {ls : Array Slot} {dC : Nat → ClassId} {dI : Nat → Nat → Nat} {cI cJ cT cII cJJ : ClassId} {A : Nat → Prop} {ad7 ad8 : Nat → Nat} {Wd : va_W} {B : Int} {i : Nat} (C : lw_C p s m #[Value.ref b] meth c dC dI cI cJ cT cII cJJ A) (hX : va_X b L xs s s.heap) (hbl : b < s.heap.size) (hbA : ¬ A b) (hL : L ≤ 3072) (hi : i + 6 ≤ L) (hB0 : 2000 ≤ B) (hB : B ≤ 1000000) (hI : lw_I cI cJ cT cII cJJ ad7 ad8 B Wd) (hP : va_P (dC, dI) vwCl Wd H) (hD : va_D A Wd) (hS : va_S A s.heap H locs) (hl : lv_has ls 4 [(3, .int (nI i)), (2, .ref (ad8 0)), (1, .ref (ad7 0)), (0, .ref b)]) (hf : cells ≤ room_1.cells ∧ slots ≤ room_1.slots)
    (kk : ∀ (Wd : va_W) (H : Heap) (locs : List Loc), lw_I cI cJ cT cII cJJ ad7 ad8 (B + 941) Wd → va_P (dC, dI) vwCl Wd H → va_D A Wd → va_S A s.heap H locs → W p l e room_1 s m #[Value.ref b] below meth c H locs cells slots Q (F0 m 1059 ls [])) : W p l e room_1 s m #[Value.ref b] below meth c H locs cells slots Q (F0 m 528 ls []) := by
  obtain ⟨im, gn, gpa, gbr, gth, gpe, gpr, gw, gseru, gserl, gserr, gplru, gplrl, gplrr, gboru, gborl, gborr, kn, kpa, kbr, kth, kpe, kpr, kw, kseru, kserl, kserr, kplru, kplrl, kplrr, kboru, kborl, kborr, xn, xpa, xbr, xth, xpe, xpr, xw, su, tl, tc, ta, tk, tb, tp, tt, tw, ck, cc, cd, so, le, it, mN, mStep, mSeen, mPlans, mBooks, mTexted, mIsKept, mSpot, mKeeps, mMindStep, mAt, mWhat, mWhole, mIsBroken, mWorth, mHas, mOwner, mPrice, mSeenWho, mSeenWhat, mPlanWhat, mPlanN, mBookThing, mBookPrice, mWrong, mText, mImaged, mMindHas, mMindOwner, mMindPrice, mMindWrong, mMostBy, mTapeSort, mTapeSize, mMoved, mTapes, rfl, N, rfl, rfl, rfl, rfl, rfl, rfl, hM, hQ, hK, hz, hT, hC, hA⟩ := hI
  have hx := C.1
  have hb := C.2.1
  have hown := C.2.2.2.1
  have hts := C.2.2.2.2.1
  have h_1 : vp_in (nI i + 1) L := by rw [show nI i + 1 = nI (i + 1) from nI_add i 1]; exact vp_in_nI (by omega) (by omega)
  have h_2 : vp_in (nI i + 2) L := by rw [show nI i + 2 = nI (i + 2) from nI_add i 2]; exact vp_in_nI (by omega) (by omega)
  have h_3 : vp_in (nI i + 3) L := by rw [show nI i + 3 = nI (i + 3) from nI_add i 3]; exact vp_in_nI (by omega) (by omega)
  have h_4 : vp_in (nI i + 4) L := by rw [show nI i + 4 = nI (i + 4) from nI_add i 4]; exact vp_in_nI (by omega) (by omega)
  have h_5 : vp_in (nI i + 5) L := by rw [show nI i + 5 = nI (i + 5) from nI_add i 5]; exact vp_in_nI (by omega) (by omega)
  refine lv_aload_n hx hb dL_law_528 rfl (lv_at hl 2 rfl) ?_
  refine lv_aload_n hx hb dL_law_529 rfl (lv_at hl 3 rfl) ?_
  refine lv_iload_n hx hb dL_law_530 rfl (lv_at hl 0 rfl) ?_
  refine lv_iconst (v := 1) hx hb dL_law_531 (by decide) ?_
  refine lv_iadd hx hb dL_law_532 ?_
  refine va_sld hx hb hX hbl hbA hS h_1 dL_law_533 ?_
  refine lv_aload_n hx hb dL_law_534 rfl (lv_at hl 3 rfl) ?_
  refine lv_iload_n hx hb dL_law_535 rfl (lv_at hl 0 rfl) ?_
  refine lv_iconst (v := 2) hx hb dL_law_536 (by decide) ?_
  refine lv_iadd hx hb dL_law_537 ?_
  refine va_sld hx hb hX hbl hbA hS h_2 dL_law_538 ?_
  refine lc_X7_see C im (nI N) gpa gbr gth gpe gpr gw gseru gserl gserr gplru gplrl gplrr gboru gborl gborr kn kpa kbr kth kpe kpr kw kseru kserl kserr kplru kplrl kplrr kboru kborl kborr xn xpa xbr xth xpe xpr xw su tl tc ta tk tb tp tt tw ck cc cd so le it (xs (nI i + 1).toNatClampNeg) (xs (nI i + 2).toNatClampNeg) (pc_see hM.1 hM.2.1 hQ.1) hP hD hS hl.1 (Nat.le_of_ble_eq_true rfl) hf dL_law_539 (fun r7 gseru' gserl' gserr' H locs hw hP hD hS => ?_)
  have hP := bw_comP hP
  have hD := bw_comD hD
  refine lv_aload_n hx hb dL_law_542 rfl (lv_at hl 1 rfl) ?_
  refine lv_aload_n hx hb dL_law_543 rfl (lv_at hl 3 rfl) ?_
  refine lv_iload_n hx hb dL_law_544 rfl (lv_at hl 0 rfl) ?_
  refine lv_iconst (v := 1) hx hb dL_law_545 (by decide) ?_
  refine lv_iadd hx hb dL_law_546 ?_
  refine va_sld hx hb hX hbl hbA hS h_1 dL_law_547 ?_
  refine lv_aload_n hx hb dL_law_548 rfl (lv_at hl 3 rfl) ?_
  refine lv_iload_n hx hb dL_law_549 rfl (lv_at hl 0 rfl) ?_
  refine lv_iconst (v := 2) hx hb dL_law_550 (by decide) ?_
  refine lv_iadd hx hb dL_law_551 ?_
  refine va_sld hx hb hX hbl hbA hS h_2 dL_law_552 ?_
  refine lc_X8_see C (nI N) gpa mSeen mPlans mBooks mTexted mIsKept mSpot mKeeps mMindStep mAt mWhat mWhole mIsBroken mWorth gth gpe gpr mSeenWho mSeenWhat mPlanWhat mPlanN mBookThing mBookPrice mWrong mText mImaged mMindHas mMindOwner mMindPrice mMindWrong mMostBy mTapeSort mTapeSize mMoved mTapes (xs (nI i + 1).toNatClampNeg) (xs (nI i + 2).toNatClampNeg) hw hP hD hS hl.1 (Nat.le_of_ble_eq_true rfl) hf dL_law_553 (fun r8 mSeen' mSeenWho' mSeenWhat' H locs hw hP hD hS => ?_)
  have hP := bw_comP hP
  have hD := bw_comD hD
  obtain ⟨e, hL2⟩ := hw
  refine lv_icmp_eq (tgt := 1059) hx hb dL_law_556 (by decide) (fun c1 => ?_) (fun c1 => absurd e.symm c1)
  exact kk _ H locs ⟨_, _, _, _, _, _, _, _, _, _, _, _, _, _, _, _, _, _, _, _, _, _, _, _, _, _, _, _, _, _, _, _, _, _, _, _, _, _, _, _, _, _, _, _, _, _, _, _, _, _, _, _, _, _, _, _, _, _, _, _, _, _, _, _, _, _, _, _, _, _, _, _, _, _, _, _, _, _, _, _, _, _, _, _, _, _, _, _, _, _, _, rfl, pz_R_mono ⟨N, rfl, rfl, rfl, rfl, rfl, rfl, hM, ⟨hL2, hQ.2⟩, hK, hz, hT, hC, hA⟩ (by omega)⟩ hP hD hS
set_option maxHeartbeats 4000000 in
set_option maxRecDepth 100000 in
theorem lw_case_fits {p : Program} {l : Launch} {e : Env} {s : State} {m : MethodId} {b L : Nat} {xs : Nat → Int32} {below : List Frame} {meth : Method} {c : Code} {H : Heap} {locs : List Loc} {cells slots : Nat} {Q : State → Prop} {ls : Array Slot} {dC : Nat → ClassId} {dI : Nat → Nat → Nat} {cI cJ cT cII cJJ : ClassId} {A : Nat → Prop} {ad7 ad8 : Nat → Nat} {Wd : va_W} {B : Int} {i : Nat} (C : lw_C p s m #[Value.ref b] meth c dC dI cI cJ cT cII cJJ A) (hX : va_X b L xs s s.heap) (hbl : b < s.heap.size) (hbA : ¬ A b) (hL : L ≤ 3072) (hi : i + 6 ≤ L) (hB0 : 2000 ≤ B) (hB : B ≤ 1000000) (hI : lw_I cI cJ cT cII cJJ ad7 ad8 B Wd) (hP : va_P (dC, dI) vwCl Wd H) (hD : va_D A Wd) (hS : va_S A s.heap H locs) (hl : lv_has ls 4 [(3, .int (nI i)), (2, .ref (ad8 0)), (1, .ref (ad7 0)), (0, .ref b)]) (hf : cells ≤ room_1.cells ∧ slots ≤ room_1.slots)
    (kk : ∀ (Wd : va_W) (H : Heap) (locs : List Loc), lw_I cI cJ cT cII cJJ ad7 ad8 (B + 941) Wd → va_P (dC, dI) vwCl Wd H → va_D A Wd → va_S A s.heap H locs → W p l e room_1 s m #[Value.ref b] below meth c H locs cells slots Q (F0 m 1059 ls [])) : W p l e room_1 s m #[Value.ref b] below meth c H locs cells slots Q (F0 m 561 ls []) := by
  obtain ⟨im, gn, gpa, gbr, gth, gpe, gpr, gw, gseru, gserl, gserr, gplru, gplrl, gplrr, gboru, gborl, gborr, kn, kpa, kbr, kth, kpe, kpr, kw, kseru, kserl, kserr, kplru, kplrl, kplrr, kboru, kborl, kborr, xn, xpa, xbr, xth, xpe, xpr, xw, su, tl, tc, ta, tk, tb, tp, tt, tw, ck, cc, cd, so, le, it, mN, mStep, mSeen, mPlans, mBooks, mTexted, mIsKept, mSpot, mKeeps, mMindStep, mAt, mWhat, mWhole, mIsBroken, mWorth, mHas, mOwner, mPrice, mSeenWho, mSeenWhat, mPlanWhat, mPlanN, mBookThing, mBookPrice, mWrong, mText, mImaged, mMindHas, mMindOwner, mMindPrice, mMindWrong, mMostBy, mTapeSort, mTapeSize, mMoved, mTapes, rfl, N, rfl, rfl, rfl, rfl, rfl, rfl, hM, hQ, hK, hz, hT, hC, hA⟩ := hI
  have hx := C.1
  have hb := C.2.1
  have hown := C.2.2.2.1
  have hts := C.2.2.2.2.1
  have h_1 : vp_in (nI i + 1) L := by rw [show nI i + 1 = nI (i + 1) from nI_add i 1]; exact vp_in_nI (by omega) (by omega)
  have h_2 : vp_in (nI i + 2) L := by rw [show nI i + 2 = nI (i + 2) from nI_add i 2]; exact vp_in_nI (by omega) (by omega)
  have h_3 : vp_in (nI i + 3) L := by rw [show nI i + 3 = nI (i + 3) from nI_add i 3]; exact vp_in_nI (by omega) (by omega)
  have h_4 : vp_in (nI i + 4) L := by rw [show nI i + 4 = nI (i + 4) from nI_add i 4]; exact vp_in_nI (by omega) (by omega)
  have h_5 : vp_in (nI i + 5) L := by rw [show nI i + 5 = nI (i + 5) from nI_add i 5]; exact vp_in_nI (by omega) (by omega)
  refine lv_aload_n hx hb dL_law_561 rfl (lv_at hl 2 rfl) ?_
  refine lv_aload_n hx hb dL_law_562 rfl (lv_at hl 3 rfl) ?_
  refine lv_iload_n hx hb dL_law_563 rfl (lv_at hl 0 rfl) ?_
  refine lv_iconst (v := 1) hx hb dL_law_564 (by decide) ?_
  refine lv_iadd hx hb dL_law_565 ?_
  refine va_sld hx hb hX hbl hbA hS h_1 dL_law_566 ?_
  refine lv_aload_n hx hb dL_law_567 rfl (lv_at hl 3 rfl) ?_
  refine lv_iload_n hx hb dL_law_568 rfl (lv_at hl 0 rfl) ?_
  refine lv_iconst (v := 2) hx hb dL_law_569 (by decide) ?_
  refine lv_iadd hx hb dL_law_570 ?_
  refine va_sld hx hb hX hbl hbA hS h_2 dL_law_571 ?_
  refine lv_aload_n hx hb dL_law_572 rfl (lv_at hl 3 rfl) ?_
  refine lv_iload_n hx hb dL_law_573 rfl (lv_at hl 0 rfl) ?_
  refine lv_iconst (v := 3) hx hb dL_law_574 (by decide) ?_
  refine lv_iadd hx hb dL_law_575 ?_
  refine va_sld hx hb hX hbl hbA hS h_3 dL_law_576 ?_
  refine lc_X7_fits C im (nI N) gpa gbr gth gpe gpr gw gseru gserl gserr gplru gplrl gplrr gboru gborl gborr kn kpa kbr kth kpe kpr kw kseru kserl kserr kplru kplrl kplrr kboru kborl kborr xn xpa xbr xth xpe xpr xw su tl tc ta tk tb tp tt tw ck cc cd so le it (xs (nI i + 1).toNatClampNeg) (xs (nI i + 2).toNatClampNeg) (xs (nI i + 3).toNatClampNeg) (pc_fits hM hQ.1 hz hC) hP hD hS hl.1 (Nat.le_of_ble_eq_true rfl) hf dL_law_577 (fun r7 xn' xpa' xbr' xth' xpe' xpr' xw' H locs hw hP hD hS => ?_)
  have hP := bw_comP hP
  have hD := bw_comD hD
  refine lv_aload_n hx hb dL_law_580 rfl (lv_at hl 1 rfl) ?_
  refine lv_aload_n hx hb dL_law_581 rfl (lv_at hl 3 rfl) ?_
  refine lv_iload_n hx hb dL_law_582 rfl (lv_at hl 0 rfl) ?_
  refine lv_iconst (v := 1) hx hb dL_law_583 (by decide) ?_
  refine lv_iadd hx hb dL_law_584 ?_
  refine va_sld hx hb hX hbl hbA hS h_1 dL_law_585 ?_
  refine lv_aload_n hx hb dL_law_586 rfl (lv_at hl 3 rfl) ?_
  refine lv_iload_n hx hb dL_law_587 rfl (lv_at hl 0 rfl) ?_
  refine lv_iconst (v := 2) hx hb dL_law_588 (by decide) ?_
  refine lv_iadd hx hb dL_law_589 ?_
  refine va_sld hx hb hX hbl hbA hS h_2 dL_law_590 ?_
  refine lv_aload_n hx hb dL_law_591 rfl (lv_at hl 3 rfl) ?_
  refine lv_iload_n hx hb dL_law_592 rfl (lv_at hl 0 rfl) ?_
  refine lv_iconst (v := 3) hx hb dL_law_593 (by decide) ?_
  refine lv_iadd hx hb dL_law_594 ?_
  refine va_sld hx hb hX hbl hbA hS h_3 dL_law_595 ?_
  refine lc_X8_fits C (nI N) gpa mSeen mPlans mBooks mTexted mIsKept mSpot mKeeps mMindStep mAt mWhat mWhole mIsBroken mWorth gth gpe gpr mSeenWho mSeenWhat mPlanWhat mPlanN mBookThing mBookPrice mWrong mText mImaged mMindHas mMindOwner mMindPrice mMindWrong mMostBy mTapeSort mTapeSize mMoved mTapes (xs (nI i + 1).toNatClampNeg) (xs (nI i + 2).toNatClampNeg) (xs (nI i + 3).toNatClampNeg) hw hP hD hS hl.1 (Nat.le_of_ble_eq_true rfl) hf dL_law_596 (fun r8 mStep' mMindStep' mIsBroken' mWorth' mHas' mOwner' mPrice' mWrong' mMindHas' mMindOwner' mMindPrice' mMindWrong' H locs hw hP hD hS => ?_)
  have hP := bw_comP hP
  have hD := bw_comD hD
  obtain ⟨e, hz2, rfl, rfl, rfl, rfl, rfl, hC2⟩ := hw
  refine lv_icmp_eq (tgt := 1059) hx hb dL_law_599 (by decide) (fun c1 => ?_) (fun c1 => absurd e.symm c1)
  exact kk _ H locs ⟨_, _, _, _, _, _, _, _, _, _, _, _, _, _, _, _, _, _, _, _, _, _, _, _, _, _, _, _, _, _, _, _, _, _, _, _, _, _, _, _, _, _, _, _, _, _, _, _, _, _, _, _, _, _, _, _, _, _, _, _, _, _, _, _, _, _, _, _, _, _, _, _, _, _, _, _, _, _, _, _, _, _, _, _, _, _, _, _, _, _, _, rfl, pz_R_mono ⟨N, rfl, rfl, rfl, rfl, rfl, rfl, hM, hQ, hK, hz2, hT, hC2, hA⟩ (by omega)⟩ hP hD hS
set_option maxHeartbeats 4000000 in
set_option maxRecDepth 100000 in
theorem lw_case_odds {p : Program} {l : Launch} {e : Env} {s : State} {m : MethodId} {b L : Nat} {xs : Nat → Int32} {below : List Frame} {meth : Method} {c : Code} {H : Heap} {locs : List Loc} {cells slots : Nat} {Q : State → Prop} {ls : Array Slot} {dC : Nat → ClassId} {dI : Nat → Nat → Nat} {cI cJ cT cII cJJ : ClassId} {A : Nat → Prop} {ad7 ad8 : Nat → Nat} {Wd : va_W} {B : Int} {i : Nat} (C : lw_C p s m #[Value.ref b] meth c dC dI cI cJ cT cII cJJ A) (hX : va_X b L xs s s.heap) (hbl : b < s.heap.size) (hbA : ¬ A b) (hL : L ≤ 3072) (hi : i + 6 ≤ L) (hB0 : 2000 ≤ B) (hB : B ≤ 1000000) (hI : lw_I cI cJ cT cII cJJ ad7 ad8 B Wd) (hP : va_P (dC, dI) vwCl Wd H) (hD : va_D A Wd) (hS : va_S A s.heap H locs) (hl : lv_has ls 4 [(3, .int (nI i)), (2, .ref (ad8 0)), (1, .ref (ad7 0)), (0, .ref b)]) (hf : cells ≤ room_1.cells ∧ slots ≤ room_1.slots)
    (kk : ∀ (Wd : va_W) (H : Heap) (locs : List Loc), lw_I cI cJ cT cII cJJ ad7 ad8 (B + 941) Wd → va_P (dC, dI) vwCl Wd H → va_D A Wd → va_S A s.heap H locs → W p l e room_1 s m #[Value.ref b] below meth c H locs cells slots Q (F0 m 1059 ls [])) : W p l e room_1 s m #[Value.ref b] below meth c H locs cells slots Q (F0 m 604 ls []) := by
  obtain ⟨im, gn, gpa, gbr, gth, gpe, gpr, gw, gseru, gserl, gserr, gplru, gplrl, gplrr, gboru, gborl, gborr, kn, kpa, kbr, kth, kpe, kpr, kw, kseru, kserl, kserr, kplru, kplrl, kplrr, kboru, kborl, kborr, xn, xpa, xbr, xth, xpe, xpr, xw, su, tl, tc, ta, tk, tb, tp, tt, tw, ck, cc, cd, so, le, it, mN, mStep, mSeen, mPlans, mBooks, mTexted, mIsKept, mSpot, mKeeps, mMindStep, mAt, mWhat, mWhole, mIsBroken, mWorth, mHas, mOwner, mPrice, mSeenWho, mSeenWhat, mPlanWhat, mPlanN, mBookThing, mBookPrice, mWrong, mText, mImaged, mMindHas, mMindOwner, mMindPrice, mMindWrong, mMostBy, mTapeSort, mTapeSize, mMoved, mTapes, rfl, N, rfl, rfl, rfl, rfl, rfl, rfl, hM, hQ, hK, hz, hT, hC, hA⟩ := hI
  have hx := C.1
  have hb := C.2.1
  have hown := C.2.2.2.1
  have hts := C.2.2.2.2.1
  have h_1 : vp_in (nI i + 1) L := by rw [show nI i + 1 = nI (i + 1) from nI_add i 1]; exact vp_in_nI (by omega) (by omega)
  have h_2 : vp_in (nI i + 2) L := by rw [show nI i + 2 = nI (i + 2) from nI_add i 2]; exact vp_in_nI (by omega) (by omega)
  have h_3 : vp_in (nI i + 3) L := by rw [show nI i + 3 = nI (i + 3) from nI_add i 3]; exact vp_in_nI (by omega) (by omega)
  have h_4 : vp_in (nI i + 4) L := by rw [show nI i + 4 = nI (i + 4) from nI_add i 4]; exact vp_in_nI (by omega) (by omega)
  have h_5 : vp_in (nI i + 5) L := by rw [show nI i + 5 = nI (i + 5) from nI_add i 5]; exact vp_in_nI (by omega) (by omega)
  refine lv_aload_n hx hb dL_law_604 rfl (lv_at hl 2 rfl) ?_
  refine lv_aload_n hx hb dL_law_605 rfl (lv_at hl 3 rfl) ?_
  refine lv_iload_n hx hb dL_law_606 rfl (lv_at hl 0 rfl) ?_
  refine lv_iconst (v := 1) hx hb dL_law_607 (by decide) ?_
  refine lv_iadd hx hb dL_law_608 ?_
  refine va_sld hx hb hX hbl hbA hS h_1 dL_law_609 ?_
  refine lv_aload_n hx hb dL_law_610 rfl (lv_at hl 3 rfl) ?_
  refine lv_iload_n hx hb dL_law_611 rfl (lv_at hl 0 rfl) ?_
  refine lv_iconst (v := 2) hx hb dL_law_612 (by decide) ?_
  refine lv_iadd hx hb dL_law_613 ?_
  refine va_sld hx hb hX hbl hbA hS h_2 dL_law_614 ?_
  refine lc_X7_odds C im (nI N) gpa gbr gth gpe gpr gw gseru gserl gserr gplru gplrl gplrr gboru gborl gborr kn kpa kbr kth kpe kpr kw kseru kserl kserr kplru kplrl kplrr kboru kborl kborr xn xpa xbr xth xpe xpr xw su tl tc ta tk tb tp tt tw ck cc cd so le it (xs (nI i + 1).toNatClampNeg) (xs (nI i + 2).toNatClampNeg) (pc_odds hM hz hC) hP hD hS hl.1 (Nat.le_of_ble_eq_true rfl) hf dL_law_615 (fun r7 xn' xpa' xbr' xth' xpe' xpr' xw' H locs hw hP hD hS => ?_)
  have hP := bw_comP hP
  have hD := bw_comD hD
  refine lv_aload_n hx hb dL_law_618 rfl (lv_at hl 1 rfl) ?_
  refine lv_aload_n hx hb dL_law_619 rfl (lv_at hl 3 rfl) ?_
  refine lv_iload_n hx hb dL_law_620 rfl (lv_at hl 0 rfl) ?_
  refine lv_iconst (v := 1) hx hb dL_law_621 (by decide) ?_
  refine lv_iadd hx hb dL_law_622 ?_
  refine va_sld hx hb hX hbl hbA hS h_1 dL_law_623 ?_
  refine lv_aload_n hx hb dL_law_624 rfl (lv_at hl 3 rfl) ?_
  refine lv_iload_n hx hb dL_law_625 rfl (lv_at hl 0 rfl) ?_
  refine lv_iconst (v := 2) hx hb dL_law_626 (by decide) ?_
  refine lv_iadd hx hb dL_law_627 ?_
  refine va_sld hx hb hX hbl hbA hS h_2 dL_law_628 ?_
  refine lc_X8_odds C (nI N) gpa mSeen mPlans mBooks mTexted mIsKept mSpot mKeeps mMindStep mAt mWhat mWhole mIsBroken mWorth gth gpe gpr mSeenWho mSeenWhat mPlanWhat mPlanN mBookThing mBookPrice mWrong mText mImaged mMindHas mMindOwner mMindPrice mMindWrong mMostBy mTapeSort mTapeSize mMoved mTapes (xs (nI i + 1).toNatClampNeg) (xs (nI i + 2).toNatClampNeg) hw hP hD hS hl.1 (Nat.le_of_ble_eq_true rfl) hf dL_law_629 (fun r8 mStep' mMindStep' mIsBroken' mHas' mOwner' mPrice' mWrong' mMindHas' mMindOwner' mMindPrice' mMindWrong' H locs hw hP hD hS => ?_)
  have hP := bw_comP hP
  have hD := bw_comD hD
  obtain ⟨e, hz2, rfl, rfl, rfl, rfl, hC2⟩ := hw
  refine W.lcmp hx hb dL_law_632 ?_
  refine lv_if_eq (tgt := 1059) hx hb dL_law_633 (by decide) (fun c1 => ?_) (fun c1 => absurd ((lg_cmp_eq _ _).mpr e.symm) c1)
  exact kk _ H locs ⟨_, _, _, _, _, _, _, _, _, _, _, _, _, _, _, _, _, _, _, _, _, _, _, _, _, _, _, _, _, _, _, _, _, _, _, _, _, _, _, _, _, _, _, _, _, _, _, _, _, _, _, _, _, _, _, _, _, _, _, _, _, _, _, _, _, _, _, _, _, _, _, _, _, _, _, _, _, _, _, _, _, _, _, _, _, _, _, _, _, _, _, rfl, pz_R_mono ⟨N, rfl, rfl, rfl, rfl, rfl, rfl, hM, hQ, hK, hz2, hT, hC2, hA⟩ (by omega)⟩ hP hD hS
set_option maxHeartbeats 4000000 in
set_option maxRecDepth 100000 in
theorem lw_case_mean {p : Program} {l : Launch} {e : Env} {s : State} {m : MethodId} {b L : Nat} {xs : Nat → Int32} {below : List Frame} {meth : Method} {c : Code} {H : Heap} {locs : List Loc} {cells slots : Nat} {Q : State → Prop} {ls : Array Slot} {dC : Nat → ClassId} {dI : Nat → Nat → Nat} {cI cJ cT cII cJJ : ClassId} {A : Nat → Prop} {ad7 ad8 : Nat → Nat} {Wd : va_W} {B : Int} {i : Nat} (C : lw_C p s m #[Value.ref b] meth c dC dI cI cJ cT cII cJJ A) (hX : va_X b L xs s s.heap) (hbl : b < s.heap.size) (hbA : ¬ A b) (hL : L ≤ 3072) (hi : i + 6 ≤ L) (hB0 : 2000 ≤ B) (hB : B ≤ 1000000) (hI : lw_I cI cJ cT cII cJJ ad7 ad8 B Wd) (hP : va_P (dC, dI) vwCl Wd H) (hD : va_D A Wd) (hS : va_S A s.heap H locs) (hl : lv_has ls 4 [(3, .int (nI i)), (2, .ref (ad8 0)), (1, .ref (ad7 0)), (0, .ref b)]) (hf : cells ≤ room_1.cells ∧ slots ≤ room_1.slots)
    (kk : ∀ (Wd : va_W) (H : Heap) (locs : List Loc), lw_I cI cJ cT cII cJJ ad7 ad8 (B + 941) Wd → va_P (dC, dI) vwCl Wd H → va_D A Wd → va_S A s.heap H locs → W p l e room_1 s m #[Value.ref b] below meth c H locs cells slots Q (F0 m 1059 ls [])) : W p l e room_1 s m #[Value.ref b] below meth c H locs cells slots Q (F0 m 638 ls []) := by
  obtain ⟨im, gn, gpa, gbr, gth, gpe, gpr, gw, gseru, gserl, gserr, gplru, gplrl, gplrr, gboru, gborl, gborr, kn, kpa, kbr, kth, kpe, kpr, kw, kseru, kserl, kserr, kplru, kplrl, kplrr, kboru, kborl, kborr, xn, xpa, xbr, xth, xpe, xpr, xw, su, tl, tc, ta, tk, tb, tp, tt, tw, ck, cc, cd, so, le, it, mN, mStep, mSeen, mPlans, mBooks, mTexted, mIsKept, mSpot, mKeeps, mMindStep, mAt, mWhat, mWhole, mIsBroken, mWorth, mHas, mOwner, mPrice, mSeenWho, mSeenWhat, mPlanWhat, mPlanN, mBookThing, mBookPrice, mWrong, mText, mImaged, mMindHas, mMindOwner, mMindPrice, mMindWrong, mMostBy, mTapeSort, mTapeSize, mMoved, mTapes, rfl, N, rfl, rfl, rfl, rfl, rfl, rfl, hM, hQ, hK, hz, hT, hC, hA⟩ := hI
  have hx := C.1
  have hb := C.2.1
  have hown := C.2.2.2.1
  have hts := C.2.2.2.2.1
  have h_1 : vp_in (nI i + 1) L := by rw [show nI i + 1 = nI (i + 1) from nI_add i 1]; exact vp_in_nI (by omega) (by omega)
  have h_2 : vp_in (nI i + 2) L := by rw [show nI i + 2 = nI (i + 2) from nI_add i 2]; exact vp_in_nI (by omega) (by omega)
  have h_3 : vp_in (nI i + 3) L := by rw [show nI i + 3 = nI (i + 3) from nI_add i 3]; exact vp_in_nI (by omega) (by omega)
  have h_4 : vp_in (nI i + 4) L := by rw [show nI i + 4 = nI (i + 4) from nI_add i 4]; exact vp_in_nI (by omega) (by omega)
  have h_5 : vp_in (nI i + 5) L := by rw [show nI i + 5 = nI (i + 5) from nI_add i 5]; exact vp_in_nI (by omega) (by omega)
  refine lv_aload_n hx hb dL_law_638 rfl (lv_at hl 2 rfl) ?_
  refine lv_aload_n hx hb dL_law_639 rfl (lv_at hl 3 rfl) ?_
  refine lv_iload_n hx hb dL_law_640 rfl (lv_at hl 0 rfl) ?_
  refine lv_iconst (v := 1) hx hb dL_law_641 (by decide) ?_
  refine lv_iadd hx hb dL_law_642 ?_
  refine va_sld hx hb hX hbl hbA hS h_1 dL_law_643 ?_
  refine lc_X7_mean C im (nI N) gpa gbr gth gpe gpr gw gseru gserl gserr gplru gplrl gplrr gboru gborl gborr kn kpa kbr kth kpe kpr kw kseru kserl kserr kplru kplrl kplrr kboru kborl kborr xn xpa xbr xth xpe xpr xw su tl tc ta tk tb tp tt tw ck cc cd so le it (xs (nI i + 1).toNatClampNeg) (pc_mean hM hB) hP hD hS hl.1 (Nat.le_of_ble_eq_true rfl) hf dL_law_644 (fun r7 hw => ?_)
  have hP := bw_comP hP
  have hD := bw_comD hD
  refine lv_aload_n hx hb dL_law_647 rfl (lv_at hl 1 rfl) ?_
  refine lv_aload_n hx hb dL_law_648 rfl (lv_at hl 3 rfl) ?_
  refine lv_iload_n hx hb dL_law_649 rfl (lv_at hl 0 rfl) ?_
  refine lv_iconst (v := 1) hx hb dL_law_650 (by decide) ?_
  refine lv_iadd hx hb dL_law_651 ?_
  refine va_sld hx hb hX hbl hbA hS h_1 dL_law_652 ?_
  refine lc_X8_mean C (nI N) gpa mSeen mPlans mBooks mTexted mIsKept mSpot mKeeps mMindStep mAt mWhat mWhole mIsBroken mWorth gth gpe gpr mSeenWho mSeenWhat mPlanWhat mPlanN mBookThing mBookPrice mWrong mText mImaged mMindHas mMindOwner mMindPrice mMindWrong mMostBy mTapeSort mTapeSize mMoved mTapes (xs (nI i + 1).toNatClampNeg) hw hP hD hS hl.1 (Nat.le_of_ble_eq_true rfl) hf dL_law_653 (fun r8 hw => ?_)
  have hP := bw_comP hP
  have hD := bw_comD hD
  have e := hw
  refine W.lcmp hx hb dL_law_656 ?_
  refine lv_if_eq (tgt := 1059) hx hb dL_law_657 (by decide) (fun c1 => ?_) (fun c1 => absurd ((lg_cmp_eq _ _).mpr e.symm) c1)
  exact kk _ H locs ⟨_, _, _, _, _, _, _, _, _, _, _, _, _, _, _, _, _, _, _, _, _, _, _, _, _, _, _, _, _, _, _, _, _, _, _, _, _, _, _, _, _, _, _, _, _, _, _, _, _, _, _, _, _, _, _, _, _, _, _, _, _, _, _, _, _, _, _, _, _, _, _, _, _, _, _, _, _, _, _, _, _, _, _, _, _, _, _, _, _, _, _, rfl, pz_R_mono ⟨N, rfl, rfl, rfl, rfl, rfl, rfl, hM, hQ, hK, hz, hT, hC, hA⟩ (by omega)⟩ hP hD hS
set_option maxHeartbeats 4000000 in
set_option maxRecDepth 100000 in
theorem lw_case_plan {p : Program} {l : Launch} {e : Env} {s : State} {m : MethodId} {b L : Nat} {xs : Nat → Int32} {below : List Frame} {meth : Method} {c : Code} {H : Heap} {locs : List Loc} {cells slots : Nat} {Q : State → Prop} {ls : Array Slot} {dC : Nat → ClassId} {dI : Nat → Nat → Nat} {cI cJ cT cII cJJ : ClassId} {A : Nat → Prop} {ad7 ad8 : Nat → Nat} {Wd : va_W} {B : Int} {i : Nat} (C : lw_C p s m #[Value.ref b] meth c dC dI cI cJ cT cII cJJ A) (hX : va_X b L xs s s.heap) (hbl : b < s.heap.size) (hbA : ¬ A b) (hL : L ≤ 3072) (hi : i + 6 ≤ L) (hB0 : 2000 ≤ B) (hB : B ≤ 1000000) (hI : lw_I cI cJ cT cII cJJ ad7 ad8 B Wd) (hP : va_P (dC, dI) vwCl Wd H) (hD : va_D A Wd) (hS : va_S A s.heap H locs) (hl : lv_has ls 4 [(3, .int (nI i)), (2, .ref (ad8 0)), (1, .ref (ad7 0)), (0, .ref b)]) (hf : cells ≤ room_1.cells ∧ slots ≤ room_1.slots)
    (kk : ∀ (Wd : va_W) (H : Heap) (locs : List Loc), lw_I cI cJ cT cII cJJ ad7 ad8 (B + 941) Wd → va_P (dC, dI) vwCl Wd H → va_D A Wd → va_S A s.heap H locs → W p l e room_1 s m #[Value.ref b] below meth c H locs cells slots Q (F0 m 1059 ls [])) : W p l e room_1 s m #[Value.ref b] below meth c H locs cells slots Q (F0 m 662 ls []) := by
  obtain ⟨im, gn, gpa, gbr, gth, gpe, gpr, gw, gseru, gserl, gserr, gplru, gplrl, gplrr, gboru, gborl, gborr, kn, kpa, kbr, kth, kpe, kpr, kw, kseru, kserl, kserr, kplru, kplrl, kplrr, kboru, kborl, kborr, xn, xpa, xbr, xth, xpe, xpr, xw, su, tl, tc, ta, tk, tb, tp, tt, tw, ck, cc, cd, so, le, it, mN, mStep, mSeen, mPlans, mBooks, mTexted, mIsKept, mSpot, mKeeps, mMindStep, mAt, mWhat, mWhole, mIsBroken, mWorth, mHas, mOwner, mPrice, mSeenWho, mSeenWhat, mPlanWhat, mPlanN, mBookThing, mBookPrice, mWrong, mText, mImaged, mMindHas, mMindOwner, mMindPrice, mMindWrong, mMostBy, mTapeSort, mTapeSize, mMoved, mTapes, rfl, N, rfl, rfl, rfl, rfl, rfl, rfl, hM, hQ, hK, hz, hT, hC, hA⟩ := hI
  have hx := C.1
  have hb := C.2.1
  have hown := C.2.2.2.1
  have hts := C.2.2.2.2.1
  have h_1 : vp_in (nI i + 1) L := by rw [show nI i + 1 = nI (i + 1) from nI_add i 1]; exact vp_in_nI (by omega) (by omega)
  have h_2 : vp_in (nI i + 2) L := by rw [show nI i + 2 = nI (i + 2) from nI_add i 2]; exact vp_in_nI (by omega) (by omega)
  have h_3 : vp_in (nI i + 3) L := by rw [show nI i + 3 = nI (i + 3) from nI_add i 3]; exact vp_in_nI (by omega) (by omega)
  have h_4 : vp_in (nI i + 4) L := by rw [show nI i + 4 = nI (i + 4) from nI_add i 4]; exact vp_in_nI (by omega) (by omega)
  have h_5 : vp_in (nI i + 5) L := by rw [show nI i + 5 = nI (i + 5) from nI_add i 5]; exact vp_in_nI (by omega) (by omega)
  refine lv_aload_n hx hb dL_law_662 rfl (lv_at hl 2 rfl) ?_
  refine lv_aload_n hx hb dL_law_663 rfl (lv_at hl 3 rfl) ?_
  refine lv_iload_n hx hb dL_law_664 rfl (lv_at hl 0 rfl) ?_
  refine lv_iconst (v := 1) hx hb dL_law_665 (by decide) ?_
  refine lv_iadd hx hb dL_law_666 ?_
  refine va_sld hx hb hX hbl hbA hS h_1 dL_law_667 ?_
  refine lv_aload_n hx hb dL_law_668 rfl (lv_at hl 3 rfl) ?_
  refine lv_iload_n hx hb dL_law_669 rfl (lv_at hl 0 rfl) ?_
  refine lv_iconst (v := 2) hx hb dL_law_670 (by decide) ?_
  refine lv_iadd hx hb dL_law_671 ?_
  refine va_sld hx hb hX hbl hbA hS h_2 dL_law_672 ?_
  refine lc_X7_plan C im (nI N) gpa gbr gth gpe gpr gw gseru gserl gserr gplru gplrl gplrr gboru gborl gborr kn kpa kbr kth kpe kpr kw kseru kserl kserr kplru kplrl kplrr kboru kborl kborr xn xpa xbr xth xpe xpr xw su tl tc ta tk tb tp tt tw ck cc cd so le it (xs (nI i + 1).toNatClampNeg) (xs (nI i + 2).toNatClampNeg) (pc_plan hM.1 hM.2.1 hQ.2.1) hP hD hS hl.1 (Nat.le_of_ble_eq_true rfl) hf dL_law_673 (fun r7 gplru' gplrl' gplrr' H locs hw hP hD hS => ?_)
  have hP := bw_comP hP
  have hD := bw_comD hD
  refine lv_aload_n hx hb dL_law_676 rfl (lv_at hl 1 rfl) ?_
  refine lv_aload_n hx hb dL_law_677 rfl (lv_at hl 3 rfl) ?_
  refine lv_iload_n hx hb dL_law_678 rfl (lv_at hl 0 rfl) ?_
  refine lv_iconst (v := 1) hx hb dL_law_679 (by decide) ?_
  refine lv_iadd hx hb dL_law_680 ?_
  refine va_sld hx hb hX hbl hbA hS h_1 dL_law_681 ?_
  refine lv_aload_n hx hb dL_law_682 rfl (lv_at hl 3 rfl) ?_
  refine lv_iload_n hx hb dL_law_683 rfl (lv_at hl 0 rfl) ?_
  refine lv_iconst (v := 2) hx hb dL_law_684 (by decide) ?_
  refine lv_iadd hx hb dL_law_685 ?_
  refine va_sld hx hb hX hbl hbA hS h_2 dL_law_686 ?_
  refine lc_X8_plan C (nI N) gpa mSeen mPlans mBooks mTexted mIsKept mSpot mKeeps mMindStep mAt mWhat mWhole mIsBroken mWorth gth gpe gpr mSeenWho mSeenWhat mPlanWhat mPlanN mBookThing mBookPrice mWrong mText mImaged mMindHas mMindOwner mMindPrice mMindWrong mMostBy mTapeSort mTapeSize mMoved mTapes (xs (nI i + 1).toNatClampNeg) (xs (nI i + 2).toNatClampNeg) hw hP hD hS hl.1 (Nat.le_of_ble_eq_true rfl) hf dL_law_687 (fun r8 mPlans' mPlanWhat' mPlanN' H locs hw hP hD hS => ?_)
  have hP := bw_comP hP
  have hD := bw_comD hD
  obtain ⟨e, hL2⟩ := hw
  refine lv_icmp_eq (tgt := 1059) hx hb dL_law_690 (by decide) (fun c1 => ?_) (fun c1 => absurd e.symm c1)
  exact kk _ H locs ⟨_, _, _, _, _, _, _, _, _, _, _, _, _, _, _, _, _, _, _, _, _, _, _, _, _, _, _, _, _, _, _, _, _, _, _, _, _, _, _, _, _, _, _, _, _, _, _, _, _, _, _, _, _, _, _, _, _, _, _, _, _, _, _, _, _, _, _, _, _, _, _, _, _, _, _, _, _, _, _, _, _, _, _, _, _, _, _, _, _, _, _, rfl, pz_R_mono ⟨N, rfl, rfl, rfl, rfl, rfl, rfl, hM, ⟨hQ.1, hL2, hQ.2.2⟩, hK, hz, hT, hC, hA⟩ (by omega)⟩ hP hD hS
set_option maxHeartbeats 4000000 in
set_option maxRecDepth 100000 in
theorem lw_case_ends {p : Program} {l : Launch} {e : Env} {s : State} {m : MethodId} {b L : Nat} {xs : Nat → Int32} {below : List Frame} {meth : Method} {c : Code} {H : Heap} {locs : List Loc} {cells slots : Nat} {Q : State → Prop} {ls : Array Slot} {dC : Nat → ClassId} {dI : Nat → Nat → Nat} {cI cJ cT cII cJJ : ClassId} {A : Nat → Prop} {ad7 ad8 : Nat → Nat} {Wd : va_W} {B : Int} {i : Nat} (C : lw_C p s m #[Value.ref b] meth c dC dI cI cJ cT cII cJJ A) (hX : va_X b L xs s s.heap) (hbl : b < s.heap.size) (hbA : ¬ A b) (hL : L ≤ 3072) (hi : i + 6 ≤ L) (hB0 : 2000 ≤ B) (hB : B ≤ 1000000) (hI : lw_I cI cJ cT cII cJJ ad7 ad8 B Wd) (hP : va_P (dC, dI) vwCl Wd H) (hD : va_D A Wd) (hS : va_S A s.heap H locs) (hl : lv_has ls 4 [(3, .int (nI i)), (2, .ref (ad8 0)), (1, .ref (ad7 0)), (0, .ref b)]) (hf : cells ≤ room_1.cells ∧ slots ≤ room_1.slots)
    (kk : ∀ (Wd : va_W) (H : Heap) (locs : List Loc), lw_I cI cJ cT cII cJJ ad7 ad8 (B + 941) Wd → va_P (dC, dI) vwCl Wd H → va_D A Wd → va_S A s.heap H locs → W p l e room_1 s m #[Value.ref b] below meth c H locs cells slots Q (F0 m 1059 ls [])) : W p l e room_1 s m #[Value.ref b] below meth c H locs cells slots Q (F0 m 695 ls []) := by
  obtain ⟨im, gn, gpa, gbr, gth, gpe, gpr, gw, gseru, gserl, gserr, gplru, gplrl, gplrr, gboru, gborl, gborr, kn, kpa, kbr, kth, kpe, kpr, kw, kseru, kserl, kserr, kplru, kplrl, kplrr, kboru, kborl, kborr, xn, xpa, xbr, xth, xpe, xpr, xw, su, tl, tc, ta, tk, tb, tp, tt, tw, ck, cc, cd, so, le, it, mN, mStep, mSeen, mPlans, mBooks, mTexted, mIsKept, mSpot, mKeeps, mMindStep, mAt, mWhat, mWhole, mIsBroken, mWorth, mHas, mOwner, mPrice, mSeenWho, mSeenWhat, mPlanWhat, mPlanN, mBookThing, mBookPrice, mWrong, mText, mImaged, mMindHas, mMindOwner, mMindPrice, mMindWrong, mMostBy, mTapeSort, mTapeSize, mMoved, mTapes, rfl, N, rfl, rfl, rfl, rfl, rfl, rfl, hM, hQ, hK, hz, hT, hC, hA⟩ := hI
  have hx := C.1
  have hb := C.2.1
  have hown := C.2.2.2.1
  have hts := C.2.2.2.2.1
  have h_1 : vp_in (nI i + 1) L := by rw [show nI i + 1 = nI (i + 1) from nI_add i 1]; exact vp_in_nI (by omega) (by omega)
  have h_2 : vp_in (nI i + 2) L := by rw [show nI i + 2 = nI (i + 2) from nI_add i 2]; exact vp_in_nI (by omega) (by omega)
  have h_3 : vp_in (nI i + 3) L := by rw [show nI i + 3 = nI (i + 3) from nI_add i 3]; exact vp_in_nI (by omega) (by omega)
  have h_4 : vp_in (nI i + 4) L := by rw [show nI i + 4 = nI (i + 4) from nI_add i 4]; exact vp_in_nI (by omega) (by omega)
  have h_5 : vp_in (nI i + 5) L := by rw [show nI i + 5 = nI (i + 5) from nI_add i 5]; exact vp_in_nI (by omega) (by omega)
  refine lv_aload_n hx hb dL_law_695 rfl (lv_at hl 2 rfl) ?_
  refine lv_aload_n hx hb dL_law_696 rfl (lv_at hl 3 rfl) ?_
  refine lv_iload_n hx hb dL_law_697 rfl (lv_at hl 0 rfl) ?_
  refine lv_iconst (v := 1) hx hb dL_law_698 (by decide) ?_
  refine lv_iadd hx hb dL_law_699 ?_
  refine va_sld hx hb hX hbl hbA hS h_1 dL_law_700 ?_
  refine lc_X7_ends C im (nI N) gpa gbr gth gpe gpr gw gseru gserl gserr gplru gplrl gplrr gboru gborl gborr kn kpa kbr kth kpe kpr kw kseru kserl kserr kplru kplrl kplrr kboru kborl kborr xn xpa xbr xth xpe xpr xw su tl tc ta tk tb tp tt tw ck cc cd so le it (xs (nI i + 1).toNatClampNeg) (pc_ends hM hQ.2.1 hz hC) hP hD hS hl.1 (Nat.le_of_ble_eq_true rfl) hf dL_law_701 (fun r7 xn' xpa' xth' xpe' xpr' xw' H locs hw hP hD hS => ?_)
  have hP := bw_comP hP
  have hD := bw_comD hD
  refine lv_aload_n hx hb dL_law_704 rfl (lv_at hl 1 rfl) ?_
  refine lv_aload_n hx hb dL_law_705 rfl (lv_at hl 3 rfl) ?_
  refine lv_iload_n hx hb dL_law_706 rfl (lv_at hl 0 rfl) ?_
  refine lv_iconst (v := 1) hx hb dL_law_707 (by decide) ?_
  refine lv_iadd hx hb dL_law_708 ?_
  refine va_sld hx hb hX hbl hbA hS h_1 dL_law_709 ?_
  refine lc_X8_ends C (nI N) gpa mSeen mPlans mBooks mTexted mIsKept mSpot mKeeps mMindStep mAt mWhat mWhole mIsBroken mWorth gth gpe gpr mSeenWho mSeenWhat mPlanWhat mPlanN mBookThing mBookPrice mWrong mText mImaged mMindHas mMindOwner mMindPrice mMindWrong mMostBy mTapeSort mTapeSize mMoved mTapes (xs (nI i + 1).toNatClampNeg) hw hP hD hS hl.1 (Nat.le_of_ble_eq_true rfl) hf dL_law_710 (fun r8 mStep' mMindStep' mHas' mOwner' mPrice' mWrong' mMindHas' mMindOwner' mMindPrice' mMindWrong' H locs hw hP hD hS => ?_)
  have hP := bw_comP hP
  have hD := bw_comD hD
  obtain ⟨e, hz2, rfl, rfl, rfl, rfl, hC2⟩ := hw
  refine lv_icmp_eq (tgt := 1059) hx hb dL_law_713 (by decide) (fun c1 => ?_) (fun c1 => absurd e.symm c1)
  exact kk _ H locs ⟨_, _, _, _, _, _, _, _, _, _, _, _, _, _, _, _, _, _, _, _, _, _, _, _, _, _, _, _, _, _, _, _, _, _, _, _, _, _, _, _, _, _, _, _, _, _, _, _, _, _, _, _, _, _, _, _, _, _, _, _, _, _, _, _, _, _, _, _, _, _, _, _, _, _, _, _, _, _, _, _, _, _, _, _, _, _, _, _, _, _, _, rfl, pz_R_mono ⟨N, rfl, rfl, rfl, rfl, rfl, rfl, hM, hQ, hK, hz2, hT, hC2, hA⟩ (by omega)⟩ hP hD hS
set_option maxHeartbeats 4000000 in
set_option maxRecDepth 100000 in
theorem lw_case_book {p : Program} {l : Launch} {e : Env} {s : State} {m : MethodId} {b L : Nat} {xs : Nat → Int32} {below : List Frame} {meth : Method} {c : Code} {H : Heap} {locs : List Loc} {cells slots : Nat} {Q : State → Prop} {ls : Array Slot} {dC : Nat → ClassId} {dI : Nat → Nat → Nat} {cI cJ cT cII cJJ : ClassId} {A : Nat → Prop} {ad7 ad8 : Nat → Nat} {Wd : va_W} {B : Int} {i : Nat} (C : lw_C p s m #[Value.ref b] meth c dC dI cI cJ cT cII cJJ A) (hX : va_X b L xs s s.heap) (hbl : b < s.heap.size) (hbA : ¬ A b) (hL : L ≤ 3072) (hi : i + 6 ≤ L) (hB0 : 2000 ≤ B) (hB : B ≤ 1000000) (hI : lw_I cI cJ cT cII cJJ ad7 ad8 B Wd) (hP : va_P (dC, dI) vwCl Wd H) (hD : va_D A Wd) (hS : va_S A s.heap H locs) (hl : lv_has ls 4 [(3, .int (nI i)), (2, .ref (ad8 0)), (1, .ref (ad7 0)), (0, .ref b)]) (hf : cells ≤ room_1.cells ∧ slots ≤ room_1.slots)
    (kk : ∀ (Wd : va_W) (H : Heap) (locs : List Loc), lw_I cI cJ cT cII cJJ ad7 ad8 (B + 941) Wd → va_P (dC, dI) vwCl Wd H → va_D A Wd → va_S A s.heap H locs → W p l e room_1 s m #[Value.ref b] below meth c H locs cells slots Q (F0 m 1059 ls [])) : W p l e room_1 s m #[Value.ref b] below meth c H locs cells slots Q (F0 m 718 ls []) := by
  obtain ⟨im, gn, gpa, gbr, gth, gpe, gpr, gw, gseru, gserl, gserr, gplru, gplrl, gplrr, gboru, gborl, gborr, kn, kpa, kbr, kth, kpe, kpr, kw, kseru, kserl, kserr, kplru, kplrl, kplrr, kboru, kborl, kborr, xn, xpa, xbr, xth, xpe, xpr, xw, su, tl, tc, ta, tk, tb, tp, tt, tw, ck, cc, cd, so, le, it, mN, mStep, mSeen, mPlans, mBooks, mTexted, mIsKept, mSpot, mKeeps, mMindStep, mAt, mWhat, mWhole, mIsBroken, mWorth, mHas, mOwner, mPrice, mSeenWho, mSeenWhat, mPlanWhat, mPlanN, mBookThing, mBookPrice, mWrong, mText, mImaged, mMindHas, mMindOwner, mMindPrice, mMindWrong, mMostBy, mTapeSort, mTapeSize, mMoved, mTapes, rfl, N, rfl, rfl, rfl, rfl, rfl, rfl, hM, hQ, hK, hz, hT, hC, hA⟩ := hI
  have hx := C.1
  have hb := C.2.1
  have hown := C.2.2.2.1
  have hts := C.2.2.2.2.1
  have h_1 : vp_in (nI i + 1) L := by rw [show nI i + 1 = nI (i + 1) from nI_add i 1]; exact vp_in_nI (by omega) (by omega)
  have h_2 : vp_in (nI i + 2) L := by rw [show nI i + 2 = nI (i + 2) from nI_add i 2]; exact vp_in_nI (by omega) (by omega)
  have h_3 : vp_in (nI i + 3) L := by rw [show nI i + 3 = nI (i + 3) from nI_add i 3]; exact vp_in_nI (by omega) (by omega)
  have h_4 : vp_in (nI i + 4) L := by rw [show nI i + 4 = nI (i + 4) from nI_add i 4]; exact vp_in_nI (by omega) (by omega)
  have h_5 : vp_in (nI i + 5) L := by rw [show nI i + 5 = nI (i + 5) from nI_add i 5]; exact vp_in_nI (by omega) (by omega)
  refine lv_aload_n hx hb dL_law_718 rfl (lv_at hl 2 rfl) ?_
  refine lv_aload_n hx hb dL_law_719 rfl (lv_at hl 3 rfl) ?_
  refine lv_iload_n hx hb dL_law_720 rfl (lv_at hl 0 rfl) ?_
  refine lv_iconst (v := 1) hx hb dL_law_721 (by decide) ?_
  refine lv_iadd hx hb dL_law_722 ?_
  refine va_sld hx hb hX hbl hbA hS h_1 dL_law_723 ?_
  refine lv_aload_n hx hb dL_law_724 rfl (lv_at hl 3 rfl) ?_
  refine lv_iload_n hx hb dL_law_725 rfl (lv_at hl 0 rfl) ?_
  refine lv_iconst (v := 2) hx hb dL_law_726 (by decide) ?_
  refine lv_iadd hx hb dL_law_727 ?_
  refine va_sld hx hb hX hbl hbA hS h_2 dL_law_728 ?_
  refine lc_X7_book C im (nI N) gpa gbr gth gpe gpr gw gseru gserl gserr gplru gplrl gplrr gboru gborl gborr kn kpa kbr kth kpe kpr kw kseru kserl kserr kplru kplrl kplrr kboru kborl kborr xn xpa xbr xth xpe xpr xw su tl tc ta tk tb tp tt tw ck cc cd so le it (xs (nI i + 1).toNatClampNeg) (xs (nI i + 2).toNatClampNeg) (pc_book hM.1 hM.2.1 hQ.2.2) hP hD hS hl.1 (Nat.le_of_ble_eq_true rfl) hf dL_law_729 (fun r7 gboru' gborl' gborr' H locs hw hP hD hS => ?_)
  have hP := bw_comP hP
  have hD := bw_comD hD
  refine lv_aload_n hx hb dL_law_732 rfl (lv_at hl 1 rfl) ?_
  refine lv_aload_n hx hb dL_law_733 rfl (lv_at hl 3 rfl) ?_
  refine lv_iload_n hx hb dL_law_734 rfl (lv_at hl 0 rfl) ?_
  refine lv_iconst (v := 1) hx hb dL_law_735 (by decide) ?_
  refine lv_iadd hx hb dL_law_736 ?_
  refine va_sld hx hb hX hbl hbA hS h_1 dL_law_737 ?_
  refine lv_aload_n hx hb dL_law_738 rfl (lv_at hl 3 rfl) ?_
  refine lv_iload_n hx hb dL_law_739 rfl (lv_at hl 0 rfl) ?_
  refine lv_iconst (v := 2) hx hb dL_law_740 (by decide) ?_
  refine lv_iadd hx hb dL_law_741 ?_
  refine va_sld hx hb hX hbl hbA hS h_2 dL_law_742 ?_
  refine lc_X8_book C (nI N) gpa mSeen mPlans mBooks mTexted mIsKept mSpot mKeeps mMindStep mAt mWhat mWhole mIsBroken mWorth gth gpe gpr mSeenWho mSeenWhat mPlanWhat mPlanN mBookThing mBookPrice mWrong mText mImaged mMindHas mMindOwner mMindPrice mMindWrong mMostBy mTapeSort mTapeSize mMoved mTapes (xs (nI i + 1).toNatClampNeg) (xs (nI i + 2).toNatClampNeg) hw hP hD hS hl.1 (Nat.le_of_ble_eq_true rfl) hf dL_law_743 (fun r8 mBooks' mBookThing' mBookPrice' H locs hw hP hD hS => ?_)
  have hP := bw_comP hP
  have hD := bw_comD hD
  obtain ⟨e, hL2⟩ := hw
  refine lv_icmp_eq (tgt := 1059) hx hb dL_law_746 (by decide) (fun c1 => ?_) (fun c1 => absurd e.symm c1)
  exact kk _ H locs ⟨_, _, _, _, _, _, _, _, _, _, _, _, _, _, _, _, _, _, _, _, _, _, _, _, _, _, _, _, _, _, _, _, _, _, _, _, _, _, _, _, _, _, _, _, _, _, _, _, _, _, _, _, _, _, _, _, _, _, _, _, _, _, _, _, _, _, _, _, _, _, _, _, _, _, _, _, _, _, _, _, _, _, _, _, _, _, _, _, _, _, _, rfl, pz_R_mono ⟨N, rfl, rfl, rfl, rfl, rfl, rfl, hM, ⟨hQ.1, hQ.2.1, hL2⟩, hK, hz, hT, hC, hA⟩ (by omega)⟩ hP hD hS
set_option maxHeartbeats 4000000 in
set_option maxRecDepth 100000 in
theorem lw_case_looked {p : Program} {l : Launch} {e : Env} {s : State} {m : MethodId} {b L : Nat} {xs : Nat → Int32} {below : List Frame} {meth : Method} {c : Code} {H : Heap} {locs : List Loc} {cells slots : Nat} {Q : State → Prop} {ls : Array Slot} {dC : Nat → ClassId} {dI : Nat → Nat → Nat} {cI cJ cT cII cJJ : ClassId} {A : Nat → Prop} {ad7 ad8 : Nat → Nat} {Wd : va_W} {B : Int} {i : Nat} (C : lw_C p s m #[Value.ref b] meth c dC dI cI cJ cT cII cJJ A) (hX : va_X b L xs s s.heap) (hbl : b < s.heap.size) (hbA : ¬ A b) (hL : L ≤ 3072) (hi : i + 6 ≤ L) (hB0 : 2000 ≤ B) (hB : B ≤ 1000000) (hI : lw_I cI cJ cT cII cJJ ad7 ad8 B Wd) (hP : va_P (dC, dI) vwCl Wd H) (hD : va_D A Wd) (hS : va_S A s.heap H locs) (hl : lv_has ls 4 [(3, .int (nI i)), (2, .ref (ad8 0)), (1, .ref (ad7 0)), (0, .ref b)]) (hf : cells ≤ room_1.cells ∧ slots ≤ room_1.slots)
    (kk : ∀ (Wd : va_W) (H : Heap) (locs : List Loc), lw_I cI cJ cT cII cJJ ad7 ad8 (B + 941) Wd → va_P (dC, dI) vwCl Wd H → va_D A Wd → va_S A s.heap H locs → W p l e room_1 s m #[Value.ref b] below meth c H locs cells slots Q (F0 m 1059 ls [])) : W p l e room_1 s m #[Value.ref b] below meth c H locs cells slots Q (F0 m 751 ls []) := by
  obtain ⟨im, gn, gpa, gbr, gth, gpe, gpr, gw, gseru, gserl, gserr, gplru, gplrl, gplrr, gboru, gborl, gborr, kn, kpa, kbr, kth, kpe, kpr, kw, kseru, kserl, kserr, kplru, kplrl, kplrr, kboru, kborl, kborr, xn, xpa, xbr, xth, xpe, xpr, xw, su, tl, tc, ta, tk, tb, tp, tt, tw, ck, cc, cd, so, le, it, mN, mStep, mSeen, mPlans, mBooks, mTexted, mIsKept, mSpot, mKeeps, mMindStep, mAt, mWhat, mWhole, mIsBroken, mWorth, mHas, mOwner, mPrice, mSeenWho, mSeenWhat, mPlanWhat, mPlanN, mBookThing, mBookPrice, mWrong, mText, mImaged, mMindHas, mMindOwner, mMindPrice, mMindWrong, mMostBy, mTapeSort, mTapeSize, mMoved, mTapes, rfl, N, rfl, rfl, rfl, rfl, rfl, rfl, hM, hQ, hK, hz, hT, hC, hA⟩ := hI
  have hx := C.1
  have hb := C.2.1
  have hown := C.2.2.2.1
  have hts := C.2.2.2.2.1
  have h_1 : vp_in (nI i + 1) L := by rw [show nI i + 1 = nI (i + 1) from nI_add i 1]; exact vp_in_nI (by omega) (by omega)
  have h_2 : vp_in (nI i + 2) L := by rw [show nI i + 2 = nI (i + 2) from nI_add i 2]; exact vp_in_nI (by omega) (by omega)
  have h_3 : vp_in (nI i + 3) L := by rw [show nI i + 3 = nI (i + 3) from nI_add i 3]; exact vp_in_nI (by omega) (by omega)
  have h_4 : vp_in (nI i + 4) L := by rw [show nI i + 4 = nI (i + 4) from nI_add i 4]; exact vp_in_nI (by omega) (by omega)
  have h_5 : vp_in (nI i + 5) L := by rw [show nI i + 5 = nI (i + 5) from nI_add i 5]; exact vp_in_nI (by omega) (by omega)
  refine lv_aload_n hx hb dL_law_751 rfl (lv_at hl 2 rfl) ?_
  refine lc_X7_looked C im (nI N) gpa gbr gth gpe gpr gw gseru gserl gserr gplru gplrl gplrr gboru gborl gborr kn kpa kbr kth kpe kpr kw kseru kserl kserr kplru kplrl kplrr kboru kborl kborr xn xpa xbr xth xpe xpr xw su tl tc ta tk tb tp tt tw ck cc cd so le it  (pc_looked hM.1 hQ.2.2) hP hD hS hl.1 (Nat.le_of_ble_eq_true rfl) hf dL_law_752 (fun r7 hw => ?_)
  have hP := bw_comP hP
  have hD := bw_comD hD
  refine lv_aload_n hx hb dL_law_755 rfl (lv_at hl 1 rfl) ?_
  refine lc_X8_looked C (nI N) gpa mSeen mPlans mBooks mTexted mIsKept mSpot mKeeps mMindStep mAt mWhat mWhole mIsBroken mWorth gth gpe gpr mSeenWho mSeenWhat mPlanWhat mPlanN mBookThing mBookPrice mWrong mText mImaged mMindHas mMindOwner mMindPrice mMindWrong mMostBy mTapeSort mTapeSize mMoved mTapes  hw hP hD hS hl.1 (Nat.le_of_ble_eq_true rfl) hf dL_law_756 (fun r8 hw => ?_)
  have hP := bw_comP hP
  have hD := bw_comD hD
  have e := hw
  refine lv_icmp_eq (tgt := 1059) hx hb dL_law_759 (by decide) (fun c1 => ?_) (fun c1 => absurd e.symm c1)
  exact kk _ H locs ⟨_, _, _, _, _, _, _, _, _, _, _, _, _, _, _, _, _, _, _, _, _, _, _, _, _, _, _, _, _, _, _, _, _, _, _, _, _, _, _, _, _, _, _, _, _, _, _, _, _, _, _, _, _, _, _, _, _, _, _, _, _, _, _, _, _, _, _, _, _, _, _, _, _, _, _, _, _, _, _, _, _, _, _, _, _, _, _, _, _, _, _, rfl, pz_R_mono ⟨N, rfl, rfl, rfl, rfl, rfl, rfl, hM, hQ, hK, hz, hT, hC, hA⟩ (by omega)⟩ hP hD hS
set_option maxHeartbeats 4000000 in
set_option maxRecDepth 100000 in
theorem lw_case_judge {p : Program} {l : Launch} {e : Env} {s : State} {m : MethodId} {b L : Nat} {xs : Nat → Int32} {below : List Frame} {meth : Method} {c : Code} {H : Heap} {locs : List Loc} {cells slots : Nat} {Q : State → Prop} {ls : Array Slot} {dC : Nat → ClassId} {dI : Nat → Nat → Nat} {cI cJ cT cII cJJ : ClassId} {A : Nat → Prop} {ad7 ad8 : Nat → Nat} {Wd : va_W} {B : Int} {i : Nat} (C : lw_C p s m #[Value.ref b] meth c dC dI cI cJ cT cII cJJ A) (hX : va_X b L xs s s.heap) (hbl : b < s.heap.size) (hbA : ¬ A b) (hL : L ≤ 3072) (hi : i + 6 ≤ L) (hB0 : 2000 ≤ B) (hB : B ≤ 1000000) (hI : lw_I cI cJ cT cII cJJ ad7 ad8 B Wd) (hP : va_P (dC, dI) vwCl Wd H) (hD : va_D A Wd) (hS : va_S A s.heap H locs) (hl : lv_has ls 4 [(3, .int (nI i)), (2, .ref (ad8 0)), (1, .ref (ad7 0)), (0, .ref b)]) (hf : cells ≤ room_1.cells ∧ slots ≤ room_1.slots)
    (kk : ∀ (Wd : va_W) (H : Heap) (locs : List Loc), lw_I cI cJ cT cII cJJ ad7 ad8 (B + 941) Wd → va_P (dC, dI) vwCl Wd H → va_D A Wd → va_S A s.heap H locs → W p l e room_1 s m #[Value.ref b] below meth c H locs cells slots Q (F0 m 1059 ls [])) : W p l e room_1 s m #[Value.ref b] below meth c H locs cells slots Q (F0 m 764 ls []) := by
  obtain ⟨im, gn, gpa, gbr, gth, gpe, gpr, gw, gseru, gserl, gserr, gplru, gplrl, gplrr, gboru, gborl, gborr, kn, kpa, kbr, kth, kpe, kpr, kw, kseru, kserl, kserr, kplru, kplrl, kplrr, kboru, kborl, kborr, xn, xpa, xbr, xth, xpe, xpr, xw, su, tl, tc, ta, tk, tb, tp, tt, tw, ck, cc, cd, so, le, it, mN, mStep, mSeen, mPlans, mBooks, mTexted, mIsKept, mSpot, mKeeps, mMindStep, mAt, mWhat, mWhole, mIsBroken, mWorth, mHas, mOwner, mPrice, mSeenWho, mSeenWhat, mPlanWhat, mPlanN, mBookThing, mBookPrice, mWrong, mText, mImaged, mMindHas, mMindOwner, mMindPrice, mMindWrong, mMostBy, mTapeSort, mTapeSize, mMoved, mTapes, rfl, N, rfl, rfl, rfl, rfl, rfl, rfl, hM, hQ, hK, hz, hT, hC, hA⟩ := hI
  have hx := C.1
  have hb := C.2.1
  have hown := C.2.2.2.1
  have hts := C.2.2.2.2.1
  have h_1 : vp_in (nI i + 1) L := by rw [show nI i + 1 = nI (i + 1) from nI_add i 1]; exact vp_in_nI (by omega) (by omega)
  have h_2 : vp_in (nI i + 2) L := by rw [show nI i + 2 = nI (i + 2) from nI_add i 2]; exact vp_in_nI (by omega) (by omega)
  have h_3 : vp_in (nI i + 3) L := by rw [show nI i + 3 = nI (i + 3) from nI_add i 3]; exact vp_in_nI (by omega) (by omega)
  have h_4 : vp_in (nI i + 4) L := by rw [show nI i + 4 = nI (i + 4) from nI_add i 4]; exact vp_in_nI (by omega) (by omega)
  have h_5 : vp_in (nI i + 5) L := by rw [show nI i + 5 = nI (i + 5) from nI_add i 5]; exact vp_in_nI (by omega) (by omega)
  refine lv_aload_n hx hb dL_law_764 rfl (lv_at hl 2 rfl) ?_
  refine lv_aload_n hx hb dL_law_765 rfl (lv_at hl 3 rfl) ?_
  refine lv_iload_n hx hb dL_law_766 rfl (lv_at hl 0 rfl) ?_
  refine lv_iconst (v := 1) hx hb dL_law_767 (by decide) ?_
  refine lv_iadd hx hb dL_law_768 ?_
  refine va_sld hx hb hX hbl hbA hS h_1 dL_law_769 ?_
  refine lv_aload_n hx hb dL_law_770 rfl (lv_at hl 3 rfl) ?_
  refine lv_iload_n hx hb dL_law_771 rfl (lv_at hl 0 rfl) ?_
  refine lv_iconst (v := 2) hx hb dL_law_772 (by decide) ?_
  refine lv_iadd hx hb dL_law_773 ?_
  refine va_sld hx hb hX hbl hbA hS h_2 dL_law_774 ?_
  refine lc_X7_judge C im (nI N) gpa gbr gth gpe gpr gw gseru gserl gserr gplru gplrl gplrr gboru gborl gborr kn kpa kbr kth kpe kpr kw kseru kserl kserr kplru kplrl kplrr kboru kborl kborr xn xpa xbr xth xpe xpr xw su tl tc ta tk tb tp tt tw ck cc cd so le it (xs (nI i + 1).toNatClampNeg) (xs (nI i + 2).toNatClampNeg) (pc_judge hM.1 hA) hP hD hS hl.1 (Nat.le_of_ble_eq_true rfl) hf dL_law_775 (fun r7 hw => ?_)
  have hP := bw_comP hP
  have hD := bw_comD hD
  refine lv_aload_n hx hb dL_law_778 rfl (lv_at hl 1 rfl) ?_
  refine lv_aload_n hx hb dL_law_779 rfl (lv_at hl 3 rfl) ?_
  refine lv_iload_n hx hb dL_law_780 rfl (lv_at hl 0 rfl) ?_
  refine lv_iconst (v := 1) hx hb dL_law_781 (by decide) ?_
  refine lv_iadd hx hb dL_law_782 ?_
  refine va_sld hx hb hX hbl hbA hS h_1 dL_law_783 ?_
  refine lv_aload_n hx hb dL_law_784 rfl (lv_at hl 3 rfl) ?_
  refine lv_iload_n hx hb dL_law_785 rfl (lv_at hl 0 rfl) ?_
  refine lv_iconst (v := 2) hx hb dL_law_786 (by decide) ?_
  refine lv_iadd hx hb dL_law_787 ?_
  refine va_sld hx hb hX hbl hbA hS h_2 dL_law_788 ?_
  refine lc_X8_judge C (nI N) gpa mSeen mPlans mBooks mTexted mIsKept mSpot mKeeps mMindStep mAt mWhat mWhole mIsBroken mWorth gth gpe gpr mSeenWho mSeenWhat mPlanWhat mPlanN mBookThing mBookPrice mWrong mText mImaged mMindHas mMindOwner mMindPrice mMindWrong mMostBy mTapeSort mTapeSize mMoved mTapes (xs (nI i + 1).toNatClampNeg) (xs (nI i + 2).toNatClampNeg) hw hP hD hS hl.1 (Nat.le_of_ble_eq_true rfl) hf dL_law_789 (fun r8 hw => ?_)
  have hP := bw_comP hP
  have hD := bw_comD hD
  have e := hw
  refine lv_icmp_eq (tgt := 1059) hx hb dL_law_792 (by decide) (fun c1 => ?_) (fun c1 => absurd e.symm c1)
  exact kk _ H locs ⟨_, _, _, _, _, _, _, _, _, _, _, _, _, _, _, _, _, _, _, _, _, _, _, _, _, _, _, _, _, _, _, _, _, _, _, _, _, _, _, _, _, _, _, _, _, _, _, _, _, _, _, _, _, _, _, _, _, _, _, _, _, _, _, _, _, _, _, _, _, _, _, _, _, _, _, _, _, _, _, _, _, _, _, _, _, _, _, _, _, _, _, rfl, pz_R_mono ⟨N, rfl, rfl, rfl, rfl, rfl, rfl, hM, hQ, hK, hz, hT, hC, hA⟩ (by omega)⟩ hP hD hS
set_option maxHeartbeats 4000000 in
set_option maxRecDepth 100000 in
theorem lw_case_image {p : Program} {l : Launch} {e : Env} {s : State} {m : MethodId} {b L : Nat} {xs : Nat → Int32} {below : List Frame} {meth : Method} {c : Code} {H : Heap} {locs : List Loc} {cells slots : Nat} {Q : State → Prop} {ls : Array Slot} {dC : Nat → ClassId} {dI : Nat → Nat → Nat} {cI cJ cT cII cJJ : ClassId} {A : Nat → Prop} {ad7 ad8 : Nat → Nat} {Wd : va_W} {B : Int} {i : Nat} (C : lw_C p s m #[Value.ref b] meth c dC dI cI cJ cT cII cJJ A) (hX : va_X b L xs s s.heap) (hbl : b < s.heap.size) (hbA : ¬ A b) (hL : L ≤ 3072) (hi : i + 6 ≤ L) (hB0 : 2000 ≤ B) (hB : B ≤ 1000000) (hI : lw_I cI cJ cT cII cJJ ad7 ad8 B Wd) (hP : va_P (dC, dI) vwCl Wd H) (hD : va_D A Wd) (hS : va_S A s.heap H locs) (hl : lv_has ls 4 [(3, .int (nI i)), (2, .ref (ad8 0)), (1, .ref (ad7 0)), (0, .ref b)]) (hf : cells ≤ room_1.cells ∧ slots ≤ room_1.slots)
    (kk : ∀ (Wd : va_W) (H : Heap) (locs : List Loc), lw_I cI cJ cT cII cJJ ad7 ad8 (B + 941) Wd → va_P (dC, dI) vwCl Wd H → va_D A Wd → va_S A s.heap H locs → W p l e room_1 s m #[Value.ref b] below meth c H locs cells slots Q (F0 m 1059 ls [])) : W p l e room_1 s m #[Value.ref b] below meth c H locs cells slots Q (F0 m 797 ls []) := by
  obtain ⟨im, gn, gpa, gbr, gth, gpe, gpr, gw, gseru, gserl, gserr, gplru, gplrl, gplrr, gboru, gborl, gborr, kn, kpa, kbr, kth, kpe, kpr, kw, kseru, kserl, kserr, kplru, kplrl, kplrr, kboru, kborl, kborr, xn, xpa, xbr, xth, xpe, xpr, xw, su, tl, tc, ta, tk, tb, tp, tt, tw, ck, cc, cd, so, le, it, mN, mStep, mSeen, mPlans, mBooks, mTexted, mIsKept, mSpot, mKeeps, mMindStep, mAt, mWhat, mWhole, mIsBroken, mWorth, mHas, mOwner, mPrice, mSeenWho, mSeenWhat, mPlanWhat, mPlanN, mBookThing, mBookPrice, mWrong, mText, mImaged, mMindHas, mMindOwner, mMindPrice, mMindWrong, mMostBy, mTapeSort, mTapeSize, mMoved, mTapes, rfl, N, rfl, rfl, rfl, rfl, rfl, rfl, hM, hQ, hK, hz, hT, hC, hA⟩ := hI
  have hx := C.1
  have hb := C.2.1
  have hown := C.2.2.2.1
  have hts := C.2.2.2.2.1
  have h_1 : vp_in (nI i + 1) L := by rw [show nI i + 1 = nI (i + 1) from nI_add i 1]; exact vp_in_nI (by omega) (by omega)
  have h_2 : vp_in (nI i + 2) L := by rw [show nI i + 2 = nI (i + 2) from nI_add i 2]; exact vp_in_nI (by omega) (by omega)
  have h_3 : vp_in (nI i + 3) L := by rw [show nI i + 3 = nI (i + 3) from nI_add i 3]; exact vp_in_nI (by omega) (by omega)
  have h_4 : vp_in (nI i + 4) L := by rw [show nI i + 4 = nI (i + 4) from nI_add i 4]; exact vp_in_nI (by omega) (by omega)
  have h_5 : vp_in (nI i + 5) L := by rw [show nI i + 5 = nI (i + 5) from nI_add i 5]; exact vp_in_nI (by omega) (by omega)
  refine lv_aload_n hx hb dL_law_797 rfl (lv_at hl 2 rfl) ?_
  refine lc_X7_image C im (nI N) gpa gbr gth gpe gpr gw gseru gserl gserr gplru gplrl gplrr gboru gborl gborr kn kpa kbr kth kpe kpr kw kseru kserl kserr kplru kplrl kplrr kboru kborl kborr xn xpa xbr xth xpe xpr xw su tl tc ta tk tb tp tt tw ck cc cd so le it  (pc_image hM hQ) hP hD hS hl.1 (Nat.le_of_ble_eq_true rfl) hf dL_law_798 (fun r7 im' kn' kpa' kth' kpe' kpr' kw' kseru' kserl' kserr' kplru' kplrl' kplrr' kboru' kborl' kborr' H locs hw hP hD hS => ?_)
  have hP := bw_comP hP
  have hD := bw_comD hD
  refine lv_aload_n hx hb dL_law_801 rfl (lv_at hl 1 rfl) ?_
  refine lc_X8_image C (nI N) gpa mSeen mPlans mBooks mTexted mIsKept mSpot mKeeps mMindStep mAt mWhat mWhole mIsBroken mWorth gth gpe gpr mSeenWho mSeenWhat mPlanWhat mPlanN mBookThing mBookPrice mWrong mText mImaged mMindHas mMindOwner mMindPrice mMindWrong mMostBy mTapeSort mTapeSize mMoved mTapes  hw hP hD hS hl.1 (Nat.le_of_ble_eq_true rfl) hf dL_law_802 (fun r8 mN' mStep' mSeen' mPlans' mBooks' mIsKept' mSpot' mKeeps' mWorth' mHas' mOwner' mPrice' mSeenWho' mSeenWhat' mPlanWhat' mPlanN' mBookThing' mBookPrice' mImaged' H locs hw hP hD hS => ?_)
  have hP := bw_comP hP
  have hD := bw_comD hD
  obtain ⟨e, rfl, rfl, rfl, rfl, rfl, rfl, rfl, rfl, rfl, rfl, rfl, rfl, rfl, rfl, rfl, hK2⟩ := hw
  refine lv_icmp_eq (tgt := 1059) hx hb dL_law_805 (by decide) (fun c1 => ?_) (fun c1 => absurd e.symm c1)
  exact kk _ H locs ⟨_, _, _, _, _, _, _, _, _, _, _, _, _, _, _, _, _, _, _, _, _, _, _, _, _, _, _, _, _, _, _, _, _, _, _, _, _, _, _, _, _, _, _, _, _, _, _, _, _, _, _, _, _, _, _, _, _, _, _, _, _, _, _, _, _, _, _, _, _, _, _, _, _, _, _, _, _, _, _, _, _, _, _, _, _, _, _, _, _, _, _, rfl, pz_R_mono ⟨N, rfl, rfl, rfl, rfl, rfl, rfl, hM, hQ, hK2, hz, hT, hC, hA⟩ (by omega)⟩ hP hD hS
set_option maxHeartbeats 4000000 in
set_option maxRecDepth 100000 in
theorem lw_case_undo {p : Program} {l : Launch} {e : Env} {s : State} {m : MethodId} {b L : Nat} {xs : Nat → Int32} {below : List Frame} {meth : Method} {c : Code} {H : Heap} {locs : List Loc} {cells slots : Nat} {Q : State → Prop} {ls : Array Slot} {dC : Nat → ClassId} {dI : Nat → Nat → Nat} {cI cJ cT cII cJJ : ClassId} {A : Nat → Prop} {ad7 ad8 : Nat → Nat} {Wd : va_W} {B : Int} {i : Nat} (C : lw_C p s m #[Value.ref b] meth c dC dI cI cJ cT cII cJJ A) (hX : va_X b L xs s s.heap) (hbl : b < s.heap.size) (hbA : ¬ A b) (hL : L ≤ 3072) (hi : i + 6 ≤ L) (hB0 : 2000 ≤ B) (hB : B ≤ 1000000) (hI : lw_I cI cJ cT cII cJJ ad7 ad8 B Wd) (hP : va_P (dC, dI) vwCl Wd H) (hD : va_D A Wd) (hS : va_S A s.heap H locs) (hl : lv_has ls 4 [(3, .int (nI i)), (2, .ref (ad8 0)), (1, .ref (ad7 0)), (0, .ref b)]) (hf : cells ≤ room_1.cells ∧ slots ≤ room_1.slots)
    (kk : ∀ (Wd : va_W) (H : Heap) (locs : List Loc), lw_I cI cJ cT cII cJJ ad7 ad8 (B + 941) Wd → va_P (dC, dI) vwCl Wd H → va_D A Wd → va_S A s.heap H locs → W p l e room_1 s m #[Value.ref b] below meth c H locs cells slots Q (F0 m 1059 ls [])) : W p l e room_1 s m #[Value.ref b] below meth c H locs cells slots Q (F0 m 810 ls []) := by
  obtain ⟨im, gn, gpa, gbr, gth, gpe, gpr, gw, gseru, gserl, gserr, gplru, gplrl, gplrr, gboru, gborl, gborr, kn, kpa, kbr, kth, kpe, kpr, kw, kseru, kserl, kserr, kplru, kplrl, kplrr, kboru, kborl, kborr, xn, xpa, xbr, xth, xpe, xpr, xw, su, tl, tc, ta, tk, tb, tp, tt, tw, ck, cc, cd, so, le, it, mN, mStep, mSeen, mPlans, mBooks, mTexted, mIsKept, mSpot, mKeeps, mMindStep, mAt, mWhat, mWhole, mIsBroken, mWorth, mHas, mOwner, mPrice, mSeenWho, mSeenWhat, mPlanWhat, mPlanN, mBookThing, mBookPrice, mWrong, mText, mImaged, mMindHas, mMindOwner, mMindPrice, mMindWrong, mMostBy, mTapeSort, mTapeSize, mMoved, mTapes, rfl, N, rfl, rfl, rfl, rfl, rfl, rfl, hM, hQ, hK, hz, hT, hC, hA⟩ := hI
  have hx := C.1
  have hb := C.2.1
  have hown := C.2.2.2.1
  have hts := C.2.2.2.2.1
  have h_1 : vp_in (nI i + 1) L := by rw [show nI i + 1 = nI (i + 1) from nI_add i 1]; exact vp_in_nI (by omega) (by omega)
  have h_2 : vp_in (nI i + 2) L := by rw [show nI i + 2 = nI (i + 2) from nI_add i 2]; exact vp_in_nI (by omega) (by omega)
  have h_3 : vp_in (nI i + 3) L := by rw [show nI i + 3 = nI (i + 3) from nI_add i 3]; exact vp_in_nI (by omega) (by omega)
  have h_4 : vp_in (nI i + 4) L := by rw [show nI i + 4 = nI (i + 4) from nI_add i 4]; exact vp_in_nI (by omega) (by omega)
  have h_5 : vp_in (nI i + 5) L := by rw [show nI i + 5 = nI (i + 5) from nI_add i 5]; exact vp_in_nI (by omega) (by omega)
  refine lv_aload_n hx hb dL_law_810 rfl (lv_at hl 2 rfl) ?_
  refine lc_X7_undo C im (nI N) gpa gbr gth gpe gpr gw gseru gserl gserr gplru gplrl gplrr gboru gborl gborr kn kpa kbr kth kpe kpr kw kseru kserl kserr kplru kplrl kplrr kboru kborl kborr xn xpa xbr xth xpe xpr xw su tl tc ta tk tb tp tt tw ck cc cd so le it  (pc_undo hM hQ hK) hP hD hS hl.1 (Nat.le_of_ble_eq_true rfl) hf dL_law_811 (fun r7 gn' gpa' gth' gpe' gpr' gw' gseru' gserl' gserr' gplru' gplrl' gplrr' gboru' gborl' gborr' H locs hw hP hD hS => ?_)
  have hP := bw_comP hP
  have hD := bw_comD hD
  refine lv_aload_n hx hb dL_law_814 rfl (lv_at hl 1 rfl) ?_
  refine lc_X8_undo C (nI N) gpa mSeen mPlans mBooks mTexted mIsKept mSpot mKeeps mMindStep mAt mWhat mWhole mIsBroken mWorth gth gpe gpr mSeenWho mSeenWhat mPlanWhat mPlanN mBookThing mBookPrice mWrong mText mImaged mMindHas mMindOwner mMindPrice mMindWrong mMostBy mTapeSort mTapeSize mMoved mTapes  hw hP hD hS hl.1 (Nat.le_of_ble_eq_true rfl) hf dL_law_815 (fun r8 mN' mStep' mSeen' mPlans' mBooks' mSpot' mKeeps' mWorth' mHas' mOwner' mPrice' mSeenWho' mSeenWhat' mPlanWhat' mPlanN' mBookThing' mBookPrice' mImaged' H locs hw hP hD hS => ?_)
  have hP := bw_comP hP
  have hD := bw_comD hD
  obtain ⟨e, rfl, N2, rfl, rfl, rfl, rfl, rfl, rfl, hM2, hQ2⟩ := hw
  refine lv_icmp_eq (tgt := 1059) hx hb dL_law_818 (by decide) (fun c1 => ?_) (fun c1 => absurd e.symm c1)
  exact kk _ H locs ⟨_, _, _, _, _, _, _, _, _, _, _, _, _, _, _, _, _, _, _, _, _, _, _, _, _, _, _, _, _, _, _, _, _, _, _, _, _, _, _, _, _, _, _, _, _, _, _, _, _, _, _, _, _, _, _, _, _, _, _, _, _, _, _, _, _, _, _, _, _, _, _, _, _, _, _, _, _, _, _, _, _, _, _, _, _, _, _, _, _, _, _, rfl, pz_R_mono ⟨N2, rfl, rfl, rfl, rfl, rfl, rfl, hM2, hQ2, hK, hz, hT, hC, hA⟩ (by omega)⟩ hP hD hS
set_option maxHeartbeats 4000000 in
set_option maxRecDepth 100000 in
theorem lw_case_count {p : Program} {l : Launch} {e : Env} {s : State} {m : MethodId} {b L : Nat} {xs : Nat → Int32} {below : List Frame} {meth : Method} {c : Code} {H : Heap} {locs : List Loc} {cells slots : Nat} {Q : State → Prop} {ls : Array Slot} {dC : Nat → ClassId} {dI : Nat → Nat → Nat} {cI cJ cT cII cJJ : ClassId} {A : Nat → Prop} {ad7 ad8 : Nat → Nat} {Wd : va_W} {B : Int} {i : Nat} (C : lw_C p s m #[Value.ref b] meth c dC dI cI cJ cT cII cJJ A) (hX : va_X b L xs s s.heap) (hbl : b < s.heap.size) (hbA : ¬ A b) (hL : L ≤ 3072) (hi : i + 6 ≤ L) (hB0 : 2000 ≤ B) (hB : B ≤ 1000000) (hI : lw_I cI cJ cT cII cJJ ad7 ad8 B Wd) (hP : va_P (dC, dI) vwCl Wd H) (hD : va_D A Wd) (hS : va_S A s.heap H locs) (hl : lv_has ls 4 [(3, .int (nI i)), (2, .ref (ad8 0)), (1, .ref (ad7 0)), (0, .ref b)]) (hf : cells ≤ room_1.cells ∧ slots ≤ room_1.slots)
    (kk : ∀ (Wd : va_W) (H : Heap) (locs : List Loc), lw_I cI cJ cT cII cJJ ad7 ad8 (B + 941) Wd → va_P (dC, dI) vwCl Wd H → va_D A Wd → va_S A s.heap H locs → W p l e room_1 s m #[Value.ref b] below meth c H locs cells slots Q (F0 m 1059 ls [])) : W p l e room_1 s m #[Value.ref b] below meth c H locs cells slots Q (F0 m 823 ls []) := by
  obtain ⟨im, gn, gpa, gbr, gth, gpe, gpr, gw, gseru, gserl, gserr, gplru, gplrl, gplrr, gboru, gborl, gborr, kn, kpa, kbr, kth, kpe, kpr, kw, kseru, kserl, kserr, kplru, kplrl, kplrr, kboru, kborl, kborr, xn, xpa, xbr, xth, xpe, xpr, xw, su, tl, tc, ta, tk, tb, tp, tt, tw, ck, cc, cd, so, le, it, mN, mStep, mSeen, mPlans, mBooks, mTexted, mIsKept, mSpot, mKeeps, mMindStep, mAt, mWhat, mWhole, mIsBroken, mWorth, mHas, mOwner, mPrice, mSeenWho, mSeenWhat, mPlanWhat, mPlanN, mBookThing, mBookPrice, mWrong, mText, mImaged, mMindHas, mMindOwner, mMindPrice, mMindWrong, mMostBy, mTapeSort, mTapeSize, mMoved, mTapes, rfl, N, rfl, rfl, rfl, rfl, rfl, rfl, hM, hQ, hK, hz, hT, hC, hA⟩ := hI
  have hx := C.1
  have hb := C.2.1
  have hown := C.2.2.2.1
  have hts := C.2.2.2.2.1
  have h_1 : vp_in (nI i + 1) L := by rw [show nI i + 1 = nI (i + 1) from nI_add i 1]; exact vp_in_nI (by omega) (by omega)
  have h_2 : vp_in (nI i + 2) L := by rw [show nI i + 2 = nI (i + 2) from nI_add i 2]; exact vp_in_nI (by omega) (by omega)
  have h_3 : vp_in (nI i + 3) L := by rw [show nI i + 3 = nI (i + 3) from nI_add i 3]; exact vp_in_nI (by omega) (by omega)
  have h_4 : vp_in (nI i + 4) L := by rw [show nI i + 4 = nI (i + 4) from nI_add i 4]; exact vp_in_nI (by omega) (by omega)
  have h_5 : vp_in (nI i + 5) L := by rw [show nI i + 5 = nI (i + 5) from nI_add i 5]; exact vp_in_nI (by omega) (by omega)
  have q1 := pz_L_eq hQ.1
  have q2 := pz_L_eq hQ.2.1
  have q3 := pz_L_eq hQ.2.2
  have q4 := pz_T_eq hT
  subst q1 q2 q3 q4
  refine lv_aload_n hx hb dL_law_823 rfl (lv_at hl 2 rfl) ?_
  refine lv_aload_n hx hb dL_law_824 rfl (lv_at hl 3 rfl) ?_
  refine lv_iload_n hx hb dL_law_825 rfl (lv_at hl 0 rfl) ?_
  refine lv_iconst (v := 1) hx hb dL_law_826 (by decide) ?_
  refine lv_iadd hx hb dL_law_827 ?_
  refine va_sld hx hb hX hbl hbA hS h_1 dL_law_828 ?_
  refine lc_X7_count C im (nI N) gpa gbr gth gpe gpr gw mSeen gserl gserr mPlans gplrl gplrr mBooks gborl gborr kn kpa kbr kth kpe kpr kw kseru kserl kserr kplru kplrl kplrr kboru kborl kborr xn xpa xbr xth xpe xpr xw su mTexted tc ta tk tb tp tt tw ck cc cd so le it (xs (nI i + 1).toNatClampNeg) (pc_count hM) hP hD hS hl.1 (Nat.le_of_ble_eq_true rfl) hf dL_law_829 (fun r7 hw => ?_)
  have hP := bw_comP hP
  have hD := bw_comD hD
  refine lv_aload_n hx hb dL_law_832 rfl (lv_at hl 1 rfl) ?_
  refine lv_aload_n hx hb dL_law_833 rfl (lv_at hl 3 rfl) ?_
  refine lv_iload_n hx hb dL_law_834 rfl (lv_at hl 0 rfl) ?_
  refine lv_iconst (v := 1) hx hb dL_law_835 (by decide) ?_
  refine lv_iadd hx hb dL_law_836 ?_
  refine va_sld hx hb hX hbl hbA hS h_1 dL_law_837 ?_
  refine lc_X8_count C (nI N) gpa mSeen mPlans mBooks mTexted mIsKept mSpot mKeeps mMindStep mAt mWhat mWhole mIsBroken mWorth gth gpe gpr mSeenWho mSeenWhat mPlanWhat mPlanN mBookThing mBookPrice mWrong mText mImaged mMindHas mMindOwner mMindPrice mMindWrong mMostBy mTapeSort mTapeSize mMoved mTapes (xs (nI i + 1).toNatClampNeg) hw hP hD hS hl.1 (Nat.le_of_ble_eq_true rfl) hf dL_law_838 (fun r8 hw => ?_)
  have hP := bw_comP hP
  have hD := bw_comD hD
  have e := hw
  refine lv_icmp_eq (tgt := 1059) hx hb dL_law_841 (by decide) (fun c1 => ?_) (fun c1 => absurd e.symm c1)
  exact kk _ H locs ⟨_, _, _, _, _, _, _, _, _, _, _, _, _, _, _, _, _, _, _, _, _, _, _, _, _, _, _, _, _, _, _, _, _, _, _, _, _, _, _, _, _, _, _, _, _, _, _, _, _, _, _, _, _, _, _, _, _, _, _, _, _, _, _, _, _, _, _, _, _, _, _, _, _, _, _, _, _, _, _, _, _, _, _, _, _, _, _, _, _, _, _, rfl, pz_R_mono ⟨N, rfl, rfl, rfl, rfl, rfl, rfl, hM, hQ, hK, hz, hT, hC, hA⟩ (by omega)⟩ hP hD hS
set_option maxHeartbeats 4000000 in
set_option maxRecDepth 100000 in
theorem lw_case_tape {p : Program} {l : Launch} {e : Env} {s : State} {m : MethodId} {b L : Nat} {xs : Nat → Int32} {below : List Frame} {meth : Method} {c : Code} {H : Heap} {locs : List Loc} {cells slots : Nat} {Q : State → Prop} {ls : Array Slot} {dC : Nat → ClassId} {dI : Nat → Nat → Nat} {cI cJ cT cII cJJ : ClassId} {A : Nat → Prop} {ad7 ad8 : Nat → Nat} {Wd : va_W} {B : Int} {i : Nat} (C : lw_C p s m #[Value.ref b] meth c dC dI cI cJ cT cII cJJ A) (hX : va_X b L xs s s.heap) (hbl : b < s.heap.size) (hbA : ¬ A b) (hL : L ≤ 3072) (hi : i + 6 ≤ L) (hB0 : 2000 ≤ B) (hB : B ≤ 1000000) (hI : lw_I cI cJ cT cII cJJ ad7 ad8 B Wd) (hP : va_P (dC, dI) vwCl Wd H) (hD : va_D A Wd) (hS : va_S A s.heap H locs) (hl : lv_has ls 4 [(3, .int (nI i)), (2, .ref (ad8 0)), (1, .ref (ad7 0)), (0, .ref b)]) (hf : cells ≤ room_1.cells ∧ slots ≤ room_1.slots)
    (kk : ∀ (Wd : va_W) (H : Heap) (locs : List Loc), lw_I cI cJ cT cII cJJ ad7 ad8 (B + 941) Wd → va_P (dC, dI) vwCl Wd H → va_D A Wd → va_S A s.heap H locs → W p l e room_1 s m #[Value.ref b] below meth c H locs cells slots Q (F0 m 1059 ls [])) : W p l e room_1 s m #[Value.ref b] below meth c H locs cells slots Q (F0 m 846 ls []) := by
  obtain ⟨im, gn, gpa, gbr, gth, gpe, gpr, gw, gseru, gserl, gserr, gplru, gplrl, gplrr, gboru, gborl, gborr, kn, kpa, kbr, kth, kpe, kpr, kw, kseru, kserl, kserr, kplru, kplrl, kplrr, kboru, kborl, kborr, xn, xpa, xbr, xth, xpe, xpr, xw, su, tl, tc, ta, tk, tb, tp, tt, tw, ck, cc, cd, so, le, it, mN, mStep, mSeen, mPlans, mBooks, mTexted, mIsKept, mSpot, mKeeps, mMindStep, mAt, mWhat, mWhole, mIsBroken, mWorth, mHas, mOwner, mPrice, mSeenWho, mSeenWhat, mPlanWhat, mPlanN, mBookThing, mBookPrice, mWrong, mText, mImaged, mMindHas, mMindOwner, mMindPrice, mMindWrong, mMostBy, mTapeSort, mTapeSize, mMoved, mTapes, rfl, N, rfl, rfl, rfl, rfl, rfl, rfl, hM, hQ, hK, hz, hT, hC, hA⟩ := hI
  have hx := C.1
  have hb := C.2.1
  have hown := C.2.2.2.1
  have hts := C.2.2.2.2.1
  have h_1 : vp_in (nI i + 1) L := by rw [show nI i + 1 = nI (i + 1) from nI_add i 1]; exact vp_in_nI (by omega) (by omega)
  have h_2 : vp_in (nI i + 2) L := by rw [show nI i + 2 = nI (i + 2) from nI_add i 2]; exact vp_in_nI (by omega) (by omega)
  have h_3 : vp_in (nI i + 3) L := by rw [show nI i + 3 = nI (i + 3) from nI_add i 3]; exact vp_in_nI (by omega) (by omega)
  have h_4 : vp_in (nI i + 4) L := by rw [show nI i + 4 = nI (i + 4) from nI_add i 4]; exact vp_in_nI (by omega) (by omega)
  have h_5 : vp_in (nI i + 5) L := by rw [show nI i + 5 = nI (i + 5) from nI_add i 5]; exact vp_in_nI (by omega) (by omega)
  refine lv_aload_n hx hb dL_law_846 rfl (lv_at hl 2 rfl) ?_
  refine lv_aload_n hx hb dL_law_847 rfl (lv_at hl 3 rfl) ?_
  refine lv_iload_n hx hb dL_law_848 rfl (lv_at hl 0 rfl) ?_
  refine lv_iconst (v := 1) hx hb dL_law_849 (by decide) ?_
  refine lv_iadd hx hb dL_law_850 ?_
  refine va_sld hx hb hX hbl hbA hS h_1 dL_law_851 ?_
  refine lv_aload_n hx hb dL_law_852 rfl (lv_at hl 3 rfl) ?_
  refine lv_iload_n hx hb dL_law_853 rfl (lv_at hl 0 rfl) ?_
  refine lv_iconst (v := 2) hx hb dL_law_854 (by decide) ?_
  refine lv_iadd hx hb dL_law_855 ?_
  refine va_sld hx hb hX hbl hbA hS h_2 dL_law_856 ?_
  refine lv_aload_n hx hb dL_law_857 rfl (lv_at hl 3 rfl) ?_
  refine lv_iload_n hx hb dL_law_858 rfl (lv_at hl 0 rfl) ?_
  refine lv_iconst (v := 3) hx hb dL_law_859 (by decide) ?_
  refine lv_iadd hx hb dL_law_860 ?_
  refine va_sld hx hb hX hbl hbA hS h_3 dL_law_861 ?_
  refine lc_X7_tape C im (nI N) gpa gbr gth gpe gpr gw gseru gserl gserr gplru gplrl gplrr gboru gborl gborr kn kpa kbr kth kpe kpr kw kseru kserl kserr kplru kplrl kplrr kboru kborl kborr xn xpa xbr xth xpe xpr xw su tl tc ta tk tb tp tt tw ck cc cd so le it (xs (nI i + 1).toNatClampNeg) (xs (nI i + 2).toNatClampNeg) (xs (nI i + 3).toNatClampNeg) (pc_tape hA) hP hD hS hl.1 (Nat.le_of_ble_eq_true rfl) hf dL_law_862 (fun r7 so' le' it' H locs hw hP hD hS => ?_)
  have hP := bw_comP hP
  have hD := bw_comD hD
  refine lv_aload_n hx hb dL_law_865 rfl (lv_at hl 1 rfl) ?_
  refine lv_aload_n hx hb dL_law_866 rfl (lv_at hl 3 rfl) ?_
  refine lv_iload_n hx hb dL_law_867 rfl (lv_at hl 0 rfl) ?_
  refine lv_iconst (v := 1) hx hb dL_law_868 (by decide) ?_
  refine lv_iadd hx hb dL_law_869 ?_
  refine va_sld hx hb hX hbl hbA hS h_1 dL_law_870 ?_
  refine lv_aload_n hx hb dL_law_871 rfl (lv_at hl 3 rfl) ?_
  refine lv_iload_n hx hb dL_law_872 rfl (lv_at hl 0 rfl) ?_
  refine lv_iconst (v := 2) hx hb dL_law_873 (by decide) ?_
  refine lv_iadd hx hb dL_law_874 ?_
  refine va_sld hx hb hX hbl hbA hS h_2 dL_law_875 ?_
  refine lv_aload_n hx hb dL_law_876 rfl (lv_at hl 3 rfl) ?_
  refine lv_iload_n hx hb dL_law_877 rfl (lv_at hl 0 rfl) ?_
  refine lv_iconst (v := 3) hx hb dL_law_878 (by decide) ?_
  refine lv_iadd hx hb dL_law_879 ?_
  refine va_sld hx hb hX hbl hbA hS h_3 dL_law_880 ?_
  refine lc_X8_tape C (nI N) gpa mSeen mPlans mBooks mTexted mIsKept mSpot mKeeps mMindStep mAt mWhat mWhole mIsBroken mWorth gth gpe gpr mSeenWho mSeenWhat mPlanWhat mPlanN mBookThing mBookPrice mWrong mText mImaged mMindHas mMindOwner mMindPrice mMindWrong mMostBy mTapeSort mTapeSize mMoved mTapes (xs (nI i + 1).toNatClampNeg) (xs (nI i + 2).toNatClampNeg) (xs (nI i + 3).toNatClampNeg) hw hP hD hS hl.1 (Nat.le_of_ble_eq_true rfl) hf dL_law_881 (fun r8 mTapeSort' mTapeSize' mTapes' H locs hw hP hD hS => ?_)
  have hP := bw_comP hP
  have hD := bw_comD hD
  obtain ⟨e, hA2⟩ := hw
  refine lv_icmp_eq (tgt := 1059) hx hb dL_law_884 (by decide) (fun c1 => ?_) (fun c1 => absurd e.symm c1)
  exact kk _ H locs ⟨_, _, _, _, _, _, _, _, _, _, _, _, _, _, _, _, _, _, _, _, _, _, _, _, _, _, _, _, _, _, _, _, _, _, _, _, _, _, _, _, _, _, _, _, _, _, _, _, _, _, _, _, _, _, _, _, _, _, _, _, _, _, _, _, _, _, _, _, _, _, _, _, _, _, _, _, _, _, _, _, _, _, _, _, _, _, _, _, _, _, _, rfl, pz_R_mono ⟨N, rfl, rfl, rfl, rfl, rfl, rfl, hM, hQ, hK, hz, hT, hC, hA2⟩ (by omega)⟩ hP hD hS
set_option maxHeartbeats 4000000 in
set_option maxRecDepth 100000 in
theorem lw_case_item {p : Program} {l : Launch} {e : Env} {s : State} {m : MethodId} {b L : Nat} {xs : Nat → Int32} {below : List Frame} {meth : Method} {c : Code} {H : Heap} {locs : List Loc} {cells slots : Nat} {Q : State → Prop} {ls : Array Slot} {dC : Nat → ClassId} {dI : Nat → Nat → Nat} {cI cJ cT cII cJJ : ClassId} {A : Nat → Prop} {ad7 ad8 : Nat → Nat} {Wd : va_W} {B : Int} {i : Nat} (C : lw_C p s m #[Value.ref b] meth c dC dI cI cJ cT cII cJJ A) (hX : va_X b L xs s s.heap) (hbl : b < s.heap.size) (hbA : ¬ A b) (hL : L ≤ 3072) (hi : i + 6 ≤ L) (hB0 : 2000 ≤ B) (hB : B ≤ 1000000) (hI : lw_I cI cJ cT cII cJJ ad7 ad8 B Wd) (hP : va_P (dC, dI) vwCl Wd H) (hD : va_D A Wd) (hS : va_S A s.heap H locs) (hl : lv_has ls 4 [(3, .int (nI i)), (2, .ref (ad8 0)), (1, .ref (ad7 0)), (0, .ref b)]) (hf : cells ≤ room_1.cells ∧ slots ≤ room_1.slots)
    (kk : ∀ (Wd : va_W) (H : Heap) (locs : List Loc), lw_I cI cJ cT cII cJJ ad7 ad8 (B + 941) Wd → va_P (dC, dI) vwCl Wd H → va_D A Wd → va_S A s.heap H locs → W p l e room_1 s m #[Value.ref b] below meth c H locs cells slots Q (F0 m 1059 ls [])) : W p l e room_1 s m #[Value.ref b] below meth c H locs cells slots Q (F0 m 889 ls []) := by
  obtain ⟨im, gn, gpa, gbr, gth, gpe, gpr, gw, gseru, gserl, gserr, gplru, gplrl, gplrr, gboru, gborl, gborr, kn, kpa, kbr, kth, kpe, kpr, kw, kseru, kserl, kserr, kplru, kplrl, kplrr, kboru, kborl, kborr, xn, xpa, xbr, xth, xpe, xpr, xw, su, tl, tc, ta, tk, tb, tp, tt, tw, ck, cc, cd, so, le, it, mN, mStep, mSeen, mPlans, mBooks, mTexted, mIsKept, mSpot, mKeeps, mMindStep, mAt, mWhat, mWhole, mIsBroken, mWorth, mHas, mOwner, mPrice, mSeenWho, mSeenWhat, mPlanWhat, mPlanN, mBookThing, mBookPrice, mWrong, mText, mImaged, mMindHas, mMindOwner, mMindPrice, mMindWrong, mMostBy, mTapeSort, mTapeSize, mMoved, mTapes, rfl, N, rfl, rfl, rfl, rfl, rfl, rfl, hM, hQ, hK, hz, hT, hC, hA⟩ := hI
  have hx := C.1
  have hb := C.2.1
  have hown := C.2.2.2.1
  have hts := C.2.2.2.2.1
  have h_1 : vp_in (nI i + 1) L := by rw [show nI i + 1 = nI (i + 1) from nI_add i 1]; exact vp_in_nI (by omega) (by omega)
  have h_2 : vp_in (nI i + 2) L := by rw [show nI i + 2 = nI (i + 2) from nI_add i 2]; exact vp_in_nI (by omega) (by omega)
  have h_3 : vp_in (nI i + 3) L := by rw [show nI i + 3 = nI (i + 3) from nI_add i 3]; exact vp_in_nI (by omega) (by omega)
  have h_4 : vp_in (nI i + 4) L := by rw [show nI i + 4 = nI (i + 4) from nI_add i 4]; exact vp_in_nI (by omega) (by omega)
  have h_5 : vp_in (nI i + 5) L := by rw [show nI i + 5 = nI (i + 5) from nI_add i 5]; exact vp_in_nI (by omega) (by omega)
  refine lv_aload_n hx hb dL_law_889 rfl (lv_at hl 2 rfl) ?_
  refine lv_aload_n hx hb dL_law_890 rfl (lv_at hl 3 rfl) ?_
  refine lv_iload_n hx hb dL_law_891 rfl (lv_at hl 0 rfl) ?_
  refine lv_iconst (v := 1) hx hb dL_law_892 (by decide) ?_
  refine lv_iadd hx hb dL_law_893 ?_
  refine va_sld hx hb hX hbl hbA hS h_1 dL_law_894 ?_
  refine lv_aload_n hx hb dL_law_895 rfl (lv_at hl 3 rfl) ?_
  refine lv_iload_n hx hb dL_law_896 rfl (lv_at hl 0 rfl) ?_
  refine lv_iconst (v := 2) hx hb dL_law_897 (by decide) ?_
  refine lv_iadd hx hb dL_law_898 ?_
  refine va_sld hx hb hX hbl hbA hS h_2 dL_law_899 ?_
  refine lv_aload_n hx hb dL_law_900 rfl (lv_at hl 3 rfl) ?_
  refine lv_iload_n hx hb dL_law_901 rfl (lv_at hl 0 rfl) ?_
  refine lv_iconst (v := 3) hx hb dL_law_902 (by decide) ?_
  refine lv_iadd hx hb dL_law_903 ?_
  refine va_sld hx hb hX hbl hbA hS h_3 dL_law_904 ?_
  refine lv_i2l hx hb dL_law_905 rfl ?_
  refine lv_bipush (v := 32) hx hb dL_law_906 (by decide) ?_
  refine lv_lshl hx hb dL_law_908 rfl ?_
  refine lv_aload_n hx hb dL_law_909 rfl (lv_at hl 3 rfl) ?_
  refine lv_iload_n hx hb dL_law_910 rfl (lv_at hl 0 rfl) ?_
  refine lv_iconst (v := 4) hx hb dL_law_911 (by decide) ?_
  refine lv_iadd hx hb dL_law_912 ?_
  refine va_sld hx hb hX hbl hbA hS h_4 dL_law_913 ?_
  refine lv_i2l hx hb dL_law_914 rfl ?_
  refine lv_ldc2 hx hb hown (hts (.constantLong RL 132 (4294967295)) (by decide +kernel)) dL_law_915 ?_
  refine lv_land hx hb dL_law_918 ?_
  refine lv_lor hx hb dL_law_919 ?_
  refine lc_X7_item C im (nI N) gpa gbr gth gpe gpr gw gseru gserl gserr gplru gplrl gplrr gboru gborl gborr kn kpa kbr kth kpe kpr kw kseru kserl kserr kplru kplrl kplrr kboru kborl kborr xn xpa xbr xth xpe xpr xw su tl tc ta tk tb tp tt tw ck cc cd so le it (xs (nI i + 1).toNatClampNeg) (xs (nI i + 2).toNatClampNeg) ((((xs (nI i + 3).toNatClampNeg).toInt64) <<< ((32 : Int32).toInt64 &&& 63)) ||| (((xs (nI i + 4).toNatClampNeg).toInt64) &&& 4294967295)) (pc_item hA) hP hD hS hl.1 (Nat.le_of_ble_eq_true rfl) hf dL_law_920 (fun r7 it' H locs hw hP hD hS => ?_)
  have hP := bw_comP hP
  have hD := bw_comD hD
  refine lv_aload_n hx hb dL_law_923 rfl (lv_at hl 1 rfl) ?_
  refine lv_aload_n hx hb dL_law_924 rfl (lv_at hl 3 rfl) ?_
  refine lv_iload_n hx hb dL_law_925 rfl (lv_at hl 0 rfl) ?_
  refine lv_iconst (v := 1) hx hb dL_law_926 (by decide) ?_
  refine lv_iadd hx hb dL_law_927 ?_
  refine va_sld hx hb hX hbl hbA hS h_1 dL_law_928 ?_
  refine lv_aload_n hx hb dL_law_929 rfl (lv_at hl 3 rfl) ?_
  refine lv_iload_n hx hb dL_law_930 rfl (lv_at hl 0 rfl) ?_
  refine lv_iconst (v := 2) hx hb dL_law_931 (by decide) ?_
  refine lv_iadd hx hb dL_law_932 ?_
  refine va_sld hx hb hX hbl hbA hS h_2 dL_law_933 ?_
  refine lv_aload_n hx hb dL_law_934 rfl (lv_at hl 3 rfl) ?_
  refine lv_iload_n hx hb dL_law_935 rfl (lv_at hl 0 rfl) ?_
  refine lv_iconst (v := 3) hx hb dL_law_936 (by decide) ?_
  refine lv_iadd hx hb dL_law_937 ?_
  refine va_sld hx hb hX hbl hbA hS h_3 dL_law_938 ?_
  refine lv_i2l hx hb dL_law_939 rfl ?_
  refine lv_bipush (v := 32) hx hb dL_law_940 (by decide) ?_
  refine lv_lshl hx hb dL_law_942 rfl ?_
  refine lv_aload_n hx hb dL_law_943 rfl (lv_at hl 3 rfl) ?_
  refine lv_iload_n hx hb dL_law_944 rfl (lv_at hl 0 rfl) ?_
  refine lv_iconst (v := 4) hx hb dL_law_945 (by decide) ?_
  refine lv_iadd hx hb dL_law_946 ?_
  refine va_sld hx hb hX hbl hbA hS h_4 dL_law_947 ?_
  refine lv_i2l hx hb dL_law_948 rfl ?_
  refine lv_ldc2 hx hb hown (hts (.constantLong RL 132 (4294967295)) (by decide +kernel)) dL_law_949 ?_
  refine lv_land hx hb dL_law_952 ?_
  refine lv_lor hx hb dL_law_953 ?_
  refine lc_X8_item C (nI N) gpa mSeen mPlans mBooks mTexted mIsKept mSpot mKeeps mMindStep mAt mWhat mWhole mIsBroken mWorth gth gpe gpr mSeenWho mSeenWhat mPlanWhat mPlanN mBookThing mBookPrice mWrong mText mImaged mMindHas mMindOwner mMindPrice mMindWrong mMostBy mTapeSort mTapeSize mMoved mTapes (xs (nI i + 1).toNatClampNeg) (xs (nI i + 2).toNatClampNeg) ((((xs (nI i + 3).toNatClampNeg).toInt64) <<< ((32 : Int32).toInt64 &&& 63)) ||| (((xs (nI i + 4).toNatClampNeg).toInt64) &&& 4294967295)) hw hP hD hS hl.1 (Nat.le_of_ble_eq_true rfl) hf dL_law_954 (fun r8 mTapes' H locs hw hP hD hS => ?_)
  have hP := bw_comP hP
  have hD := bw_comD hD
  obtain ⟨e, hA2⟩ := hw
  refine lv_icmp_eq (tgt := 1059) hx hb dL_law_957 (by decide) (fun c1 => ?_) (fun c1 => absurd e.symm c1)
  exact kk _ H locs ⟨_, _, _, _, _, _, _, _, _, _, _, _, _, _, _, _, _, _, _, _, _, _, _, _, _, _, _, _, _, _, _, _, _, _, _, _, _, _, _, _, _, _, _, _, _, _, _, _, _, _, _, _, _, _, _, _, _, _, _, _, _, _, _, _, _, _, _, _, _, _, _, _, _, _, _, _, _, _, _, _, _, _, _, _, _, _, _, _, _, _, _, rfl, pz_R_mono ⟨N, rfl, rfl, rfl, rfl, rfl, rfl, hM, hQ, hK, hz, hT, hC, hA2⟩ (by omega)⟩ hP hD hS
set_option maxHeartbeats 4000000 in
set_option maxRecDepth 100000 in
theorem lw_case_peek {p : Program} {l : Launch} {e : Env} {s : State} {m : MethodId} {b L : Nat} {xs : Nat → Int32} {below : List Frame} {meth : Method} {c : Code} {H : Heap} {locs : List Loc} {cells slots : Nat} {Q : State → Prop} {ls : Array Slot} {dC : Nat → ClassId} {dI : Nat → Nat → Nat} {cI cJ cT cII cJJ : ClassId} {A : Nat → Prop} {ad7 ad8 : Nat → Nat} {Wd : va_W} {B : Int} {i : Nat} (C : lw_C p s m #[Value.ref b] meth c dC dI cI cJ cT cII cJJ A) (hX : va_X b L xs s s.heap) (hbl : b < s.heap.size) (hbA : ¬ A b) (hL : L ≤ 3072) (hi : i + 6 ≤ L) (hB0 : 2000 ≤ B) (hB : B ≤ 1000000) (hI : lw_I cI cJ cT cII cJJ ad7 ad8 B Wd) (hP : va_P (dC, dI) vwCl Wd H) (hD : va_D A Wd) (hS : va_S A s.heap H locs) (hl : lv_has ls 4 [(3, .int (nI i)), (2, .ref (ad8 0)), (1, .ref (ad7 0)), (0, .ref b)]) (hf : cells ≤ room_1.cells ∧ slots ≤ room_1.slots)
    (kk : ∀ (Wd : va_W) (H : Heap) (locs : List Loc), lw_I cI cJ cT cII cJJ ad7 ad8 (B + 941) Wd → va_P (dC, dI) vwCl Wd H → va_D A Wd → va_S A s.heap H locs → W p l e room_1 s m #[Value.ref b] below meth c H locs cells slots Q (F0 m 1059 ls [])) : W p l e room_1 s m #[Value.ref b] below meth c H locs cells slots Q (F0 m 962 ls []) := by
  obtain ⟨im, gn, gpa, gbr, gth, gpe, gpr, gw, gseru, gserl, gserr, gplru, gplrl, gplrr, gboru, gborl, gborr, kn, kpa, kbr, kth, kpe, kpr, kw, kseru, kserl, kserr, kplru, kplrl, kplrr, kboru, kborl, kborr, xn, xpa, xbr, xth, xpe, xpr, xw, su, tl, tc, ta, tk, tb, tp, tt, tw, ck, cc, cd, so, le, it, mN, mStep, mSeen, mPlans, mBooks, mTexted, mIsKept, mSpot, mKeeps, mMindStep, mAt, mWhat, mWhole, mIsBroken, mWorth, mHas, mOwner, mPrice, mSeenWho, mSeenWhat, mPlanWhat, mPlanN, mBookThing, mBookPrice, mWrong, mText, mImaged, mMindHas, mMindOwner, mMindPrice, mMindWrong, mMostBy, mTapeSort, mTapeSize, mMoved, mTapes, rfl, N, rfl, rfl, rfl, rfl, rfl, rfl, hM, hQ, hK, hz, hT, hC, hA⟩ := hI
  have hx := C.1
  have hb := C.2.1
  have hown := C.2.2.2.1
  have hts := C.2.2.2.2.1
  have h_1 : vp_in (nI i + 1) L := by rw [show nI i + 1 = nI (i + 1) from nI_add i 1]; exact vp_in_nI (by omega) (by omega)
  have h_2 : vp_in (nI i + 2) L := by rw [show nI i + 2 = nI (i + 2) from nI_add i 2]; exact vp_in_nI (by omega) (by omega)
  have h_3 : vp_in (nI i + 3) L := by rw [show nI i + 3 = nI (i + 3) from nI_add i 3]; exact vp_in_nI (by omega) (by omega)
  have h_4 : vp_in (nI i + 4) L := by rw [show nI i + 4 = nI (i + 4) from nI_add i 4]; exact vp_in_nI (by omega) (by omega)
  have h_5 : vp_in (nI i + 5) L := by rw [show nI i + 5 = nI (i + 5) from nI_add i 5]; exact vp_in_nI (by omega) (by omega)
  refine lv_aload_n hx hb dL_law_962 rfl (lv_at hl 2 rfl) ?_
  refine lv_aload_n hx hb dL_law_963 rfl (lv_at hl 3 rfl) ?_
  refine lv_iload_n hx hb dL_law_964 rfl (lv_at hl 0 rfl) ?_
  refine lv_iconst (v := 1) hx hb dL_law_965 (by decide) ?_
  refine lv_iadd hx hb dL_law_966 ?_
  refine va_sld hx hb hX hbl hbA hS h_1 dL_law_967 ?_
  refine lv_aload_n hx hb dL_law_968 rfl (lv_at hl 3 rfl) ?_
  refine lv_iload_n hx hb dL_law_969 rfl (lv_at hl 0 rfl) ?_
  refine lv_iconst (v := 2) hx hb dL_law_970 (by decide) ?_
  refine lv_iadd hx hb dL_law_971 ?_
  refine va_sld hx hb hX hbl hbA hS h_2 dL_law_972 ?_
  refine lc_X7_peek C im (nI N) gpa gbr gth gpe gpr gw gseru gserl gserr gplru gplrl gplrr gboru gborl gborr kn kpa kbr kth kpe kpr kw kseru kserl kserr kplru kplrl kplrr kboru kborl kborr xn xpa xbr xth xpe xpr xw su tl tc ta tk tb tp tt tw ck cc cd so le it (xs (nI i + 1).toNatClampNeg) (xs (nI i + 2).toNatClampNeg) (pc_peek hA) hP hD hS hl.1 (Nat.le_of_ble_eq_true rfl) hf dL_law_973 (fun r7 hw => ?_)
  have hP := bw_comP hP
  have hD := bw_comD hD
  refine lv_aload_n hx hb dL_law_976 rfl (lv_at hl 1 rfl) ?_
  refine lv_aload_n hx hb dL_law_977 rfl (lv_at hl 3 rfl) ?_
  refine lv_iload_n hx hb dL_law_978 rfl (lv_at hl 0 rfl) ?_
  refine lv_iconst (v := 1) hx hb dL_law_979 (by decide) ?_
  refine lv_iadd hx hb dL_law_980 ?_
  refine va_sld hx hb hX hbl hbA hS h_1 dL_law_981 ?_
  refine lv_aload_n hx hb dL_law_982 rfl (lv_at hl 3 rfl) ?_
  refine lv_iload_n hx hb dL_law_983 rfl (lv_at hl 0 rfl) ?_
  refine lv_iconst (v := 2) hx hb dL_law_984 (by decide) ?_
  refine lv_iadd hx hb dL_law_985 ?_
  refine va_sld hx hb hX hbl hbA hS h_2 dL_law_986 ?_
  refine lc_X8_peek C (nI N) gpa mSeen mPlans mBooks mTexted mIsKept mSpot mKeeps mMindStep mAt mWhat mWhole mIsBroken mWorth gth gpe gpr mSeenWho mSeenWhat mPlanWhat mPlanN mBookThing mBookPrice mWrong mText mImaged mMindHas mMindOwner mMindPrice mMindWrong mMostBy mTapeSort mTapeSize mMoved mTapes (xs (nI i + 1).toNatClampNeg) (xs (nI i + 2).toNatClampNeg) hw hP hD hS hl.1 (Nat.le_of_ble_eq_true rfl) hf dL_law_987 (fun r8 hw => ?_)
  have hP := bw_comP hP
  have hD := bw_comD hD
  have e := hw
  refine W.lcmp hx hb dL_law_990 ?_
  refine lv_if_eq (tgt := 1059) hx hb dL_law_991 (by decide) (fun c1 => ?_) (fun c1 => absurd ((lg_cmp_eq _ _).mpr e.symm) c1)
  exact kk _ H locs ⟨_, _, _, _, _, _, _, _, _, _, _, _, _, _, _, _, _, _, _, _, _, _, _, _, _, _, _, _, _, _, _, _, _, _, _, _, _, _, _, _, _, _, _, _, _, _, _, _, _, _, _, _, _, _, _, _, _, _, _, _, _, _, _, _, _, _, _, _, _, _, _, _, _, _, _, _, _, _, _, _, _, _, _, _, _, _, _, _, _, _, _, rfl, pz_R_mono ⟨N, rfl, rfl, rfl, rfl, rfl, rfl, hM, hQ, hK, hz, hT, hC, hA⟩ (by omega)⟩ hP hD hS
set_option maxHeartbeats 4000000 in
set_option maxRecDepth 100000 in
theorem lw_case_shift {p : Program} {l : Launch} {e : Env} {s : State} {m : MethodId} {b L : Nat} {xs : Nat → Int32} {below : List Frame} {meth : Method} {c : Code} {H : Heap} {locs : List Loc} {cells slots : Nat} {Q : State → Prop} {ls : Array Slot} {dC : Nat → ClassId} {dI : Nat → Nat → Nat} {cI cJ cT cII cJJ : ClassId} {A : Nat → Prop} {ad7 ad8 : Nat → Nat} {Wd : va_W} {B : Int} {i : Nat} (C : lw_C p s m #[Value.ref b] meth c dC dI cI cJ cT cII cJJ A) (hX : va_X b L xs s s.heap) (hbl : b < s.heap.size) (hbA : ¬ A b) (hL : L ≤ 3072) (hi : i + 6 ≤ L) (hB0 : 2000 ≤ B) (hB : B ≤ 1000000) (hI : lw_I cI cJ cT cII cJJ ad7 ad8 B Wd) (hP : va_P (dC, dI) vwCl Wd H) (hD : va_D A Wd) (hS : va_S A s.heap H locs) (hl : lv_has ls 4 [(3, .int (nI i)), (2, .ref (ad8 0)), (1, .ref (ad7 0)), (0, .ref b)]) (hf : cells ≤ room_1.cells ∧ slots ≤ room_1.slots)
    (kk : ∀ (Wd : va_W) (H : Heap) (locs : List Loc), lw_I cI cJ cT cII cJJ ad7 ad8 (B + 941) Wd → va_P (dC, dI) vwCl Wd H → va_D A Wd → va_S A s.heap H locs → W p l e room_1 s m #[Value.ref b] below meth c H locs cells slots Q (F0 m 1059 ls [])) : W p l e room_1 s m #[Value.ref b] below meth c H locs cells slots Q (F0 m 996 ls []) := by
  obtain ⟨im, gn, gpa, gbr, gth, gpe, gpr, gw, gseru, gserl, gserr, gplru, gplrl, gplrr, gboru, gborl, gborr, kn, kpa, kbr, kth, kpe, kpr, kw, kseru, kserl, kserr, kplru, kplrl, kplrr, kboru, kborl, kborr, xn, xpa, xbr, xth, xpe, xpr, xw, su, tl, tc, ta, tk, tb, tp, tt, tw, ck, cc, cd, so, le, it, mN, mStep, mSeen, mPlans, mBooks, mTexted, mIsKept, mSpot, mKeeps, mMindStep, mAt, mWhat, mWhole, mIsBroken, mWorth, mHas, mOwner, mPrice, mSeenWho, mSeenWhat, mPlanWhat, mPlanN, mBookThing, mBookPrice, mWrong, mText, mImaged, mMindHas, mMindOwner, mMindPrice, mMindWrong, mMostBy, mTapeSort, mTapeSize, mMoved, mTapes, rfl, N, rfl, rfl, rfl, rfl, rfl, rfl, hM, hQ, hK, hz, hT, hC, hA⟩ := hI
  have hx := C.1
  have hb := C.2.1
  have hown := C.2.2.2.1
  have hts := C.2.2.2.2.1
  have h_1 : vp_in (nI i + 1) L := by rw [show nI i + 1 = nI (i + 1) from nI_add i 1]; exact vp_in_nI (by omega) (by omega)
  have h_2 : vp_in (nI i + 2) L := by rw [show nI i + 2 = nI (i + 2) from nI_add i 2]; exact vp_in_nI (by omega) (by omega)
  have h_3 : vp_in (nI i + 3) L := by rw [show nI i + 3 = nI (i + 3) from nI_add i 3]; exact vp_in_nI (by omega) (by omega)
  have h_4 : vp_in (nI i + 4) L := by rw [show nI i + 4 = nI (i + 4) from nI_add i 4]; exact vp_in_nI (by omega) (by omega)
  have h_5 : vp_in (nI i + 5) L := by rw [show nI i + 5 = nI (i + 5) from nI_add i 5]; exact vp_in_nI (by omega) (by omega)
  refine lv_aload_n hx hb dL_law_996 rfl (lv_at hl 2 rfl) ?_
  refine lv_aload_n hx hb dL_law_997 rfl (lv_at hl 3 rfl) ?_
  refine lv_iload_n hx hb dL_law_998 rfl (lv_at hl 0 rfl) ?_
  refine lv_iconst (v := 1) hx hb dL_law_999 (by decide) ?_
  refine lv_iadd hx hb dL_law_1000 ?_
  refine va_sld hx hb hX hbl hbA hS h_1 dL_law_1001 ?_
  refine lv_aload_n hx hb dL_law_1002 rfl (lv_at hl 3 rfl) ?_
  refine lv_iload_n hx hb dL_law_1003 rfl (lv_at hl 0 rfl) ?_
  refine lv_iconst (v := 2) hx hb dL_law_1004 (by decide) ?_
  refine lv_iadd hx hb dL_law_1005 ?_
  refine va_sld hx hb hX hbl hbA hS h_2 dL_law_1006 ?_
  refine lv_aload_n hx hb dL_law_1007 rfl (lv_at hl 3 rfl) ?_
  refine lv_iload_n hx hb dL_law_1008 rfl (lv_at hl 0 rfl) ?_
  refine lv_iconst (v := 3) hx hb dL_law_1009 (by decide) ?_
  refine lv_iadd hx hb dL_law_1010 ?_
  refine va_sld hx hb hX hbl hbA hS h_3 dL_law_1011 ?_
  refine lv_aload_n hx hb dL_law_1012 rfl (lv_at hl 3 rfl) ?_
  refine lv_iload_n hx hb dL_law_1013 rfl (lv_at hl 0 rfl) ?_
  refine lv_iconst (v := 4) hx hb dL_law_1014 (by decide) ?_
  refine lv_iadd hx hb dL_law_1015 ?_
  refine va_sld hx hb hX hbl hbA hS h_4 dL_law_1016 ?_
  refine lv_aload_n hx hb dL_law_1017 rfl (lv_at hl 3 rfl) ?_
  refine lv_iload_n hx hb dL_law_1018 rfl (lv_at hl 0 rfl) ?_
  refine lv_iconst (v := 5) hx hb dL_law_1019 (by decide) ?_
  refine lv_iadd hx hb dL_law_1020 ?_
  refine va_sld hx hb hX hbl hbA hS h_5 dL_law_1021 ?_
  refine lc_X7_shift C im (nI N) gpa gbr gth gpe gpr gw gseru gserl gserr gplru gplrl gplrr gboru gborl gborr kn kpa kbr kth kpe kpr kw kseru kserl kserr kplru kplrl kplrr kboru kborl kborr xn xpa xbr xth xpe xpr xw su tl tc ta tk tb tp tt tw ck cc cd so le it (xs (nI i + 1).toNatClampNeg) (xs (nI i + 2).toNatClampNeg) (xs (nI i + 3).toNatClampNeg) (xs (nI i + 4).toNatClampNeg) (xs (nI i + 5).toNatClampNeg) (pc_shift hA) hP hD hS hl.1 (Nat.le_of_ble_eq_true rfl) hf dL_law_1022 (fun r7 it' H locs hw hP hD hS => ?_)
  have hP := bw_comP hP
  have hD := bw_comD hD
  refine lv_aload_n hx hb dL_law_1025 rfl (lv_at hl 1 rfl) ?_
  refine lv_aload_n hx hb dL_law_1026 rfl (lv_at hl 3 rfl) ?_
  refine lv_iload_n hx hb dL_law_1027 rfl (lv_at hl 0 rfl) ?_
  refine lv_iconst (v := 1) hx hb dL_law_1028 (by decide) ?_
  refine lv_iadd hx hb dL_law_1029 ?_
  refine va_sld hx hb hX hbl hbA hS h_1 dL_law_1030 ?_
  refine lv_aload_n hx hb dL_law_1031 rfl (lv_at hl 3 rfl) ?_
  refine lv_iload_n hx hb dL_law_1032 rfl (lv_at hl 0 rfl) ?_
  refine lv_iconst (v := 2) hx hb dL_law_1033 (by decide) ?_
  refine lv_iadd hx hb dL_law_1034 ?_
  refine va_sld hx hb hX hbl hbA hS h_2 dL_law_1035 ?_
  refine lv_aload_n hx hb dL_law_1036 rfl (lv_at hl 3 rfl) ?_
  refine lv_iload_n hx hb dL_law_1037 rfl (lv_at hl 0 rfl) ?_
  refine lv_iconst (v := 3) hx hb dL_law_1038 (by decide) ?_
  refine lv_iadd hx hb dL_law_1039 ?_
  refine va_sld hx hb hX hbl hbA hS h_3 dL_law_1040 ?_
  refine lv_aload_n hx hb dL_law_1041 rfl (lv_at hl 3 rfl) ?_
  refine lv_iload_n hx hb dL_law_1042 rfl (lv_at hl 0 rfl) ?_
  refine lv_iconst (v := 4) hx hb dL_law_1043 (by decide) ?_
  refine lv_iadd hx hb dL_law_1044 ?_
  refine va_sld hx hb hX hbl hbA hS h_4 dL_law_1045 ?_
  refine lv_aload_n hx hb dL_law_1046 rfl (lv_at hl 3 rfl) ?_
  refine lv_iload_n hx hb dL_law_1047 rfl (lv_at hl 0 rfl) ?_
  refine lv_iconst (v := 5) hx hb dL_law_1048 (by decide) ?_
  refine lv_iadd hx hb dL_law_1049 ?_
  refine va_sld hx hb hX hbl hbA hS h_5 dL_law_1050 ?_
  refine lc_X8_shift C (nI N) gpa mSeen mPlans mBooks mTexted mIsKept mSpot mKeeps mMindStep mAt mWhat mWhole mIsBroken mWorth gth gpe gpr mSeenWho mSeenWhat mPlanWhat mPlanN mBookThing mBookPrice mWrong mText mImaged mMindHas mMindOwner mMindPrice mMindWrong mMostBy mTapeSort mTapeSize mMoved mTapes (xs (nI i + 1).toNatClampNeg) (xs (nI i + 2).toNatClampNeg) (xs (nI i + 3).toNatClampNeg) (xs (nI i + 4).toNatClampNeg) (xs (nI i + 5).toNatClampNeg) hw hP hD hS hl.1 (Nat.le_of_ble_eq_true rfl) hf dL_law_1051 (fun r8 mMoved' mTapes' H locs hw hP hD hS => ?_)
  have hP := bw_comP hP
  have hD := bw_comD hD
  obtain ⟨e, hA2⟩ := hw
  refine lv_icmp_eq (tgt := 1059) hx hb dL_law_1054 (by decide) (fun c1 => ?_) (fun c1 => absurd e.symm c1)
  exact kk _ H locs ⟨_, _, _, _, _, _, _, _, _, _, _, _, _, _, _, _, _, _, _, _, _, _, _, _, _, _, _, _, _, _, _, _, _, _, _, _, _, _, _, _, _, _, _, _, _, _, _, _, _, _, _, _, _, _, _, _, _, _, _, _, _, _, _, _, _, _, _, _, _, _, _, _, _, _, _, _, _, _, _, _, _, _, _, _, _, _, _, _, _, _, _, rfl, pz_R_mono ⟨N, rfl, rfl, rfl, rfl, rfl, rfl, hM, hQ, hK, hz, hT, hC, hA2⟩ (by omega)⟩ hP hD hS
