/-! calls that change the market -/
theorem pz_in_lose {N : Nat} {B : Int} {w w2 : Nat → Nat → Int32} {th pe pr : Nat → Int32} {p : Nat} (hN : N ≤ 8) (h : pz_in N w B th pe pr) (hp : p < 8) (hw : ∀ k t, k ≠ p → w k t ≠ -1 → w2 k t ≠ -1) : pz_in N w2 B (upd th p (-1)) (if th p < 0 then pe else upd pe (th p).toNatClampNeg (-1)) pr := by
  obtain ⟨h1, h2, h3, h4, h5⟩ := h
  refine ⟨pz_ok_lose hN h1 hp hw, h2, pz_z_upd h3 hp, ?_, h5⟩
  split
  · exact h4
  · next c =>
    rcases h1.1 p hp with e | ⟨t, ht, -, e, -⟩
    · rw [e] at c; exact absurd pz_m1 c
    · rw [e, nI_clamp (by omega)]; exact pz_z_upd h4 (by omega)
theorem pz_ww_upd {w : Nat → Nat → Int32} {W : Nat → Int32} {p t : Nat} {v : Int32} (h : pz_ww W w) (hp : p < 8) (ht : t < 8) (hv : v = -1 ∨ 0 ≤ v) : pz_ww (upd W (8 * p + t) v) (va_up w p (upd (w p) t v)) := by
  intro p2 t2 hp2 ht2
  unfold va_up
  by_cases q : p2 = p
  · subst q
    rw [if_pos rfl]
    by_cases q2 : t2 = t
    · subst q2; rw [pk_us, pk_us]; exact ⟨rfl, hv⟩
    · rw [pk_un q2, pk_un (by omega)]; exact h p2 t2 hp2 ht2
  · rw [if_neg q, pk_un (by omega)]; exact h p2 t2 hp2 ht2
theorem pz_wb_upd {w : Nat → Nat → Int32} {p t : Nat} {v : Int32} (h : pz_wb w) (hv : -1 ≤ v.toInt ∧ v.toInt ≤ 99) : pz_wb (va_up w p (upd (w p) t v)) := by
  intro p2 t2 hp2 ht2
  unfold va_up
  by_cases q : p2 = p
  · subst q
    rw [if_pos rfl]
    by_cases q2 : t2 = t
    · subst q2; rw [pk_us]; exact hv
    · rw [pk_un q2]; exact h p2 t2 hp2 ht2
  · rw [if_neg q]; exact h p2 t2 hp2 ht2
theorem pz_becomeEmpty {n a : Int32} {th pe pr : Nat → Int32} {w : Nat → Nat → Int32} {Post : Int32 → (Nat → Int32) → (Nat → Int32) → (Nat → Int32) → (Nat → Nat → Int32) → Prop} (h1 : pz_z th) (h2 : pz_z pe) (h3 : pz_z pr)
    (h : ∀ w', (∀ p t, p < 8 → t < 8 → w' p t = 0) → Post a pz_em pz_em (fun _ => 0) w') : wpX2_becomeEmpty n th pe pr w a Post := by
  refine loop_0 (fun g i (s : Nat → Nat → Int32) => wpX2_becomeEmpty_B7 a Post g (nI i) a th pe pr s) (fun i s => ∀ p t, p < i → t < 8 → s p t = 0) 8 w (fun p t hp => absurd hp (by omega)) (fun n s hs => ?_) (fun n i s hi hs k => ?_)
  · rw [wpX2_becomeEmpty_B7]
    exact br_t (by decide) (pz_startAnew h1 h2 h3 (h s hs))
  · rw [wpX2_becomeEmpty_B7]
    refine br_f (nI_ge (b := 8) hi (by decide)) ?_
    refine loop_0 (fun g j (s : Nat → Nat → Int32) => wpX2_becomeEmpty_B15 a (wpX2_becomeEmpty_B7 a Post n) Post g (nI i) (nI j) a th pe pr s) (fun j s => (∀ p t, p < i → t < 8 → s p t = 0) ∧ ∀ t, t < j → s i t = 0) 8 s ⟨hs, fun t ht => absurd ht (by omega)⟩ (fun n s hs => ?_) (fun n j s hj hs k => ?_)
    · rw [wpX2_becomeEmpty_B15]
      refine br_t (by decide) (nm_r (nI_1 i) (k s (fun p t hp ht => ?_)))
      by_cases q : p = i
      · rw [q]; exact hs.2 t ht
      · exact hs.1 p t (by omega) ht
    · rw [wpX2_becomeEmpty_B15]
      refine br_f (nI_ge (b := 8) hj (by decide)) ⟨vp_in_nI (by omega) (by decide), vp_in_nI (by omega) (by decide), nm_r (nI_1 j) ?_⟩
      rw [nI_clamp (by omega), nI_clamp (by omega)]
      refine k _ ⟨fun p t hp ht => ?_, fun t ht => ?_⟩
      · unfold va_up
        rw [if_neg (by omega)]
        exact hs.1 p t hp ht
      · unfold va_up
        rw [if_pos rfl]
        by_cases q : t = j
        · rw [q, pk_us]
        · rw [pk_un q]; exact hs.2 t (by omega)
/-- rows told by hand: the same as far as they are used -/
def pz_L (lim : Nat) (c : Int32 → Int32 → Prop) (ru : Int32) (rl rr : Nat → Int32) (mu : Int32) (ml mr : Nat → Int32) : Prop := ∃ u, u ≤ lim ∧ ru = nI u ∧ mu = nI u ∧ ∀ k, k < u → rl k = ml k ∧ rr k = mr k ∧ c (rl k) (rr k)
theorem pz_L0 {lim : Nat} {c : Int32 → Int32 → Prop} {rl rr ml mr : Nat → Int32} : pz_L lim c 0 rl rr 0 ml mr := ⟨0, Nat.zero_le _, rfl, rfl, fun k hk => absurd hk (by omega)⟩
def pz_Q (N : Nat) (se : Int32) (serl serr : Nat → Int32) (pl : Int32) (plrl plrr : Nat → Int32) (bo : Int32) (borl borr : Nat → Int32) (mSe : Int32) (mWho mWhat : Nat → Int32) (mPl : Int32) (mPw mPn : Nat → Int32) (mBo : Int32) (mBt mBp : Nat → Int32) : Prop :=
  pz_L 5 (fun a _ => ∃ p, p < N ∧ a = nI p) se serl serr mSe mWho mWhat ∧ pz_L 10 (fun a b => a = 0 ∨ (a = 1 ∧ ∃ p, p < N ∧ b = nI p) ∨ a = 2) pl plrl plrr mPl mPw mPn ∧ pz_L 8 (fun a _ => ∃ p, p < N ∧ a = nI p) bo borl borr mBo mBt mBp
section PZD
variable {N : Nat} {B : Int} {pa : Int32} {w : Nat → Nat → Int32} {W th pe pr : Nat → Int32}
variable {se pl bo mSe mPl mBo : Int32} {serl serr plrl plrr borl borr mWho mWhat mPw mPn mBt mBp : Nat → Int32}
theorem pc_size {a : Int32} (h : pz_M N B pa w W th pe pr) (hB : 0 ≤ B) (hQ : pz_Q N se serl serr pl plrl plrr bo borl borr mSe mWho mWhat mPl mPw mPn mBo mBt mBp) : wpX7_size (nI N) th pe pr w se pl bo a (fun r n1 th1 pe1 pr1 w1 se1 pl1 bo1 => wpX8_size (nI N) mSe mPl mBo W th pe pr a (fun r2 n2 se2 pl2 bo2 W2 th2 pe2 pr2 =>
    r2 = r ∧ ∃ M, n1 = nI M ∧ n2 = nI M ∧ th2 = th1 ∧ pe2 = pe1 ∧ pr2 = pr1 ∧ pz_M M B pa w1 W2 th1 pe1 pr1 ∧ pz_Q M se1 serl serr pl1 plrl plrr bo1 borl borr se2 mWho mWhat pl2 mPw mPn bo2 mBt mBp)) := by
  have h0 := h
  obtain ⟨hN, hN1, hW, hw, hpa, hI⟩ := h
  obtain ⟨i1, i2, i3, i4, i5⟩ := hI
  by_cases c1 : a < 1
  · exact br_t c1 (pz_rng (lo := 1) (hi := 8) rfl rfl (fun _ => bq_t rfl ⟨rfl, N, rfl, rfl, rfl, rfl, rfl, h0, hQ⟩) (fun q => absurd c1 q))
  by_cases c2 : a ≤ 8
  · obtain ⟨M, hM, rfl⟩ := nI_of2 (n := 8) rfl (show ¬ a < 0 by rw [fa_lt] at c1 ⊢; have c1 : ¬ a.toInt < 1 := c1; show ¬ a.toInt < 0; omega) c2
    have hM1 : 1 ≤ M := by
      by_cases q : M = 0
      · subst q; exact absurd (by decide) c1
      · omega
    refine br_f c1 (br_t c2 (pz_becomeEmpty i3 i4 i5 (fun w1 hw1 => ?_)))
    show wpX8_size (nI N) mSe mPl mBo W th pe pr (nI M) _
    refine pz_rng (lo := 1) (hi := 8) rfl rfl (fun q => ?_) (fun _ _ => bq_f pz_n10 ?_)
    · rcases q with q | q
      · exact absurd q c1
      · rw [fa_lt] at q; rw [fa_le] at c2; omega
    refine loop_0 (fun g i (s : Nat → Int32) => wpX8_size_B27 (nI M) _ g (nI N) (nI i) (nI M) mSe mPl mBo s th pe pr) (fun i s => ∀ k, k < i → s k = 0) 64 W (fun k hk => absurd hk (by omega)) (fun n s hs => ?_) (fun n i s hi hs k => ?_)
    · rw [wpX8_size_B27]
      refine br_t (by decide) (pz_empties hM i3 i4 (pz_free i5 ⟨rfl, M, rfl, rfl, rfl, rfl, rfl, ⟨hM, hM1, fun p t hp ht => ?_, fun p t hp ht => ?_, hpa, pz_in_em (fun t ht => ⟨Int.le_refl _, hB⟩) (fun _ _ => rfl)⟩, pz_L0, pz_L0, pz_L0⟩))
      · rw [hw1 p t hp ht, hs _ (by omega)]; exact ⟨rfl, Or.inr (by decide)⟩
      · rw [hw1 p t hp ht]; decide
    · rw [wpX8_size_B27]
      refine br_f (nI_ge (b := 64) hi (by decide)) ⟨vp_in_nI (by omega) (by decide), nm_r (nI_1 i) ?_⟩
      rw [nI_clamp (by omega)]
      refine k _ (fun j hj => ?_)
      by_cases q : j = i
      · rw [q, pk_us]
      · rw [pk_un q]; exact hs j (by omega)
  · refine br_f c1 (br_f c2 (pz_rng (lo := 1) (hi := 8) rfl rfl (fun _ => bq_t rfl ⟨rfl, N, rfl, rfl, rfl, rfl, rfl, h0, hQ⟩) (fun _ q => ?_)))
    rw [fa_le] at c2; rw [fa_lt] at q; omega
theorem pc_worth {a1 a2 a3 : Int32} (h : pz_M N B pa w W th pe pr) : wpX7_worth (nI N) th pe w a1 a2 a3 (fun r th1 pe1 w1 => wpX8_worth (nI N) W th pe a1 a2 a3 (fun r2 W2 th2 pe2 => r2 = r ∧ th2 = th1 ∧ pe2 = pe1 ∧ pz_M N B pa w1 W2 th1 pe1 pr)) := by
  have h0 := h
  obtain ⟨hN, hN1, hW, hw, hpa, hI⟩ := h
  rcases pz_num N hN a1 with ⟨p, hp, rfl⟩ | b1
  · rcases pz_num N hN a2 with ⟨t, ht, rfl⟩ | b2
    · refine pz_has_y hN hp (br_f pz_n10 (pz_has_y hN ht (bq_f pz_n10 ?_)))
      by_cases c1 : a3 < -1
      · exact br_t c1 (pz_isPair_y hN hp ht (bq_f pz_n10 (pz_rng (lo := -1) (hi := 99) rfl rfl (fun _ => br_t rfl ⟨rfl, rfl, rfl, h0⟩) (fun q => absurd c1 q))))
      by_cases c2 : a3 ≤ 99
      · refine br_f c1 (br_t c2 (pz_shownWorth (by omega) (by omega) ⟨vp_in_nI (by omega) (by decide), vp_in_nI (by omega) (by decide), pz_giveUp hN hI.1 (by omega) ?_⟩))
        rw [nI_clamp (by omega), nI_clamp (by omega)]
        have b1 : -1 ≤ a3.toInt ∧ a3.toInt ≤ 99 := by
          rw [fa_lt] at c1; rw [fa_le] at c2
          have c1 : ¬ a3.toInt < -1 := c1
          have c2 : a3.toInt ≤ 99 := c2
          omega
        have b2 : a3 = -1 ∨ 0 ≤ a3 := by
          rw [fa_eq, fa_le]
          show a3.toInt = -1 ∨ 0 ≤ a3.toInt
          omega
        refine pz_isPair_y hN hp ht (bq_f pz_n10 (pz_rng (lo := -1) (hi := 99) rfl rfl (fun q => ?_) (fun _ _ => br_f pz_n10 ?_)))
        · rcases q with q | q
          · exact absurd q c1
          · rw [fa_lt] at q; rw [fa_le] at c2; omega
        unfold wpX8_becomes
        rw [pz_8]
        refine ⟨vp_in_nI (by omega) (by decide), nm_e ⟨vp_in_nI (by omega) (by decide), pz_loses hN hI.1 (by omega) ?_⟩⟩
        rw [nI_clamp (by omega), (hW p t (by omega) (by omega)).1]
        have hE : pz_M N B pa (va_up w p (upd (w p) t a3)) (upd W (8 * p + t) a3) (upd th p (-1)) (if th p < 0 then pe else upd pe (th p).toNatClampNeg (-1)) pr := by
          refine ⟨hN, hN1, pz_ww_upd hW (by omega) (by omega) b2, pz_wb_upd hw b1, hpa, pz_in_lose hN hI (by omega) (fun k t2 hk h2 => ?_)⟩
          unfold va_up
          rw [if_neg hk]; exact h2
        rcases (hW p t (by omega) (by omega)).2 with q | q
        · rw [if_pos q]
          exact br_f (by rw [q]; decide) ⟨rfl, rfl, rfl, hE⟩
        · rw [if_neg (fun q2 => by rw [q2] at q; exact absurd q (by decide))]
          exact br_t q ⟨rfl, rfl, rfl, hE⟩
      · refine br_f c1 (br_f c2 (pz_isPair_y hN hp ht (bq_f pz_n10 (pz_rng (lo := -1) (hi := 99) rfl rfl (fun _ => br_t rfl ⟨rfl, rfl, rfl, h0⟩) (fun _ q => ?_)))))
        rw [fa_le] at c2; rw [fa_lt] at q; omega
    · exact pz_has_y hN hp (br_f pz_n10 (pz_has_n b2 (bq_t rfl (pz_isPair_n hN hN1 (Or.inr b2) (bq_t rfl ⟨rfl, rfl, rfl, h0⟩)))))
  · exact pz_has_n b1 (br_t rfl (pz_isPair_n hN hN1 (Or.inl b1) (bq_t rfl ⟨rfl, rfl, rfl, h0⟩)))
theorem pc_leave {a1 : Int32} (h : pz_M N B pa w W th pe pr) : wpX7_leave (nI N) th pe a1 (fun r th1 pe1 => wpX8_leave (nI N) th pe a1 (fun r2 th2 pe2 => r2 = r ∧ th2 = th1 ∧ pe2 = pe1 ∧ pz_M N B pa w W th1 pe1 pr)) := by
  have h0 := h
  obtain ⟨hN, hN1, hW, hw, hpa, hI⟩ := h
  rcases pz_num N hN a1 with ⟨p, hp, rfl⟩ | b1
  · have hE : pz_M N B pa w W (upd th p (-1)) (if th p < 0 then pe else upd pe (th p).toNatClampNeg (-1)) pr := ⟨hN, hN1, hW, hw, hpa, pz_in_lose hN hI (by omega) (fun _ _ _ h => h)⟩
    refine pz_has_y hN hp (bq_f pz_n10 ⟨vp_in_nI (by omega) (by decide), nm_e ?_⟩)
    rw [nI_clamp (by omega)]
    refine br_c (fun c => pz_giveUp hN hI.1 (by omega) ?_) (fun c => ?_)
    · refine pz_isOne_y hN hp (bq_f pz_n10 ⟨vp_in_nI (by omega) (by decide), nm_e ?_⟩)
      rw [nI_clamp (by omega)]
      exact pz_loses hN hI.1 (by omega) (br_t c ⟨rfl, rfl, rfl, hE⟩)
    · refine pz_isOne_y hN hp (bq_f pz_n10 ⟨vp_in_nI (by omega) (by decide), nm_e ?_⟩)
      rw [nI_clamp (by omega)]
      refine pz_loses hN hI.1 (by omega) (br_f c ?_)
      have c1 : th p < 0 := fa_of_nle c
      have c2 : th p = -1 := by
        rcases hI.1.1 p (by omega) with e | ⟨t, ht, -, e, -⟩
        · exact e
        · rw [e] at c1; exact absurd c1 (nI_pos (by omega))
      rw [if_pos c1, pz_up0 c2]
      exact ⟨rfl, rfl, rfl, h0⟩
  · exact pz_has_n b1 (bq_t rfl (pz_isOne_n hN hN1 b1 (bq_t rfl ⟨rfl, rfl, rfl, h0⟩)))
theorem pc_fresh (h : pz_M N B pa w W th pe pr) (hB : 0 ≤ B) : wpX7_fresh (nI N) th pe pr (fun r th1 pe1 pr1 => wpX8_fresh (nI N) th pe pr (fun r2 th2 pe2 pr2 => r2 = r ∧ th2 = th1 ∧ pe2 = pe1 ∧ pr2 = pr1 ∧ pz_M N B pa w W th1 pe1 pr1)) := by
  obtain ⟨hN, hN1, hW, hw, hpa, i1, i2, i3, i4, i5⟩ := h
  exact pz_ownersCounted hN (pz_startAnew i3 i4 i5 (pz_free i5 (pz_empties hN i3 i4 ⟨rfl, rfl, rfl, rfl, hN, hN1, hW, hw, hpa, pz_in_em (fun t ht => ⟨Int.le_refl _, hB⟩) (fun _ _ => rfl)⟩)))
theorem pc_bid (h : pz_M N B pa w W th pe pr) (hB : B ≤ 1000000) : wpX7_bid (nI N) pa th pe pr w (fun r th1 pe1 pr1 => wpX8_bid (nI N) pa W th pe pr (fun r2 th2 pe2 pr2 => r2 = r ∧ th2 = th1 ∧ pe2 = pe1 ∧ pr2 = pr1 ∧ pz_M N (B + 941) pa w W th1 pe1 pr1)) := by
  obtain ⟨hN, hN1, hW, hw, hpa, hI⟩ := h
  refine pz_letNextBid hN hI.1 (fun hl => ?_) (fun p t hl => ?_)
  · refine br_f (by decide) (pz_next hW hN hN1 ?_)
    rw [pz_ln_none hN hl]
    exact br_f (by decide) ⟨rfl, rfl, rfl, rfl, hN, hN1, hW, hw, hpa, hI.1, pz_pb_mono hI.2.1 (by omega), hI.2.2⟩
  · have hlt := pz_ln_lt hl
    obtain ⟨h1, h2, h3⟩ := pz_in_bid hN hw hpa hB hI hl
    refine br_t (nI_pos' (by omega)) (pz_next hW hN hN1 ?_)
    rw [hlt.2.2.2.2.1]
    exact br_t (nI_pos' (by omega)) (pz_bids hW hN hN1 hI.1 hl ⟨rfl, rfl, rfl, rfl, hN, hN1, hW, hw, hpa, h1 _ (by omega) h3⟩)
/-- what is told last -/
def pz_C (ck cc cd : Int32) (f : Nat → Int32) : Prop := f 0 = ck ∧ f 1 = cc ∧ f 2 = cd
theorem pc_auction {br ib ck cc cd : Int32} {f : Nat → Int32} (h : pz_M N B pa w W th pe pr) (hC : pz_C ck cc cd f) (hB : B ≤ 1000000) (hB2 : 2000 ≤ B) : wpX7_auction (nI N) pa br th pe pr w ck cc cd (fun r br1 th1 pe1 pr1 ck1 cc1 cd1 => wpX8_auction (nI N) pa ib W th pe pr f (fun r2 ib2 th2 pe2 pr2 f2 => r2 = r ∧ th2 = th1 ∧ pe2 = pe1 ∧ pr2 = pr1 ∧ pz_C ck1 cc1 cd1 f2 ∧ pz_M N (B + 941) pa w W th1 pe1 pr1)) := by
  obtain ⟨hN, hN1, hW, hw, hpa, hI⟩ := h
  have hA := pz_AU_in hN hw hpa hB hB2 hI
  refine pz_runAuction hN hw hpa hB hB2 hI (pz_reported (m := (pz_AU N pa w th pe pr).1) (pe := (pz_AU N pa w th pe pr).2.2.2.1) (pr := (pz_AU N pa w th pe pr).2.2.2.2) hN hA.2.2.2 hC.1 hC.2.1 hC.2.2 (pz_bidsAll hW hN hN1 hw hpa hB hB2 hI ?_))
  have hE : pz_M N (B + 941) pa w W (pz_AU N pa w th pe pr).2.2.1 (pz_AU N pa w th pe pr).2.2.2.1 (pz_AU N pa w th pe pr).2.2.2.2 := ⟨hN, hN1, hW, hw, hpa, hA.1⟩
  cases ho : (pz_AU N pa w th pe pr).2.1 with
  | none => exact br_t rfl ⟨rfl, rfl, rfl, rfl, ⟨by unfold pz_wr; rw [ho], by unfold pz_wr; rw [ho], by unfold pz_wr; rw [ho]⟩, hE⟩
  | some p => exact br_f (show ¬ (1 : Int32) = 0 by decide) ⟨rfl, rfl, rfl, rfl, ⟨by unfold pz_wr; rw [ho], by unfold pz_wr; rw [ho], by unfold pz_wr; rw [ho]⟩, hE⟩
theorem pc_scaled {br ib ck cc cd : Int32} {f : Nat → Int32} (h : pz_M N B pa w W th pe pr) (hC : pz_C ck cc cd f) (hB : B ≤ 1000000) (hB2 : 2000 ≤ B) : wpX7_scaled (nI N) pa br th pe pr w ck cc cd (fun r pa1 br1 th1 pe1 pr1 ck1 cc1 cd1 => wpX8_scaled (nI N) pa ib W th pe pr f (fun r2 st2 ib2 th2 pe2 pr2 f2 => r2 = r ∧ pa1 = pa ∧ st2 = pa ∧ th2 = th1 ∧ pe2 = pe1 ∧ pr2 = pr1 ∧ pz_C ck1 cc1 cd1 f2 ∧ pz_M N (B + 941) pa w W th1 pe1 pr1)) := by
  obtain ⟨hN, hN1, hW, hw, hpa, hI⟩ := h
  have hA := pz_sl_in hN hw hB hB2 4 0 0 th pe pr rfl hI (fun q => absurd q (by decide))
  refine ⟨5, pz_rs hN hw hB hB2 4 0 0 pa th pe pr rfl hI ?_⟩
  refine pz_reported (m := 0) (pe := (pz_sl N w 4 0 0 th pe pr).2.2.2.1) (pr := (pz_sl N w 4 0 0 th pe pr).2.2.2.2) hN hA.2.2 hC.1 hC.2.1 hC.2.2 ⟨5, pz_rs8 (g := f) hW hN hN1 hw hB hB2 4 0 0 pa ib th pe pr f rfl (fun q => absurd q (by decide)) hI (Or.inr ⟨rfl, by decide⟩) ?_⟩
  have hE : pz_M N (B + 941) pa w W (pz_sl N w 4 0 0 th pe pr).2.2.1 (pz_sl N w 4 0 0 th pe pr).2.2.2.1 (pz_sl N w 4 0 0 th pe pr).2.2.2.2 := ⟨hN, hN1, hW, hw, hpa, hA.1⟩
  have e : (match (pz_sl N w 4 0 0 th pe pr).2.1 with | some p => pz_tw f 4 (200 + nI p) (-5) | none => pz_lw N w f) = pz_wr N (0, (pz_sl N w 4 0 0 th pe pr).2.1, (pz_sl N w 4 0 0 th pe pr).2.2.1, (pz_sl N w 4 0 0 th pe pr).2.2.2.1, (pz_sl N w 4 0 0 th pe pr).2.2.2.2) f := by
    unfold pz_wr
    cases ho : (pz_sl N w 4 0 0 th pe pr).2.1 with
    | some p => rfl
    | none => exact (pz_tl_lw f hN hA.1.1 (hA.2.1 ho)).symm
  exact ⟨rfl, rfl, rfl, rfl, rfl, rfl, ⟨congrFun e 0, congrFun e 1, congrFun e 2⟩, hE⟩
theorem pc_wrong {a ck cc cd : Int32} {f : Nat → Int32} (hC : pz_C ck cc cd f) : wpX7_wrong ck cc cd a (fun r => wpX8_wrong f a (fun r2 => r2 = r)) := by
  obtain ⟨h0, h1, h2⟩ := hC
  by_cases c0 : a = 0
  · subst c0
    exact ⟨fun q => absurd q (by decide), fun _ => br_t (by decide) (br_f (by decide) ⟨vp_in_nI (n := 0) (by decide) (by decide), h0⟩), fun q => absurd q (by decide), fun q => absurd q (by decide)⟩
  by_cases c1 : a = 1
  · subst c1
    exact ⟨fun q => absurd q (by decide), fun q => absurd q (by decide), fun _ => br_t (by decide) (br_f (by decide) ⟨vp_in_nI (n := 1) (by decide) (by decide), h1⟩), fun q => absurd q (by decide)⟩
  by_cases c2 : a = 2
  · subst c2
    exact ⟨fun q => absurd q (by decide), fun q => absurd q (by decide), fun q => absurd q (by decide), fun _ => br_t (by decide) (br_f (by decide) ⟨vp_in_nI (n := 2) (by decide) (by decide), h2⟩)⟩
  · refine ⟨fun _ => br_c (fun c => br_t c (br_t ?_ rfl)) (fun c => br_f c rfl), fun q => absurd q c0, fun q => absurd q c1, fun q => absurd q c2⟩
    rw [fa_eq] at c0 c1 c2
    rw [fa_le] at c ⊢
    have c0 : ¬ a.toInt = 0 := c0
    have c1 : ¬ a.toInt = 1 := c1
    have c2 : ¬ a.toInt = 2 := c2
    have c : 0 ≤ a.toInt := c
    show 3 ≤ a.toInt
    omega
/-- the text of both sides -/
def pz_T (tl : Int32) (tb : Nat → Int32) (mTexted : Int32) (mText : Nat → Int32) : Prop := ∃ L, L ≤ 100 ∧ tl = nI L ∧ mTexted = nI L ∧ mText = tb ∧ ∀ k, k < L → 0 ≤ (tb k).toInt ∧ (tb k).toInt ≤ 127
theorem pc_feed {a tl mTexted : Int32} {tb mText : Nat → Int32} (h : pz_T tl tb mTexted mText) : wpX7_feed tl tb a (fun r tl1 tb1 => wpX8_feed mTexted mText a (fun r2 tx tx2 => r2 = r ∧ pz_T tl1 tb1 tx tx2)) := by
  have h0 := h
  obtain ⟨L, hL, rfl, rfl, rfl, hk⟩ := h
  by_cases c1 : a < 0
  · exact br_t c1 (pz_rng (lo := 0) (hi := 127) rfl rfl (fun _ => bq_t rfl ⟨rfl, h0⟩) (fun q => absurd c1 q))
  by_cases c2 : a ≤ 127
  · have hr : wpX8_in a.toInt64 0 127 = fun P => wpX8_in a.toInt64 0 127 P := rfl
    have b1 : 0 ≤ a.toInt ∧ a.toInt ≤ 127 := by
      rw [fa_lt] at c1; rw [fa_le] at c2
      have c1 : ¬ a.toInt < 0 := c1
      have c2 : a.toInt ≤ 127 := c2
      omega
    have b2 : (a < 0 ∨ 127 < a) → False := by
      rintro (q | q)
      · exact c1 q
      · rw [fa_lt] at q; rw [fa_le] at c2; omega
    refine br_f c1 (br_t c2 ?_)
    by_cases c3 : L < 100
    · refine br_t (nI_lt (b := 100) c3 (by decide)) ⟨vp_in_nI c3 (by decide), pz_rng (lo := 0) (hi := 127) rfl rfl (fun q => (b2 q).elim) (fun _ _ => bq_f pz_n10 (bq_f ?_ ⟨vp_in_nI c3 (by decide), ?_⟩))⟩
      · intro q
        exact absurd ((nI_eq (b := 100) (by omega) (by decide)).mp q) (by omega)
      · rw [nI_clamp (by omega), nI_1]
        refine ⟨rfl, L + 1, by omega, rfl, rfl, rfl, fun k hk2 => ?_⟩
        by_cases q : k = L
        · rw [q, pk_us]; exact b1
        · rw [pk_un q]; exact hk k (by omega)
    · have e : L = 100 := by omega
      subst e
      exact br_f (by decide) (pz_rng (lo := 0) (hi := 127) rfl rfl (fun q => (b2 q).elim) (fun _ _ => bq_f pz_n10 (bq_t rfl ⟨rfl, h0⟩)))
  · refine br_f c1 (br_f c2 (pz_rng (lo := 0) (hi := 127) rfl rfl (fun _ => bq_t rfl ⟨rfl, h0⟩) (fun _ q => ?_)))
    rw [fa_le] at c2; rw [fa_lt] at q; omega
end PZD
