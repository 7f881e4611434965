/-! bids one behind another -/
def pz_th (th pe : Nat → Int32) (p t : Nat) : Nat → Int32 := upd (if pe t < 0 then th else upd th (pe t).toNatClampNeg (-1)) p (nI t)
/-- rows are 0 behind their end -/
def pz_z (f : Nat → Int32) : Prop := ∀ k, 8 ≤ k → f k = 0
theorem pz_z_upd {f : Nat → Int32} {k : Nat} {x : Int32} (h : pz_z f) (hk : k < 8) : pz_z (upd f k x) := fun j hj => by rw [pk_un (by omega)]; exact h j hj
/-- worths and prices within bounds -/
def pz_wb (w : Nat → Nat → Int32) : Prop := ∀ p t, p < 8 → t < 8 → -1 ≤ (w p t).toInt ∧ (w p t).toInt ≤ 99
def pz_pb (B : Int) (pr : Nat → Int32) : Prop := ∀ t, t < 8 → 0 ≤ (pr t).toInt ∧ (pr t).toInt ≤ B
theorem pz_wb_ok {w : Nat → Nat → Int32} {p t : Nat} (h : pz_wb w) (hp : p < 8) (ht : t < 8) : w p t = -1 ∨ 0 ≤ w p t := by
  have := h p t hp ht
  rw [fa_le, fa_eq]
  show (w p t).toInt = -1 ∨ 0 ≤ (w p t).toInt
  omega
section PZA
variable {N : Nat} {n pa : Int32} {pr th pe W : Nat → Int32} {w : Nat → Nat → Int32} {p t : Nat} {B : Int}
theorem pz_cdc {k : Nat} (h : k < 2 ^ 31) : (pz_cd (some k)).toNatClampNeg = k := nI_clamp h
theorem pz_letNextBid {Post : Int32 → (Nat → Int32) → (Nat → Int32) → (Nat → Int32) → Prop} (hN : N ≤ 8) (hok : pz_ok N w th pe)
    (h0 : pz_ln N pa w th pe pr = none → Post (-1) th pe pr) (h1 : ∀ p t, pz_ln N pa w th pe pr = some (p, t) → Post (nI t) (pz_th th pe p t) (upd pe t (nI p)) (upd pr t (pz_of N pa pr w p t))) : wpX2_letNextBid (nI N) pa th pe pr w Post := by
  refine pz_nextBidder hN ?_
  cases hq : pz_nx N th w with
  | none => exact br_f (by decide) (h0 (by unfold pz_ln; rw [hq]))
  | some p =>
    obtain ⟨-, hp, -, -⟩ := pz_fs_some _ _ _ hq
    refine br_t (nI_pos' (by omega)) (pz_bestOf hN (by omega) ?_)
    cases hb : pz_bt (nI N) pr w p (-1) N with
    | none => exact br_f (by decide) (h0 (by unfold pz_ln; rw [hq]; dsimp only; rw [hb]))
    | some t =>
      have ht := pz_bt_lt hb
      have h2 := h1 p t (by unfold pz_ln; rw [hq]; dsimp only; rw [hb])
      refine br_t (nI_pos' (by omega)) (pz_offerFor hN (by omega) (by omega) ⟨vp_in_nI (by omega) (by decide), vp_in_nI (by omega) (by decide), ?_⟩)
      refine nm_r (congrArg pe (nI_clamp (by omega))) ?_
      unfold pz_th at h2
      refine br_c (fun c => ?_) (fun c => ?_)
      · rw [if_pos c] at h2
        refine ⟨vp_in_nI (by omega) (by decide), vp_in_nI (by omega) (by decide), ?_⟩
        rw [pz_cdc (k := t) (by omega), pz_cdc (k := p) (by omega)]
        exact h2
      · rw [if_neg c] at h2
        have hq2 : vp_in (pe t) 8 := by
          rcases hok.2 t (by omega) with e | ⟨q, h3, -, e, -⟩
          · rw [e] at c; exact absurd (by decide) c
          · rw [e]; exact vp_in_nI (by omega) (by decide)
        refine ⟨hq2, vp_in_nI (by omega) (by decide), vp_in_nI (by omega) (by decide), ?_⟩
        rw [pz_cdc (k := t) (by omega), pz_cdc (k := p) (by omega)]
        exact h2
theorem pz_loses {Post : (Nat → Int32) → (Nat → Int32) → Prop} (hN : N ≤ 8) (hok : pz_ok N w th pe) (hp : p < 8) (h : Post (upd th p (-1)) (if th p < 0 then pe else upd pe (th p).toNatClampNeg (-1))) : wpX8_loses th pe (nI p) Post := by
  refine ⟨vp_in_nI hp (by decide), ?_⟩
  rw [nI_clamp (by omega)]
  refine br_c (fun c => ?_) (fun c => ?_)
  · rw [if_pos c] at h
    rcases hok.1 p hp with e | ⟨t, h1, -, e, -⟩
    · rw [pz_up0 e] at h; exact h
    · rw [e] at c; exact absurd c (nI_pos (by omega))
  · rw [if_neg c] at h
    refine ⟨vp_in_nI hp (by decide), ?_, vp_in_nI hp (by decide), h⟩
    rcases hok.1 p hp with e | ⟨t, h1, -, e, -⟩
    · rw [e] at c; exact absurd (by decide) c
    · rw [e]; exact vp_in_nI (by omega) (by decide)
theorem pz_giveUp {Post : (Nat → Int32) → (Nat → Int32) → Prop} (hN : N ≤ 8) (hok : pz_ok N w th pe) (hp : p < 8) (h : Post (upd th p (-1)) (if th p < 0 then pe else upd pe (th p).toNatClampNeg (-1))) : wpX2_giveUp th pe (nI p) Post := by
  refine ⟨vp_in_nI hp (by decide), nm_e ?_⟩
  rw [nI_clamp (by omega)]
  refine br_c (fun c => ?_) (fun c => ?_)
  · rw [if_pos c] at h
    refine ⟨vp_in_nI hp (by decide), ?_⟩
    rw [nI_clamp (by omega)]
    exact h
  · rw [if_neg c] at h
    refine ⟨?_, vp_in_nI hp (by decide), ?_⟩
    · rcases hok.1 p hp with e | ⟨t, h1, -, e, -⟩
      · rw [e] at c; exact absurd (by decide) c
      · rw [e]; exact vp_in_nI (by omega) (by decide)
    · rw [nI_clamp (by omega)]
      exact h
theorem pz_bids {Post : Int32 → (Nat → Int32) → (Nat → Int32) → (Nat → Int32) → Prop} (hW : pz_ww W w) (hN : N ≤ 8) (hN1 : 1 ≤ N) (hok : pz_ok N w th pe) (hl : pz_ln N pa w th pe pr = some (p, t))
    (h : Post (nI t) (pz_th th pe p t) (upd pe t (nI p)) (upd pr t (pz_of N pa pr w p t))) : wpX8_bids (nI N) pa W th pe pr (nI p) Post := by
  obtain ⟨hp, ht, hth, hwt, hx, hb⟩ := pz_ln_lt hl
  refine pz_best hW hN hN1 (by omega) ?_
  rw [hb]
  refine pz_offer hW hN hN1 (by omega) hb ⟨vp_in_nI (by omega) (by decide), vp_in_nI (by omega) (by decide), ?_⟩
  show (pe (nI t).toNatClampNeg < 0 → wpX8_bids_B36 _ _ _ _ _ (nI t) _ _ (upd pr (nI t).toNatClampNeg _)) ∧ (¬ pe (nI t).toNatClampNeg < 0 → vp_in (nI t) 8 ∧ wpX8_loses th pe (pe (nI t).toNatClampNeg) (fun y9 y10 => wpX8_bids_B36 _ _ _ _ _ (nI t) _ _ (upd pr (nI t).toNatClampNeg _)))
  rw [nI_clamp (by omega)]
  unfold pz_th at h
  refine br_c (fun c => ?_) (fun c => ?_)
  · rw [if_pos c] at h
    refine ⟨vp_in_nI (by omega) (by decide), vp_in_nI (by omega) (by decide), ?_⟩
    rw [nI_clamp (by omega), nI_clamp (by omega)]
    exact h
  · rw [if_neg c] at h
    refine ⟨vp_in_nI (by omega) (by decide), ?_⟩
    rcases hok.2 t (by omega) with e | ⟨q, h3, -, e, e2⟩
    · rw [e] at c; exact absurd (by decide) c
    · rw [e] at h ⊢
      refine pz_loses hN hok (by omega) ⟨vp_in_nI (by omega) (by decide), vp_in_nI (by omega) (by decide), ?_⟩
      rw [nI_clamp (by omega), nI_clamp (by omega), e2, if_neg (nI_pos (by omega)), nI_clamp (by omega), fa_upd_twice]
      rw [nI_clamp (by omega)] at h
      exact h
theorem pz_ok_bid (hN : N ≤ 8) (hok : pz_ok N w th pe) (hp : p < N) (ht : t < N) (hth : th p < 0) (hw : w p t ≠ -1) : pz_ok N w (pz_th th pe p t) (upd pe t (nI p)) := by
  have hthp : ∀ k, k ≠ p → pe t ≠ nI k → k < 8 → pz_th th pe p t k = th k := by
    intro k h1 h2 h3
    unfold pz_th
    rw [pk_un h1]
    split
    · rfl
    · next c =>
      rcases hok.2 t (by omega) with e | ⟨q, h4, -, e, -⟩
      · rw [e] at c; exact absurd (by decide) c
      · rw [e, nI_clamp (by omega), pk_un]
        intro h5; rw [h5] at h2; exact h2 e
  refine ⟨fun k hk => ?_, fun k hk => ?_⟩
  · by_cases q : k = p
    · subst q
      exact Or.inr ⟨t, ht, hp, pk_us, pk_us, hw⟩
    by_cases q2 : pe t = nI k
    · left
      unfold pz_th
      rw [pk_un q, if_neg (by rw [q2]; exact nI_pos (by omega)), q2, nI_clamp (by omega), pk_us]
    rw [hthp k q q2 hk]
    rcases hok.1 k hk with e | ⟨t2, h1, h2, h3, h4, h5⟩
    · exact Or.inl e
    · refine Or.inr ⟨t2, h1, h2, h3, ?_, h5⟩
      rw [pk_un]
      · exact h4
      · intro h6; rw [h6] at h4; exact q2 h4
  · by_cases q : k = t
    · subst q
      exact Or.inr ⟨p, hp, ht, pk_us, pk_us⟩
    rw [pk_un q]
    rcases hok.2 k hk with e | ⟨p2, h1, h2, h3, h4⟩
    · exact Or.inl e
    · refine Or.inr ⟨p2, h1, h2, h3, ?_⟩
      rw [hthp p2 ?_ ?_ (by omega)]
      · exact h4
      · intro h5; rw [h5] at h4; rw [h4] at hth; exact nI_pos (by omega) hth
      · intro h5
        rcases hok.2 t (by omega) with e | ⟨q3, h6, -, h7, h8⟩
        · rw [e] at h5; exact pz_nm1I (by omega) h5.symm
        · rw [h7] at h5
          have := (nI_eq (by omega) (by omega)).mp h5
          subst this
          rw [h4] at h8
          exact q ((nI_eq (by omega) (by omega)).mp h8)
theorem pz_ok_lose {w2 : Nat → Nat → Int32} (hN : N ≤ 8) (hok : pz_ok N w th pe) (hp : p < 8) (hw : ∀ k t, k ≠ p → w k t ≠ -1 → w2 k t ≠ -1) : pz_ok N w2 (upd th p (-1)) (if th p < 0 then pe else upd pe (th p).toNatClampNeg (-1)) := by
  refine ⟨fun k hk => ?_, fun k hk => ?_⟩
  · by_cases q : k = p
    · rw [q, pk_us]; exact Or.inl rfl
    rw [pk_un q]
    rcases hok.1 k hk with e | ⟨t2, h1, h2, h3, h4, h5⟩
    · exact Or.inl e
    · refine Or.inr ⟨t2, h1, h2, h3, ?_, hw _ _ q h5⟩
      split
      · exact h4
      · next c =>
        rcases hok.1 p hp with e | ⟨t3, h6, -, h7, h8, -⟩
        · rw [e] at c; exact absurd (by decide) c
        · rw [h7, nI_clamp (by omega), pk_un]
          · exact h4
          · intro h9; subst h9
            rw [h4] at h8
            exact q ((nI_eq (by omega) (by omega)).mp h8)
  · by_cases c : th p < 0
    · rw [if_pos c]
      rcases hok.2 k hk with e | ⟨p2, h1, h2, h3, h4⟩
      · exact Or.inl e
      · refine Or.inr ⟨p2, h1, h2, h3, ?_⟩
        rw [pk_un]
        · exact h4
        · intro q; rw [q] at h4; rw [h4] at c; exact nI_pos (by omega) c
    · rw [if_neg c]
      rcases hok.1 p hp with e | ⟨t3, h6, -, h7, h8, -⟩
      · rw [e] at c; exact absurd (by decide) c
      rw [h7, nI_clamp (by omega)]
      by_cases q : k = t3
      · rw [q, pk_us]; exact Or.inl rfl
      rw [pk_un q]
      rcases hok.2 k hk with e | ⟨p2, h1, h2, h3, h4⟩
      · exact Or.inl e
      · refine Or.inr ⟨p2, h1, h2, h3, ?_⟩
        rw [pk_un]
        · exact h4
        · intro q2; rw [q2] at h4; rw [h4] at h7
          exact q ((nI_eq (by omega) (by omega)).mp h7)
/-! numbers of a bid -/
theorem pz_gnI (hN : N ≤ 8) (hw : -1 ≤ (w p t).toInt ∧ (w p t).toInt ≤ 99) (hp : 0 ≤ (pr t).toInt ∧ (pr t).toInt ≤ 1000000) : (pz_gn (nI N) pr w p t).toInt = ((N : Int) + 1) * (w p t).toInt - (pr t).toInt := by
  have e1 : (nI N + 1).toInt = (N : Int) + 1 := by
    rw [nI_1, nI_toInt (by omega)]; omega
  have b1 : -9 ≤ ((N : Int) + 1) * (w p t).toInt ∧ ((N : Int) + 1) * (w p t).toInt ≤ 891 := by
    have : N = 0 ∨ N = 1 ∨ N = 2 ∨ N = 3 ∨ N = 4 ∨ N = 5 ∨ N = 6 ∨ N = 7 ∨ N = 8 := by omega
    rcases this with h | h | h | h | h | h | h | h | h <;> subst h <;> omega
  have e2 : ((nI N + 1) * w p t).toInt = ((N : Int) + 1) * (w p t).toInt := by
    rw [fb_mulI (by rw [e1]; omega) (by rw [e1]; omega), e1]
  unfold pz_gn
  rw [fb_subI (by rw [e2]; omega) (by rw [e2]; omega), e2]
theorem pz_ofI (hN : N ≤ 8) (hw : pz_wb w) (hB : pz_pb B pr) (hB2 : B ≤ 1000000) (hpa : 1 ≤ pa.toInt ∧ pa.toInt ≤ 50) (hp : p < 8) (hb : pz_bt (nI N) pr w p (-1) N = some t) : (pr t).toInt < (pz_of N pa pr w p t).toInt ∧ (pz_of N pa pr w p t).toInt ≤ B + 941 := by
  have ht := pz_bt_lt hb
  have hI := @pz_bt_isb (nI N) pr w p (-1) N
  rw [hb] at hI
  have ht8 : t < 8 := by omega
  have hpt := hB t ht8
  have g1 := pz_gnI (N := N) hN (hw p t hp ht8) (pr := pr) ⟨hpt.1, by omega⟩
  have bnd : ∀ x : Int, -1 ≤ x → x ≤ 99 → -9 ≤ ((N : Int) + 1) * x ∧ ((N : Int) + 1) * x ≤ 891 := by
    intro x h1 h2
    have : N = 0 ∨ N = 1 ∨ N = 2 ∨ N = 3 ∨ N = 4 ∨ N = 5 ∨ N = 6 ∨ N = 7 ∨ N = 8 := by omega
    rcases this with h | h | h | h | h | h | h | h | h <;> subst h <;> omega
  have bnd0 : ∀ x : Int, 0 ≤ x → 0 ≤ ((N : Int) + 1) * x := fun x h => Int.mul_nonneg (by omega) h
  unfold pz_of
  cases hs : pz_bt (nI N) pr w p (nI t) N with
  | none =>
    dsimp only
    have e1 : (pr t + 100).toInt = (pr t).toInt + 100 := fb_addI (by show _ ≤ _ + (100 : Int); omega) (by show _ + (100 : Int) < _; omega)
    rw [fb_addI (by rw [e1]; omega) (by rw [e1]; omega), e1]
    omega
  | some s =>
    dsimp only
    have hJ := @pz_bt_isb (nI N) pr w p (nI t) N
    rw [hs] at hJ
    have hs8 : s < 8 := by have := hJ.1.1; omega
    have hps := hB s hs8
    have g2 := pz_gnI (N := N) hN (hw p s hp hs8) (pr := pr) ⟨hps.1, by omega⟩
    have le1 := (hI.2 s ⟨hJ.1.1, pz_nm1I hs8, hJ.1.2.2⟩).1
    rw [fa_le] at le1
    have w1 := hw p t hp ht8
    have w2 := hw p s hp hs8
    have b1 := bnd _ w1.1 w1.2
    have b2 := bnd _ w2.1 w2.2
    have w3 : 0 ≤ (w p s).toInt := by
      have := hJ.1.2.2
      rw [ne_eq, fa_eq] at this
      have : ¬ (w p s).toInt = -1 := this
      omega
    have b3 := bnd0 _ w3
    have e0 : (pz_gn (nI N) pr w p t - pz_gn (nI N) pr w p s).toInt = (pz_gn (nI N) pr w p t).toInt - (pz_gn (nI N) pr w p s).toInt := fb_subI (by omega) (by omega)
    have e1 : (pr t + (pz_gn (nI N) pr w p t - pz_gn (nI N) pr w p s)).toInt = (pr t).toInt + ((pz_gn (nI N) pr w p t).toInt - (pz_gn (nI N) pr w p s).toInt) := by
      rw [fb_addI (by rw [e0]; omega) (by rw [e0]; omega), e0]
    rw [fb_addI (by rw [e1]; omega) (by rw [e1]; omega), e1]
    omega
end PZA
