/-! one bid -/
def pz_hb (N : Nat) (w : Nat → Nat → Int32) (p : Nat) : Option Nat := pz_fs (fun t => decide (w p t ≠ -1)) N 0
def pz_nx (N : Nat) (th : Nat → Int32) (w : Nat → Nat → Int32) : Option Nat := pz_fs (fun p => decide (th p < 0) && (pz_hb N w p).isSome) N 0
theorem pz_bt_hb {n : Int32} {N : Nat} {pr : Nat → Int32} {w : Nat → Nat → Int32} {p : Nat} (hN : N ≤ 8) : (pz_bt n pr w p (-1) N).isSome = (pz_hb N w p).isSome := by
  have h1 := @pz_bt_isb n pr w p (-1) N
  cases hb : pz_bt n pr w p (-1) N with
  | none =>
    rw [hb] at h1
    cases hh : pz_hb N w p with
    | none => rfl
    | some t =>
      obtain ⟨-, h3, h4, -⟩ := pz_fs_some _ _ _ hh
      have h5 : w p t ≠ -1 := of_decide_eq_true h4
      exact absurd ⟨by omega, pz_nm1I (by omega), h5⟩ (h1 t)
  | some b =>
    rw [hb] at h1
    cases hh : pz_hb N w p with
    | some t => rfl
    | none =>
      have := pz_fs_none _ _ hh b (by omega) (by have := h1.1.1; omega)
      exact absurd h1.1.2.2 (of_decide_eq_false this)
def pz_of (N : Nat) (pa : Int32) (pr : Nat → Int32) (w : Nat → Nat → Int32) (p t : Nat) : Int32 :=
  ((pr t) + (match pz_bt (nI N) pr w p (nI t) N with
    | none => 100
    | some s => pz_gn (nI N) pr w p t - pz_gn (nI N) pr w p s)) + pa
/-- who has what: both rows say the same; nobody has what is forbidden -/
def pz_ok (N : Nat) (w : Nat → Nat → Int32) (th pe : Nat → Int32) : Prop :=
  (∀ p, p < 8 → th p = -1 ∨ ∃ t, t < N ∧ p < N ∧ th p = nI t ∧ pe t = nI p ∧ w p t ≠ -1) ∧ (∀ t, t < 8 → pe t = -1 ∨ ∃ p, p < N ∧ t < N ∧ pe t = nI p ∧ th p = nI t)
def pz_lt' (th pe : Nat → Int32) (p t : Nat) : Nat → Int32 := upd (if pe t < 0 then th else upd th (pe t).toNatClampNeg (-1)) p (nI t)
/-- a bid: the thing, who has what, who is had, prices -/
def pz_ln (N : Nat) (pa : Int32) (w : Nat → Nat → Int32) (th pe pr : Nat → Int32) : Option (Nat × Nat) := match pz_nx N th w with
  | none => none
  | some p => match pz_bt (nI N) pr w p (-1) N with
    | none => none
    | some t => some (p, t)
section PZB
variable {N : Nat} {n pa : Int32} {pr th pe W : Nat → Int32} {w : Nat → Nat → Int32} {p t : Nat} {Post : Int32 → Prop}
theorem pz_ln_lt (h : pz_ln N pa w th pe pr = some (p, t)) : p < N ∧ t < N ∧ th p < 0 ∧ w p t ≠ -1 ∧ pz_nx N th w = some p ∧ pz_bt (nI N) pr w p (-1) N = some t := by
  unfold pz_ln at h
  split at h
  · cases h
  · next q hq =>
    split at h
    · cases h
    · next b hb =>
      cases h
      obtain ⟨-, h3, h4, -⟩ := pz_fs_some _ _ _ hq
      have h1 := @pz_bt_isb (nI N) pr w p (-1) N
      rw [hb] at h1
      simp only [Bool.and_eq_true, decide_eq_true_eq] at h4
      exact ⟨by omega, pz_bt_lt hb, h4.1, h1.1.2.2, hq, hb⟩
theorem pz_ln_none (hN : N ≤ 8) (h : pz_ln N pa w th pe pr = none) : pz_nx N th w = none := by
  unfold pz_ln at h
  split at h
  · next q => exact q
  · next q hq =>
    split at h
    · next hb =>
      obtain ⟨-, h3, h4, -⟩ := pz_fs_some _ _ _ hq
      simp only [Bool.and_eq_true, decide_eq_true_eq] at h4
      rw [← pz_bt_hb (n := nI N) (pr := pr) hN, hb] at h4
      exact absurd h4.2 (by decide)
    · cases h
theorem pz_hasBest (hN : N ≤ 8) (hp : p < 8) (h : Post (if (pz_hb N w p).isSome then 1 else 0)) : wpX2_hasBest (nI N) w (nI p) Post := by
  refine pz_se (fun g i => wpX2_hasBest_B2 (nI N) w (nI p) Post g (nI i)) (fun t => decide (w p t ≠ -1)) N (fun o => Post (if o.isSome then 1 else 0)) h (fun n q => ?_) (fun n i hi h1 h2 => ?_)
  · rw [wpX2_hasBest_B2]
    exact br_t (nI_le (Nat.le_refl _) (by omega)) q
  · rw [wpX2_hasBest_B2]
    refine br_f (nI_ge hi (by omega)) (pz_allows hp (by omega) (fun c => br_t rfl (nm_r (nI_1 i) (h2 (by simp [c])))) (fun c => br_f (by decide) (h1 (by simp [c]))))
theorem pz_nextBidder (hN : N ≤ 8) (h : Post (pz_cd (pz_nx N th w))) : wpX2_nextBidder (nI N) th w Post := by
  refine pz_se (fun g i => wpX2_nextBidder_B2 (nI N) th w Post g (nI i)) (fun p => decide (th p < 0) && (pz_hb N w p).isSome) N (fun o => Post (pz_cd o)) h (fun n q => ?_) (fun n i hi h1 h2 => ?_)
  · rw [wpX2_nextBidder_B2]
    exact br_t (nI_le (Nat.le_refl _) (by omega)) q
  · rw [wpX2_nextBidder_B2]
    refine br_f (nI_ge hi (by omega)) ⟨vp_in_nI (by omega) (by decide), ?_⟩
    rw [nI_clamp (by omega)]
    refine br_c (fun c => nm_r (nI_1 i) (h2 ?_)) (fun c => pz_hasBest hN (by omega) ?_)
    · rw [fa_le] at c
      have : ¬ th i < 0 := by rw [fa_lt]; omega
      simp [this]
    · have c1 : th i < 0 := fa_of_nle c
      cases hh : (pz_hb N w i).isSome with
      | true => exact br_f (by decide) (h1 (by simp [c1, hh]))
      | false => exact br_t rfl (nm_r (nI_1 i) (h2 (by simp [hh])))
theorem pz_next (hW : pz_ww W w) (hN : N ≤ 8) (hN1 : 1 ≤ N) (h : Post (pz_cd (pz_nx N th w))) : wpX8_next (nI N) W th pr Post := by
  refine pz_se (fun g i => wpX8_next_B2 (nI N) W th pr Post g (nI i)) (fun p => decide (th p < 0) && (pz_hb N w p).isSome) N (fun o => Post (pz_cd o)) h (fun n q => ?_) (fun n i hi h1 h2 => ?_)
  · rw [wpX8_next_B2]
    exact br_t (nI_le (Nat.le_refl _) (by omega)) q
  · rw [wpX8_next_B2]
    refine br_f (nI_ge hi (by omega)) ⟨vp_in_nI (by omega) (by decide), ?_⟩
    rw [nI_clamp (by omega)]
    refine br_c (fun c => nm_r (nI_1 i) (h2 ?_)) (fun c => pz_best hW hN hN1 (by omega) ?_)
    · rw [fa_le] at c
      have : ¬ th i < 0 := by rw [fa_lt]; omega
      simp [this]
    · have c1 : th i < 0 := fa_of_nle c
      have e := @pz_bt_hb (nI N) N pr w i hN
      cases hh : pz_bt (nI N) pr w i (-1) N with
      | none =>
        rw [hh] at e
        exact br_t pz_m1 (nm_r (nI_1 i) (h2 (by rw [← e]; simp)))
      | some b =>
        rw [hh] at e
        exact br_f (nI_pos (by have := pz_bt_lt hh; omega)) (h1 (by rw [← e]; simp [c1]))
theorem pz_offerFor (hN : N ≤ 8) (hp : p < 8) (ht : t < 8) (h : Post (pz_of N pa pr w p t)) : wpX2_offerFor (nI N) pa pr w (nI p) (nI t) Post := by
  refine pz_bestBut hN hp ?_
  unfold pz_of at h
  cases hh : pz_bt (nI N) pr w p (nI t) N with
  | none =>
    rw [hh] at h
    refine br_f (by decide) ⟨vp_in_nI ht (by decide), ?_⟩
    rw [nI_clamp (by omega)]
    exact h
  | some s =>
    rw [hh] at h
    have hs := pz_bt_lt hh
    refine br_t (nI_pos' (by omega)) (pz_gainOf hp ht (pz_gainOf hp (by omega) ⟨vp_in_nI ht (by decide), ?_⟩))
    rw [nI_clamp (by omega)]
    exact h
theorem pz_second (hW : pz_ww W w) (hN : N ≤ 8) (hp : p < 8) (ht : t < 8) (h : Post (match pz_bt (nI N) pr w p (nI t) N with | none => pz_gn (nI N) pr w p t - 100 | some s => pz_gn (nI N) pr w p s)) : wpX8_second (nI N) W pr (nI p) (nI t) Post := by
  refine nm_e ?_
  refine loop_0 (fun g i (s : Int32) => wpX8_second_B5 (nI N) W pr (nI p) (nI t) Post g s (nI i)) (fun i s => s = pz_cd (pz_bt (nI N) pr w p (nI t) i)) N (-1) rfl (fun n s hs => ?_) (fun n i s hi hs k => ?_)
  · rw [wpX8_second_B5]
    refine br_t (nI_le (Nat.le_refl _) (by omega)) ?_
    rw [hs]
    cases hh : pz_bt (nI N) pr w p (nI t) N with
    | none => rw [hh] at h; exact br_f (by decide) (pz_gain hW hp ht h)
    | some s => rw [hh] at h; have := pz_bt_lt hh; exact br_t (nI_pos' (by omega)) (pz_gain hW hp (by omega) h)
  · rw [wpX8_second_B5]
    refine br_f (nI_ge hi (by omega)) ?_
    have kk : ∀ a, a = pz_cd (pz_bt (nI N) pr w p (nI t) (i + 1)) → wpX8_second_B53 (nI N) W pr (nI p) (nI t) (wpX8_second_B5 (nI N) W pr (nI p) (nI t) Post n) Post a (nI i) :=
      fun a ha => nm_r (nI_1 i) (k a ha)
    have e0 : pz_bt (nI N) pr w p (nI t) (i + 1) = _ := pz_bt.eq_2 _ _ _ _ _ _
    refine br_c (fun c => ?_) (fun c => ?_)
    · rw [if_pos c] at e0
      exact kk _ (by rw [e0, hs])
    rw [if_neg c] at e0
    refine pz_may hW hp (by omega) (fun c2 => ?_) (fun c2 => ?_)
    · rw [if_pos c2] at e0
      exact br_t rfl (kk _ (by rw [e0, hs]))
    rw [if_neg c2] at e0
    refine br_f (by decide) ?_
    cases hb : pz_bt (nI N) pr w p (nI t) i with
    | none =>
      rw [hb] at hs e0
      exact br_t (by rw [hs]; decide) (kk _ (by rw [e0]; rfl))
    | some b =>
      have hbi := pz_bt_lt hb
      rw [hb] at hs e0
      dsimp only at e0
      rw [hs]
      refine br_f (nI_pos (by omega)) (pz_gain hW hp (by omega) (pz_gain hW hp (by omega) ?_))
      refine br_c (fun c3 => ?_) (fun c3 => ?_)
      · rw [if_pos c3] at e0
        exact kk _ (by rw [e0])
      · rw [if_neg c3] at e0
        exact kk _ (by rw [e0]; rfl)
theorem pz_offer (hW : pz_ww W w) (hN : N ≤ 8) (hN1 : 1 ≤ N) (hp : p < 8) (hb : pz_bt (nI N) pr w p (-1) N = some t) (h : Post (pz_of N pa pr w p t)) : wpX8_offer (nI N) pa W pr (nI p) Post := by
  have ht := pz_bt_lt hb
  refine pz_best hW hN hN1 hp ?_
  rw [hb]
  refine ⟨vp_in_nI (by omega) (by decide), pz_gain hW hp (by omega) (pz_second hW hN hp (by omega) ?_)⟩
  show Post ((((pr (nI t).toNatClampNeg) + pz_gn (nI N) pr w p t) - _) + pa)
  rw [nI_clamp (by omega)]
  unfold pz_of at h
  cases hh : pz_bt (nI N) pr w p (nI t) N with
  | none =>
    rw [hh] at h
    dsimp only at h ⊢
    rw [show pr t + pz_gn (nI N) pr w p t - (pz_gn (nI N) pr w p t - 100) = pr t + 100 by grind]
    exact h
  | some s =>
    rw [hh] at h
    dsimp only at h ⊢
    rw [show pr t + pz_gn (nI N) pr w p t - pz_gn (nI N) pr w p s = pr t + (pz_gn (nI N) pr w p t - pz_gn (nI N) pr w p s) by grind]
    exact h
end PZB
