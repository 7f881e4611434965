/-! the market: what both sides compute -/
def pz_gn (n : Int32) (pr : Nat → Int32) (w : Nat → Nat → Int32) (p t : Nat) : Int32 := ((n + 1) * (w p t)) - (pr t)
def pz_bt (n : Int32) (pr : Nat → Int32) (w : Nat → Nat → Int32) (p : Nat) (but : Int32) : Nat → Option Nat
  | 0 => none
  | k + 1 => if nI k = but then pz_bt n pr w p but k else if w p k = -1 then pz_bt n pr w p but k else match pz_bt n pr w p but k with
    | none => some k
    | some b => if pz_gn n pr w p k ≤ pz_gn n pr w p b then some b else some k
theorem pz_bt_lt {n : Int32} {pr : Nat → Int32} {w : Nat → Nat → Int32} {p : Nat} {but : Int32} : ∀ {k b : Nat}, pz_bt n pr w p but k = some b → b < k
  | 0, b, h => by cases h
  | k + 1, b, h => by
    have ih := @pz_bt_lt n pr w p but k
    rw [pz_bt] at h
    split at h
    · exact Nat.lt_succ_of_lt (ih h)
    · split at h
      · exact Nat.lt_succ_of_lt (ih h)
      · split at h
        · cases h; exact Nat.lt_succ_self _
        · next a ha =>
          split at h
          · cases h; exact Nat.lt_succ_of_lt (ih ha)
          · cases h; exact Nat.lt_succ_self _
/-- the least of the places with the most -/
def pz_isb (g : Nat → Int32) (S : Nat → Prop) (r : Option Nat) : Prop := match r with
  | none => ∀ t, ¬ S t
  | some b => S b ∧ ∀ t, S t → g t ≤ g b ∧ (t < b → g t < g b)
theorem pz_isb_uni {g : Nat → Int32} {S : Nat → Prop} {r q : Option Nat} (h : pz_isb g S r) (h2 : pz_isb g S q) : r = q := by
  cases r with
  | none => cases q with
    | none => rfl
    | some b => exact absurd h2.1 (h b)
  | some a => cases q with
    | none => exact absurd h.1 (h2 a)
    | some b =>
      have e1 := h.2 b h2.1
      have e2 := h2.2 a h.1
      simp only [fa_lt, fa_le] at e1 e2
      have : a = b := by
        by_cases q : a < b
        · have := e2.2 q; omega
        · by_cases q2 : b < a
          · have := e1.2 q2; omega
          · omega
      rw [this]
theorem pz_bt_isb {n : Int32} {pr : Nat → Int32} {w : Nat → Nat → Int32} {p : Nat} {but : Int32} : ∀ k, pz_isb (pz_gn n pr w p) (fun t => t < k ∧ nI t ≠ but ∧ w p t ≠ -1) (pz_bt n pr w p but k)
  | 0 => fun t h => absurd h.1 (by omega)
  | k + 1 => by
    have ih := @pz_bt_isb n pr w p but k
    have wk : (nI k = but ∨ w p k = -1) → pz_isb (pz_gn n pr w p) (fun t => t < k + 1 ∧ nI t ≠ but ∧ w p t ≠ -1) (pz_bt n pr w p but k) := by
      intro hn
      have hS : ∀ t, (t < k + 1 ∧ nI t ≠ but ∧ w p t ≠ -1) ↔ (t < k ∧ nI t ≠ but ∧ w p t ≠ -1) := by
        intro t
        constructor
        · rintro ⟨h1, h2, h3⟩
          refine ⟨?_, h2, h3⟩
          by_cases q : t = k
          · subst q; rcases hn with q | q
            · exact absurd q h2
            · exact absurd q h3
          · omega
        · rintro ⟨h1, h2⟩
          exact ⟨by omega, h2⟩
      cases hb : pz_bt n pr w p but k with
      | none => rw [hb] at ih; exact fun t h => ih t ((hS t).mp h)
      | some b => rw [hb] at ih; exact ⟨(hS b).mpr ih.1, fun t h => ih.2 t ((hS t).mp h)⟩
    rw [pz_bt]
    split
    · next q => exact wk (Or.inl q)
    · next q1 =>
      split
      · next q => exact wk (Or.inr q)
      · next q2 =>
        cases hb : pz_bt n pr w p but k with
        | none =>
          rw [hb] at ih
          refine ⟨⟨by omega, q1, q2⟩, fun t h => ?_⟩
          by_cases q : t = k
          · subst q; exact ⟨by rw [fa_le]; omega, fun h => absurd h (by omega)⟩
          · exact absurd ⟨by omega, h.2⟩ (ih t)
        | some b =>
          rw [hb] at ih
          dsimp only
          have hbk := ih.1.1
          split
          · next q =>
            refine ⟨⟨by omega, ih.1.2⟩, fun t h => ?_⟩
            by_cases q3 : t = k
            · subst q3; exact ⟨q, fun h => absurd h (by omega)⟩
            · exact ih.2 t ⟨by omega, h.2⟩
          · next q =>
            rw [fa_le] at q
            refine ⟨⟨by omega, q1, q2⟩, fun t h => ?_⟩
            by_cases q3 : t = k
            · subst q3; exact ⟨by rw [fa_le]; omega, fun h => absurd h (by omega)⟩
            · have := (ih.2 t ⟨by omega, h.2⟩).1
              rw [fa_le] at this
              exact ⟨by rw [fa_le]; omega, fun _ => by rw [fa_lt]; omega⟩
/-- the rows of worths of both sides -/
def pz_ww (W : Nat → Int32) (w : Nat → Nat → Int32) : Prop := ∀ p t, p < 8 → t < 8 → W (8 * p + t) = w p t ∧ (w p t = -1 ∨ 0 ≤ w p t)
section PZM
variable {N : Nat} {n pa : Int32} {pr th pe W : Nat → Int32} {w : Nat → Nat → Int32} {p t : Nat} {Post : Int32 → Prop}
theorem pz_gainOf (hp : p < 8) (ht : t < 8) (h : Post (pz_gn n pr w p t)) : wpX2_gainOf n pr w (nI p) (nI t) Post := by
  refine ⟨vp_in_nI hp (by decide), vp_in_nI ht (by decide), vp_in_nI ht (by decide), ?_⟩
  rw [nI_clamp (by omega), nI_clamp (by omega)]
  exact h
theorem pz_allows (hp : p < 8) (ht : t < 8) (h1 : w p t = -1 → Post 0) (h2 : ¬ w p t = -1 → Post 1) : wpX2_allows w (nI p) (nI t) Post := by
  refine ⟨vp_in_nI hp (by decide), vp_in_nI ht (by decide), ?_⟩
  rw [nI_clamp (by omega), nI_clamp (by omega)]
  exact br_c h1 h2
theorem pz_may (hW : pz_ww W w) (hp : p < 8) (ht : t < 8) (h1 : w p t = -1 → Post 0) (h2 : ¬ w p t = -1 → Post 1) : wpX8_may W (nI p) (nI t) Post := by
  unfold wpX8_may
  rw [pz_8]
  refine ⟨vp_in_nI (by omega) (by decide), ?_⟩
  rw [nI_clamp (by omega), (hW p t hp ht).1]
  refine br_c (fun c => h1 ?_) (fun c => h2 ?_)
  · rcases (hW p t hp ht).2 with q | q
    · exact q
    · rw [fa_le] at q; rw [fa_lt] at c; exact absurd c (by omega)
  · intro q; rw [q] at c; exact c (by decide)
theorem pz_gain (hW : pz_ww W w) (hp : p < 8) (ht : t < 8) (h : Post (pz_gn n pr w p t)) : wpX8_gain n W pr (nI p) (nI t) Post := by
  unfold wpX8_gain
  rw [pz_8]
  refine ⟨vp_in_nI (by omega) (by decide), vp_in_nI ht (by decide), ?_⟩
  rw [nI_clamp (by omega), nI_clamp (by omega), (hW p t hp ht).1]
  exact h
theorem pz_bestBut {but : Int32} (hN : N ≤ 8) (hp : p < 8) (h : Post (pz_cd (pz_bt (nI N) pr w p but N))) : wpX2_bestBut (nI N) pr w (nI p) but Post := by
  refine nm_e ?_
  refine loop_0 (fun g i (s : Int32 × Int32) => wpX2_bestBut_B8 (nI N) pr w (nI p) but Post g s.1 s.2 (nI i)) (fun i s => s.1 = pz_cd (pz_bt (nI N) pr w p but i) ∧ ∀ b, pz_bt (nI N) pr w p but i = some b → s.2 = pz_gn (nI N) pr w p b) N (-1, 0) ⟨rfl, fun b h => by cases h⟩ (fun n s hs => ?_) (fun n i s hi hs k => ?_)
  · rw [wpX2_bestBut_B8]
    refine br_t (nI_le (Nat.le_refl _) (by omega)) ?_
    rw [hs.1]; exact h
  · obtain ⟨v3, v4⟩ := s
    obtain ⟨h3, h4⟩ := hs
    dsimp only at h3 h4 ⊢
    rw [wpX2_bestBut_B8]
    refine br_f (nI_ge hi (by omega)) ?_
    have kk : ∀ a b, a = pz_cd (pz_bt (nI N) pr w p but (i + 1)) → (∀ q, pz_bt (nI N) pr w p but (i + 1) = some q → b = pz_gn (nI N) pr w p q) → wpX2_bestBut_B60 (nI N) pr w (nI p) but (wpX2_bestBut_B8 (nI N) pr w (nI p) but Post n) Post a b (nI i) :=
      fun a b ha hb => nm_r (nI_1 i) (k (a, b) ⟨ha, hb⟩)
    have e0 : pz_bt (nI N) pr w p but (i + 1) = _ := pz_bt.eq_2 _ _ _ _ _ _
    refine br_c (fun c => ?_) (fun c => ?_)
    · rw [if_pos c] at e0
      exact kk _ _ (by rw [e0, h3]) (by rw [e0]; exact h4)
    rw [if_neg c] at e0
    refine pz_allows hp (by omega) (fun c2 => ?_) (fun c2 => ?_)
    · rw [if_pos c2] at e0
      exact br_t rfl (kk _ _ (by rw [e0, h3]) (by rw [e0]; exact h4))
    rw [if_neg c2] at e0
    refine br_f (by decide) (pz_gainOf hp (by omega) ?_)
    cases hb : pz_bt (nI N) pr w p but i with
    | none =>
      rw [hb] at h3 h4 e0
      refine br_t (by rw [h3]; decide) (kk _ _ (by rw [e0]; rfl) (fun q hq => ?_))
      rw [e0] at hq; cases hq; rfl
    | some b =>
      have hbi := pz_bt_lt hb
      rw [hb] at h3 h4 e0
      dsimp only at e0
      refine br_f (by rw [h3]; exact nI_pos (by omega)) ?_
      rw [h4 b rfl]
      refine br_c (fun c3 => ?_) (fun c3 => ?_)
      · rw [if_pos c3] at e0
        exact kk _ _ (by rw [e0, h3]) (fun q hq => by rw [e0] at hq; cases hq; rfl)
      · rw [if_neg c3] at e0
        exact kk _ _ (by rw [e0]; rfl) (fun q hq => by rw [e0] at hq; cases hq; rfl)
theorem pz_bestOf (hN : N ≤ 8) (hp : p < 8) (h : Post (pz_cd (pz_bt (nI N) pr w p (-1) N))) : wpX2_bestOf (nI N) pr w (nI p) Post := pz_bestBut hN hp h
theorem pz_nm1I {t : Nat} (ht : t < 8) : nI t ≠ -1 := fun q => by
  have h1 := nI_pos (n := t) (by omega)
  rw [q] at h1
  exact h1 (by decide)
theorem pz_best (hW : pz_ww W w) (hN : N ≤ 8) (hN1 : 1 ≤ N) (hp : p < 8) (h : Post (pz_cd (pz_bt (nI N) pr w p (-1) N))) : wpX8_best (nI N) W pr (nI p) Post := by
  refine nm_e (nm_e ⟨N + 1, ?_⟩)
  have key := pz_dn (fun g i (s : Option Nat) => wpX8_best_B9 (nI N) W pr (nI p) Post g (pz_cd s) (nI i - 1)) (fun i s => i ≤ N ∧ pz_isb (pz_gn (nI N) pr w p) (fun t => i ≤ t ∧ t < N ∧ w p t ≠ -1) s) (fun n s hs => ?_) (fun n i s hs k => ?_) N none ⟨Nat.le_refl _, fun t h => absurd h.1 (by omega)⟩
  · exact key
  · rw [wpX8_best_B9]
    refine br_t (by decide) ?_
    have := pz_isb_uni (r := s) (q := pz_bt (nI N) pr w p (-1) N) (S := fun t => t < N ∧ nI t ≠ -1 ∧ w p t ≠ -1) ?_ (pz_bt_isb N)
    · rw [this]; exact h
    · have h2 := hs.2
      cases s with
      | none => exact fun t ht => h2 t ⟨by omega, ht.1, ht.2.2⟩
      | some b => exact ⟨⟨h2.1.2.1, pz_nm1I (by have := h2.1.2.1; omega), h2.1.2.2⟩, fun t ht => h2.2 t ⟨by omega, ht.1, ht.2.2⟩⟩
  · rw [wpX8_best_B9, nI_pred]
    obtain ⟨hi, hS⟩ := hs
    refine br_f (nI_pos (by omega)) ?_
    have kk : ∀ r, pz_isb (pz_gn (nI N) pr w p) (fun t => i ≤ t ∧ t < N ∧ w p t ≠ -1) r → wpX8_best_B43 (nI N) W pr (nI p) (wpX8_best_B9 (nI N) W pr (nI p) Post n) Post (pz_cd r) (nI i) :=
      fun r hr => nm_r (by rw [Int32.sub_eq_add_neg]) (k r ⟨by omega, hr⟩)
    refine pz_may hW hp (by omega) (fun c => br_t rfl (kk s ?_)) (fun c => br_f (by decide) ?_)
    · cases s with
      | none =>
        intro t ht
        by_cases q : t = i
        · rw [q] at ht; exact ht.2.2 c
        · exact hS t ⟨by omega, ht.2⟩
      | some b =>
        refine ⟨⟨by have := hS.1.1; omega, hS.1.2⟩, fun t ht => ?_⟩
        by_cases q : t = i
        · rw [q] at ht; exact absurd c ht.2.2
        · exact hS.2 t ⟨by omega, ht.2⟩
    · cases s with
      | none =>
        refine br_t (by decide) (kk (some i) ⟨⟨Nat.le_refl _, by omega, c⟩, fun t ht => ?_⟩)
        by_cases q : t = i
        · rw [q, fa_le]; exact ⟨by omega, fun h => absurd h (by omega)⟩
        · exact absurd ⟨by omega, ht.2⟩ (hS t)
      | some b =>
        have hb := hS.1
        refine br_f (nI_pos (by omega)) (pz_gain hW hp (by omega) (pz_gain hW hp (by omega) ?_))
        refine br_c (fun c2 => kk (some b) ?_) (fun c2 => kk (some i) ?_)
        · rw [fa_lt] at c2
          refine ⟨⟨by omega, hb.2⟩, fun t ht => ?_⟩
          by_cases q : t = i
          · rw [q, fa_le, fa_lt]; exact ⟨by omega, fun _ => c2⟩
          · exact hS.2 t ⟨by omega, ht.2⟩
        · rw [fa_lt] at c2
          refine ⟨⟨Nat.le_refl _, by omega, c⟩, fun t ht => ?_⟩
          by_cases q : t = i
          · rw [q, fa_le]; exact ⟨by omega, fun h => absurd h (by omega)⟩
          · have := (hS.2 t ⟨by omega, ht.2⟩).1
            rw [fa_le] at this
            rw [fa_le]
            exact ⟨by omega, fun h => absurd h (by omega)⟩
end PZM
