/-! rows told by hand: seen, plans, books -/
section PZL
variable {N : Nat} {B : Int} {pa : Int32} {w : Nat → Nat → Int32} {W th pe pr : Nat → Int32}
theorem pz_append {lim u : Nat} {rl rr : Nat → Int32} {a b : Int32} {Post : Int32 → Int32 → (Nat → Int32) → (Nat → Int32) → Prop} (hl : lim < 1000) (hu : u ≤ lim) (h1 : u < lim → Post (nI (u + 1)) (nI (u + 1)) (upd rl u a) (upd rr u b)) (h2 : u = lim → Post (-4) (nI u) rl rr) : wpX4_append (nI u) lim rl rr a b Post := by
  by_cases c : u < lim
  · refine br_t (nI_lt c (by omega)) ⟨vp_in_nI c (by omega), vp_in_nI c (by omega), ?_⟩
    rw [nI_clamp (by omega), nI_1]
    exact h1 c
  · exact br_f (nI_nlt (by omega) (by omega)) (h2 (by omega))
theorem pz_L_app {lim u : Nat} {c : Int32 → Int32 → Prop} {rl rr ml mr : Nat → Int32} {a b : Int32} (hu : u < lim) (hk : ∀ k, k < u → rl k = ml k ∧ rr k = mr k ∧ c (rl k) (rr k)) (hc : c a b) : pz_L lim c (nI (u + 1)) (upd rl u a) (upd rr u b) (nI (u + 1)) (upd ml u a) (upd mr u b) := by
  refine ⟨u + 1, by omega, rfl, rfl, fun k hk2 => ?_⟩
  by_cases q : k = u
  · subst q; rw [pk_us, pk_us, pk_us, pk_us]; exact ⟨rfl, rfl, hc⟩
  · rw [pk_un q, pk_un q, pk_un q, pk_un q]; exact hk k (by omega)
theorem pc_see {a1 a2 se mSe : Int32} {sl sr ml mr : Nat → Int32} (hN : N ≤ 8) (hN1 : 1 ≤ N) (hQ : pz_L 5 (fun a _ => ∃ p, p < N ∧ a = nI p) se sl sr mSe ml mr) :
    wpX7_see (nI N) se sl sr a1 a2 (fun r se1 sl1 sr1 => wpX8_see (nI N) mSe ml mr a1 a2 (fun r2 mSe1 ml1 mr1 => r2 = r ∧ pz_L 5 (fun a _ => ∃ p, p < N ∧ a = nI p) se1 sl1 sr1 mSe1 ml1 mr1)) := by
  have hQ0 := hQ
  obtain ⟨u, hu, rfl, rfl, hk⟩ := hQ
  by_cases c0 : a1 = -1
  · exact bq_t c0 (bq_t c0 ⟨rfl, pz_L0⟩)
  refine bq_f c0 ?_
  rcases pz_num N hN a1 with ⟨p, hp, rfl⟩ | b1
  · rcases pz_num N hN a2 with ⟨t, ht, rfl⟩ | b2
    · refine pz_has_y hN hp (br_f pz_n10 (pz_has_y hN ht (bq_f pz_n10 (pz_append (lim := 5) (by decide) hu (fun c => ?_) (fun c => ?_)))))
      · refine bq_f c0 (pz_isPair_y hN hp ht (bq_f pz_n10 (bq_f (fun q => ?_) ⟨vp_in_nI c (by decide), vp_in_nI c (by decide), ?_⟩)))
        · have := (nI_eq (b := 5) (by omega) (by decide)).mp q; omega
        · rw [nI_clamp (by omega), nI_1]
          exact ⟨rfl, pz_L_app c hk ⟨p, hp, rfl⟩⟩
      · subst c
        exact bq_f c0 (pz_isPair_y hN hp ht (bq_f pz_n10 (bq_t rfl ⟨rfl, hQ0⟩)))
    · exact pz_has_y hN hp (br_f pz_n10 (pz_has_n b2 (bq_t rfl (bq_f c0 (pz_isPair_n hN hN1 (Or.inr b2) (bq_t rfl ⟨rfl, hQ0⟩))))))
  · exact pz_has_n b1 (br_t rfl (bq_f c0 (pz_isPair_n hN hN1 (Or.inl b1) (bq_t rfl ⟨rfl, hQ0⟩))))
theorem pc_book {a1 a2 bo mBo : Int32} {sl sr ml mr : Nat → Int32} (hN : N ≤ 8) (hN1 : 1 ≤ N) (hQ : pz_L 8 (fun a _ => ∃ p, p < N ∧ a = nI p) bo sl sr mBo ml mr) :
    wpX7_book (nI N) bo sl sr a1 a2 (fun r bo1 sl1 sr1 => wpX8_book (nI N) mBo ml mr a1 a2 (fun r2 mBo1 ml1 mr1 => r2 = r ∧ pz_L 8 (fun a _ => ∃ p, p < N ∧ a = nI p) bo1 sl1 sr1 mBo1 ml1 mr1)) := by
  have hQ0 := hQ
  obtain ⟨u, hu, rfl, rfl, hk⟩ := hQ
  by_cases c0 : a1 = -1
  · exact bq_t c0 (bq_t c0 ⟨rfl, pz_L0⟩)
  refine bq_f c0 ?_
  rcases pz_num N hN a1 with ⟨p, hp, rfl⟩ | b1
  · refine pz_has_y hN hp (bq_f pz_n10 ?_)
    by_cases c1 : a2 < 0
    · exact br_t c1 (bq_f c0 (pz_isOne_y hN hp (bq_f pz_n10 (pz_rng (lo := 0) (hi := 9999) rfl rfl (fun _ => bq_t rfl ⟨rfl, hQ0⟩) (fun q => absurd c1 q)))))
    by_cases c2 : a2 ≤ 9999
    · have c3 : ¬ 9999 < a2 := fun q => by rw [fa_lt] at q; rw [fa_le] at c2; omega
      refine br_f c1 (br_t c2 (pz_append (lim := 8) (by decide) hu (fun c => ?_) (fun c => ?_)))
      · refine bq_f c0 (pz_isOne_y hN hp (bq_f pz_n10 (pz_rng (lo := 0) (hi := 9999) rfl rfl (fun q => absurd q (fun q => q.elim c1 c3)) (fun _ _ => bq_f pz_n10 (bq_f (fun q => ?_) ⟨vp_in_nI c (by decide), vp_in_nI c (by decide), ?_⟩)))))
        · have := (nI_eq (b := 8) (by omega) (by decide)).mp q; omega
        · rw [nI_clamp (by omega), nI_1]
          exact ⟨rfl, pz_L_app c hk ⟨p, hp, rfl⟩⟩
      · subst c
        exact bq_f c0 (pz_isOne_y hN hp (bq_f pz_n10 (pz_rng (lo := 0) (hi := 9999) rfl rfl (fun q => absurd q (fun q => q.elim c1 c3)) (fun _ _ => bq_f pz_n10 (bq_t rfl ⟨rfl, hQ0⟩)))))
    · have c3 : 9999 < a2 := fa_of_nle c2
      exact br_f c1 (br_f c2 (bq_f c0 (pz_isOne_y hN hp (bq_f pz_n10 (pz_rng (lo := 0) (hi := 9999) rfl rfl (fun _ => bq_t rfl ⟨rfl, hQ0⟩) (fun _ q => absurd c3 q))))))
  · exact pz_has_n b1 (bq_t rfl (bq_f c0 (pz_isOne_n hN hN1 b1 (bq_t rfl ⟨rfl, hQ0⟩))))
theorem pc_looked {bo mBo : Int32} {sl sr ml mr : Nat → Int32} (hN : N ≤ 8) (hQ : pz_L 8 (fun a _ => ∃ p, p < N ∧ a = nI p) bo sl sr mBo ml mr) : wpX7_looked (nI N) pr bo sl sr (fun r => wpX8_looked mBo pr ml mr (fun r2 => r2 = r)) := by
  obtain ⟨u, hu, rfl, rfl, hk⟩ := hQ
  refine pz_se (fun g i => wpX7_looked_B2 (nI N) pr (nI u) sl sr _ g (nI i)) (fun k => !decide (pr (sl k).toNatClampNeg = sr k)) u (fun o => wpX8_looked (nI u) pr ml mr (fun r2 => r2 = match o with | none => -5 | some i => nI i)) ?_ (fun n q => ?_) (fun n i hi h1 h2 => ?_)
  · refine pz_se (fun g i => wpX8_looked_B2 (nI u) pr ml mr _ g (nI i)) (fun k => !decide (pr (sl k).toNatClampNeg = sr k)) u (fun o => (match o with | none => (-5 : Int32) | some i => nI i) = match pz_fs (fun k => !decide (pr (sl k).toNatClampNeg = sr k)) u 0 with | none => (-5 : Int32) | some i => nI i) rfl (fun n q => ?_) (fun n i hi h1 h2 => ?_)
    · rw [wpX8_looked_B2]
      exact br_t (nI_le (Nat.le_refl _) (by omega)) q
    · rw [wpX8_looked_B2]
      obtain ⟨e1, e2, p, hp, e⟩ := hk i hi
      refine br_f (nI_ge hi (by omega)) ⟨vp_in_nI (by omega) (by decide), ?_⟩
      rw [nI_clamp (by omega), ← e1, ← e2]
      refine ⟨by rw [e]; exact vp_in_nI (by omega) (by decide), vp_in_nI (by omega) (by decide), br_c (fun c => nm_r (nI_1 i) (h2 (by simp [c]))) (fun c => h1 (by simp [c]))⟩
  · rw [wpX7_looked_B2]
    exact br_t (nI_le (Nat.le_refl _) (by omega)) q
  · rw [wpX7_looked_B2]
    obtain ⟨e1, e2, p, hp, e⟩ := hk i hi
    refine br_f (nI_ge hi (by omega)) ⟨vp_in_nI (by omega) (by decide), ?_⟩
    rw [nI_clamp (by omega), e]
    refine nm_e (pz_has_y hN hp (br_f pz_n10 ⟨vp_in_nI (by omega) (by decide), vp_in_nI (by omega) (by decide), br_c (fun c => nm_r (nI_1 i) (h2 ?_)) (fun c => h1 ?_)⟩))
    · rw [e]; simp [c]
    · rw [e]; simp [c]
theorem pc_plan {a1 a2 pl mPl : Int32} {sl sr ml mr : Nat → Int32} (hN : N ≤ 8) (hN1 : 1 ≤ N) (hQ : pz_L 10 (fun a b => a = 0 ∨ (a = 1 ∧ ∃ p, p < N ∧ b = nI p) ∨ a = 2) pl sl sr mPl ml mr) :
    wpX7_plan (nI N) pl sl sr a1 a2 (fun r pl1 sl1 sr1 => wpX8_plan (nI N) mPl ml mr a1 a2 (fun r2 mPl1 ml1 mr1 => r2 = r ∧ pz_L 10 (fun a b => a = 0 ∨ (a = 1 ∧ ∃ p, p < N ∧ b = nI p) ∨ a = 2) pl1 sl1 sr1 mPl1 ml1 mr1)) := by
  have hQ0 := hQ
  obtain ⟨u, hu, rfl, rfl, hk⟩ := hQ
  by_cases c0 : a1 = -1
  · exact bq_t c0 (bq_t c0 ⟨rfl, pz_L0⟩)
  refine bq_f c0 ?_
  by_cases c1 : a1 < 0
  · exact br_t c1 (bq_f c0 (pz_rng (lo := 0) (hi := 2) rfl rfl (fun _ => br_t rfl ⟨rfl, hQ0⟩) (fun q => absurd c1 q)))
  by_cases c2 : 2 < a1
  · exact br_f c1 (br_t c2 (bq_f c0 (pz_rng (lo := 0) (hi := 2) rfl rfl (fun _ => br_t rfl ⟨rfl, hQ0⟩) (fun _ q => absurd c2 q))))
  refine br_f c1 (br_f c2 ?_)
  have hr : (a1 < 0 ∨ 2 < a1) → False := fun q => q.elim c1 c2
  -- what both do at the end
  have app : (a1 = 0 ∨ (a1 = 1 ∧ ∃ p, p < N ∧ a2 = nI p) ∨ a1 = 2) → ∀ X : Prop, (∀ (h8 : ∀ Post : Int32 → Int32 → (Nat → Int32) → (Nat → Int32) → Prop, (u < 10 → Post (nI (u + 1)) (nI (u + 1)) (upd ml u a1) (upd mr u a2)) → (u = 10 → Post (-4) (nI u) ml mr) → wpX8_plan_B59 (nI N) a1 a2 Post (nI u) ml mr), X) → X := by
    intro _ X hX
    refine hX (fun Post q1 q2 => ?_)
    unfold wpX8_plan_B59
    by_cases c : u < 10
    · refine bq_f (fun q => ?_) ⟨vp_in_nI c (by decide), vp_in_nI c (by decide), ?_⟩
      · have := (nI_eq (b := 10) (by omega) (by decide)).mp q; omega
      · rw [nI_clamp (by omega), nI_1]; exact q1 c
    · have e : u = 10 := by omega
      subst e
      exact bq_t rfl (q2 rfl)
  have end7 : ∀ hc : (a1 = 0 ∨ (a1 = 1 ∧ ∃ p, p < N ∧ a2 = nI p) ∨ a1 = 2), (∀ Post : Int32 → Int32 → (Nat → Int32) → (Nat → Int32) → Prop, wpX8_plan_B59 (nI N) a1 a2 Post (nI u) ml mr → wpX8_plan (nI N) (nI u) ml mr a1 a2 Post) → wpX7_plan_B61 (nI N) a1 a2 (fun r pl1 sl1 sr1 => wpX8_plan (nI N) (nI u) ml mr a1 a2 (fun r2 mPl1 ml1 mr1 => r2 = r ∧ pz_L 10 (fun a b => a = 0 ∨ (a = 1 ∧ ∃ p, p < N ∧ b = nI p) ∨ a = 2) pl1 sl1 sr1 mPl1 ml1 mr1)) (nI u) sl sr := by
    intro hc h8
    refine app hc _ (fun h59 => ?_)
    refine pz_append (lim := 10) (by decide) hu (fun c => h8 _ (h59 _ (fun _ => ⟨rfl, pz_L_app c hk hc⟩) (fun q => absurd c (by omega)))) (fun c => h8 _ (h59 _ (fun q => absurd q (by omega)) (fun _ => ⟨rfl, hQ0⟩)))
  by_cases d1 : a1 = 1
  · rw [d1] at c0 c1 c2 app end7 hr ⊢
    refine bq_t rfl ?_
    rcases pz_num N hN a2 with ⟨p, hp, rfl⟩ | b2
    · refine pz_has_y hN hp (bq_f pz_n10 (bq_f (by decide) (end7 (Or.inr (Or.inl ⟨rfl, p, hp, rfl⟩)) (fun Post h => ?_))))
      exact bq_f (by decide) (pz_rng (lo := 0) (hi := 2) rfl rfl (fun q => (hr q).elim) (fun _ _ => br_f pz_n10 (bq_t rfl (pz_isOne_y hN hp (bq_f pz_n10 (bq_f (by decide) h))))))
    · exact pz_has_n b2 (bq_t rfl (bq_f (by decide) (pz_rng (lo := 0) (hi := 2) rfl rfl (fun q => (hr q).elim) (fun _ _ => br_f pz_n10 (bq_t rfl (pz_isOne_n hN hN1 b2 (bq_t rfl ⟨rfl, hQ0⟩)))))))
  refine bq_f d1 ?_
  by_cases d2 : a1 = 2
  · rw [d2] at c0 c1 c2 app end7 hr ⊢
    refine bq_t rfl ?_
    by_cases e1 : a2 < 1
    · exact br_t e1 (bq_t rfl (bq_f (by decide) (pz_rng (lo := 0) (hi := 2) rfl rfl (fun q => (hr q).elim) (fun _ _ => br_f pz_n10 (bq_f (by decide) (bq_t rfl (pz_rng (lo := 1) (hi := 50) rfl rfl (fun _ => bq_t rfl ⟨rfl, hQ0⟩) (fun q => absurd e1 q))))))))
    by_cases e2 : 50 < a2
    · exact br_f e1 (br_t e2 (bq_t rfl (bq_f (by decide) (pz_rng (lo := 0) (hi := 2) rfl rfl (fun q => (hr q).elim) (fun _ _ => br_f pz_n10 (bq_f (by decide) (bq_t rfl (pz_rng (lo := 1) (hi := 50) rfl rfl (fun _ => bq_t rfl ⟨rfl, hQ0⟩) (fun _ q => absurd e2 q)))))))))
    · refine br_f e1 (br_f e2 (bq_f pz_n10 (end7 (Or.inr (Or.inr rfl)) (fun Post h => ?_))))
      exact bq_f (by decide) (pz_rng (lo := 0) (hi := 2) rfl rfl (fun q => (hr q).elim) (fun _ _ => br_f pz_n10 (bq_f (by decide) (bq_t rfl (pz_rng (lo := 1) (hi := 50) rfl rfl (fun q => absurd q (fun q => q.elim e1 e2)) (fun _ _ => bq_f pz_n10 h))))))
  · have d0 : a1 = 0 := by
      rw [fa_lt] at c1 c2
      rw [fa_eq] at d1 d2 ⊢
      have c1 : ¬ a1.toInt < 0 := c1
      have c2 : ¬ 2 < a1.toInt := c2
      have d1 : ¬ a1.toInt = 1 := d1
      have d2 : ¬ a1.toInt = 2 := d2
      show a1.toInt = 0
      omega
    refine bq_f d2 (end7 (Or.inl d0) (fun Post h => ?_))
    exact bq_f c0 (pz_rng (lo := 0) (hi := 2) rfl rfl (fun q => (hr q).elim) (fun _ _ => br_f pz_n10 (bq_f d1 (bq_f d2 h))))
end PZL
