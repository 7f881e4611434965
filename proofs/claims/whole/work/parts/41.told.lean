/-! envy, sure, next offer; lowest terms; what person, thing, told, count, mean answer -/
section PZT
variable {N : Nat} {B : Int} {pa : Int32} {w : Nat → Nat → Int32} {W th pe pr : Nat → Int32} {p : Nat} {Post : Int32 → Prop}
def pz_ow (N : Nat) (pr : Nat → Int32) (w : Nat → Nat → Int32) (th : Nat → Int32) (p : Nat) : Int32 := if th p < 0 then 0 else pz_gn (nI N) pr w p (th p).toNatClampNeg
theorem pz_ownGain (hN : N ≤ 8) (hok : pz_ok N w th pe) (hp : p < 8) (h : Post (pz_ow N pr w th p)) : wpX2_ownGain (nI N) th pr w (nI p) Post := by
  refine ⟨vp_in_nI hp (by decide), nm_e ?_⟩
  rw [nI_clamp (by omega)]
  unfold pz_ow at h
  by_cases c : th p < 0
  · rw [if_pos c] at h
    exact br_f (fun q => by rw [fa_le] at q; rw [fa_lt] at c; omega) h
  · rw [if_neg c] at h
    obtain ⟨t, ht, e, -⟩ := pz_th_some hN hok hp c
    rw [e] at h ⊢
    rw [nI_clamp (by omega)] at h
    exact br_t (nI_pos' (by omega)) (pz_gainOf hp (by omega) h)
def pz_vf (N : Nat) (pr : Nat → Int32) (w : Nat → Nat → Int32) (th : Nat → Int32) (p i : Nat) (s : Int32) : Int32 := if w p i = -1 then s else if pz_gn (nI N) pr w p i ≤ pz_ow N pr w th p then s else s + 1
theorem pz_envyOf (hN : N ≤ 8) (hok : pz_ok N w th pe) (hp : p < 8) (h : Post (pz_it (pz_vf N pr w th p) N 0)) : wpX2_envyOf (nI N) th pr w (nI p) Post := by
  refine pz_up (fun g i (s : Int32) => wpX2_envyOf_B4 (nI N) th pr w (nI p) Post g s (nI i)) (pz_vf N pr w th p) N 0 (fun n => ?_) (fun n i s hi hs k => ?_)
  · rw [wpX2_envyOf_B4]
    exact br_t (nI_le (Nat.le_refl _) (by omega)) h
  · rw [wpX2_envyOf_B4]
    refine br_f (nI_ge hi (by omega)) (pz_allows hp (by omega) (fun c => br_t rfl (nm_r (nI_1 i) (k _ ?_))) (fun c => br_f pz_n10 (pz_gainOf hp (by omega) (pz_ownGain hN hok hp (br_c (fun c2 => nm_r (nI_1 i) (k _ ?_)) (fun c2 => nm_e (nm_r (nI_1 i) (k _ ?_))))))))
    · unfold pz_vf; rw [if_pos c]
    · unfold pz_vf; rw [if_neg c, if_pos c2]
    · unfold pz_vf; rw [if_neg c, if_neg c2]
theorem pz_envy (hW : pz_ww W w) (hN : N ≤ 8) (hok : pz_ok N w th pe) (hp : p < 8) (h : Post (pz_it (pz_vf N pr w th p) N 0)) : wpX8_envy (nI N) W th pr (nI p) Post := by
  have kk : wpX8_envy_B24 (nI N) W th pr (nI p) Post (pz_ow N pr w th p) := by
    refine pz_up (fun g i (s : Int32) => wpX8_envy_B30 (nI N) W th pr (nI p) Post g (pz_ow N pr w th p) s (nI i)) (pz_vf N pr w th p) N 0 (fun n => ?_) (fun n i s hi hs k => ?_)
    · rw [wpX8_envy_B30]
      exact br_t (nI_le (Nat.le_refl _) (by omega)) h
    · rw [wpX8_envy_B30]
      refine br_f (nI_ge hi (by omega)) (pz_may hW hp (by omega) (fun c => br_t rfl (nm_r (e' := s) (Int32.add_zero _) (nm_r (nI_1 i) (k _ ?_)))) (fun c => br_f pz_n10 (pz_gain hW hp (by omega) (br_c (fun c2 => nm_r (e' := s) (Int32.add_zero _) (nm_r (nI_1 i) (k _ ?_))) (fun c2 => nm_e (nm_r (nI_1 i) (k _ ?_)))))))
      · unfold pz_vf; rw [if_pos c]
      · unfold pz_vf; rw [if_neg c, if_pos c2]
      · unfold pz_vf; rw [if_neg c, if_neg c2]
  refine ⟨vp_in_nI hp (by decide), ?_⟩
  rw [nI_clamp (by omega)]
  unfold pz_ow at kk
  by_cases c : th p < 0
  · rw [if_pos c] at kk
    exact br_f (fun q => by rw [fa_le] at q; rw [fa_lt] at c; omega) kk
  · rw [if_neg c] at kk
    obtain ⟨t, ht, e, -⟩ := pz_th_some hN hok hp c
    rw [e] at kk ⊢
    rw [nI_clamp (by omega)] at kk
    exact br_t (nI_pos' (by omega)) ⟨vp_in_nI hp (by decide), pz_gain hW hp (by omega) kk⟩
def pz_us (N : Nat) (pa : Int32) (pr : Nat → Int32) (w : Nat → Nat → Int32) (th : Nat → Int32) (p : Nat) : Bool := match pz_bt (nI N) pr w p (-1) N with
  | none => true
  | some b => decide (th p < 0) || !decide (pz_gn (nI N) pr w p b ≤ pz_ow N pr w th p + pa)
theorem pz_isSure (hN : N ≤ 8) (hok : pz_ok N w th pe) (h : Post (if (pz_fs (pz_us N pa pr w th) N 0).isSome then 0 else 1)) : wpX2_isSure (nI N) pa th pr w Post := by
  refine pz_se (fun g i => wpX2_isSure_B2 (nI N) pa th pr w Post g (nI i)) (pz_us N pa pr w th) N (fun o => Post (if o.isSome then 0 else 1)) h (fun n q => ?_) (fun n i hi h1 h2 => ?_)
  · rw [wpX2_isSure_B2]
    exact br_t (nI_le (Nat.le_refl _) (by omega)) q
  · rw [wpX2_isSure_B2]
    refine br_f (nI_ge hi (by omega)) (pz_bestOf hN (by omega) ⟨vp_in_nI (by omega) (by decide), ?_⟩)
    rw [nI_clamp (by omega)]
    unfold pz_us at h1 h2
    cases hb : pz_bt (nI N) pr w i (-1) N with
    | none =>
      rw [hb] at h1
      exact br_c (fun _ => h1 rfl) (fun _ => br_t pz_m1 (h1 rfl))
    | some b =>
      have hbl := pz_bt_lt hb
      rw [hb] at h1 h2
      dsimp only at h1 h2
      refine br_c (fun c => h1 (by simp [c])) (fun c => br_f (nI_pos (by omega)) (pz_gainOf (by omega) (by omega) (pz_ownGain hN hok (by omega) (br_c (fun c2 => nm_r (nI_1 i) (h2 (by simp [c, c2]))) (fun c2 => h1 (by simp [c2]))))))
theorem pz_sure (hW : pz_ww W w) (hN : N ≤ 8) (hN1 : 1 ≤ N) (hok : pz_ok N w th pe) (h : Post (if (pz_fs (pz_us N pa pr w th) N 0).isSome then 0 else 1)) : wpX8_sure (nI N) pa W th pr Post := by
  refine pz_se (fun g i => wpX8_sure_B2 (nI N) pa W th pr Post g (nI i)) (pz_us N pa pr w th) N (fun o => Post (if o.isSome then 0 else 1)) h (fun n q => ?_) (fun n i hi h1 h2 => ?_)
  · rw [wpX8_sure_B2]
    exact br_t (nI_le (Nat.le_refl _) (by omega)) q
  · rw [wpX8_sure_B2]
    refine br_f (nI_ge hi (by omega)) ⟨vp_in_nI (by omega) (by decide), ?_⟩
    rw [nI_clamp (by omega)]
    unfold pz_us at h1 h2
    refine br_c (fun c => h1 ?_) (fun c => pz_best hW hN hN1 (by omega) ?_)
    · split
      · rfl
      · simp [c]
    · obtain ⟨t, ht, e, hwt⟩ := pz_th_some hN hok (by omega) c
      cases hb : pz_bt (nI N) pr w i (-1) N with
      | none =>
        have hI := @pz_bt_isb (nI N) pr w i (-1) N
        rw [hb] at hI
        exact absurd ⟨ht, pz_nm1I (by omega), hwt⟩ (hI t)
      | some b =>
        have hbl := pz_bt_lt hb
        rw [hb] at h1 h2
        dsimp only at h1 h2
        unfold pz_ow at h1 h2
        rw [if_neg c, e, nI_clamp (by omega)] at h1 h2
        refine pz_gain hW (by omega) (by omega) ⟨vp_in_nI (by omega) (by decide), ?_⟩
        rw [e]
        refine pz_gain hW (by omega) (by omega) (br_c (fun c2 => nm_r (nI_1 i) (h2 ?_)) (fun c2 => h1 (by simp [c2])))
        have : ¬ nI t < 0 := nI_pos (by omega)
        simp [this, c2]
/-! lowest terms -/
theorem pz_div {a b : Nat} (ha : a < 2 ^ 31) (hb : b < 2 ^ 31) : nI a / nI b = nI (a / b) := by
  have h1 : a / b ≤ a := Nat.div_le_self _ _
  rw [fa_eq, Int32.toInt_div, nI_toInt ha, nI_toInt hb, nI_toInt (by omega), ← Int.ofNat_tdiv]
  generalize a / b = q at h1 ⊢
  exact fb_bmod (by omega) (by omega)
theorem pz_mul (a b : Nat) : nI a * nI b = nI (a * b) := (Int32.ofNat_mul a b).symm
theorem pz_rem {a b : Nat} (ha : a < 2 ^ 31) (hb : b < 2 ^ 31) : nI a - nI a / nI b * nI b = nI (a % b) := by
  rw [pz_div ha hb, pz_mul]
  have e : nI a = nI (a % b) + nI (a / b * b) := by rw [nI_add]; exact congrArg nI (by rw [Nat.mul_comm]; exact (Nat.mod_add_div a b).symm)
  rw [e, Int32.add_sub_cancel]
theorem pz_divL {a b : Nat} (ha : a < 2 ^ 31) (hb : b < 2 ^ 31) : lN a / lN b = lN (a / b) := by
  have h1 : a / b ≤ a := Nat.div_le_self _ _
  rw [fa_eq64, Int64.toInt_div, lN_toInt ha, lN_toInt hb, lN_toInt (by omega), ← Int.ofNat_tdiv]
  generalize a / b = q at h1 ⊢
  exact fb_bmodL (by omega) (by omega)
theorem pz_remL {a b : Nat} (ha : a < 2 ^ 31) (hb : b < 2 ^ 31) : lN a - lN a / lN b * lN b = lN (a % b) := by
  rw [pz_divL ha hb, lN_mul]
  have e : lN a = lN (a % b) + lN (a / b * b) := by rw [lN_add]; exact congrArg lN (by rw [Nat.mul_comm]; exact (Nat.mod_add_div a b).symm)
  rw [e, Int64.add_sub_cancel]
/-- the answer in lowest terms -/
def pz_lt2 (a b : Nat) (part : Int32) : Int64 := if part = 0 then lN (a / Nat.gcd a b) else lN (b / Nat.gcd a b)
theorem pz_lowestTerms {a b : Nat} {part : Int32} {Post : Int64 → Prop} (ha : a < 2 ^ 31) (hb1 : 1 ≤ b) (hb : b ≤ 10) (h0 : part = 0 ∨ part = 1 → Post (pz_lt2 a b part)) (h1 : ¬ part = 0 → ¬ part = 1 → Post (-9223372036854775808)) : wpX7_lowestTerms (nI a) (nI b) part Post := by
  have key : (part = 0 ∨ part = 1) → wpX7_lowestTerms_B13 (nI a) (nI b) part Post := by
    intro hp
    have key2 : ∀ d v c, v + d = b + 1 → 1 ≤ v → 1 ≤ c → c ≤ b → c ∣ a → c ∣ b → (∀ e, e < v → e ∣ a → e ∣ b → e ≤ c) → wpX7_lowestTerms_B18 (nI a) (nI b) part Post (d + 1) (nI c) (nI v) := by
      intro d
      induction d with
      | zero =>
        intro v c hd hv hc hcb hca hcb2 hmax
        have hg : c = Nat.gcd a b := by
          have g1 : Nat.gcd a b ∣ a := Nat.gcd_dvd_left a b
          have g2 : Nat.gcd a b ∣ b := Nat.gcd_dvd_right a b
          have g3 := Nat.le_of_dvd (by omega) g2
          have g4 := hmax _ (by omega) g1 g2
          have g5 : c ∣ Nat.gcd a b := Nat.dvd_gcd hca hcb2
          have g6 := Nat.le_of_dvd (Nat.gcd_pos_of_pos_right _ (by omega)) g5
          omega
        rw [wpX7_lowestTerms_B18]
        have h2 := h0 hp
        unfold pz_lt2 at h2
        have hca2 : a / c ≤ a := Nat.div_le_self _ _
        have hcb3 : b / c ≤ b := Nat.div_le_self _ _
        refine br_t (nI_lt (by omega) (by omega)) (bq_c (fun c3 => ⟨nI_ne0 (by omega) (by omega), ?_⟩) (fun c3 => ⟨nI_ne0 (by omega) (by omega), ?_⟩))
        · rw [if_neg c3, ← hg] at h2
          rw [pz_div (by omega) (by omega), nI_l (by omega)]
          exact h2
        · rw [if_pos c3, ← hg] at h2
          rw [pz_div (by omega) (by omega), nI_l (by omega)]
          exact h2
      | succ d ih =>
        intro v c hd hv hc hcb hca hcb2 hmax
        rw [wpX7_lowestTerms_B18]
        have keep : (¬ (v ∣ a ∧ v ∣ b)) → wpX7_lowestTerms_B41 (nI a) (nI b) part (wpX7_lowestTerms_B18 (nI a) (nI b) part Post (d + 1)) Post (nI c) (nI v) := by
          intro hn
          refine nm_r (nI_1 v) (ih (v + 1) c (by omega) (by omega) hc hcb hca hcb2 (fun e he h1 h2 => ?_))
          by_cases q : e = v
          · subst q; exact absurd ⟨h1, h2⟩ hn
          · exact hmax e (by omega) h1 h2
        refine br_f (nI_nlt (by omega) (by omega)) ⟨nI_ne0 (by omega) (by omega), ?_⟩
        have m1 : a % v < v := Nat.mod_lt _ (by omega)
        have m2 : b % v < v := Nat.mod_lt _ (by omega)
        rw [pz_rem (by omega) (by omega), pz_rem (by omega) (by omega)]
        refine bq_c (fun c1 => keep (fun q => c1 ?_)) (fun c1 => ⟨nI_ne0 (by omega) (by omega), bq_c (fun c2 => keep (fun q => c2 ?_)) (fun c2 => ?_)⟩)
        · rw [Nat.mod_eq_zero_of_dvd q.1]; rfl
        · rw [Nat.mod_eq_zero_of_dvd q.2]; rfl
        · have d1 : v ∣ a := Nat.dvd_of_mod_eq_zero ((nI_eq (b := 0) (by omega) (by decide)).mp c1)
          have d2 : v ∣ b := Nat.dvd_of_mod_eq_zero ((nI_eq (b := 0) (by omega) (by decide)).mp c2)
          refine nm_r (nI_1 v) (ih (v + 1) v (by omega) (by omega) hv (by omega) d1 d2 (fun e he h1 h2 => by omega))
    exact ⟨(b - 1) + 1, key2 (b - 1) 2 1 (by omega) (by omega) (by omega) hb1 (Nat.one_dvd _) (Nat.one_dvd _) (fun e he _ _ => by omega)⟩
  exact br_c (fun c => key (Or.inl c)) (fun c => br_c (fun c2 => key (Or.inr c2)) (fun c2 => h1 c c2))
theorem pz_lowest {a b : Nat} {part : Int32} {Post : Int64 → Prop} (ha : a < 2 ^ 31) (hb1 : 1 ≤ b) (hb : b ≤ 10) (h0 : Post (pz_lt2 a b part)) : wpX8_lowest (lN a) (lN b) part Post := by
  refine loop_m (fun g (s : Nat × Nat) => wpX8_lowest_B6 (lN a) (lN b) part Post g (lN s.1) (lN s.2)) (fun s => s.1 < 2 ^ 31 ∧ s.2 < 2 ^ 31 ∧ Nat.gcd s.1 s.2 = Nat.gcd a b) (fun s => s.2) (fun n s hs k => ?_) (a, b) ⟨ha, by omega, rfl⟩
  obtain ⟨x, y⟩ := s
  obtain ⟨hx, hy, hg⟩ := hs
  dsimp only at hx hy hg k ⊢
  rw [wpX8_lowest_B6]
  have gp : 1 ≤ Nat.gcd a b := Nat.gcd_pos_of_pos_right _ (by omega)
  have gl := Nat.le_of_dvd (by omega) (Nat.gcd_dvd_right a b)
  by_cases c : y = 0
  · subst c
    rw [Nat.gcd_zero_right] at hg
    subst hg
    unfold pz_lt2 at h0
    have hne : ¬ lN (Nat.gcd a b) = 0 := fun q => by
      have := (lN_eq (b := 0) (by omega) (by decide)).mp q
      omega
    refine br_t (show lg_cmp (lN 0) 0 = 0 by decide) (bq_c (fun c3 => ⟨hne, ?_⟩) (fun c3 => ⟨hne, ?_⟩))
    · rw [if_neg c3] at h0
      rw [pz_divL (by omega) (by omega)]
      exact h0
    · rw [if_pos c3] at h0
      rw [pz_divL (by omega) (by omega)]
      exact h0
  · have hy0 : ¬ lN y = 0 := fun q => c ((lN_eq (b := 0) (by omega) (by decide)).mp q)
    have hc0 : ¬ lg_cmp (lN y) 0 = 0 := by
      unfold lg_cmp
      rw [if_neg hy0]
      split <;> decide
    have m1 : x % y < y := Nat.mod_lt _ (by omega)
    refine br_f hc0 ⟨hy0, nm_r (pz_remL hx hy) (k (y, x % y) ⟨hy, by dsimp only; omega, ?_⟩ m1)⟩
    rw [← hg, Nat.gcd_comm x y, Nat.gcd_rec y x, Nat.gcd_comm]
theorem pz_sumI (hN : N ≤ 8) (hB : pz_pb B pr) (hB2 : B ≤ 1000000) : ∃ s : Nat, s < 2 ^ 31 ∧ pz_it (pz_pf pr) N 0 = nI s := by
  have key : ∃ s : Nat, s ≤ N * 1000000 ∧ pz_it (pz_pf pr) N 0 = nI s := by
    refine pz_it_ind (fun i x => ∃ s : Nat, s ≤ i * 1000000 ∧ x = nI s) N 0 ⟨0, Nat.zero_le _, rfl⟩ (fun i t hi h => ?_)
    obtain ⟨s, h1, h2⟩ := h
    have h3 := hB i (by omega)
    refine ⟨s + (pr i).toInt.toNat, by omega, ?_⟩
    unfold pz_pf
    rw [h2, ← nI_add]
    have : pr i = nI (pr i).toInt.toNat := by rw [fa_eq, nI_toInt (by omega)]; omega
    rw [← this]
  obtain ⟨s, h1, h2⟩ := key
  exact ⟨s, by omega, h2⟩
theorem pc_mean {a : Int32} (h : pz_M N B pa w W th pe pr) (hB2 : B ≤ 1000000) : wpX7_mean (nI N) pr a (fun r => wpX8_mean (nI N) pr a (fun r2 => r2 = r)) := by
  obtain ⟨hN, hN1, hW, hw, hpa, hI⟩ := h
  obtain ⟨s, hs, e⟩ := pz_sumI (N := N) hN hI.2.1 hB2
  refine pz_pricesTogether hN ?_
  rw [e]
  refine pz_lowestTerms hs hN1 (by omega) (fun hp => ?_) (fun c0 c1 => ?_)
  · refine pz_rng (lo := 0) (hi := 1) rfl rfl (fun q => ?_) (fun _ _ => br_f pz_n10 (pz_prices hN ?_))
    · rcases hp with hp | hp
      · subst hp; exact absurd q (by decide)
      · subst hp; exact absurd q (by decide)
    · rw [e, nI_l hs, nI_l (by omega)]
      exact pz_lowest hs hN1 (by omega) rfl
  · refine pz_rng (lo := 0) (hi := 1) rfl rfl (fun _ => br_t rfl rfl) (fun q1 q2 => absurd (pz_ltc c0 c1) (fun q => q.elim q1 q2))
theorem pc_thing {a1 a2 : Int32} (h : pz_M N B pa w W th pe pr) : wpX7_thing (nI N) pe pr w a1 a2 (fun r => wpX8_thing (nI N) W pe pr a1 a2 (fun r2 => r2 = r)) := by
  obtain ⟨hN, hN1, hW, hw, hpa, hI⟩ := h
  rcases pz_num N hN a1 with ⟨p, hp, rfl⟩ | b1
  · refine pz_has_y hN hp (bq_f pz_n10 ?_)
    by_cases c0 : a2 = 0
    · subst c0
      refine ⟨fun q => absurd q (by decide), fun _ => ⟨vp_in_nI (by omega) (by decide), pz_isOne_y hN hp (bq_f pz_n10 ⟨fun q => absurd q (by decide), fun _ => ⟨vp_in_nI (by omega) (by decide), rfl⟩, fun q => absurd q (by decide), fun q => absurd q (by decide)⟩)⟩, fun q => absurd q (by decide), fun q => absurd q (by decide)⟩
    by_cases c1 : a2 = 1
    · subst c1
      refine ⟨fun q => absurd q (by decide), fun q => absurd q (by decide), fun _ => ⟨vp_in_nI (by omega) (by decide), br_c (fun c => ?_) (fun c => ?_)⟩, fun q => absurd q (by decide)⟩
      · exact pz_isOne_y hN hp (bq_f pz_n10 ⟨fun q => absurd q (by decide), fun q => absurd q (by decide), fun _ => ⟨vp_in_nI (by omega) (by decide), br_t c ⟨vp_in_nI (by omega) (by decide), rfl⟩⟩, fun q => absurd q (by decide)⟩)
      · exact pz_isOne_y hN hp (bq_f pz_n10 ⟨fun q => absurd q (by decide), fun q => absurd q (by decide), fun _ => ⟨vp_in_nI (by omega) (by decide), br_f c rfl⟩, fun q => absurd q (by decide)⟩)
    by_cases c2 : a2 = 2
    · subst c2
      exact ⟨fun q => absurd q (by decide), fun q => absurd q (by decide), fun q => absurd q (by decide), fun _ => pz_wantersOf hN (pz_isOne_y hN hp (bq_f pz_n10 ⟨fun q => absurd q (by decide), fun q => absurd q (by decide), fun q => absurd q (by decide), fun _ => pz_wanted hW hN hN1 rfl⟩))⟩
    · refine ⟨fun q => pz_isOne_y hN hp (bq_f pz_n10 ⟨fun _ => rfl, fun q => absurd q c0, fun q => absurd q c1, fun q => absurd q c2⟩), fun q => absurd q c0, fun q => absurd q c1, fun q => absurd q c2⟩
  · exact pz_has_n b1 (bq_t rfl (pz_isOne_n hN hN1 b1 (bq_t rfl rfl)))
theorem pc_person {a1 a2 : Int32} (h : pz_M N B pa w W th pe pr) : wpX7_person (nI N) th pr w a1 a2 (fun r => wpX8_person (nI N) W th pr a1 a2 (fun r2 => r2 = r)) := by
  obtain ⟨hN, hN1, hW, hw, hpa, hI⟩ := h
  rcases pz_num N hN a1 with ⟨p, hp, rfl⟩ | b1
  · refine pz_has_y hN hp (bq_f pz_n10 ?_)
    by_cases c0 : a2 = 0
    · subst c0
      refine ⟨fun q => absurd q (by decide), fun _ => ⟨vp_in_nI (by omega) (by decide), br_c (fun c => ?_) (fun c => ?_)⟩, fun q => absurd q (by decide), fun q => absurd q (by decide), fun q => absurd q (by decide)⟩
      · exact pz_isOne_y hN hp (bq_f pz_n10 ⟨fun q => absurd q (by decide), fun _ => ⟨vp_in_nI (by omega) (by decide), br_t c ⟨vp_in_nI (by omega) (by decide), rfl⟩⟩, fun q => absurd q (by decide), fun q => absurd q (by decide), fun q => absurd q (by decide)⟩)
      · exact pz_isOne_y hN hp (bq_f pz_n10 ⟨fun q => absurd q (by decide), fun _ => ⟨vp_in_nI (by omega) (by decide), br_f c rfl⟩, fun q => absurd q (by decide), fun q => absurd q (by decide), fun q => absurd q (by decide)⟩)
    by_cases c1 : a2 = 1
    · subst c1
      refine ⟨fun q => absurd q (by decide), fun q => absurd q (by decide), fun _ => pz_bestOf hN (by omega) ?_, fun q => absurd q (by decide), fun q => absurd q (by decide)⟩
      refine br_c (fun c => ?_) (fun c => ?_)
      · exact pz_isOne_y hN hp (bq_f pz_n10 ⟨fun q => absurd q (by decide), fun q => absurd q (by decide), fun _ => pz_best hW hN hN1 (by omega) (br_t c (pz_best hW hN hN1 (by omega) rfl)), fun q => absurd q (by decide), fun q => absurd q (by decide)⟩)
      · exact pz_isOne_y hN hp (bq_f pz_n10 ⟨fun q => absurd q (by decide), fun q => absurd q (by decide), fun _ => pz_best hW hN hN1 (by omega) (br_f c rfl), fun q => absurd q (by decide), fun q => absurd q (by decide)⟩)
    by_cases c2 : a2 = 2
    · subst c2
      exact ⟨fun q => absurd q (by decide), fun q => absurd q (by decide), fun q => absurd q (by decide), fun _ => pz_envyOf hN hI.1 (by omega) (pz_isOne_y hN hp (bq_f pz_n10 ⟨fun q => absurd q (by decide), fun q => absurd q (by decide), fun q => absurd q (by decide), fun _ => pz_envy hW hN hI.1 (by omega) rfl, fun q => absurd q (by decide)⟩)), fun q => absurd q (by decide)⟩
    by_cases c3 : a2 = 3
    · subst c3
      exact ⟨fun q => absurd q (by decide), fun q => absurd q (by decide), fun q => absurd q (by decide), fun q => absurd q (by decide), fun _ => pz_allowedTo hN (by omega) (pz_bc _ (pz_om8 _ hN) _ (pz_isOne_y hN hp (bq_f pz_n10 ⟨fun q => absurd q (by decide), fun q => absurd q (by decide), fun q => absurd q (by decide), fun q => absurd q (by decide), fun _ => pz_open hW hN (by omega) (pz_bits (pz_om8 _ hN) rfl)⟩)))⟩
    · refine ⟨fun q => pz_isOne_y hN hp (bq_f pz_n10 ⟨fun _ => rfl, fun q => absurd q c0, fun q => absurd q c1, fun q => absurd q c2, fun q => absurd q c3⟩), fun q => absurd q c0, fun q => absurd q c1, fun q => absurd q c2, fun q => absurd q c3⟩
  · exact pz_has_n b1 (bq_t rfl (pz_isOne_n hN hN1 b1 (bq_t rfl rfl)))
theorem pz_nextOffer (hN : N ≤ 8) (h : Post (match pz_ln N pa w th pe pr with | none => -5 | some x => pz_of N pa pr w x.1 x.2)) : wpX2_nextOffer (nI N) pa th pr w Post := by
  refine pz_nextBidder hN ?_
  unfold pz_ln at h
  cases hq : pz_nx N th w with
  | none => rw [hq] at h; exact br_f (by decide) h
  | some p =>
    rw [hq] at h
    obtain ⟨-, hp, -⟩ := pz_fs_some _ _ _ hq
    refine br_t (nI_pos' (by omega)) (pz_bestOf hN (by omega) ?_)
    dsimp only at h
    cases hb : pz_bt (nI N) pr w p (-1) N with
    | none => rw [hb] at h; exact br_f (by decide) h
    | some t =>
      rw [hb] at h
      have := pz_bt_lt hb
      exact br_t (nI_pos' (by omega)) (pz_offerFor hN (by omega) (by omega) h)
theorem pz_sb {b : Bool} {Post : Int32 → Prop} (h : Post (if b then 0 else 1)) : ((if b then (0 : Int32) else 1) = 0 → Post 0) ∧ (¬ (if b then (0 : Int32) else 1) = 0 → Post 1) := by
  cases b with
  | true => exact br_t rfl h
  | false => exact br_f (by decide) h
theorem pz_off8 {Post : Int32 → Prop} (hW : pz_ww W w) (hN : N ≤ 8) (hN1 : 1 ≤ N) (h : Post (match pz_ln N pa w th pe pr with | none => -5 | some x => pz_of N pa pr w x.1 x.2)) : wpX8_next (nI N) W th pr (fun (r18 : Int32) => ((0 ≤ r18 → wpX8_next (nI N) W th pr (fun (r20 : Int32) => wpX8_offer (nI N) pa W pr r20 (fun (r21 : Int32) => Post r21))) ∧ (¬ 0 ≤ r18 → Post (-5)))) := by
  refine pz_next hW hN hN1 ?_
  cases hl : pz_ln N pa w th pe pr with
  | none =>
    rw [hl] at h
    rw [pz_ln_none hN hl]
    exact br_f (by decide) h
  | some x =>
    obtain ⟨p, t⟩ := x
    rw [hl] at h
    have hlt := pz_ln_lt hl
    rw [hlt.2.2.2.2.1]
    refine br_t (nI_pos' (by omega)) (pz_next hW hN hN1 ?_)
    rw [hlt.2.2.2.2.1]
    exact pz_offer hW hN hN1 (by omega) hlt.2.2.2.2.2 h
theorem pc_told {a : Int32} {su mb : Nat → Int32} (h : pz_M N B pa w W th pe pr) : wpX7_told (nI N) pa th pr w su a (fun r su1 => wpX8_told (nI N) pa W th pr mb a (fun r2 mb1 => r2 = r)) := by
  obtain ⟨hN, hN1, hW, hw, hpa, hI⟩ := h
  by_cases c0 : a = 0
  · subst c0
    exact ⟨fun q => absurd q (by decide), fun _ => ⟨fun q => absurd q (by decide), fun _ => rfl, fun q => absurd q (by decide), fun q => absurd q (by decide), fun q => absurd q (by decide), fun q => absurd q (by decide), fun q => absurd q (by decide), fun q => absurd q (by decide), fun q => absurd q (by decide), fun q => absurd q (by decide), fun q => absurd q (by decide)⟩, fun q => absurd q (by decide), fun q => absurd q (by decide), fun q => absurd q (by decide), fun q => absurd q (by decide), fun q => absurd q (by decide), fun q => absurd q (by decide), fun q => absurd q (by decide), fun q => absurd q (by decide), fun q => absurd q (by decide)⟩
  by_cases c1 : a = 1
  · subst c1
    exact ⟨fun q => absurd q (by decide), fun q => absurd q (by decide), fun _ => ⟨fun q => absurd q (by decide), fun q => absurd q (by decide), fun _ => rfl, fun q => absurd q (by decide), fun q => absurd q (by decide), fun q => absurd q (by decide), fun q => absurd q (by decide), fun q => absurd q (by decide), fun q => absurd q (by decide), fun q => absurd q (by decide), fun q => absurd q (by decide)⟩, fun q => absurd q (by decide), fun q => absurd q (by decide), fun q => absurd q (by decide), fun q => absurd q (by decide), fun q => absurd q (by decide), fun q => absurd q (by decide), fun q => absurd q (by decide), fun q => absurd q (by decide)⟩
  by_cases c2 : a = 2
  · subst c2
    exact ⟨fun q => absurd q (by decide), fun q => absurd q (by decide), fun q => absurd q (by decide), fun _ => pz_worthTogether hN hI.1 ⟨fun q => absurd q (by decide), fun q => absurd q (by decide), fun q => absurd q (by decide), fun _ => pz_sum hW hN hI.1 rfl, fun q => absurd q (by decide), fun q => absurd q (by decide), fun q => absurd q (by decide), fun q => absurd q (by decide), fun q => absurd q (by decide), fun q => absurd q (by decide), fun q => absurd q (by decide)⟩, fun q => absurd q (by decide), fun q => absurd q (by decide), fun q => absurd q (by decide), fun q => absurd q (by decide), fun q => absurd q (by decide), fun q => absurd q (by decide), fun q => absurd q (by decide)⟩
  by_cases c3 : a = 3
  · subst c3
    exact ⟨fun q => absurd q (by decide), fun q => absurd q (by decide), fun q => absurd q (by decide), fun q => absurd q (by decide), fun _ => pz_mostWorth hN hN1 hw (fun o su1 ho => ⟨fun q => absurd q (by decide), fun q => absurd q (by decide), fun q => absurd q (by decide), fun q => absurd q (by decide), fun _ => pz_most8 hW hN hN1 hw (fun o2 mb1 ho2 => by rw [pz_mx_uni (pz_mx_iff (fun v => pz_PQ0 v) ho2) ho]), fun q => absurd q (by decide), fun q => absurd q (by decide), fun q => absurd q (by decide), fun q => absurd q (by decide), fun q => absurd q (by decide), fun q => absurd q (by decide)⟩), fun q => absurd q (by decide), fun q => absurd q (by decide), fun q => absurd q (by decide), fun q => absurd q (by decide), fun q => absurd q (by decide), fun q => absurd q (by decide)⟩
  by_cases c4 : a = 4
  · subst c4
    exact ⟨fun q => absurd q (by decide), fun q => absurd q (by decide), fun q => absurd q (by decide), fun q => absurd q (by decide), fun q => absurd q (by decide), fun _ => pz_isSure hN hI.1 (pz_sb (Post := fun r => wpX8_told (nI N) pa W th pr mb 4 (fun r2 mb1 => r2 = r)) ⟨fun q => absurd q (by decide), fun q => absurd q (by decide), fun q => absurd q (by decide), fun q => absurd q (by decide), fun q => absurd q (by decide), fun _ => pz_sure hW hN hN1 hI.1 rfl, fun q => absurd q (by decide), fun q => absurd q (by decide), fun q => absurd q (by decide), fun q => absurd q (by decide), fun q => absurd q (by decide)⟩), fun q => absurd q (by decide), fun q => absurd q (by decide), fun q => absurd q (by decide), fun q => absurd q (by decide), fun q => absurd q (by decide)⟩
  by_cases c5 : a = 5
  · subst c5
    exact ⟨fun q => absurd q (by decide), fun q => absurd q (by decide), fun q => absurd q (by decide), fun q => absurd q (by decide), fun q => absurd q (by decide), fun q => absurd q (by decide), fun _ => pz_leastLacking hN (fun L hL => ⟨fun q => absurd q (by decide), fun q => absurd q (by decide), fun q => absurd q (by decide), fun q => absurd q (by decide), fun q => absurd q (by decide), fun q => absurd q (by decide), fun _ => pz_lack hW hN (fun M hM => by rw [pz_lk_uni hL hM]), fun q => absurd q (by decide), fun q => absurd q (by decide), fun q => absurd q (by decide), fun q => absurd q (by decide)⟩), fun q => absurd q (by decide), fun q => absurd q (by decide), fun q => absurd q (by decide), fun q => absurd q (by decide)⟩
  by_cases c6 : a = 6
  · subst c6
    exact ⟨fun q => absurd q (by decide), fun q => absurd q (by decide), fun q => absurd q (by decide), fun q => absurd q (by decide), fun q => absurd q (by decide), fun q => absurd q (by decide), fun q => absurd q (by decide), fun _ => pz_nextBidder hN (br_c (fun c => ⟨fun q => absurd q (by decide), fun q => absurd q (by decide), fun q => absurd q (by decide), fun q => absurd q (by decide), fun q => absurd q (by decide), fun q => absurd q (by decide), fun q => absurd q (by decide), fun _ => pz_next hW hN hN1 (br_t c (pz_next hW hN hN1 rfl)), fun q => absurd q (by decide), fun q => absurd q (by decide), fun q => absurd q (by decide)⟩) (fun c => ⟨fun q => absurd q (by decide), fun q => absurd q (by decide), fun q => absurd q (by decide), fun q => absurd q (by decide), fun q => absurd q (by decide), fun q => absurd q (by decide), fun q => absurd q (by decide), fun _ => pz_next hW hN hN1 (br_f c rfl), fun q => absurd q (by decide), fun q => absurd q (by decide), fun q => absurd q (by decide)⟩)), fun q => absurd q (by decide), fun q => absurd q (by decide), fun q => absurd q (by decide)⟩
  by_cases c7 : a = 7
  · subst c7
    exact ⟨fun q => absurd q (by decide), fun q => absurd q (by decide), fun q => absurd q (by decide), fun q => absurd q (by decide), fun q => absurd q (by decide), fun q => absurd q (by decide), fun q => absurd q (by decide), fun q => absurd q (by decide), fun _ => pz_nextOffer (pe := pe) hN ⟨fun q => absurd q (by decide), fun q => absurd q (by decide), fun q => absurd q (by decide), fun q => absurd q (by decide), fun q => absurd q (by decide), fun q => absurd q (by decide), fun q => absurd q (by decide), fun q => absurd q (by decide), fun _ => pz_off8 (pe := pe) hW hN hN1 rfl, fun q => absurd q (by decide), fun q => absurd q (by decide)⟩, fun q => absurd q (by decide), fun q => absurd q (by decide)⟩
  by_cases c8 : a = 8
  · subst c8
    exact ⟨fun q => absurd q (by decide), fun q => absurd q (by decide), fun q => absurd q (by decide), fun q => absurd q (by decide), fun q => absurd q (by decide), fun q => absurd q (by decide), fun q => absurd q (by decide), fun q => absurd q (by decide), fun q => absurd q (by decide), fun _ => pz_ownersCounted hN ⟨fun q => absurd q (by decide), fun q => absurd q (by decide), fun q => absurd q (by decide), fun q => absurd q (by decide), fun q => absurd q (by decide), fun q => absurd q (by decide), fun q => absurd q (by decide), fun q => absurd q (by decide), fun q => absurd q (by decide), fun _ => pz_havers hN rfl, fun q => absurd q (by decide)⟩, fun q => absurd q (by decide)⟩
  by_cases c9 : a = 9
  · subst c9
    exact ⟨fun q => absurd q (by decide), fun q => absurd q (by decide), fun q => absurd q (by decide), fun q => absurd q (by decide), fun q => absurd q (by decide), fun q => absurd q (by decide), fun q => absurd q (by decide), fun q => absurd q (by decide), fun q => absurd q (by decide), fun q => absurd q (by decide), fun _ => pz_pricesTogether hN ⟨fun q => absurd q (by decide), fun q => absurd q (by decide), fun q => absurd q (by decide), fun q => absurd q (by decide), fun q => absurd q (by decide), fun q => absurd q (by decide), fun q => absurd q (by decide), fun q => absurd q (by decide), fun q => absurd q (by decide), fun q => absurd q (by decide), fun _ => pz_prices hN rfl⟩⟩
  exact ⟨fun _ => ⟨fun _ => rfl, fun q => absurd q c0, fun q => absurd q c1, fun q => absurd q c2, fun q => absurd q c3, fun q => absurd q c4, fun q => absurd q c5, fun q => absurd q c6, fun q => absurd q c7, fun q => absurd q c8, fun q => absurd q c9⟩, fun q => absurd q c0, fun q => absurd q c1, fun q => absurd q c2, fun q => absurd q c3, fun q => absurd q c4, fun q => absurd q c5, fun q => absurd q c6, fun q => absurd q c7, fun q => absurd q c8, fun q => absurd q c9⟩
theorem pc_count {a se pl bo tl : Int32} (h : pz_M N B pa w W th pe pr) : wpX7_count (nI N) w se pl bo tl a (fun r => wpX8_count (nI N) se pl bo tl W a (fun r2 => r2 = r)) := by
  obtain ⟨hN, hN1, hW, hw, hpa, hI⟩ := h
  by_cases c0 : a = 0
  · subst c0
    exact ⟨fun q => absurd q (by decide), fun _ => ⟨fun q => absurd q (by decide), fun _ => rfl, fun q => absurd q (by decide), fun q => absurd q (by decide), fun q => absurd q (by decide), fun q => absurd q (by decide), fun q => absurd q (by decide)⟩, fun q => absurd q (by decide), fun q => absurd q (by decide), fun q => absurd q (by decide), fun q => absurd q (by decide), fun q => absurd q (by decide)⟩
  by_cases c1 : a = 1
  · subst c1
    exact ⟨fun q => absurd q (by decide), fun q => absurd q (by decide), fun _ => ⟨fun q => absurd q (by decide), fun q => absurd q (by decide), fun _ => rfl, fun q => absurd q (by decide), fun q => absurd q (by decide), fun q => absurd q (by decide), fun q => absurd q (by decide)⟩, fun q => absurd q (by decide), fun q => absurd q (by decide), fun q => absurd q (by decide), fun q => absurd q (by decide)⟩
  by_cases c2 : a = 2
  · subst c2
    exact ⟨fun q => absurd q (by decide), fun q => absurd q (by decide), fun q => absurd q (by decide), fun _ => ⟨fun q => absurd q (by decide), fun q => absurd q (by decide), fun q => absurd q (by decide), fun _ => rfl, fun q => absurd q (by decide), fun q => absurd q (by decide), fun q => absurd q (by decide)⟩, fun q => absurd q (by decide), fun q => absurd q (by decide), fun q => absurd q (by decide)⟩
  by_cases c3 : a = 3
  · subst c3
    exact ⟨fun q => absurd q (by decide), fun q => absurd q (by decide), fun q => absurd q (by decide), fun q => absurd q (by decide), fun _ => ⟨fun q => absurd q (by decide), fun q => absurd q (by decide), fun q => absurd q (by decide), fun q => absurd q (by decide), fun _ => rfl, fun q => absurd q (by decide), fun q => absurd q (by decide)⟩, fun q => absurd q (by decide), fun q => absurd q (by decide)⟩
  by_cases c4 : a = 4
  · subst c4
    exact ⟨fun q => absurd q (by decide), fun q => absurd q (by decide), fun q => absurd q (by decide), fun q => absurd q (by decide), fun q => absurd q (by decide), fun _ => ⟨fun q => absurd q (by decide), fun q => absurd q (by decide), fun q => absurd q (by decide), fun q => absurd q (by decide), fun q => absurd q (by decide), fun _ => rfl, fun q => absurd q (by decide)⟩, fun q => absurd q (by decide)⟩
  by_cases c5 : a = 5
  · subst c5
    exact ⟨fun q => absurd q (by decide), fun q => absurd q (by decide), fun q => absurd q (by decide), fun q => absurd q (by decide), fun q => absurd q (by decide), fun q => absurd q (by decide), fun _ => pz_forbiddenCounted hN ⟨fun q => absurd q (by decide), fun q => absurd q (by decide), fun q => absurd q (by decide), fun q => absurd q (by decide), fun q => absurd q (by decide), fun q => absurd q (by decide), fun _ => pz_forbidden hW hN rfl⟩⟩
  exact ⟨fun _ => ⟨fun _ => rfl, fun q => absurd q c0, fun q => absurd q c1, fun q => absurd q c2, fun q => absurd q c3, fun q => absurd q c4, fun q => absurd q c5⟩, fun q => absurd q c0, fun q => absurd q c1, fun q => absurd q c2, fun q => absurd q c3, fun q => absurd q c4, fun q => absurd q c5⟩
end PZT
