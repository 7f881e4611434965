theorem bq_t {c A B : Prop} (h : c) (b : B) : (¬ c → A) ∧ (c → B) := ⟨fun q => absurd h q, fun _ => b⟩
theorem bq_f {c A B : Prop} (h : ¬ c) (a : A) : (¬ c → A) ∧ (c → B) := ⟨fun _ => a, fun q => absurd q h⟩
theorem bq_c {c A B : Prop} (a : ¬ c → A) (b : c → B) : (¬ c → A) ∧ (c → B) := ⟨a, b⟩
theorem pz_n10 : ¬ (1 : Int32) = 0 := by decide
/-! numbers in range, as both sides ask it -/
theorem pz_rng {a lo hi : Int32} {L H : Int64} {Post : Int32 → Prop} (hL : lo.toInt64 = L) (hH : hi.toInt64 = H) (h0 : (a < lo ∨ hi < a) → Post 0) (h1 : ¬ a < lo → ¬ hi < a → Post 1) : wpX8_in a.toInt64 L H Post := by
  subst hL hH
  unfold wpX8_in
  rw [lg_cmp_lt, lg_cmp_gt, fa_wide_lt, fa_wide_lt]
  exact br_c (fun c => h0 (Or.inl c)) (fun c => br_c (fun c2 => h0 (Or.inr c2)) (fun c2 => h1 c c2))
theorem pz_num (N : Nat) (hN : N ≤ 8) (a : Int32) : (∃ k, k < N ∧ a = nI k) ∨ (a < 0 ∨ nI N ≤ a) := by
  by_cases c : a < 0
  · exact Or.inr (Or.inl c)
  by_cases c2 : nI N ≤ a
  · exact Or.inr (Or.inr c2)
  obtain ⟨j, hj, e⟩ := nI_of c
  refine Or.inl ⟨j, ?_, e⟩
  rw [e, nI_leI (by omega) (by omega)] at c2
  omega
theorem pz_has_y {N k : Nat} {Post : Int32 → Prop} (hN : N ≤ 8) (hk : k < N) (h : Post 1) : wpX2_has (nI N) (nI k) Post := br_f (nI_pos (by omega)) (br_f (nI_ge hk (by omega)) h)
theorem pz_has_n {N : Nat} {a : Int32} {Post : Int32 → Prop} (hb : a < 0 ∨ nI N ≤ a) (h : Post 0) : wpX2_has (nI N) a Post := by
  rcases hb with c | c
  · exact br_t c h
  · exact br_c (fun _ => h) (fun _ => br_t c h)
theorem pz_isOne_y {N k : Nat} {Post : Int32 → Prop} (hN : N ≤ 8) (hk : k < N) (h : Post 1) : wpX8_isOne (nI N) (nI k) Post := by
  refine pz_rng (lo := 0) (hi := nI N - 1) rfl rfl (fun c => ?_) (fun _ _ => ⟨Or.inr rfl, h⟩)
  exfalso
  obtain ⟨M, rfl⟩ : ∃ M, N = M + 1 := ⟨N - 1, by omega⟩
  rw [nI_pred] at c
  rcases c with c | c
  · exact nI_pos (by omega) c
  · rw [nI_ltI (by omega) (by omega)] at c; omega
theorem pz_isOne_n {N : Nat} {a : Int32} {Post : Int32 → Prop} (hN : N ≤ 8) (hN1 : 1 ≤ N) (hb : a < 0 ∨ nI N ≤ a) (h : Post 0) : wpX8_isOne (nI N) a Post := by
  refine pz_rng (lo := 0) (hi := nI N - 1) rfl rfl (fun _ => ⟨Or.inl rfl, h⟩) (fun c1 c2 => ?_)
  exfalso
  obtain ⟨M, rfl⟩ : ∃ M, N = M + 1 := ⟨N - 1, by omega⟩
  rw [nI_pred] at c2
  rcases hb with c | c
  · exact c1 c
  · rw [fa_le, nI_toInt (by omega)] at c
    rw [fa_lt, nI_toInt (by omega)] at c2
    omega
theorem pz_isPair_y {N k t : Nat} {Post : Int32 → Prop} (hN : N ≤ 8) (hk : k < N) (ht : t < N) (h : Post 1) : wpX8_isPair (nI N) (nI k) (nI t) Post :=
  pz_isOne_y hN hk (br_f (by decide) (pz_isOne_y hN ht (br_f (by decide) h)))
theorem pz_isPair_n {N : Nat} {a b : Int32} {Post : Int32 → Prop} (hN : N ≤ 8) (hN1 : 1 ≤ N) (hb : (a < 0 ∨ nI N ≤ a) ∨ (b < 0 ∨ nI N ≤ b)) (h : Post 0) : wpX8_isPair (nI N) a b Post := by
  rcases pz_num N hN a with ⟨k, hk, rfl⟩ | ha
  · rcases hb with c | c
    · rcases c with c | c
      · exact absurd c (nI_pos (by omega))
      · exact absurd c (nI_ge hk (by omega))
    · exact pz_isOne_y hN hk (br_f (by decide) (pz_isOne_n hN hN1 c (br_t rfl h)))
  · exact pz_isOne_n hN hN1 ha (br_t rfl h)
theorem pz_sw {x : Int32} (hi : Nat) (h : ∀ k : Nat, k ≤ hi → ¬ x = nI k) : x.toInt < 0 ∨ (hi : Int) < x.toInt := by
  by_cases c : x.toInt < 0 ∨ (hi : Int) < x.toInt
  · exact c
  · exact (bw_sw hi c h).elim
theorem pz_shownNumber {o : Option Nat} {Post : Int32 → Prop} (ho : ∀ k, o = some k → k < 2 ^ 31) (h : Post (match o with | none => -5 | some k => nI k)) : wpX7_shownNumber (pz_cd o) Post := by
  cases o with
  | none => exact br_f (by decide) h
  | some k => exact br_t (nI_pos' (ho k rfl)) h
/-- the market of both sides -/
def pz_M (N : Nat) (B : Int) (pa : Int32) (w : Nat → Nat → Int32) (W th pe pr : Nat → Int32) : Prop := N ≤ 8 ∧ 1 ≤ N ∧ pz_ww W w ∧ pz_wb w ∧ (1 ≤ pa.toInt ∧ pa.toInt ≤ 50) ∧ pz_in N w B th pe pr
section PZC
variable {N : Nat} {B : Int} {pa : Int32} {w : Nat → Nat → Int32} {W th pe pr : Nat → Int32}
theorem pz_shownWorth {p t : Nat} {Post : Int32 → Prop} (hp : p < 8) (ht : t < 8) (h : Post (if w p t = -1 then -5 else w p t)) : wpX7_shownWorth w (nI p) (nI t) Post := by
  refine pz_allows hp ht (fun c => br_t rfl ?_) (fun c => br_f (by decide) ⟨vp_in_nI hp (by decide), vp_in_nI ht (by decide), ?_⟩)
  · rw [if_pos c] at h; exact h
  · rw [if_neg c] at h; rw [nI_clamp (by omega), nI_clamp (by omega)]; exact h
theorem pc_step {a : Int32} (h : pz_M N B pa w W th pe pr) : wpX7_step pa a (fun r pa' => wpX8_step pa a (fun r2 st' => r2 = r ∧ st' = pa' ∧ pz_M N B pa' w W th pe pr)) := by
  by_cases c1 : a < 1
  · exact br_t c1 (bq_t rfl (pz_rng (lo := 1) (hi := 50) rfl rfl (fun _ => bq_t rfl ⟨rfl, rfl, h⟩) (fun q => absurd c1 q)))
  by_cases c2 : 50 < a
  · exact br_f c1 (br_t c2 (bq_t rfl (pz_rng (lo := 1) (hi := 50) rfl rfl (fun _ => bq_t rfl ⟨rfl, rfl, h⟩) (fun _ q => absurd c2 q))))
  · have h2 : pz_M N B a w W th pe pr := by
      refine ⟨h.1, h.2.1, h.2.2.1, h.2.2.2.1, ?_, h.2.2.2.2.2⟩
      rw [fa_lt] at c1 c2
      have c1 : ¬ a.toInt < 1 := c1
      have c2 : ¬ 50 < a.toInt := c2
      omega
    exact br_f c1 (br_f c2 (bq_f pz_n10 (pz_rng (lo := 1) (hi := 50) rfl rfl (fun q => absurd q (fun q => q.elim c1 c2)) (fun _ _ => bq_f pz_n10 ⟨rfl, rfl, h2⟩))))
theorem pz_ltc {a : Int32} (h0 : ¬ a = 0) (h1 : ¬ a = 1) : a < 0 ∨ 1 < a := by
  rw [fa_eq] at h0 h1
  rw [fa_lt, fa_lt]
  have h0 : ¬ a.toInt = 0 := h0
  have h1 : ¬ a.toInt = 1 := h1
  show a.toInt < 0 ∨ 1 < a.toInt
  omega
theorem pc_of {a1 a2 a3 : Int32} (h : pz_M N B pa w W th pe pr) : wpX7_of (nI N) pr w a1 a2 a3 (fun r => wpX8_of (nI N) W pr a1 a2 a3 (fun r2 => r2 = r)) := by
  obtain ⟨hN, hN1, hW, hw, hpa, hI⟩ := h
  rcases pz_num N hN a1 with ⟨p, hp, rfl⟩ | b1
  · rcases pz_num N hN a2 with ⟨t, ht, rfl⟩ | b2
    · refine pz_has_y hN hp (br_f pz_n10 (pz_has_y hN ht (bq_f pz_n10 ?_)))
      by_cases c0 : a3 = 0
      · subst c0
        refine bq_t rfl (pz_shownWorth (by omega) (by omega) (pz_isPair_y hN hp ht (br_f pz_n10 (pz_rng (lo := 0) (hi := 1) rfl rfl (fun q => absurd q (by decide)) (fun _ _ => bq_f pz_n10 ?_)))))
        refine pz_may hW (by omega) (by omega) (fun c => bq_t rfl (bq_t rfl ?_)) (fun c => bq_f pz_n10 (bq_t rfl ?_))
        · rw [if_pos c]; rfl
        · rw [if_neg c, pz_8, nI_clamp (by omega), (hW p t (by omega) (by omega)).1]
          exact ⟨vp_in_nI (by omega) (by decide), rfl⟩
      by_cases c1 : a3 = 1
      · subst c1
        refine bq_f (by decide) (bq_t rfl (pz_allows (by omega) (by omega) (fun c => br_t rfl ?_) (fun c => br_f pz_n10 (pz_gainOf (by omega) (by omega) ?_))))
        · exact pz_isPair_y hN hp ht (br_f pz_n10 (pz_rng (lo := 0) (hi := 1) rfl rfl (fun q => absurd q (by decide)) (fun _ _ => bq_f pz_n10 (pz_may hW (by omega) (by omega) (fun _ => bq_t rfl (bq_f (by decide) rfl)) (fun q => absurd c q)))))
        · exact pz_isPair_y hN hp ht (br_f pz_n10 (pz_rng (lo := 0) (hi := 1) rfl rfl (fun q => absurd q (by decide)) (fun _ _ => bq_f pz_n10 (pz_may hW (by omega) (by omega) (fun q => absurd q c) (fun _ => bq_f pz_n10 (bq_f (by decide) (pz_gain hW (by omega) (by omega) rfl)))))))
      · refine bq_f c0 (bq_f c1 (pz_isPair_y hN hp ht (br_f pz_n10 (pz_rng (lo := 0) (hi := 1) rfl rfl (fun _ => bq_t rfl rfl) (fun q1 q2 => ?_)))))
        exact absurd (pz_ltc c0 c1) (fun q => q.elim q1 q2)
    · exact pz_has_y hN hp (br_f pz_n10 (pz_has_n b2 (bq_t rfl (pz_isPair_n hN hN1 (Or.inr b2) (br_t rfl rfl)))))
  · exact pz_has_n b1 (br_t rfl (pz_isPair_n hN hN1 (Or.inl b1) (br_t rfl rfl)))
end PZC
