/-! the text -/
def pz_sg (L : Nat) (tb : Nat → Int32) (a : Nat) : Int32 := if a < L then tb a else -1
def pz_n1 (L : Nat) (tb : Nat → Int32) (N first : Nat) (miss : Int32) (a : Nat) : Int32 × Nat :=
  if 0 ≤ (pz_sg L tb a).toInt - first ∧ (pz_sg L tb a).toInt - first < 8 then (if (pz_sg L tb a).toInt - first < N then (0, ((pz_sg L tb a).toInt - first).toNat) else (miss, 0)) else (1, 0)
def pz_dg (x : Int32) : Bool := decide (48 ≤ x.toInt ∧ x.toInt ≤ 57)
def pz_w1 (L : Nat) (tb : Nat → Int32) (a : Nat) : Int32 × Nat × Int32 :=
  if pz_sg L tb a = 33 then (0, a + 1, -1) else if pz_sg L tb a = 61 then (if pz_dg (pz_sg L tb (a + 1)) then (if pz_dg (pz_sg L tb (a + 2)) then (0, a + 3, (((pz_sg L tb (a + 1) - 48) * 10) + pz_sg L tb (a + 2)) - 48) else (0, a + 2, pz_sg L tb (a + 1) - 48)) else (1, a + 1, 0)) else (1, a, 0)
def pz_cl (L : Nat) (tb : Nat → Int32) (N a : Nat) : Int32 × Nat × Nat × Nat × Int32 :=
  if (pz_n1 L tb N 97 2 a).1 ≠ 0 then ((pz_n1 L tb N 97 2 a).1, a, 0, 0, 0) else if (pz_n1 L tb N 48 3 (a + 1)).1 ≠ 0 then ((pz_n1 L tb N 48 3 (a + 1)).1, a + 1, 0, 0, 0)
  else ((pz_w1 L tb (a + 2)).1, (pz_w1 L tb (a + 2)).2.1, (pz_n1 L tb N 97 2 a).2, (pz_n1 L tb N 48 3 (a + 1)).2, (pz_w1 L tb (a + 2)).2.2)
def pz_ct (L : Nat) (tb : Nat → Int32) (N : Nat) : Nat → Nat → Int32 × Nat × List (Nat × Nat × Int32)
  | 0, a => if L ≤ a then (0, a, []) else (1, a, [])
  | d + 1, a => if L ≤ a then (0, a, []) else if pz_sg L tb a = 59 then
      (if (pz_cl L tb N (a + 1)).1 ≠ 0 then ((pz_cl L tb N (a + 1)).1, (pz_cl L tb N (a + 1)).2.1, [])
       else ((pz_ct L tb N d (pz_cl L tb N (a + 1)).2.1).1, (pz_ct L tb N d (pz_cl L tb N (a + 1)).2.1).2.1, (pz_cl L tb N (a + 1)).2.2 :: (pz_ct L tb N d (pz_cl L tb N (a + 1)).2.1).2.2)) else (1, a, [])
def pz_qf (L : Nat) (tb : Nat → Int32) (N d a : Nat) : Int32 × Nat × List (Nat × Nat × Int32) :=
  if (pz_cl L tb N a).1 ≠ 0 then ((pz_cl L tb N a).1, (pz_cl L tb N a).2.1, [])
  else ((pz_ct L tb N d (pz_cl L tb N a).2.1).1, (pz_ct L tb N d (pz_cl L tb N a).2.1).2.1, (pz_cl L tb N a).2.2 :: (pz_ct L tb N d (pz_cl L tb N a).2.1).2.2)
theorem pz_ct_succ (L : Nat) (tb : Nat → Int32) (N d a : Nat) : pz_ct L tb N (d + 1) a = if L ≤ a then (0, a, []) else if pz_sg L tb a = 59 then pz_qf L tb N d (a + 1) else (1, a, []) := rfl
section PZX
variable {L N : Nat} {tb : Nat → Int32} {a : Nat}
def pz_tbok (L : Nat) (tb : Nat → Int32) : Prop := L ≤ 100 ∧ ∀ k, k < L → 0 ≤ (tb k).toInt ∧ (tb k).toInt ≤ 127
theorem pz_sgI (h : pz_tbok L tb) : -1 ≤ (pz_sg L tb a).toInt ∧ (pz_sg L tb a).toInt ≤ 127 := by
  unfold pz_sg
  by_cases c : a < L
  · rw [if_pos c]; have := h.2 a c; omega
  · rw [if_neg c]; decide
theorem pz_sign {Post : Int32 → Prop} (h : pz_tbok L tb) (ha : a < 1000) (hP : Post (pz_sg L tb a)) : wpX6_sign (nI L) (nI a) tb Post := by
  have hL := h.1
  unfold pz_sg at hP
  refine br_f (nI_pos (by omega)) ?_
  by_cases c : a < L
  · rw [if_pos c] at hP
    refine br_f (nI_ge c (by omega)) ⟨vp_in_nI (by omega) (by decide), ?_⟩
    rw [nI_clamp (by omega)]; exact hP
  · rw [if_neg c] at hP
    exact br_t (nI_le (by omega) (by omega)) hP
theorem pz_here {Post : Int32 → Prop} (h : pz_tbok L tb) (ha : a < 1000) (hP : Post (pz_sg L tb a)) : wpX8_here (nI L) (nI a) tb Post := by
  have hL := h.1
  unfold pz_sg at hP
  by_cases c : a < L
  · rw [if_pos c] at hP
    refine br_f (nI_ge c (by omega)) ⟨vp_in_nI (by omega) (by decide), ?_⟩
    rw [nI_clamp (by omega)]; exact hP
  · rw [if_neg c] at hP
    exact br_t (nI_le (by omega) (by omega)) hP
theorem pz_sgs {first : Nat} (h : pz_tbok L tb) (hf : first < 200) : (pz_sg L tb a - nI first).toInt = (pz_sg L tb a).toInt - first := by
  have := @pz_sgI L tb a h
  rw [fb_subI (by rw [nI_toInt (by omega)]; omega) (by rw [nI_toInt (by omega)]; omega), nI_toInt (by omega)]
theorem pz_n1_lt {first : Nat} {miss : Int32} (hm : miss ≠ 0) (h : (pz_n1 L tb N first miss a).1 = 0) : (pz_n1 L tb N first miss a).2 < N ∧ (pz_sg L tb a).toInt - first = (pz_n1 L tb N first miss a).2 ∧ (pz_n1 L tb N first miss a).2 < 8 := by
  unfold pz_n1 at h ⊢
  by_cases c : 0 ≤ (pz_sg L tb a).toInt - first ∧ (pz_sg L tb a).toInt - first < 8
  · rw [if_pos c] at h ⊢
    by_cases c2 : (pz_sg L tb a).toInt - first < N
    · rw [if_pos c2] at h ⊢
      dsimp only
      omega
    · rw [if_neg c2] at h; exact absurd h hm
  · rw [if_neg c] at h; exact absurd h (by decide)
theorem pz_findNumber {first : Nat} {miss : Int32} {Post : Int32 → Int32 → Int32 → Prop} (h : pz_tbok L tb) (hN : N ≤ 8) (ha : a < 1000) (hf : first < 200) (hm : miss ≠ 0) (h0 : (pz_n1 L tb N first miss a).1 = 0 → Post (nI (pz_n1 L tb N first miss a).2) (nI (a + 1)) 0) (h1 : (pz_n1 L tb N first miss a).1 ≠ 0 → ∀ x, Post x (nI a) (pz_n1 L tb N first miss a).1) : wpX6_findNumber (nI L) (nI a) 0 tb (nI first) (nI N) miss Post := by
  have e := @pz_sgs L tb a first h hf
  have hlt := @pz_n1_lt L N tb a first miss hm
  refine pz_sign h ha (nm_e ?_)
  unfold pz_n1 at h0 h1 hlt
  refine br_c (fun c => ?_) (fun c => br_c (fun c2 => br_c (fun c3 => ?_) (fun c3 => ?_)) (fun c2 => ?_))
  · rw [fa_lt, e] at c
    have c : (pz_sg L tb a).toInt - first < 0 := c
    rw [if_neg (by omega)] at h1
    exact h1 (show (1 : Int32) ≠ 0 by decide) _
  · rw [fa_lt, e] at c c2 c3
    have c : ¬ (pz_sg L tb a).toInt - first < 0 := c
    have c2 : (pz_sg L tb a).toInt - first < 8 := c2
    rw [nI_toInt (by omega)] at c3
    rw [if_pos ⟨by omega, c2⟩, if_pos c3] at h0
    have e2 : pz_sg L tb a - nI first = nI ((pz_sg L tb a).toInt - first).toNat := by
      rw [fa_eq, e, nI_toInt (by omega)]; omega
    rw [e2, nI_1]
    exact h0 rfl
  · rw [fa_lt, e] at c c2 c3
    have c : ¬ (pz_sg L tb a).toInt - first < 0 := c
    have c2 : (pz_sg L tb a).toInt - first < 8 := c2
    rw [nI_toInt (by omega)] at c3
    rw [if_pos ⟨by omega, c2⟩, if_neg c3] at h1
    exact h1 hm _
  · rw [fa_lt, e] at c2
    have c2 : ¬ (pz_sg L tb a).toInt - first < 8 := c2
    rw [if_neg (by omega)] at h1
    exact h1 (show (1 : Int32) ≠ 0 by decide) _
theorem pz_takes0 {lo hi : Nat} {Post : Int32 → Int32 → Int32 → Prop} (h : pz_tbok L tb) (ha : a < 1000) (h1 : ¬ pz_sg L tb a < nI lo → ¬ nI hi < pz_sg L tb a → Post (pz_sg L tb a - nI lo) (nI (a + 1)) 0) (h0 : (pz_sg L tb a < nI lo ∨ nI hi < pz_sg L tb a) → Post (-1) (nI a) 1) : wpX8_takes (nI L) (nI a) 0 tb (nI lo) (nI hi) Post := by
  unfold wpX8_takes
  refine pz_here h ha (bq_t rfl (pz_rng (lo := nI lo) (hi := nI hi) rfl rfl (fun c => bq_t rfl (bq_t rfl (h0 c))) (fun c c2 => bq_f pz_n10 ?_)))
  rw [nI_1]
  exact h1 c c2
theorem pz_takes1 {lo hi : Int32} {Post : Int32 → Int32 → Int32 → Prop} (h : pz_tbok L tb) (ha : a < 1000) (h1 : Post (-1) (nI a) 1) : wpX8_takes (nI L) (nI a) 1 tb lo hi Post := by
  unfold wpX8_takes
  exact pz_here h ha (bq_f pz_n10 (bq_f pz_n10 h1))
theorem pz_takesOne {first last : Nat} {miss : Int32} {Post : Int32 → Int32 → Int32 → Prop} (h : pz_tbok L tb) (hN : N ≤ 8) (ha : a < 1000) (hf : first < 200) (hl : last = first + 7) (hm : miss ≠ 0) (h0 : (pz_n1 L tb N first miss a).1 = 0 → Post (nI (pz_n1 L tb N first miss a).2) (nI (a + 1)) 0) (h1 : (pz_n1 L tb N first miss a).1 ≠ 0 → ∀ x, Post x (nI a) (pz_n1 L tb N first miss a).1) : wpX8_takesOne (nI N) (nI L) (nI a) 0 tb (nI first) (nI last) miss Post := by
  have e := @pz_sgs L tb a first h hf
  unfold pz_n1 at h0 h1
  refine pz_takes0 h ha (fun c c2 => ?_) (fun c => ?_)
  · rw [fa_lt, nI_toInt (by omega)] at c c2
    have c : 0 ≤ (pz_sg L tb a).toInt - first ∧ (pz_sg L tb a).toInt - first < 8 := by omega
    rw [if_pos c] at h0 h1
    have e2 : pz_sg L tb a - nI first = nI ((pz_sg L tb a).toInt - first).toNat := by
      rw [fa_eq, e, nI_toInt (by omega)]; omega
    rw [e2]
    refine bq_t rfl (br_c (fun c3 => ?_) (fun c3 => ?_))
    · rw [nI_ltI (by omega) (by omega)] at c3
      rw [if_pos (by omega)] at h0
      exact h0 rfl
    · rw [nI_ltI (by omega) (by omega)] at c3
      rw [if_neg (by omega)] at h1
      rw [nI_pred]
      exact h1 hm _
  · have c : ¬ (0 ≤ (pz_sg L tb a).toInt - first ∧ (pz_sg L tb a).toInt - first < 8) := by
      rcases c with c | c
      · rw [fa_lt, nI_toInt (by omega)] at c; omega
      · rw [fa_lt, nI_toInt (by omega)] at c; omega
    rw [if_neg c] at h1
    exact bq_f pz_n10 (h1 (show (1 : Int32) ≠ 0 by decide) _)
theorem pz_isDigit {x : Int32} {Post : Int32 → Prop} (h1 : pz_dg x = true → Post 1) (h0 : pz_dg x = false → Post 0) : wpX6_isDigit x Post := by
  refine br_c (fun c => h0 ?_) (fun c => br_c (fun c2 => h0 ?_) (fun c2 => h1 ?_))
  · rw [fa_lt] at c
    have c : x.toInt < 48 := c
    exact decide_eq_false (by omega)
  · rw [fa_lt] at c2
    have c2 : 57 < x.toInt := c2
    exact decide_eq_false (by omega)
  · rw [fa_lt] at c c2
    have c : ¬ x.toInt < 48 := c
    have c2 : ¬ 57 < x.toInt := c2
    exact decide_eq_true (by omega)
theorem pz_dg8 {x : Int32} {Post : Int32 → Prop} (h1 : pz_dg x = true → Post 1) (h0 : pz_dg x = false → Post 0) : wpX8_in x.toInt64 48 57 Post := by
  refine pz_rng (lo := 48) (hi := 57) rfl rfl (fun c => h0 ?_) (fun c c2 => h1 ?_)
  · rcases c with c | c
    · rw [fa_lt] at c
      have c : x.toInt < 48 := c
      exact decide_eq_false (by omega)
    · rw [fa_lt] at c
      have c : 57 < x.toInt := c
      exact decide_eq_false (by omega)
  · rw [fa_lt] at c c2
    have c : ¬ x.toInt < 48 := c
    have c2 : ¬ 57 < x.toInt := c2
    exact decide_eq_true (by omega)
theorem pz_findWorth {Post : Int32 → Int32 → Int32 → Prop} (h : pz_tbok L tb) (ha : a < 900) (hP : ∀ x, ((pz_w1 L tb a).1 = 0 → x = (pz_w1 L tb a).2.2) → Post x (nI (pz_w1 L tb a).2.1) (pz_w1 L tb a).1) : wpX6_findWorth (nI L) (nI a) 0 tb Post := by
  unfold pz_w1 at hP
  refine pz_sign h (by omega) (bq_c (fun c => ?_) (fun c => ?_))
  · rw [if_neg c] at hP
    refine pz_sign h (by omega) (bq_c (fun c2 => ?_) (fun c2 => ?_))
    · rw [if_neg c2] at hP
      exact hP _ (fun q => absurd q (show ¬ (1 : Int32) = 0 by decide))
    · rw [if_pos c2] at hP
      rw [nI_1]
      refine pz_sign h (by omega) (pz_isDigit (fun d1 => br_f pz_n10 ?_) (fun d1 => br_t rfl ?_))
      · rw [d1, if_pos rfl] at hP
        refine pz_sign h (by omega) (nm_e ?_)
        rw [nI_1]
        refine pz_sign h (by omega) (pz_isDigit (fun d2 => br_f pz_n10 (pz_sign h (by omega) (nm_e ?_))) (fun d2 => br_t rfl ?_))
        · rw [show a + 1 + 1 = a + 2 from rfl] at d2 ⊢
          rw [d2, if_pos rfl] at hP
          rw [nI_1]
          exact hP _ (fun _ => rfl)
        · rw [show a + 1 + 1 = a + 2 from rfl] at d2 ⊢
          rw [d2, if_neg (by decide)] at hP
          exact hP _ (fun _ => rfl)
      · rw [d1, if_neg (by decide)] at hP
        exact hP _ (fun q => absurd q (show ¬ (1 : Int32) = 0 by decide))
  · rw [if_pos c] at hP
    rw [nI_1]
    exact hP _ (fun _ => rfl)
theorem pz_takesWorth {Post : Int32 → Int32 → Int32 → Prop} (h : pz_tbok L tb) (ha : a < 900) (hP : ∀ x, ((pz_w1 L tb a).1 = 0 → x = (pz_w1 L tb a).2.2) → Post x (nI (pz_w1 L tb a).2.1) (pz_w1 L tb a).1) : wpX8_takesWorth (nI L) (nI a) 0 tb Post := by
  unfold pz_w1 at hP
  refine pz_here h (by omega) (bq_c (fun c => ?_) (fun c => ?_))
  · rw [if_neg c] at hP
    refine pz_takes0 (lo := 61) (hi := 61) h (by omega) (fun c2 c3 => ?_) (fun c2 => pz_takes1 h (by omega) (bq_f pz_n10 ?_))
    · have c2 : pz_sg L tb a = 61 := by
        rw [fa_lt] at c2 c3
        rw [fa_eq]
        have c2 : ¬ (pz_sg L tb a).toInt < 61 := c2
        have c3 : ¬ 61 < (pz_sg L tb a).toInt := c3
        show (pz_sg L tb a).toInt = 61
        omega
      rw [if_pos c2] at hP
      refine pz_takes0 (lo := 48) (hi := 57) h (by omega) (fun q1 q2 => ?_) (fun q1 => bq_f pz_n10 ?_)
      · have d1 : pz_dg (pz_sg L tb (a + 1)) = true := by
          rw [fa_lt] at q1 q2
          have q1 : ¬ (pz_sg L tb (a + 1)).toInt < 48 := q1
          have q2 : ¬ 57 < (pz_sg L tb (a + 1)).toInt := q2
          exact decide_eq_true (by omega)
        rw [d1, if_pos rfl] at hP
        refine bq_t rfl (pz_here h (by omega) (pz_dg8 (fun d2 => br_f pz_n10 (pz_takes0 (lo := 48) (hi := 57) h (by omega) (fun q3 q4 => nm_e ?_) (fun q3 => ?_))) (fun d2 => br_t rfl ?_)))
        · have d2 : pz_dg (pz_sg L tb (a + 2)) = true := d2
          rw [d2, if_pos rfl] at hP
          refine hP _ (fun _ => ?_)
          show (10 : Int32) * (pz_sg L tb (a + 1) - 48) + (pz_sg L tb (a + 2) - 48) = (pz_sg L tb (a + 1) - 48) * 10 + pz_sg L tb (a + 2) - 48
          generalize pz_sg L tb (a + 1) = x
          generalize pz_sg L tb (a + 2) = y
          rw [Int32.mul_comm]
          simp only [Int32.sub_eq_add_neg, Int32.add_assoc]
        · exfalso
          have d2 : 48 ≤ (pz_sg L tb (a + 1 + 1)).toInt ∧ (pz_sg L tb (a + 1 + 1)).toInt ≤ 57 := of_decide_eq_true d2
          rcases q3 with q3 | q3
          · rw [fa_lt] at q3
            have q3 : (pz_sg L tb (a + 1 + 1)).toInt < 48 := q3
            omega
          · rw [fa_lt] at q3
            have q3 : 57 < (pz_sg L tb (a + 1 + 1)).toInt := q3
            omega
        · have d2 : pz_dg (pz_sg L tb (a + 2)) = false := d2
          rw [d2, if_neg (by decide)] at hP
          exact hP _ (fun _ => rfl)
      · have d1 : pz_dg (pz_sg L tb (a + 1)) = false := by
          rcases q1 with q1 | q1
          · rw [fa_lt] at q1
            have q1 : (pz_sg L tb (a + 1)).toInt < 48 := q1
            exact decide_eq_false (by omega)
          · rw [fa_lt] at q1
            have q1 : 57 < (pz_sg L tb (a + 1)).toInt := q1
            exact decide_eq_false (by omega)
        rw [d1, if_neg (by decide)] at hP
        exact hP _ (fun q => absurd q (show ¬ (1 : Int32) = 0 by decide))
    · have c2 : ¬ pz_sg L tb a = 61 := by
        intro q; rw [q] at c2; exact absurd c2 (by decide)
      rw [if_neg c2] at hP
      exact hP _ (fun q => absurd q (show ¬ (1 : Int32) = 0 by decide))
  · rw [if_pos c] at hP
    rw [nI_1]
    exact hP _ (fun _ => rfl)
theorem pz_w1_in (h : pz_tbok L tb) : a ≤ (pz_w1 L tb a).2.1 ∧ (pz_w1 L tb a).2.1 ≤ a + 3 ∧ ((pz_w1 L tb a).1 = 0 → -1 ≤ (pz_w1 L tb a).2.2.toInt ∧ (pz_w1 L tb a).2.2.toInt ≤ 99) := by
  unfold pz_w1
  by_cases c : pz_sg L tb a = 33
  · rw [if_pos c]; exact ⟨by dsimp only; omega, by dsimp only; omega, fun _ => (show -1 ≤ (-1 : Int32).toInt ∧ (-1 : Int32).toInt ≤ 99 by decide)⟩
  rw [if_neg c]
  by_cases c2 : pz_sg L tb a = 61
  · rw [if_pos c2]
    cases d1 : pz_dg (pz_sg L tb (a + 1)) with
    | false => rw [if_neg (by decide)]; exact ⟨by dsimp only; omega, by dsimp only; omega, fun q => absurd q (show ¬ (1 : Int32) = 0 by decide)⟩
    | true =>
      rw [if_pos rfl]
      have b1 : 48 ≤ (pz_sg L tb (a + 1)).toInt ∧ (pz_sg L tb (a + 1)).toInt ≤ 57 := of_decide_eq_true d1
      have e1 : (pz_sg L tb (a + 1) - 48).toInt = (pz_sg L tb (a + 1)).toInt - 48 := pz_sgs (first := 48) h (by decide)
      cases d2 : pz_dg (pz_sg L tb (a + 2)) with
      | false => rw [if_neg (by decide)]; exact ⟨by dsimp only; omega, by dsimp only; omega, fun _ => by dsimp only; omega⟩
      | true =>
        rw [if_pos rfl]
        have b2 : 48 ≤ (pz_sg L tb (a + 2)).toInt ∧ (pz_sg L tb (a + 2)).toInt ≤ 57 := of_decide_eq_true d2
        have e2 : ((pz_sg L tb (a + 1) - 48) * 10).toInt = ((pz_sg L tb (a + 1)).toInt - 48) * 10 := by
          rw [fb_mulI (by rw [e1]; show _ ≤ _ * (10 : Int); omega) (by rw [e1]; show _ * (10 : Int) < _; omega), e1]; rfl
        have e3 : ((pz_sg L tb (a + 1) - 48) * 10 + pz_sg L tb (a + 2)).toInt = ((pz_sg L tb (a + 1)).toInt - 48) * 10 + (pz_sg L tb (a + 2)).toInt := by
          rw [fb_addI (by rw [e2]; omega) (by rw [e2]; omega), e2]
        have e4 : ((pz_sg L tb (a + 1) - 48) * 10 + pz_sg L tb (a + 2) - 48).toInt = ((pz_sg L tb (a + 1)).toInt - 48) * 10 + (pz_sg L tb (a + 2)).toInt - 48 := by
          rw [fb_subI (by rw [e3]; show _ ≤ _ - (48 : Int); omega) (by rw [e3]; show _ - (48 : Int) < _; omega), e3]; rfl
        refine ⟨by dsimp only; omega, by dsimp only; omega, fun _ => ?_⟩
        dsimp only
        omega
  · rw [if_neg c2]; exact ⟨by dsimp only; omega, by dsimp only; omega, fun q => absurd q (show ¬ (1 : Int32) = 0 by decide)⟩
theorem pz_cl_in (h : pz_tbok L tb) : (pz_cl L tb N a).2.1 ≤ a + 5 ∧ ((pz_cl L tb N a).1 = 0 → (pz_cl L tb N a).2.2.1 < N ∧ (pz_cl L tb N a).2.2.2.1 < N ∧ -1 ≤ (pz_cl L tb N a).2.2.2.2.toInt ∧ (pz_cl L tb N a).2.2.2.2.toInt ≤ 99) := by
  unfold pz_cl
  by_cases c : (pz_n1 L tb N 97 2 a).1 = 0
  · rw [if_neg (fun q => q c)]
    by_cases c2 : (pz_n1 L tb N 48 3 (a + 1)).1 = 0
    · rw [if_neg (fun q => q c2)]
      have hw := @pz_w1_in L tb (a + 2) h
      exact ⟨by dsimp only; omega, fun q => ⟨(pz_n1_lt (by decide) c).1, (pz_n1_lt (by decide) c2).1, hw.2.2 q⟩⟩
    · rw [if_pos c2]; exact ⟨by dsimp only; omega, fun q => absurd q c2⟩
  · rw [if_pos c]; exact ⟨by dsimp only; omega, fun q => absurd q c⟩
end PZX
