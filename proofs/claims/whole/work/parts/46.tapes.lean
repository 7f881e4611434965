/-! tapes -/
/-- both sides' tapes: sort, how many, items -/
def pz_A (so le : Nat → Int32) (it : Nat → Nat → Int64) (ms mz : Nat → Int32) (mt : Nat → Nat → Int64) : Prop := ∀ k, k < 6 → ∃ L, L ≤ 60 ∧ le k = nI L ∧ mz k = nI L ∧ ms k = so k ∧ ((so k = -1 ∧ L = 0) ∨ so k = 0 ∨ so k = 1 ∨ so k = 2 ∨ so k = 3 ∨ so k = 4) ∧ ∀ j, j < 60 → it k j = mt k j
theorem pz_tp (a : Int32) : (∃ k, k < 6 ∧ a = nI k) ∨ (a < 0 ∨ 6 ≤ a) := by
  rcases pz_num 6 (by decide) a with h | h
  · exact Or.inl h
  · exact Or.inr h
theorem pz_isTape7_y {k : Nat} {Post : Int32 → Prop} (hk : k < 6) (h : Post 1) : wpX7_isTape (nI k) Post := br_f (nI_pos (by omega)) (br_f (nI_ge (b := 6) hk (by decide)) h)
theorem pz_isTape7_n {a : Int32} {Post : Int32 → Prop} (hb : a < 0 ∨ 6 ≤ a) (h : Post 0) : wpX7_isTape a Post := by
  rcases hb with c | c
  · exact br_t c h
  · exact br_c (fun _ => h) (fun _ => br_t c h)
theorem pz_isTape8_y {k : Nat} {Post : Int32 → Prop} (hk : k < 6) (h : Post 1) : wpX8_isTape (nI k) Post := by
  refine pz_rng (lo := 0) (hi := 5) rfl rfl (fun c => ?_) (fun _ _ => ⟨Or.inr rfl, h⟩)
  exfalso
  rcases c with c | c
  · exact nI_pos (by omega) c
  · have := (nI_ltI (a := 5) (by decide) (by omega)).mp c; omega
theorem pz_isTape8_n {a : Int32} {Post : Int32 → Prop} (hb : a < 0 ∨ 6 ≤ a) (h : Post 0) : wpX8_isTape a Post := by
  refine pz_rng (lo := 0) (hi := 5) rfl rfl (fun _ => ⟨Or.inl rfl, h⟩) (fun c1 c2 => ?_)
  exfalso
  rcases hb with c | c
  · exact c1 c
  · rw [fa_le] at c; rw [fa_lt] at c2
    have c : 6 ≤ a.toInt := c
    have c2 : ¬ 5 < a.toInt := c2
    omega
theorem pz_sort {s : Int32} (h : s = 0 ∨ s = 1 ∨ s = 2 ∨ s = 3 ∨ s = 4) : ¬ s < 0 ∧ 0 ≤ s ∧ ¬ s = -1 := by
  rcases h with h | h | h | h | h <;> subst h <;> decide
theorem pz_subI {L v : Nat} (hL : L ≤ 60) (hv : v ≤ 60) : (nI L - nI v).toInt = (L : Int) - v := by
  rw [fb_subI (by rw [nI_toInt (by omega), nI_toInt (by omega)]; omega) (by rw [nI_toInt (by omega), nI_toInt (by omega)]; omega), nI_toInt (by omega), nI_toInt (by omega)]
section PZQ
variable {N : Nat} {B : Int} {pa : Int32} {w : Nat → Nat → Int32} {W th pe pr : Nat → Int32}
variable {so le ms mz : Nat → Int32} {it mt : Nat → Nat → Int64}
/-- what a look at one price gives: nothing, or the answer -/
def pz_jv (a : Int32) (L : Nat) (f : Nat → Int64) (pr : Nat → Int32) (i : Nat) : Option Int32 := if a < 0 then some (100 + nI i) else if a < nI L - nI i then (if f (a + nI i).toNatClampNeg = (pr i).toInt64 then none else some (nI i)) else some (100 + nI i)
def pz_jo (N : Nat) (a : Int32) (L : Nat) (f : Nat → Int64) (pr : Nat → Int32) (o : Option Nat) : Int32 := match o with
  | none => -5
  | some i => (pz_jv a L f pr i).getD 0
theorem pz_jin {a : Int32} {L i : Nat} (hL : L ≤ 60) (hi : i ≤ 8) (c : ¬ a < 0) (c2 : a < nI L - nI i) : vp_in (a + nI i) 60 := by
  obtain ⟨q, hq, rfl⟩ := nI_of c
  rw [fa_lt, pz_subI hL (by omega), nI_toInt hq] at c2
  rw [nI_add]
  exact vp_in_nI (by omega) (by decide)
theorem pz_judge7 {k L : Nat} {a : Int32} {Post : Int32 → Prop} (hN : N ≤ 8) (hk : k < 6) (hL : L ≤ 60) (hl : le k = nI L) (h : Post (pz_jo N a L (it k) pr (pz_fs (fun i => (pz_jv a L (it k) pr i).isSome) N 0))) : wpX7_judge_B35 (nI N) pr so le it (nI k) a Post := by
  refine pz_se (fun g i => wpX7_judge_B38 (nI N) pr so le it (nI k) a Post g (nI i)) (fun i => (pz_jv a L (it k) pr i).isSome) N (fun o => Post (pz_jo N a L (it k) pr o)) h (fun n q => ?_) (fun n i hi h1 h2 => ?_)
  · rw [wpX7_judge_B38]
    exact br_t (nI_le (Nat.le_refl _) (by omega)) q
  · rw [wpX7_judge_B38]
    unfold pz_jo at h1
    dsimp only at h1
    unfold pz_jv at h1 h2
    refine br_f (nI_ge hi (by omega)) (br_c (fun c => ?_) (fun c => ?_))
    · rw [if_pos c] at h1; exact h1 rfl
    rw [if_neg c] at h1 h2
    rw [nI_clamp (n := k) (by omega), hl]
    refine br_c (fun c2 => ?_) (fun c2 => ?_)
    · rw [if_pos c2] at h1 h2
      refine ⟨pz_jin hL (by omega) c c2, vp_in_nI (by omega) (by decide), ?_⟩
      rw [nI_clamp (n := i) (by omega), lg_cmp_eq]
      refine br_c (fun c3 => ?_) (fun c3 => ?_)
      · rw [if_pos c3] at h2; exact nm_r (nI_1 i) (h2 rfl)
      · rw [if_neg c3] at h1; exact h1 rfl
    · rw [if_neg c2] at h1; exact h1 rfl
theorem pz_judge8 {k L : Nat} {a : Int32} {Post : Int32 → Prop} (hN : N ≤ 8) (hk : k < 6) (hL : L ≤ 60) (hl : mz k = nI L) (hit : ∀ j, j < 60 → it k j = mt k j) (h : Post (pz_jo N a L (it k) pr (pz_fs (fun i => (pz_jv a L (it k) pr i).isSome) N 0))) : wpX8_judge_B31 (nI N) pr ms mz mt (nI k) a Post := by
  refine pz_se (fun g i => wpX8_judge_B33 (nI N) pr ms mz mt (nI k) a Post g (nI i)) (fun i => (pz_jv a L (it k) pr i).isSome) N (fun o => Post (pz_jo N a L (it k) pr o)) h (fun n q => ?_) (fun n i hi h1 h2 => ?_)
  · rw [wpX8_judge_B33]
    exact br_t (nI_le (Nat.le_refl _) (by omega)) q
  · rw [wpX8_judge_B33]
    unfold pz_jo at h1
    dsimp only at h1
    unfold pz_jv at h1 h2
    refine br_f (nI_ge hi (by omega)) (br_c (fun c => ?_) (fun c => ⟨vp_in_nI hk (by decide), ?_⟩))
    · rw [if_pos c] at h1; exact h1 rfl
    rw [if_neg c] at h1 h2
    rw [nI_clamp (n := k) (by omega), hl]
    refine br_c (fun c2 => ?_) (fun c2 => ?_)
    · rw [if_pos c2] at h1 h2
      have hj := pz_jin hL (by omega) c c2
      refine ⟨vp_in_nI hk (by decide), hj, vp_in_nI (by omega) (by decide), ?_⟩
      rw [nI_clamp (n := i) (by omega), lg_cmp_eq, ← hit _ (bw_lt hj)]
      refine br_c (fun c3 => ?_) (fun c3 => ?_)
      · rw [if_pos c3] at h2; exact nm_r (nI_1 i) (h2 rfl)
      · rw [if_neg c3] at h1; exact h1 rfl
    · rw [if_neg c2] at h1; exact h1 rfl
theorem pc_judge {a1 a2 : Int32} (hN : N ≤ 8) (hA : pz_A so le it ms mz mt) : wpX7_judge (nI N) pr so le it a1 a2 (fun r => wpX8_judge (nI N) pr ms mz mt a1 a2 (fun r2 => r2 = r)) := by
  rcases pz_tp a1 with ⟨k, hk, rfl⟩ | b1
  · obtain ⟨L, hL, e1, e2, e3, e4, e5⟩ := hA k hk
    refine pz_isTape7_y hk (bq_f pz_n10 ⟨vp_in_nI hk (by decide), ?_⟩)
    rw [nI_clamp (by omega)]
    have look : wpX7_judge_B35 (nI N) pr so le it (nI k) a2 (fun r => wpX8_judge_B31 (nI N) pr ms mz mt (nI k) a2 (fun r2 => r2 = r)) := pz_judge7 hN hk hL e1 (pz_judge8 hN hk hL e2 e5 rfl)
    have c8 : ∀ {Q : Int32 → Prop}, wpX8_judge_B31 (nI N) pr ms mz mt (nI k) a2 Q → (so k = -1 ∨ so k = 3) → wpX8_judge (nI N) pr ms mz mt (nI k) a2 Q := by
      intro Q hq hs
      refine pz_isTape8_y hk (bq_f pz_n10 ⟨vp_in_nI hk (by decide), ?_⟩)
      rw [nI_clamp (by omega), e3]
      rcases hs with hs | hs
      · exact br_t (by rw [hs]; decide) hq
      · exact br_f (by rw [hs]; decide) ⟨vp_in_nI hk (by decide), br_t hs hq⟩
    rcases e4 with ⟨e4, -⟩ | e4
    · refine br_t e4 (pz_judge7 hN hk hL e1 (c8 (pz_judge8 hN hk hL e2 e5 rfl) (Or.inl e4)))
    · obtain ⟨s1, s2, s3⟩ := pz_sort e4
      refine br_f s3 (br_c (fun c => pz_judge7 hN hk hL e1 (c8 (pz_judge8 hN hk hL e2 e5 rfl) (Or.inr c))) (fun c => ?_))
      refine pz_isTape8_y hk (bq_f pz_n10 ⟨vp_in_nI hk (by decide), ?_⟩)
      rw [nI_clamp (by omega), e3]
      exact br_f s1 ⟨vp_in_nI hk (by decide), br_f c rfl⟩
  · exact pz_isTape7_n b1 (bq_t rfl (pz_isTape8_n b1 (bq_t rfl rfl)))
theorem pz_A_up {k : Nat} {s1 l1 s2 l2 : Int32} {f g : Nat → Int64} {L : Nat} (hA : pz_A so le it ms mz mt) (hL : L ≤ 60) (h1 : l1 = nI L) (h2 : l2 = nI L) (h3 : s2 = s1) (h4 : (s1 = -1 ∧ L = 0) ∨ s1 = 0 ∨ s1 = 1 ∨ s1 = 2 ∨ s1 = 3 ∨ s1 = 4) (h5 : ∀ j, j < 60 → f j = g j) :
    pz_A (va_up so k s1) (va_up le k l1) (va_up it k f) (upd ms k s2) (upd mz k l2) (va_up mt k g) := by
  intro j hj
  by_cases q : j = k
  · subst q
    refine ⟨L, hL, ?_, ?_, ?_, ?_, ?_⟩
    · unfold va_up; rw [if_pos rfl]; exact h1
    · rw [pk_us]; exact h2
    · unfold va_up; rw [if_pos rfl, pk_us]; exact h3
    · unfold va_up; rw [if_pos rfl]; exact h4
    · unfold va_up; rw [if_pos rfl, if_pos rfl]; exact h5
  · obtain ⟨L2, g1, g2, g3, g4, g5, g6⟩ := hA j hj
    refine ⟨L2, g1, ?_, ?_, ?_, ?_, ?_⟩
    · unfold va_up; rw [if_neg q]; exact g2
    · rw [pk_un q]; exact g3
    · unfold va_up; rw [if_neg q, pk_un q]; exact g4
    · unfold va_up; rw [if_neg q]; exact g5
    · unfold va_up; rw [if_neg q, if_neg q]; exact g6
theorem pz_A_it {k : Nat} {f g : Nat → Int64} (hA : pz_A so le it ms mz mt) (h5 : ∀ j, j < 60 → f j = g j) : pz_A so le (va_up it k f) ms mz (va_up mt k g) := by
  intro j hj
  obtain ⟨L2, g1, g2, g3, g4, g5, g6⟩ := hA j hj
  refine ⟨L2, g1, g2, g3, g4, g5, ?_⟩
  unfold va_up
  by_cases q : j = k
  · rw [if_pos q, if_pos q]; exact h5
  · rw [if_neg q, if_neg q]; exact g6
theorem pz_becomeRow {s l a1 a2 : Int32} {f : Nat → Int64} {Post : Int32 → Int32 → (Nat → Int64) → Prop} (h : ∀ g, (∀ j, j < 60 → g j = 0) → Post a1 a2 g) : wpX5_becomeRow s l f a1 a2 Post := by
  refine loop_0 (fun g i (x : Nat → Int64) => wpX5_becomeRow_B12 a1 a2 Post g (nI i) a1 a2 x) (fun i x => ∀ j, j < i → x j = 0) 60 f (fun j hj => absurd hj (by omega)) (fun n x hx => ?_) (fun n i x hi hx k => ?_)
  · rw [wpX5_becomeRow_B12]
    exact br_t (by decide) (h x hx)
  · rw [wpX5_becomeRow_B12]
    refine br_f (nI_ge (b := 60) hi (by decide)) ⟨vp_in_nI (by omega) (by decide), nm_r (nI_1 i) ?_⟩
    rw [nI_clamp (by omega)]
    refine k _ (fun j hj => ?_)
    by_cases q : j = i
    · rw [q, pk_uLs]
    · rw [pk_uLn q]; exact hx j (by omega)
theorem pz_tape72 {k : Nat} {a1 a2 a3 : Int32} {ms1 mz1 : Nat → Int32} {Post : Int32 → (Nat → Int32) → (Nat → Int32) → (Nat → Nat → Int64) → Prop} (hk : k < 6) (h1 : a1 = nI k) (h : ∀ g, (∀ j, j < 60 → g j = 0) → Post 1 ms1 mz1 (va_up mt k g)) : ∃ g : Nat, wpX8_tape_B72 a1 a2 a3 Post g 0 ms1 mz1 mt := by
  have e0 : mt = va_up mt k (mt k) := by
    funext j
    unfold va_up
    by_cases q : j = k
    · rw [if_pos q, q]
    · rw [if_neg q]
  rw [e0]
  refine loop_0 (fun g i (x : Nat → Int64) => wpX8_tape_B72 a1 a2 a3 Post g (nI i) ms1 mz1 (va_up mt k x)) (fun i x => ∀ j, j < i → x j = 0) 60 (mt k) (fun j hj => absurd hj (by omega)) (fun n x hx => ?_) (fun n i x hi hx kk => ?_)
  · rw [wpX8_tape_B72]
    exact br_t (by decide) (h x hx)
  · rw [wpX8_tape_B72, h1]
    refine br_f (nI_ge (b := 60) hi (by decide)) ⟨vp_in_nI hk (by decide), vp_in_nI (by omega) (by decide), nm_r (nI_1 i) ?_⟩
    rw [nI_clamp (by omega), nI_clamp (by omega), ← h1]
    have e1 : va_up (va_up mt k x) k (vp_updL (va_up mt k x k) i 0) = va_up mt k (vp_updL x i 0) := by
      funext j
      unfold va_up
      by_cases q : j = k
      · rw [if_pos q, if_pos q, if_pos rfl]
      · rw [if_neg q, if_neg q, if_neg q]
    rw [e1]
    refine kk _ (fun j hj => ?_)
    by_cases q : j = i
    · rw [q, pk_uLs]
    · rw [pk_uLn q]; exact hx j (by omega)
theorem pc_tape {a1 a2 a3 : Int32} (hA : pz_A so le it ms mz mt) : wpX7_tape so le it a1 a2 a3 (fun r so1 le1 it1 => wpX8_tape ms mz mt a1 a2 a3 (fun r2 ms1 mz1 mt1 => r2 = r ∧ pz_A so1 le1 it1 ms1 mz1 mt1)) := by
  rcases pz_tp a1 with ⟨k, hk, rfl⟩ | b1
  · refine pz_isTape7_y hk (bq_f pz_n10 ?_)
    by_cases c0 : a2 = -1
    · subst c0
      refine bq_t rfl ⟨vp_in_nI hk (by decide), pz_becomeRow (fun g hg => ?_)⟩
      refine pz_isTape8_y hk (bq_f pz_n10 (pz_rng (lo := -1) (hi := 4) rfl rfl (fun q => absurd q (by decide)) (fun _ _ => br_f pz_n10 (br_t (by decide) (br_t (by decide) ⟨vp_in_nI hk (by decide), br_f (by decide) ⟨vp_in_nI hk (by decide), ?_⟩⟩)))))
      refine pz_tape72 hk rfl (fun g2 hg2 => ⟨rfl, ?_⟩)
      rw [nI_clamp (by omega)]
      exact pz_A_up hA (L := 0) (by omega) rfl rfl rfl (Or.inl ⟨rfl, rfl⟩) (fun j hj => by rw [hg j hj, hg2 j hj])
    refine bq_f c0 ?_
    by_cases c1 : a2 < 0
    · refine br_t c1 (pz_isTape8_y hk (bq_f pz_n10 (pz_rng (lo := -1) (hi := 4) rfl rfl (fun _ => br_t rfl ⟨rfl, hA⟩) (fun q1 _ => ?_))))
      exfalso
      rw [fa_lt] at c1 q1
      rw [fa_eq] at c0
      have c1 : a2.toInt < 0 := c1
      have q1 : ¬ a2.toInt < -1 := q1
      have c0 : ¬ a2.toInt = -1 := c0
      omega
    by_cases c2 : 4 < a2
    · exact br_f c1 (br_t c2 (pz_isTape8_y hk (bq_f pz_n10 (pz_rng (lo := -1) (hi := 4) rfl rfl (fun _ => br_t rfl ⟨rfl, hA⟩) (fun _ q => absurd c2 q)))))
    have hr : (a2 < -1 ∨ 4 < a2) → False := by
      rintro (q | q)
      · rw [fa_lt] at c1 q
        have c1 : ¬ a2.toInt < 0 := c1
        have q : a2.toInt < -1 := q
        omega
      · exact c2 q
    have hs : a2 = 0 ∨ a2 = 1 ∨ a2 = 2 ∨ a2 = 3 ∨ a2 = 4 := by
      rw [fa_lt] at c1 c2
      simp only [fa_eq]
      have c1 : ¬ a2.toInt < 0 := c1
      have c2 : ¬ 4 < a2.toInt := c2
      show a2.toInt = 0 ∨ a2.toInt = 1 ∨ a2.toInt = 2 ∨ a2.toInt = 3 ∨ a2.toInt = 4
      omega
    obtain ⟨s1, s2, s3⟩ := pz_sort hs
    refine br_f c1 (br_f c2 ?_)
    have go8 : ∀ {Q : Int32 → (Nat → Int32) → (Nat → Int32) → (Nat → Nat → Int64) → Prop}, ((a3 ≤ 60 → wpX8_tape_B36 (nI k) a2 a3 Q ms mz mt) ∧ (¬ a3 ≤ 60 → Q (-2) ms mz mt)) → wpX8_tape ms mz mt (nI k) a2 a3 Q :=
      fun hq => pz_isTape8_y hk (bq_f pz_n10 (pz_rng (lo := -1) (hi := 4) rfl rfl (fun q => (hr q).elim) (fun _ _ => br_f pz_n10 (br_f s1 hq))))
    refine br_c (fun c3 => br_c (fun c4 => ⟨vp_in_nI hk (by decide), pz_becomeRow (fun g hg => go8 (br_t c3 (br_f s1 (br_t c4 ⟨vp_in_nI hk (by decide), br_t s2 ⟨vp_in_nI hk (by decide), ?_⟩⟩))))⟩) (fun c4 => go8 (br_t c3 (br_f s1 (br_f c4 ⟨rfl, hA⟩))))) (fun c3 => go8 (br_f c3 ⟨rfl, hA⟩))
    obtain ⟨L, hL, rfl⟩ := nI_of2 (n := 60) rfl (show ¬ a3 < 0 by rw [fa_le] at c4; rw [fa_lt]; omega) c3
    refine pz_tape72 hk rfl (fun g2 hg2 => ⟨rfl, ?_⟩)
    rw [nI_clamp (by omega)]
    exact pz_A_up hA (L := L) hL rfl rfl rfl (Or.inr hs) (fun j hj => by rw [hg j hj, hg2 j hj])
  · exact pz_isTape7_n b1 (bq_t rfl (pz_isTape8_n b1 (bq_t rfl ⟨rfl, hA⟩)))
theorem pz_hasPlace {L : Nat} {a : Int32} {Post : Int32 → Prop} (hL : L ≤ 60) (h1 : ∀ q, q < L → a = nI q → Post 1) (h0 : (a < 0 ∨ nI L ≤ a) → Post 0) : wpX5_hasPlace (nI L) a Post := by
  refine br_c (fun c => h0 (Or.inl c)) (fun c => br_c (fun c2 => h0 (Or.inr c2)) (fun c2 => ?_))
  obtain ⟨q, hq, rfl⟩ := nI_of c
  rw [nI_leI (by omega) (by omega)] at c2
  exact h1 q (by omega) rfl
theorem pz_place8 {L : Nat} {a : Int32} {Post : Int32 → Prop} (hL : L ≤ 60) (h1 : ∀ q, q < L → a = nI q → Post 1) (h0 : (a < 0 ∨ nI L ≤ a) → Post 0) : wpX8_in a.toInt64 0 ((nI L - 1).toInt64) Post := by
  have e : (nI L - 1).toInt = (L : Int) - 1 := pz_subI (v := 1) hL (by decide)
  refine pz_rng (lo := 0) (hi := nI L - 1) rfl rfl (fun c => h0 ?_) (fun c1 c2 => ?_)
  · rcases c with c | c
    · exact Or.inl c
    · refine Or.inr ?_
      rw [fa_lt, e] at c
      rw [fa_le, nI_toInt (by omega)]
      omega
  · obtain ⟨q, hq, rfl⟩ := nI_of c1
    rw [fa_lt, e, nI_toInt hq] at c2
    exact h1 q (by omega) rfl
def pz_fv (s : Int32) (v : Int64) : Int64 := if s = 0 then v.toInt32.toInt8.toInt32.toInt64 else if s = 1 then v.toInt32.toInt16.toInt32.toInt64 else if s = 2 then v.toInt32.toInt64 else if s = 3 then v else if v = 0 then 0 else 1
theorem pz_asItem {s : Int32} {v : Int64} {Post : Int64 → Prop} (hs : s = 0 ∨ s = 1 ∨ s = 2 ∨ s = 3 ∨ s = 4) (h : Post (pz_fv s v)) : wpX5_asItem s v Post := by
  unfold pz_fv at h
  rcases hs with rfl | rfl | rfl | rfl | rfl
  · exact ⟨fun q => absurd q (by decide), fun _ => h, fun q => absurd q (by decide), fun q => absurd q (by decide), fun q => absurd q (by decide), fun q => absurd q (by decide)⟩
  · exact ⟨fun q => absurd q (by decide), fun q => absurd q (by decide), fun _ => h, fun q => absurd q (by decide), fun q => absurd q (by decide), fun q => absurd q (by decide)⟩
  · exact ⟨fun q => absurd q (by decide), fun q => absurd q (by decide), fun q => absurd q (by decide), fun _ => h, fun q => absurd q (by decide), fun q => absurd q (by decide)⟩
  · exact ⟨fun q => absurd q (by decide), fun q => absurd q (by decide), fun q => absurd q (by decide), fun q => absurd q (by decide), fun _ => h, fun q => absurd q (by decide)⟩
  · refine ⟨fun q => absurd q (by decide), fun q => absurd q (by decide), fun q => absurd q (by decide), fun q => absurd q (by decide), fun q => absurd q (by decide), fun _ => ?_⟩
    rw [if_neg (by decide), if_neg (by decide), if_neg (by decide), if_neg (by decide)] at h
    rw [lg_cmp_eq]
    refine br_c (fun c => ?_) (fun c => ?_)
    · rw [if_pos c] at h; exact h
    · rw [if_neg c] at h; exact h
theorem pz_fit {s : Int32} {v : Int64} {Post : Int64 → Prop} (hs : s = 0 ∨ s = 1 ∨ s = 2 ∨ s = 3 ∨ s = 4) (h : Post (pz_fv s v)) : wpX8_fit s v Post := by
  unfold pz_fv at h
  rcases hs with rfl | rfl | rfl | rfl | rfl
  · exact ⟨fun q => absurd q (by decide), fun _ => h, fun q => absurd q (by decide), fun q => absurd q (by decide), fun q => absurd q (by decide)⟩
  · exact ⟨fun q => absurd q (by decide), fun q => absurd q (by decide), fun _ => h, fun q => absurd q (by decide), fun q => absurd q (by decide)⟩
  · exact ⟨fun q => absurd q (by decide), fun q => absurd q (by decide), fun q => absurd q (by decide), fun _ => h, fun q => absurd q (by decide)⟩
  · exact ⟨fun q => absurd q (by decide), fun q => absurd q (by decide), fun q => absurd q (by decide), fun q => absurd q (by decide), fun _ => h⟩
  · refine ⟨fun _ => ?_, fun q => absurd q (by decide), fun q => absurd q (by decide), fun q => absurd q (by decide), fun q => absurd q (by decide)⟩
    rw [if_neg (by decide), if_neg (by decide), if_neg (by decide), if_neg (by decide)] at h
    rw [lg_cmp_eq]
    refine br_c (fun c => ?_) (fun c => ?_)
    · rw [if_pos c] at h; exact h
    · rw [if_neg c] at h; exact h
theorem pc_item {a1 a2 : Int32} {v : Int64} (hA : pz_A so le it ms mz mt) : wpX7_item so le it a1 a2 v (fun r it1 => wpX8_item ms mz mt a1 a2 v (fun r2 mt1 => r2 = r ∧ pz_A so le it1 ms mz mt1)) := by
  rcases pz_tp a1 with ⟨k, hk, rfl⟩ | b1
  · obtain ⟨L, hL, e1, e2, e3, e4, e5⟩ := hA k hk
    refine pz_isTape7_y hk (bq_f pz_n10 ⟨vp_in_nI hk (by decide), ?_⟩)
    rw [nI_clamp (by omega)]
    have go8 : ∀ {Q : Int32 → (Nat → Nat → Int64) → Prop}, ((0 ≤ so k → vp_in (nI k) 6 ∧ (wpX8_in a2.toInt64 0 ((nI L - 1).toInt64) (fun (r6 : Int32) => ((¬ r6 = 0 → (vp_in (nI k) 6) ∧ ((vp_in (nI k) 6) ∧ (wpX8_fit (so k) v (fun (r11 : Int64) => (vp_in a2 60) ∧ (Q 1 (va_up mt k (vp_updL (mt k) a2.toNatClampNeg r11))))))) ∧ (r6 = 0 → Q (-13) mt))))) ∧ (¬ 0 ≤ so k → Q (-11) mt)) → wpX8_item ms mz mt (nI k) a2 v Q := by
      intro Q hq
      refine pz_isTape8_y hk (bq_f pz_n10 ⟨vp_in_nI hk (by decide), ?_⟩)
      rw [nI_clamp (by omega), e3, e2]
      exact hq
    rcases e4 with ⟨e4, -⟩ | e4
    · exact bq_t e4 (go8 (br_f (by rw [e4]; decide) ⟨rfl, hA⟩))
    · obtain ⟨s1, s2, s3⟩ := pz_sort e4
      refine bq_f s3 ⟨vp_in_nI hk (by decide), ?_⟩
      rw [e1]
      refine pz_hasPlace hL (fun q hq e => bq_f pz_n10 ⟨vp_in_nI hk (by decide), vp_in_nI hk (by decide), pz_asItem e4 ⟨by rw [e]; exact vp_in_nI (by omega) (by decide), ?_⟩⟩) (fun hb => bq_t rfl ?_)
      · refine go8 (br_t s2 ⟨vp_in_nI hk (by decide), pz_place8 hL (fun q2 hq2 e2 => bq_f pz_n10 ⟨vp_in_nI hk (by decide), vp_in_nI hk (by decide), pz_fit e4 ⟨by rw [e]; exact vp_in_nI (by omega) (by decide), rfl, ?_⟩⟩) (fun hb => ?_)⟩)
        · refine pz_A_it hA (fun j hj => ?_)
          by_cases qj : j = a2.toNatClampNeg
          · rw [qj, pk_uLs, pk_uLs]
          · rw [pk_uLn qj, pk_uLn qj]; exact e5 j hj
        · exfalso
          rw [e] at hb
          rcases hb with hb | hb
          · exact nI_pos (by omega) hb
          · rw [nI_leI (by omega) (by omega)] at hb; omega
      · refine go8 (br_t s2 ⟨vp_in_nI hk (by decide), pz_place8 hL (fun q2 hq2 e2 => ?_) (fun _ => bq_t rfl ⟨rfl, hA⟩)⟩)
        exfalso
        rw [e2] at hb
        rcases hb with hb | hb
        · exact nI_pos (by omega) hb
        · rw [nI_leI (by omega) (by omega)] at hb; omega
  · exact pz_isTape7_n b1 (bq_t rfl (pz_isTape8_n b1 (bq_t rfl ⟨rfl, hA⟩)))
theorem pc_peek {a1 a2 : Int32} (hA : pz_A so le it ms mz mt) : wpX7_peek le it a1 a2 (fun r => wpX8_peek ms mz mt a1 a2 (fun r2 => r2 = r)) := by
  rcases pz_tp a1 with ⟨k, hk, rfl⟩ | b1
  · obtain ⟨L, hL, e1, e2, e3, e4, e5⟩ := hA k hk
    refine pz_isTape7_y hk (br_f pz_n10 ⟨vp_in_nI hk (by decide), ?_⟩)
    rw [nI_clamp (by omega), e1]
    have go8 : ∀ {Q : Int64 → Prop}, ((so k < 0 → Q (-9223372036854775808)) ∧ (¬ so k < 0 → vp_in (nI k) 6 ∧ (wpX8_in a2.toInt64 0 ((nI L - 1).toInt64) (fun (r6 : Int32) => ((r6 = 0 → Q (-9223372036854775808)) ∧ (¬ r6 = 0 → (vp_in (nI k) 6) ∧ ((vp_in a2 60) ∧ (Q (mt k a2.toNatClampNeg))))))))) → wpX8_peek ms mz mt (nI k) a2 Q := by
      intro Q hq
      refine pz_isTape8_y hk (br_f pz_n10 ⟨vp_in_nI hk (by decide), ?_⟩)
      rw [nI_clamp (by omega), e3, e2]
      exact hq
    refine pz_hasPlace hL (fun q hq e => bq_f pz_n10 ⟨vp_in_nI hk (by decide), by rw [e]; exact vp_in_nI (by omega) (by decide), ?_⟩) (fun hb => bq_t rfl ?_)
    · rcases e4 with ⟨e4, e6⟩ | e4
      · omega
      · obtain ⟨s1, s2, s3⟩ := pz_sort e4
        refine go8 (br_f s1 ⟨vp_in_nI hk (by decide), pz_place8 hL (fun q2 hq2 _ => br_f pz_n10 ⟨vp_in_nI hk (by decide), by rw [e]; exact vp_in_nI (by omega) (by decide), ?_⟩) (fun hb => ?_)⟩)
        · rw [e, nI_clamp (by omega)]; exact (e5 q (by omega)).symm
        · exfalso
          rw [e] at hb
          rcases hb with hb | hb
          · exact nI_pos (by omega) hb
          · rw [nI_leI (by omega) (by omega)] at hb; omega
    · refine go8 (br_c (fun _ => rfl) (fun _ => ⟨vp_in_nI hk (by decide), pz_place8 hL (fun q2 hq2 e2 => ?_) (fun _ => br_t rfl rfl)⟩))
      exfalso
      rw [e2] at hb
      rcases hb with hb | hb
      · exact nI_pos (by omega) hb
      · rw [nI_leI (by omega) (by omega)] at hb; omega
  · exact pz_isTape7_n b1 (br_t rfl (pz_isTape8_n b1 (br_t rfl rfl)))
end PZQ
