/-! the most, the other way round; who can't all have one -/
theorem pz_1sh {N : Nat} (hN : N ≤ 8) : ((1 : Int32) <<< (nI N &&& 31)) = nI (2 ^ N) := by
  have : ∀ N, N ≤ 8 → ((1 : Int32) <<< (nI N &&& 31)) = nI (2 ^ N) := by decide +kernel
  exact this N hN
theorem pz_1sh1 {N : Nat} (hN : N ≤ 8) : ((1 : Int32) <<< (nI N &&& 31)) - 1 = nI (2 ^ N - 1) := by
  have : ∀ N, N ≤ 8 → ((1 : Int32) <<< (nI N &&& 31)) - 1 = nI (2 ^ N - 1) := by decide +kernel
  exact this N hN
section PZO
variable {N : Nat} {w : Nat → Nat → Int32} {W : Nat → Int32} {B : Int}
def pz_QA (N : Nat) (w : Nat → Nat → Int32) (j S i v : Nat) : Prop := ∃ t u, t < i ∧ S.testBit t = false ∧ w (N - (j + 1)) t ≠ -1 ∧ pz_Qb N w j (S ||| 2 ^ t) u ∧ v = (w (N - (j + 1)) t).toInt.toNat + u
theorem pz_most8 {mb : Nat → Int32} {Post : Int32 → (Nat → Int32) → Prop} (hW : pz_ww W w) (hN : N ≤ 8) (hN1 : 1 ≤ N) (hw : pz_wb w) (h : ∀ o mb1, pz_mx (pz_Qb N w N 0) o → Post (pz_en (-5) o) mb1) : wpX8_most (nI N) W mb Post := by
  have h256 := pz_2N hN
  have h2 : 2 ≤ 2 ^ N := Nat.pow_le_pow_right (n := 2) (i := 1) (by decide) hN1
  refine nm_r (pz_1sh1 hN) ⟨2 ^ N + 1, ?_⟩
  have key := pz_dn (fun g i (s : Nat → Int32) => wpX8_most_B11 (nI N) W Post g (nI (2 ^ N - 1)) (nI i - 1) s) (fun i s => i ≤ 2 ^ N ∧ ∀ S, i ≤ S → S < 2 ^ N → ∃ o, pz_mx (pz_Qb N w (N - pz_pc S) S) o ∧ s S = pz_en (-1) o) (fun n s hs => ?_) (fun n i s hs kk => ?_) (2 ^ N) mb ⟨Nat.le_refl _, fun S h1 h2 => absurd h1 (by omega)⟩
  · have e1 : nI (2 ^ N) - 1 = nI (2 ^ N - 1) := by
      obtain ⟨M, hM⟩ : ∃ M, 2 ^ N = M + 1 := ⟨2 ^ N - 1, by omega⟩
      rw [hM, nI_pred]; rfl
    rw [e1] at key
    exact key
  · rw [wpX8_most_B11]
    obtain ⟨o, ho, e⟩ := hs.2 0 (Nat.le_refl _) (by omega)
    have hp0 : N - pz_pc 0 = N := by
      have : pz_pc 0 = 0 := by decide +kernel
      omega
    rw [hp0] at ho
    refine br_t (show nI 0 - 1 < 0 by decide) ⟨vp_in_nI (n := 0) (by decide) (by decide), ?_⟩
    show (0 ≤ s 0 → _) ∧ (¬ 0 ≤ s 0 → _)
    rw [e]
    cases o with
    | none => exact br_f (show ¬ (0 : Int32) ≤ -1 by decide) (h none s ho)
    | some m =>
      have := pz_Q_le hN hw N _ _ (Nat.le_refl _) ho.1
      refine br_t (show (0 : Int32) ≤ nI m from nI_pos' (by omega)) ⟨vp_in_nI (n := 0) (by decide) (by decide), ?_⟩
      show Post (s 0) s
      rw [e]
      exact h (some m) s ho
  · obtain ⟨hi, hS⟩ := hs
    rw [wpX8_most_B11, nI_pred]
    have hdec : nI i + (-1) = nI i - 1 := (Int32.sub_eq_add_neg _ _).symm
    refine br_f (nI_pos (by omega)) (pz_bits (by omega) (bq_c (fun c => ?_) (fun c => ?_)))
    · have hia : i < 2 ^ N - 1 := by
        by_cases q : i = 2 ^ N - 1
        · exact absurd (congrArg nI q) c
        · omega
      have hpl := pz_pcm N hN i hia
      obtain ⟨j, hj⟩ : ∃ j, N - pz_pc i = j + 1 := ⟨N - pz_pc i - 1, by omega⟩
      have hjp : N - (j + 1) = pz_pc i := by omega
      refine ⟨vp_in_nI (by omega) (by decide), ?_⟩
      rw [nI_clamp (by omega)]
      refine loop_0 (fun g t (s : Nat → Int32) => wpX8_most_B39 (nI N) W (wpX8_most_B11 (nI N) W Post n) Post g (nI (2 ^ N - 1)) (nI i) (nI (pz_pc i)) (nI t) s) (fun t s => (∀ S, i + 1 ≤ S → S < 2 ^ N → ∃ o, pz_mx (pz_Qb N w (N - pz_pc S) S) o ∧ s S = pz_en (-1) o) ∧ ∃ o, pz_mx (pz_QA N w j i t) o ∧ s i = pz_en (-1) o) N (upd s i (-1)) ⟨fun S h1 h2 => by rw [pk_un (by omega)]; exact hS S h1 h2, none, fun v ⟨t, u, ht, _⟩ => absurd ht (by omega), pk_us⟩ (fun m s1 hs1 => ?_) (fun m t s1 ht hs1 k2 => ?_)
      · obtain ⟨h3, o, h4, h5⟩ := hs1
        rw [wpX8_most_B39]
        refine br_t (nI_le (Nat.le_refl _) (by omega)) (nm_r hdec (kk s1 ⟨by omega, fun S h6 h7 => ?_⟩))
        by_cases q : S = i
        · subst q; exact ⟨o, by rw [hj]; exact h4, h5⟩
        · exact h3 S (by omega) h7
      · obtain ⟨h3, o, h4, h5⟩ := hs1
        rw [wpX8_most_B39]
        have same : (∀ u, ¬ (i.testBit t = false ∧ w (N - (j + 1)) t ≠ -1 ∧ pz_Qb N w j (i ||| 2 ^ t) u)) → wpX8_most_B125 (nI N) W (wpX8_most_B39 (nI N) W (wpX8_most_B11 (nI N) W Post n) Post m) (wpX8_most_B11 (nI N) W Post n) Post (nI (2 ^ N - 1)) (nI i) (nI (pz_pc i)) (nI t) s1 := by
          intro hno
          refine nm_r (nI_1 t) (k2 _ ⟨h3, o, pz_mx_iff (fun v => ?_) h4, h5⟩)
          constructor
          · rintro ⟨t2, u, q1, q2⟩; exact ⟨t2, u, by omega, q2⟩
          · rintro ⟨t2, u, q1, q2, q3, q4, q5⟩
            by_cases q : t2 = t
            · subst q; exact absurd ⟨q2, q3, q4⟩ (hno u)
            · exact ⟨t2, u, by omega, q2, q3, q4, q5⟩
        refine br_f (nI_ge ht (by omega)) (br_f c ?_)
        rw [pz_ct2 i (by omega) t (by omega)]
        refine bq_c (fun c2 => same (fun u hu => c2 (by rw [hu.1]; rfl))) (fun c2 => ?_)
        have c1 : i.testBit t = false := by
          cases hb : i.testBit t with
          | false => rfl
          | true => rw [hb] at c2; exact absurd c2 (by decide)
        obtain ⟨hx1, hx2⟩ := pz_pco i (by omega) t (by omega) c1
        have hlt : i ||| 2 ^ t < 2 ^ N := Nat.or_lt_two_pow (by omega) (Nat.pow_lt_pow_right (by decide) ht)
        refine pz_may hW (by omega) (by omega) (fun c3 => br_t rfl (same (fun u hu => hu.2.1 (by rw [hjp]; exact c3)))) (fun c3 => br_f pz_n10 ?_)
        rw [pz_sh t (by omega), fa_or]
        refine ⟨vp_in_nI (by omega) (by decide), ?_⟩
        rw [nI_clamp (by omega)]
        obtain ⟨o2, ho2, e2⟩ := h3 _ (by omega) hlt
        have hk2 : N - pz_pc (i ||| 2 ^ t) = j := by omega
        rw [hk2] at ho2
        rw [e2]
        cases o2 with
        | none => exact br_t (show (-1 : Int32) < 0 by decide) (same (fun u hu => ho2 u hu.2.2))
        | some b2 =>
          have hm := pz_Q_le hN hw j _ _ (by omega) ho2.1
          obtain ⟨w1, w2⟩ := pz_wNI hw (p := pz_pc i) (t := t) (by omega) (by omega) c3
          refine br_f (show ¬ nI b2 < 0 from nI_pos (by omega)) ⟨vp_in_nI (by omega) (by decide), by rw [pz_8]; exact vp_in_nI (by omega) (by decide), vp_in_nI (by omega) (by decide), vp_in_nI (by omega) (by decide), ?_⟩
          rw [pz_8, nI_clamp (by omega), nI_clamp (by omega), (hW (pz_pc i) t (by omega) (by omega)).1]
          have ea : w (pz_pc i) t + pz_en (-1) (some b2) = nI ((w (pz_pc i) t).toInt.toNat + b2) := by
            show w (pz_pc i) t + nI b2 = _
            rw [← nI_add, ← w1]
          rw [ea, h5]
          have hwe : w (pz_pc i) t = w (N - (j + 1)) t := by rw [hjp]
          rw [hwe] at ea c3 w1 w2 ⊢
          refine nm_r (nI_1 t) (k2 _ ⟨fun S h6 h7 => by rw [pk_un (by omega)]; exact h3 S h6 h7, ?_⟩)
          rw [pk_us]
          cases o with
          | none =>
            refine ⟨some ((w (N - (j + 1)) t).toInt.toNat + b2), ⟨⟨t, b2, by omega, c1, c3, ho2.1, rfl⟩, ?_⟩, if_pos (show (-1 : Int32) < nI ((w (N - (j + 1)) t).toInt.toNat + b2) from ?_)⟩
            · rintro v ⟨t2, u, q1, q2, q3, q4, q5⟩
              by_cases q : t2 = t
              · subst q; have := ho2.2 u q4; omega
              · exact absurd ⟨t2, u, by omega, q2, q3, q4, q5⟩ (h4 v)
            · rw [fa_lt, nI_toInt (by omega)]; show (-1 : Int) < _; omega
          | some b =>
            have hb : b ≤ 99 * (j + 1) := by
              obtain ⟨t2, u, q1, q2, q3, q4, q5⟩ := h4.1
              have := pz_Q_le hN hw j _ _ (by omega) q4
              have := (pz_wNI hw (p := N - (j + 1)) (t := t2) (by omega) (by omega) q3).2
              omega
            show ∃ o, pz_mx (pz_QA N w j i (t + 1)) o ∧ (if nI b < nI ((w (N - (j + 1)) t).toInt.toNat + b2) then nI ((w (N - (j + 1)) t).toInt.toNat + b2) else nI b) = pz_en (-1) o
            by_cases q : b < (w (N - (j + 1)) t).toInt.toNat + b2
            · rw [if_pos (nI_lt q (by omega))]
              refine ⟨some ((w (N - (j + 1)) t).toInt.toNat + b2), ⟨⟨t, b2, by omega, c1, c3, ho2.1, rfl⟩, ?_⟩, rfl⟩
              rintro v ⟨t2, u, q1, q2, q3, q4, q5⟩
              by_cases q : t2 = t
              · subst q; have := ho2.2 u q4; omega
              · have := h4.2 v ⟨t2, u, by omega, q2, q3, q4, q5⟩; omega
            · rw [if_neg (nI_nlt (by omega) (by omega))]
              refine ⟨some b, ⟨?_, ?_⟩, rfl⟩
              · obtain ⟨t2, u, q1, q2⟩ := h4.1; exact ⟨t2, u, by omega, q2⟩
              · rintro v ⟨t2, u, q1, q2, q3, q4, q5⟩
                by_cases q : t2 = t
                · subst q; have := ho2.2 u q4; omega
                · exact h4.2 v ⟨t2, u, by omega, q2, q3, q4, q5⟩
    · have hia : i = 2 ^ N - 1 := (nI_eq (by omega) (by omega)).mp c
      refine ⟨vp_in_nI (by omega) (by decide), 1, ?_⟩
      rw [wpX8_most_B39, nI_clamp (by omega)]
      refine br_f (nI_ge (a := 0) (by omega) (by omega)) (br_t c (nm_r hdec (kk _ ⟨by omega, fun S h1 h2 => ?_⟩)))
      have e : S = i := by omega
      subst e
      refine ⟨some 0, ?_, pk_us⟩
      rw [hia, pz_pcN N hN, Nat.sub_self]
      exact ⟨⟨rfl, rfl⟩, fun v hv => by rw [hv.2]; exact Nat.le_refl _⟩
theorem pc_most {su mb : Nat → Int32} (hW : pz_ww W w) (hN : N ≤ 8) (hN1 : 1 ≤ N) (hw : pz_wb w) : wpX3_mostWorth su (nI N) w (fun r su1 => wpX8_most (nI N) W mb (fun r2 mb1 => r2 = r)) := by
  refine pz_mostWorth hN hN1 hw (fun o su1 ho => pz_most8 hW hN hN1 hw (fun o2 mb1 ho2 => ?_))
  rw [pz_mx_uni (pz_mx_iff (fun v => pz_PQ0 v) ho2) ho]
/-! those who can't all have one -/
def pz_un (N : Nat) (w : Nat → Nat → Int32) (S : Nat) : Nat → Nat
  | 0 => 0
  | k + 1 => if S.testBit k then pz_un N w S k ||| pz_om (pz_al w k) N else pz_un N w S k
theorem pz_un8 (hN : N ≤ 8) (S : Nat) : ∀ k, pz_un N w S k < 256
  | 0 => by rw [pz_un]; decide
  | k + 1 => by
    have ih := pz_un8 hN S k
    rw [pz_un]
    split
    · exact Nat.or_lt_two_pow (n := 8) ih (pz_om8 _ hN)
    · exact ih
theorem pz_allowedToSome {S : Nat} {Post : Int32 → Prop} (hN : N ≤ 8) (h : Post (nI (pz_un N w S N))) : wpX3_allowedToSome (nI N) w (nI S) Post := by
  refine loop_0 (fun g i (s : Nat) => wpX3_allowedToSome_B5 (nI N) w (nI S) Post g (nI s) (nI i)) (fun i s => s = pz_un N w S i) N 0 rfl (fun n s hs => ?_) (fun n i s hi hs k => ?_)
  · rw [hs, wpX3_allowedToSome_B5]
    exact br_t (nI_le (Nat.le_refl _) (by omega)) h
  · rw [hs, wpX3_allowedToSome_B5, pz_sh i (by omega)]
    refine br_f (nI_ge hi (by omega)) (br_c (fun c => nm_r (nI_1 i) (k _ ?_)) (fun c => pz_allowedTo hN (by omega) (nm_r (fa_or _ _) (nm_r (nI_1 i) (k _ ?_)))))
    · rw [fa_bit (by omega)] at c
      rw [pz_un, c, if_neg (by decide)]
    · rw [fa_bit (by omega)] at c
      have c1 : S.testBit i = true := by
        cases hb : S.testBit i with
        | true => rfl
        | false => exact absurd hb c
      rw [pz_un, c1, if_pos rfl]
def pz_bad (N : Nat) (w : Nat → Nat → Int32) (S : Nat) : Prop := pz_pc (pz_un N w S N) < pz_pc S
/-- the least of the sets (from a on, below b) that lack, fewest first; 0: none does -/
def pz_lk (N : Nat) (w : Nat → Nat → Int32) (a b L : Nat) : Prop := (L = 0 ∧ ∀ R, a ≤ R → R < b → ¬ pz_bad N w R) ∨ (1 ≤ L ∧ a ≤ L ∧ L < b ∧ pz_bad N w L ∧ ∀ R, a ≤ R → R < b → pz_bad N w R → (pz_pc L < pz_pc R ∨ (pz_pc L = pz_pc R ∧ L ≤ R)))
theorem pz_lk_uni {a b L M : Nat} (h : pz_lk N w a b L) (h2 : pz_lk N w a b M) : L = M := by
  rcases h with ⟨e, h⟩ | ⟨h1, h3, h4, h5, h6⟩
  · rcases h2 with ⟨e2, _⟩ | ⟨g1, g3, g4, g5, _⟩
    · omega
    · exact absurd g5 (h M g3 g4)
  · rcases h2 with ⟨_, g⟩ | ⟨g1, g3, g4, g5, g6⟩
    · exact absurd h5 (g L h3 h4)
    · have := h6 M g3 g4 g5
      have := g6 L h3 h4 h5
      omega
theorem pz_leastLacking {Post : Int32 → Prop} (hN : N ≤ 8) (h : ∀ L, pz_lk N w 1 (2 ^ N) L → Post (nI L)) : wpX3_leastLacking (nI N) w Post := by
  have h256 := pz_2N hN
  have h2 : 1 ≤ 2 ^ N := Nat.one_le_two_pow
  refine nm_r (pz_1sh hN) ?_
  have key : ∀ d S L, S + d = 2 ^ N → 1 ≤ S → pz_lk N w 1 S L → wpX3_leastLacking_B12 (nI N) w Post (d + 1) (nI L) (nI (2 ^ N)) (nI S) := by
    intro d
    induction d with
    | zero =>
      intro S L hd h1 hL
      have e : S = 2 ^ N := by omega
      subst e
      rw [wpX3_leastLacking_B12]
      exact br_t (nI_le (Nat.le_refl _) (by omega)) (h L hL)
    | succ d ih =>
      intro S L hd h1 hL
      have hL256 : L < 256 := by
        rcases hL with ⟨e, _⟩ | ⟨_, _, h3, _⟩ <;> omega
      have keep : (¬ pz_bad N w S ∨ (1 ≤ L ∧ pz_pc L ≤ pz_pc S)) → wpX3_leastLacking_B68 (nI N) w (wpX3_leastLacking_B12 (nI N) w Post (d + 1)) Post (nI L) (nI (2 ^ N)) (nI S) := by
        intro hk
        refine nm_r (nI_1 S) (ih (S + 1) L (by omega) (by omega) ?_)
        rcases hL with ⟨e, h3⟩ | ⟨h3, h4, h5, h6, h7⟩
        · refine Or.inl ⟨e, fun R h8 h9 => ?_⟩
          by_cases q : R = S
          · rcases hk with hk | hk
            · rw [q]; exact hk
            · omega
          · exact h3 R h8 (by omega)
        · refine Or.inr ⟨h3, h4, by omega, h6, fun R h8 h9 h10 => ?_⟩
          by_cases q : R = S
          · rcases hk with hk | hk
            · rw [q] at h10; exact absurd h10 hk
            · rw [q]; omega
          · exact h7 R h8 (by omega) h10
      have look : (L = 0 ∨ pz_pc S < pz_pc L) → wpX3_leastLacking_B38 (nI N) w (wpX3_leastLacking_B12 (nI N) w Post (d + 1)) Post (nI L) (nI (2 ^ N)) (nI S) (nI (pz_pc S)) := by
        intro hk
        refine br_f pz_n10 (pz_allowedToSome hN (pz_bc _ (pz_un8 hN S N) _ ?_))
        have hpl : pz_pc S ≤ 8 := fb_ct_le _ _
        have hpl2 : pz_pc (pz_un N w S N) ≤ 8 := fb_ct_le _ _
        refine br_c (fun c => keep (Or.inl ?_)) (fun c => nm_r (nI_1 S) (ih (S + 1) S (by omega) (by omega) (Or.inr ⟨h1, h1, by omega, ?_, fun R h8 h9 h10 => ?_⟩)))
        · rw [nI_leI (by omega) (by omega)] at c
          unfold pz_bad; omega
        · rw [nI_leI (by omega) (by omega)] at c
          unfold pz_bad; omega
        · by_cases q : R = S
          · rw [q]; omega
          · rcases hL with ⟨e, h3⟩ | ⟨h3, h4, h5, h6, h7⟩
            · exact absurd h10 (h3 R h8 (by omega))
            · have := h7 R h8 (by omega) h10
              omega
      rw [wpX3_leastLacking_B12]
      refine br_f (nI_ge (by omega) (by omega)) (pz_bc S (by omega) _ (br_c (fun c => look (Or.inl ?_)) (fun c => pz_bc L (by omega) _ ?_)))
      · exact (nI_eq (b := 0) (by omega) (by decide)).mp c
      have hpl : pz_pc S ≤ 8 := fb_ct_le _ _
      have hpl2 : pz_pc L ≤ 8 := fb_ct_le _ _
      refine br_c (fun c2 => br_t rfl (keep (Or.inr ⟨?_, ?_⟩))) (fun c2 => look (Or.inr ?_))
      · by_cases q : L = 0
        · subst q; exact absurd rfl c
        · omega
      · rw [nI_leI (by omega) (by omega)] at c2; exact c2
      · rw [nI_leI (by omega) (by omega)] at c2; omega
  exact ⟨(2 ^ N - 1) + 1, key (2 ^ N - 1) 1 0 (by omega) (Nat.le_refl _) (Or.inl ⟨rfl, fun R h1 h2 => absurd h1 (by omega)⟩)⟩
theorem pz_lack {Post : Int32 → Prop} (hW : pz_ww W w) (hN : N ≤ 8) (h : ∀ L, pz_lk N w 1 (2 ^ N) L → Post (nI L)) : wpX8_lack (nI N) W Post := by
  have h256 := pz_2N hN
  have h2 : 1 ≤ 2 ^ N := Nat.one_le_two_pow
  refine nm_r (pz_1sh1 hN) ⟨2 ^ N - 1 + 1, ?_⟩
  refine pz_dn (fun g i (L : Nat) => wpX8_lack_B11 (nI N) W Post g (nI L) (nI i)) (fun i L => i ≤ 2 ^ N - 1 ∧ pz_lk N w (i + 1) (2 ^ N) L) (fun n L hs => ?_) (fun n i L hs kk => ?_) (2 ^ N - 1) 0 ⟨Nat.le_refl _, Or.inl ⟨rfl, fun R h1 h2 => absurd h1 (by omega)⟩⟩
  · rw [wpX8_lack_B11]
    exact br_t (by decide) (h L hs.2)
  · obtain ⟨hi, hL⟩ := hs
    have hL256 : L < 256 := by
      rcases hL with ⟨e, _⟩ | ⟨_, _, h3, _⟩ <;> omega
    have hdec : nI (i + 1) + (-1) = nI i := by rw [← Int32.sub_eq_add_neg, nI_pred]
    rw [wpX8_lack_B11]
    refine br_f (nI_nle (by omega) (by omega)) ?_
    refine loop_0 (fun g t (s : Nat) => wpX8_lack_B20 (nI N) W (wpX8_lack_B11 (nI N) W Post n) Post g (nI L) (nI (i + 1)) (nI s) (nI t)) (fun t s => s = pz_un N w (i + 1) t) N 0 rfl (fun m s hs => ?_) (fun m t s ht hs k2 => ?_)
    · rw [hs, wpX8_lack_B20]
      have hpl : pz_pc (i + 1) ≤ 8 := fb_ct_le _ _
      have hpl2 : pz_pc (pz_un N w (i + 1) N) ≤ 8 := fb_ct_le _ _
      have hpl3 : pz_pc L ≤ 8 := fb_ct_le _ _
      have keep : (¬ pz_bad N w (i + 1) ∨ (1 ≤ L ∧ pz_pc L < pz_pc (i + 1))) → wpX8_lack_B86 (nI N) W (wpX8_lack_B11 (nI N) W Post n) Post (nI L) (nI (i + 1)) := by
        intro hk
        refine nm_r hdec (kk L ⟨by omega, ?_⟩)
        rcases hL with ⟨e, h3⟩ | ⟨h3, h4, h5, h6, h7⟩
        · refine Or.inl ⟨e, fun R h8 h9 => ?_⟩
          by_cases q : R = i + 1
          · rcases hk with hk | hk
            · rw [q]; exact hk
            · omega
          · exact h3 R (by omega) h9
        · refine Or.inr ⟨h3, by omega, h5, h6, fun R h8 h9 h10 => ?_⟩
          by_cases q : R = i + 1
          · rcases hk with hk | hk
            · rw [q] at h10; exact absurd h10 hk
            · rw [q]; omega
          · exact h7 R (by omega) h9 h10
      have set : pz_bad N w (i + 1) → (L = 0 ∨ pz_pc (i + 1) ≤ pz_pc L) → wpX8_lack_B84 (nI N) W (wpX8_lack_B11 (nI N) W Post n) Post (nI (i + 1)) := by
        intro hb hk
        refine nm_r hdec (kk (i + 1) ⟨by omega, Or.inr ⟨by omega, Nat.le_refl _, by omega, hb, fun R h8 h9 h10 => ?_⟩⟩)
        by_cases q : R = i + 1
        · rw [q]; omega
        · rcases hL with ⟨e, h3⟩ | ⟨h3, h4, h5, h6, h7⟩
          · exact absurd h10 (h3 R (by omega) h9)
          · have := h7 R (by omega) h9 h10
            omega
      refine br_t (nI_le (Nat.le_refl _) (by omega)) (pz_bits (pz_un8 hN _ _) (pz_bits (by omega) (br_c (fun c => keep (Or.inl ?_)) (fun c => ?_))))
      · rw [nI_leI (by omega) (by omega)] at c
        unfold pz_bad; omega
      rw [nI_leI (by omega) (by omega)] at c
      have hb : pz_bad N w (i + 1) := by unfold pz_bad; omega
      refine br_c (fun c2 => set hb (Or.inl ((nI_eq (b := 0) (by omega) (by decide)).mp c2))) (fun c2 => pz_bits (by omega) (pz_bits (by omega) (br_c (fun c3 => keep (Or.inr ⟨?_, ?_⟩)) (fun c3 => set hb (Or.inr ?_)))))
      · by_cases q : L = 0
        · subst q; exact absurd rfl c2
        · omega
      · rw [nI_ltI (by omega) (by omega)] at c3; exact c3
      · rw [nI_ltI (by omega) (by omega)] at c3; omega
    · rw [hs, wpX8_lack_B20, pz_ct2 (i + 1) (by omega) t (by omega)]
      refine br_f (nI_ge ht (by omega)) (bq_c (fun c => nm_r (e' := nI (pz_un N w (i + 1) t)) ((fa_or _ 0).trans (congrArg nI (Nat.or_zero _))) (nm_r (nI_1 t) (k2 _ ?_))) (fun c => pz_open hW hN (by omega) (nm_r (fa_or _ _) (nm_r (nI_1 t) (k2 _ ?_)))))
      · have c1 : (i + 1).testBit t = false := by
          cases hb : (i + 1).testBit t with
          | false => rfl
          | true => rw [hb] at c; exact absurd rfl c
        rw [pz_un, c1, if_neg (by decide)]
      · have c1 : (i + 1).testBit t = true := by
          cases hb : (i + 1).testBit t with
          | true => rfl
          | false => rw [hb] at c; exact absurd c (by decide)
        rw [pz_un, c1, if_pos rfl]
theorem pc_lack (hW : pz_ww W w) (hN : N ≤ 8) : wpX3_leastLacking (nI N) w (fun r => wpX8_lack (nI N) W (fun r2 => r2 = r)) :=
  pz_leastLacking hN (fun L hL => pz_lack hW hN (fun M hM => by rw [pz_lk_uni hL hM]))
end PZO
