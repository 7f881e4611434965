/-! the most: ways from no thing to all things, each person one -/
def pz_P (N : Nat) (w : Nat → Nat → Int32) : Nat → Nat → Nat → Prop
  | 0, S, v => S = 0 ∧ v = 0
  | k + 1, S, v => ∃ t u, t < N ∧ S.testBit t = true ∧ w k t ≠ -1 ∧ pz_P N w k (S ^^^ 2 ^ t) u ∧ v = u + (w k t).toInt.toNat
def pz_Qb (N : Nat) (w : Nat → Nat → Int32) : Nat → Nat → Nat → Prop
  | 0, S, v => S = 2 ^ N - 1 ∧ v = 0
  | j + 1, S, v => ∃ t u, t < N ∧ S.testBit t = false ∧ w (N - (j + 1)) t ≠ -1 ∧ pz_Qb N w j (S ||| 2 ^ t) u ∧ v = (w (N - (j + 1)) t).toInt.toNat + u
theorem pz_ox {S t : Nat} (h : S.testBit t = false) : (S ||| 2 ^ t) ^^^ 2 ^ t = S := by
  apply Nat.eq_of_testBit_eq
  intro i
  rw [fb_bit_flip, fb_bit_set]
  by_cases q : i = t
  · rw [q, h]; simp
  · simp [q]
theorem pz_xo {S t : Nat} (h : S.testBit t = true) : (S ^^^ 2 ^ t) ||| 2 ^ t = S := by
  apply Nat.eq_of_testBit_eq
  intro i
  rw [fb_bit_set, fb_bit_flip]
  by_cases q : i = t
  · rw [q, h]; simp
  · simp [q]
theorem pz_PQ {N : Nat} {w : Nat → Nat → Int32} (v : Nat) : ∀ j, j ≤ N → ((∃ S a b, pz_P N w (N - j) S a ∧ pz_Qb N w j S b ∧ v = a + b) ↔ pz_P N w N (2 ^ N - 1) v)
  | 0, _ => by
    constructor
    · rintro ⟨S, a, b, h1, ⟨rfl, rfl⟩, rfl⟩
      exact h1
    · intro h
      exact ⟨_, _, 0, h, ⟨rfl, rfl⟩, rfl⟩
  | j + 1, hj => by
    rw [← pz_PQ v j (by omega)]
    have e : N - j = (N - (j + 1)) + 1 := by omega
    rw [e]
    constructor
    · rintro ⟨S, a, b, h1, ⟨t, u, ht, hS, hw, h2, rfl⟩, rfl⟩
      refine ⟨S ||| 2 ^ t, a + (w (N - (j + 1)) t).toInt.toNat, u, ⟨t, a, ht, ?_, hw, ?_, rfl⟩, h2, by omega⟩
      · rw [fb_bit_set]; simp
      · rw [pz_ox hS]; exact h1
    · rintro ⟨S, a, b, ⟨t, u, ht, hS, hw, h2, rfl⟩, h1, rfl⟩
      refine ⟨S ^^^ 2 ^ t, u, (w (N - (j + 1)) t).toInt.toNat + b, h2, ⟨t, b, ht, ?_, hw, ?_, rfl⟩, by omega⟩
      · rw [fb_bit_flip, hS]; simp
      · rw [pz_xo hS]; exact h1
theorem pz_PQ0 {N : Nat} {w : Nat → Nat → Int32} (v : Nat) : pz_Qb N w N 0 v ↔ pz_P N w N (2 ^ N - 1) v := by
  rw [← pz_PQ v N (Nat.le_refl _), Nat.sub_self]
  constructor
  · intro h; exact ⟨0, 0, v, ⟨rfl, rfl⟩, h, by omega⟩
  · rintro ⟨S, a, b, ⟨rfl, rfl⟩, h, rfl⟩
    rw [Nat.zero_add]; exact h
def pz_mx (A : Nat → Prop) (o : Option Nat) : Prop := match o with
  | none => ∀ v, ¬ A v
  | some m => A m ∧ ∀ v, A v → v ≤ m
theorem pz_mx_uni {A : Nat → Prop} {o q : Option Nat} (h : pz_mx A o) (h2 : pz_mx A q) : o = q := by
  cases o with
  | none => cases q with
    | none => rfl
    | some b => exact absurd h2.1 (h b)
  | some a => cases q with
    | none => exact absurd h.1 (h2 a)
    | some b =>
      have := h.2 b h2.1
      have := h2.2 a h.1
      rw [show a = b by omega]
theorem pz_mx_iff {A C : Nat → Prop} (h : ∀ v, A v ↔ C v) {o : Option Nat} (hm : pz_mx A o) : pz_mx C o := by
  have : A = C := funext fun v => propext (h v)
  rw [← this]; exact hm
def pz_en (d : Int32) (o : Option Nat) : Int32 := match o with
  | none => d
  | some v => nI v
def pz_wN (w : Nat → Nat → Int32) (p t : Nat) : Nat := (w p t).toInt.toNat
theorem pz_wNI {w : Nat → Nat → Int32} {p t : Nat} (hw : pz_wb w) (hp : p < 8) (ht : t < 8) (h : w p t ≠ -1) : w p t = nI (w p t).toInt.toNat ∧ (w p t).toInt.toNat ≤ 99 := by
  have h1 := hw p t hp ht
  have h2 : ¬ (w p t).toInt = -1 := by
    rw [ne_eq, fa_eq] at h; exact h
  refine ⟨?_, by omega⟩
  rw [fa_eq, nI_toInt (by omega)]
  omega
theorem pz_P_le {N : Nat} {w : Nat → Nat → Int32} (hN : N ≤ 8) (hw : pz_wb w) : ∀ k S v, k ≤ 8 → pz_P N w k S v → v ≤ 99 * k
  | 0, S, v, _, h => by rw [h.2]; omega
  | k + 1, S, v, hk, ⟨t, u, ht, _, hwt, h, e⟩ => by
    have := pz_P_le hN hw k _ _ (by omega) h
    have := (pz_wNI hw (by omega) (by omega) hwt).2
    omega
theorem pz_Q_le {N : Nat} {w : Nat → Nat → Int32} (hN : N ≤ 8) (hw : pz_wb w) : ∀ k S v, k ≤ N → pz_Qb N w k S v → v ≤ 99 * k
  | 0, S, v, _, h => by rw [h.2]; omega
  | k + 1, S, v, hk, ⟨t, u, ht, _, hwt, h, e⟩ => by
    have := pz_Q_le hN hw k _ _ (by omega) h
    have := (pz_wNI hw (p := N - (k + 1)) (by omega) (by omega) hwt).2
    omega
theorem pz_pcx : ∀ S, S < 256 → ∀ t, t < 8 → S.testBit t = true → (pz_pc (S ^^^ 2 ^ t) + 1 = pz_pc S ∧ S ^^^ 2 ^ t < S) := by decide +kernel
theorem pz_pco : ∀ S, S < 256 → ∀ t, t < 8 → S.testBit t = false → (pz_pc (S ||| 2 ^ t) = pz_pc S + 1 ∧ S < S ||| 2 ^ t) := by decide +kernel
theorem pz_pc0 : ∀ S, S < 256 → 0 < S → 0 < pz_pc S := by decide +kernel
theorem pz_pcN : ∀ N, N ≤ 8 → pz_pc (2 ^ N - 1) = N := by decide +kernel
theorem pz_pcl : ∀ N, N ≤ 8 → ∀ S, S < 2 ^ N → pz_pc S ≤ N := by decide +kernel
theorem pz_pcm : ∀ N, N ≤ 8 → ∀ S, S < 2 ^ N - 1 → pz_pc S < N := by decide +kernel
theorem pz_2N {N : Nat} (hN : N ≤ 8) : 2 ^ N ≤ 256 := Nat.pow_le_pow_right (n := 2) (by decide) hN
section PZO
variable {N : Nat} {w : Nat → Nat → Int32} {W : Nat → Int32} {B : Int}
def pz_AC (N : Nat) (w : Nat → Nat → Int32) (k S i v : Nat) : Prop := ∃ t u, t < i ∧ S.testBit t = true ∧ w k t ≠ -1 ∧ pz_P N w k (S ^^^ 2 ^ t) u ∧ v = u + (w k t).toInt.toNat
theorem pz_mostOfSet {S : Nat} {su : Nat → Int32} {Post : Int32 → Prop} (hN : N ≤ 8) (hw : pz_wb w) (hS : 0 < S) (hSN : S < 2 ^ N) (hsu : ∀ R, R < S → ∃ o, pz_mx (pz_P N w (pz_pc R) R) o ∧ su R = pz_en (-5) o)
    (h : ∀ o, pz_mx (pz_P N w (pz_pc S) S) o → Post (pz_en (-5) o)) : wpX3_mostOfSet su (nI N) w (nI S) Post := by
  have h256 := pz_2N hN
  have hpc := pz_pc0 S (by omega) hS
  have hpl := pz_pcl N hN S hSN
  obtain ⟨k, hk⟩ : ∃ k, pz_pc S = k + 1 := ⟨pz_pc S - 1, by omega⟩
  refine pz_bc S (by omega) _ (nm_e (nm_e ?_))
  rw [hk, nI_pred]
  refine loop_0 (fun g i (s : Int32) => wpX3_mostOfSet_B14 su (nI N) w (nI S) Post g (nI k) s (nI i)) (fun i s => ∃ o, pz_mx (pz_AC N w k S i) o ∧ s = pz_en (-5) o) N (-5) ⟨none, fun v ⟨t, u, ht, _⟩ => absurd ht (by omega), rfl⟩ (fun n s hs => ?_) (fun n i s hi hs kk => ?_)
  · obtain ⟨o, ho, rfl⟩ := hs
    rw [wpX3_mostOfSet_B14]
    exact br_t (nI_le (Nat.le_refl _) (by omega)) (h o (by rw [hk]; exact ho))
  · obtain ⟨o, ho, rfl⟩ := hs
    rw [wpX3_mostOfSet_B14]
    refine br_f (nI_ge hi (by omega)) (nm_r (pz_sh i (by omega)) ?_)
    have same : (∀ u, ¬ (S.testBit i = true ∧ w k i ≠ -1 ∧ pz_P N w k (S ^^^ 2 ^ i) u)) → wpX3_mostOfSet_B84 su (nI N) w (nI S) (wpX3_mostOfSet_B14 su (nI N) w (nI S) Post n) Post (nI k) (pz_en (-5) o) (nI i) := by
      intro hno
      refine nm_r (nI_1 i) (kk _ ⟨o, pz_mx_iff (fun v => ?_) ho, rfl⟩)
      constructor
      · rintro ⟨t, u, ht, h2⟩; exact ⟨t, u, by omega, h2⟩
      · rintro ⟨t, u, ht, h2, h3, h4, h5⟩
        by_cases q : t = i
        · subst q; exact absurd ⟨h2, h3, h4⟩ (hno u)
        · exact ⟨t, u, by omega, h2, h3, h4, h5⟩
    refine br_c (fun c => same (fun u hu => ?_)) (fun c => ?_)
    · rw [fa_bit (by omega)] at c; rw [c] at hu; exact absurd hu.1 (by decide)
    have c1 : S.testBit i = true := by
      rw [fa_bit (by omega)] at c
      cases hb : S.testBit i with
      | true => rfl
      | false => exact absurd hb c
    obtain ⟨hx1, hx2⟩ := pz_pcx S (by omega) i (by omega) c1
    refine pz_allows (by omega) (by omega) (fun c2 => br_t rfl (same (fun u hu => hu.2.1 c2))) (fun c2 => br_f pz_n10 ?_)
    rw [fb_xorI]
    refine ⟨vp_in_nI (by omega) (by decide), ?_⟩
    rw [nI_clamp (by omega)]
    obtain ⟨o2, ho2, e2⟩ := hsu _ hx2
    have hk2 : pz_pc (S ^^^ 2 ^ i) = k := by omega
    rw [hk2] at ho2
    rw [e2]
    cases o2 with
    | none => exact br_t (show (-5 : Int32) < 0 by decide) (same (fun u hu => ho2 u hu.2.2))
    | some m =>
      have hm := pz_P_le hN hw k _ _ (by omega) ho2.1
      obtain ⟨w1, w2⟩ := pz_wNI hw (p := k) (t := i) (by omega) (by omega) c2
      refine br_f (show ¬ nI m < 0 from nI_pos (by omega)) ⟨vp_in_nI (by omega) (by decide), vp_in_nI (by omega) (by decide), vp_in_nI (by omega) (by decide), ?_⟩
      rw [nI_clamp (by omega), nI_clamp (by omega)]
      have ea : pz_en (-5) (some m) + w k i = nI (m + (w k i).toInt.toNat) := by
        show nI m + w k i = _
        rw [← nI_add, ← w1]
      rw [ea]
      refine nm_e (nm_r (nI_1 i) (kk _ ?_))
      cases o with
      | none =>
        refine ⟨some (m + (w k i).toInt.toNat), ⟨⟨i, m, by omega, c1, c2, ho2.1, rfl⟩, ?_⟩, if_pos (show (-5 : Int32) < nI (m + (w k i).toInt.toNat) from ?_)⟩
        · rintro v ⟨t, u, ht, h3, h4, h5, h6⟩
          by_cases q : t = i
          · subst q; have := ho2.2 u h5; omega
          · exact absurd ⟨t, u, by omega, h3, h4, h5, h6⟩ (ho v)
        · rw [fa_lt, nI_toInt (by omega)]; show (-5 : Int) < _; omega
      | some b =>
        have hb : b ≤ 99 * (k + 1) := by
          obtain ⟨t, u, ht, h3, h4, h5, h6⟩ := ho.1
          have := pz_P_le hN hw k _ _ (by omega) h5
          have := (pz_wNI hw (p := k) (t := t) (by omega) (by omega) h4).2
          omega
        show ∃ o, pz_mx (pz_AC N w k S (i + 1)) o ∧ (if nI b < nI (m + (w k i).toInt.toNat) then nI (m + (w k i).toInt.toNat) else nI b) = pz_en (-5) o
        by_cases q : b < m + (w k i).toInt.toNat
        · rw [if_pos (nI_lt q (by omega))]
          refine ⟨some (m + (w k i).toInt.toNat), ⟨⟨i, m, by omega, c1, c2, ho2.1, rfl⟩, ?_⟩, rfl⟩
          rintro v ⟨t, u, ht, h3, h4, h5, h6⟩
          by_cases q : t = i
          · subst q; have := ho2.2 u h5; omega
          · have := ho.2 v ⟨t, u, by omega, h3, h4, h5, h6⟩; omega
        · rw [if_neg (nI_nlt (by omega) (by omega))]
          refine ⟨some b, ⟨?_, ?_⟩, rfl⟩
          · obtain ⟨t, u, ht, h3⟩ := ho.1; exact ⟨t, u, by omega, h3⟩
          · rintro v ⟨t, u, ht, h3, h4, h5, h6⟩
            by_cases q : t = i
            · subst q; have := ho2.2 u h5; omega
            · exact ho.2 v ⟨t, u, by omega, h3, h4, h5, h6⟩
theorem pz_mostWorth {su : Nat → Int32} {Post : Int32 → (Nat → Int32) → Prop} (hN : N ≤ 8) (hN1 : 1 ≤ N) (hw : pz_wb w) (h : ∀ o su1, pz_mx (pz_P N w N (2 ^ N - 1)) o → Post (pz_en (-5) o) su1) : wpX3_mostWorth su (nI N) w Post := by
  have h256 := pz_2N hN
  have h2 : 2 ≤ 2 ^ N := Nat.pow_le_pow_right (n := 2) (i := 1) (by decide) hN1
  have esh : ((1 : Int32) <<< (nI N &&& 31)) = nI (2 ^ N) := by
    have : ∀ N, N ≤ 8 → ((1 : Int32) <<< (nI N &&& 31)) = nI (2 ^ N) := by decide +kernel
    exact this N hN
  refine nm_r esh ⟨vp_in_nI (n := 0) (by decide) (by decide), ?_⟩
  have key : ∀ d S su, S + d = 2 ^ N → 1 ≤ S → (∀ R, R < S → ∃ o, pz_mx (pz_P N w (pz_pc R) R) o ∧ su R = pz_en (-5) o) → wpX3_mostWorth_B16 (nI N) w Post (d + 1) (nI (2 ^ N)) (nI S) su := by
    intro d
    induction d with
    | zero =>
      intro S su hd h1 hsu
      have e : S = 2 ^ N := by omega
      subst e
      rw [wpX3_mostWorth_B16]
      obtain ⟨o, ho, e⟩ := hsu (2 ^ N - 1) (by omega)
      rw [pz_pcN N hN] at ho
      refine br_t (nI_le (Nat.le_refl _) (by omega)) ?_
      have e1 : nI (2 ^ N) - 1 = nI (2 ^ N - 1) := by
        obtain ⟨M, hM⟩ : ∃ M, 2 ^ N = M + 1 := ⟨2 ^ N - 1, by omega⟩
        rw [hM, nI_pred]; rfl
      rw [e1, nI_clamp (by omega), e]
      exact ⟨vp_in_nI (by omega) (by decide), h o su ho⟩
    | succ d ih =>
      intro S su hd h1 hsu
      rw [wpX3_mostWorth_B16]
      refine br_f (nI_ge (by omega) (by omega)) (pz_mostOfSet hN hw (by omega) (by omega) hsu (fun o ho => ⟨vp_in_nI (by omega) (by decide), nm_r (nI_1 S) ?_⟩))
      rw [nI_clamp (by omega)]
      refine ih (S + 1) _ (by omega) (by omega) (fun R hR => ?_)
      by_cases q : R = S
      · subst q; exact ⟨o, ho, pk_us⟩
      · rw [pk_un q]; exact hsu R (by omega)
  refine ⟨(2 ^ N - 1) + 1, key (2 ^ N - 1) 1 _ (by omega) (Nat.le_refl _) (fun R hR => ?_)⟩
  have e : R = 0 := by omega
  subst e
  exact ⟨some 0, ⟨⟨rfl, rfl⟩, fun v hv => by rw [hv.2]; exact Nat.le_refl _⟩, rfl⟩
end PZO
