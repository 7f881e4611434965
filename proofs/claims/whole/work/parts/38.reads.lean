/-! what is only read of the market -/
theorem pz_sh : ∀ k, k < 8 → ((1 : Int32) <<< (nI k &&& 31)) = nI (2 ^ k) := by decide +kernel
theorem pz_ct2 : ∀ m, m < 256 → ∀ k, k < 8 → ((nI m >>> (nI k &&& 31)) &&& 1) = nI (if m.testBit k then 1 else 0) := by decide +kernel
def pz_pc (m : Nat) : Nat := fb_ct (fun k => m.testBit k) 8
theorem pz_bits {m : Nat} {Post : Int32 → Prop} (hm : m < 256) (h : Post (nI (pz_pc m))) : wpX8_bits (nI m) Post := by
  refine loop_0 (fun g i (s : Nat) => wpX8_bits_B4 (nI m) Post g (nI s) (nI i)) (fun i s => s = fb_ct (fun k => m.testBit k) i) 8 0 rfl (fun n s hs => ?_) (fun n i s hi hs k => ?_)
  · rw [hs, wpX8_bits_B4]
    exact br_t (by decide) h
  · rw [hs, wpX8_bits_B4]
    refine br_f (nI_ge (b := 8) hi (by decide)) ?_
    rw [pz_ct2 m hm i hi, nI_add]
    exact nm_e (nm_r (nI_1 i) (k _ (fb_ct_succ _ _).symm))
theorem pz_bc (m : Nat) (hm : m < 256) : ∀ Q : Int32 → Prop, Q (nI (pz_pc m)) → wpJ6_bitCount_0f7a4 (nI m) Q := by
  have key : ∀ m, m < 256 → (let a0 := nI m
      let x1 := (a0 - (((a0.toUInt32 >>> ((1 : Int32).toUInt32 &&& Int32.toUInt32 31)).toInt32) &&& 1431655765))
      let x2 := ((x1 &&& 858993459) + (((x1.toUInt32 >>> ((2 : Int32).toUInt32 &&& Int32.toUInt32 31)).toInt32) &&& 858993459))
      let x3 := ((x2 + ((x2.toUInt32 >>> ((4 : Int32).toUInt32 &&& Int32.toUInt32 31)).toInt32)) &&& 252645135)
      let x4 := (x3 + ((x3.toUInt32 >>> ((8 : Int32).toUInt32 &&& Int32.toUInt32 31)).toInt32))
      let x5 := (x4 + ((x4.toUInt32 >>> ((16 : Int32).toUInt32 &&& Int32.toUInt32 31)).toInt32))
      x5 &&& 63) = nI (pz_pc m) := by decide +kernel
  intro Q hQ
  refine nm_e (nm_e (nm_e (nm_e (nm_e ?_))))
  have e := key m hm
  dsimp only at e
  rw [e]
  exact hQ
/-- a set of places, as bits -/
def pz_om (c : Nat → Bool) : Nat → Nat
  | 0 => 0
  | k + 1 => if c k then pz_om c k ||| 2 ^ k else pz_om c k
theorem pz_om_bit (c : Nat → Bool) : ∀ k i, (pz_om c k).testBit i = (decide (i < k) && c i)
  | 0, i => by simp [pz_om]
  | k + 1, i => by
    rw [pz_om]
    by_cases q : i = k
    · subst q
      cases hc : c i with
      | true => rw [if_pos rfl, fb_bit_set, pz_om_bit c i i]; simp
      | false => rw [if_neg (by decide), pz_om_bit c i i]; simp [hc]
    · have e : (decide (i < k + 1) && c i) = (decide (i < k) && c i) := by
        have : (i < k + 1) ↔ (i < k) := by omega
        simp only [this]
      rw [e]
      split
      · rw [fb_bit_set, pz_om_bit c k i]; simp [q]
      · exact pz_om_bit c k i
theorem pz_om_lt (c : Nat → Bool) : ∀ k, pz_om c k < 2 ^ k
  | 0 => Nat.one_pos
  | k + 1 => by
    have ih := pz_om_lt c k
    rw [pz_om]
    split
    · exact Nat.or_lt_two_pow (by omega) (by omega)
    · omega
theorem pz_om8 (c : Nat → Bool) {N : Nat} (hN : N ≤ 8) : pz_om c N < 256 := by
  have h1 := pz_om_lt c N
  have h2 : 2 ^ N ≤ 2 ^ 8 := Nat.pow_le_pow_right (by decide) hN
  omega
def pz_al (w : Nat → Nat → Int32) (p : Nat) : Nat → Bool := fun t => decide (w p t ≠ -1)
section PZR
variable {N : Nat} {B : Int} {pa : Int32} {w : Nat → Nat → Int32} {W th pe pr : Nat → Int32} {p : Nat} {Post : Int32 → Prop}
theorem pz_allowedTo (hN : N ≤ 8) (hp : p < 8) (h : Post (nI (pz_om (pz_al w p) N))) : wpX2_allowedTo (nI N) w (nI p) Post := by
  refine loop_0 (fun g i (s : Nat) => wpX2_allowedTo_B4 (nI N) w (nI p) Post g (nI s) (nI i)) (fun i s => s = pz_om (pz_al w p) i) N 0 rfl (fun n s hs => ?_) (fun n i s hi hs k => ?_)
  · rw [hs, wpX2_allowedTo_B4]
    exact br_t (nI_le (Nat.le_refl _) (by omega)) h
  · rw [hs, wpX2_allowedTo_B4]
    refine br_f (nI_ge hi (by omega)) ?_
    refine pz_allows hp (by omega) (fun c => br_t rfl (nm_r (nI_1 i) (k _ ?_))) (fun c => br_f pz_n10 (nm_r (e' := nI (pz_om (pz_al w p) i ||| 2 ^ i)) (by rw [pz_sh i (by omega), fa_or]) (nm_r (nI_1 i) (k _ ?_))))
    · have : pz_al w p i = false := by unfold pz_al; simp [c]
      rw [pz_om, this, if_neg (by decide)]
    · have : pz_al w p i = true := by unfold pz_al; simp [c]
      rw [pz_om, this, if_pos rfl]
theorem pz_open (hW : pz_ww W w) (hN : N ≤ 8) (hp : p < 8) (h : Post (nI (pz_om (pz_al w p) N))) : wpX8_open (nI N) W (nI p) Post := by
  refine loop_0 (fun g i (s : Nat) => wpX8_open_B4 (nI N) W (nI p) Post g (nI s) (nI i)) (fun i s => s = pz_om (pz_al w p) i) N 0 rfl (fun n s hs => ?_) (fun n i s hi hs k => ?_)
  · rw [hs, wpX8_open_B4]
    exact br_t (nI_le (Nat.le_refl _) (by omega)) h
  · rw [hs, wpX8_open_B4]
    refine br_f (nI_ge hi (by omega)) ?_
    refine pz_may hW hp (by omega) (fun c => br_t rfl (nm_r (e' := nI (pz_om (pz_al w p) i)) ?_ (nm_r (nI_1 i) (k _ ?_)))) (fun c => br_f pz_n10 (nm_r (e' := nI (pz_om (pz_al w p) i ||| 2 ^ i)) (by rw [pz_sh i (by omega), fa_or]) (nm_r (nI_1 i) (k _ ?_))))
    · exact (fa_or _ 0).trans (congrArg nI (Nat.or_zero _))
    · have : pz_al w p i = false := by unfold pz_al; simp [c]
      rw [pz_om, this, if_neg (by decide)]
    · have : pz_al w p i = true := by unfold pz_al; simp [c]
      rw [pz_om, this, if_pos rfl]
def pz_wf (N : Nat) (pr : Nat → Int32) (w : Nat → Nat → Int32) (a : Int32) (i : Nat) (s : Int32) : Int32 := if pz_cd (pz_bt (nI N) pr w i (-1) N) = a then s ||| (1 <<< (nI i &&& 31)) else s
theorem pz_wantersOf {a : Int32} (hN : N ≤ 8) (h : Post (pz_it (pz_wf N pr w a) N 0)) : wpX2_wantersOf (nI N) pr w a Post := by
  refine pz_up (fun g i (s : Int32) => wpX2_wantersOf_B4 (nI N) pr w a Post g s (nI i)) (pz_wf N pr w a) N 0 (fun n => ?_) (fun n i s hi hs k => ?_)
  · rw [wpX2_wantersOf_B4]
    exact br_t (nI_le (Nat.le_refl _) (by omega)) h
  · rw [wpX2_wantersOf_B4]
    refine br_f (nI_ge hi (by omega)) (pz_bestOf hN (by omega) (bq_c (fun c => nm_r (nI_1 i) (k _ ?_)) (fun c => nm_e (nm_r (nI_1 i) (k _ ?_)))))
    · unfold pz_wf; rw [if_neg c]
    · unfold pz_wf; rw [if_pos c]
theorem pz_wanted {a : Int32} (hW : pz_ww W w) (hN : N ≤ 8) (hN1 : 1 ≤ N) (h : Post (pz_it (pz_wf N pr w a) N 0)) : wpX8_wanted (nI N) W pr a Post := by
  refine pz_up (fun g i (s : Int32) => wpX8_wanted_B4 (nI N) W pr a Post g s (nI i)) (pz_wf N pr w a) N 0 (fun n => ?_) (fun n i s hi hs k => ?_)
  · rw [wpX8_wanted_B4]
    exact br_t (nI_le (Nat.le_refl _) (by omega)) h
  · rw [wpX8_wanted_B4]
    refine br_f (nI_ge hi (by omega)) (pz_best hW hN hN1 (by omega) (bq_c (fun c => nm_r (e' := s) ?_ (nm_r (nI_1 i) (k _ ?_))) (fun c => nm_e (nm_r (nI_1 i) (k _ ?_)))))
    · exact Int32.or_zero
    · unfold pz_wf; rw [if_neg c]
    · unfold pz_wf; rw [if_pos c]
def pz_ff (N : Nat) (w : Nat → Nat → Int32) (i : Nat) (s : Int32) : Int32 := s + (nI N - nI (pz_pc (pz_om (pz_al w i) N)))
theorem pz_forbiddenCounted (hN : N ≤ 8) (h : Post (pz_it (pz_ff N w) N 0)) : wpX2_forbiddenCounted (nI N) w Post := by
  refine pz_up (fun g i (s : Int32) => wpX2_forbiddenCounted_B4 (nI N) w Post g s (nI i)) (pz_ff N w) N 0 (fun n => ?_) (fun n i s hi hs k => ?_)
  · rw [wpX2_forbiddenCounted_B4]
    exact br_t (nI_le (Nat.le_refl _) (by omega)) h
  · rw [wpX2_forbiddenCounted_B4]
    exact br_f (nI_ge hi (by omega)) (pz_allowedTo hN (by omega) (pz_bc _ (pz_om8 _ hN) _ (nm_e (nm_r (nI_1 i) (k _ rfl)))))
theorem pz_forbidden (hW : pz_ww W w) (hN : N ≤ 8) (h : Post (pz_it (pz_ff N w) N 0)) : wpX8_forbidden (nI N) W Post := by
  refine pz_up (fun g i (s : Int32) => wpX8_forbidden_B4 (nI N) W Post g s (nI i)) (pz_ff N w) N 0 (fun n => ?_) (fun n i s hi hs k => ?_)
  · rw [wpX8_forbidden_B4]
    exact br_t (nI_le (Nat.le_refl _) (by omega)) h
  · rw [wpX8_forbidden_B4]
    exact br_f (nI_ge hi (by omega)) (pz_open hW hN (by omega) (pz_bits (pz_om8 _ hN) (nm_e (nm_r (nI_1 i) (k _ rfl)))))
def pz_pf (pr : Nat → Int32) (i : Nat) (s : Int32) : Int32 := s + pr i
theorem pz_pricesTogether (hN : N ≤ 8) (h : Post (pz_it (pz_pf pr) N 0)) : wpX2_pricesTogether (nI N) pr Post := by
  refine pz_up (fun g i (s : Int32) => wpX2_pricesTogether_B4 (nI N) pr Post g s (nI i)) (pz_pf pr) N 0 (fun n => ?_) (fun n i s hi hs k => ?_)
  · rw [wpX2_pricesTogether_B4]
    exact br_t (nI_le (Nat.le_refl _) (by omega)) h
  · rw [wpX2_pricesTogether_B4]
    refine br_f (nI_ge hi (by omega)) ⟨vp_in_nI (by omega) (by decide), nm_e (nm_r (nI_1 i) (k _ ?_))⟩
    rw [nI_clamp (by omega)]; rfl
theorem pz_prices (hN : N ≤ 8) (h : Post (pz_it (pz_pf pr) N 0)) : wpX8_prices (nI N) pr Post := by
  refine pz_up (fun g i (s : Int32) => wpX8_prices_B4 (nI N) pr Post g s (nI i)) (pz_pf pr) N 0 (fun n => ?_) (fun n i s hi hs k => ?_)
  · rw [wpX8_prices_B4]
    exact br_t (nI_le (Nat.le_refl _) (by omega)) h
  · rw [wpX8_prices_B4]
    refine br_f (nI_ge hi (by omega)) ⟨vp_in_nI (by omega) (by decide), nm_e (nm_r (nI_1 i) (k _ ?_))⟩
    rw [nI_clamp (by omega)]; rfl
def pz_sf (w : Nat → Nat → Int32) (th : Nat → Int32) (i : Nat) (s : Int32) : Int32 := if th i < 0 then s else s + w i (th i).toNatClampNeg
theorem pz_th_some (hN : N ≤ 8) (hok : pz_ok N w th pe) (hp : p < 8) (c : ¬ th p < 0) : ∃ t, t < N ∧ th p = nI t ∧ w p t ≠ -1 := by
  rcases hok.1 p hp with e | ⟨t, ht, -, e, -, h⟩
  · rw [e] at c; exact absurd pz_m1 c
  · exact ⟨t, ht, e, h⟩
theorem pz_worthTogether (hN : N ≤ 8) (hok : pz_ok N w th pe) (h : Post (pz_it (pz_sf w th) N 0)) : wpX2_worthTogether (nI N) th w Post := by
  refine pz_up (fun g i (s : Int32) => wpX2_worthTogether_B4 (nI N) th w Post g s (nI i)) (pz_sf w th) N 0 (fun n => ?_) (fun n i s hi hs k => ?_)
  · rw [wpX2_worthTogether_B4]
    exact br_t (nI_le (Nat.le_refl _) (by omega)) h
  · rw [wpX2_worthTogether_B4]
    refine br_f (nI_ge hi (by omega)) ⟨vp_in_nI (by omega) (by decide), ?_⟩
    rw [nI_clamp (by omega)]
    refine br_c (fun c => nm_r (nI_1 i) (k _ ?_)) (fun c => ⟨vp_in_nI (by omega) (by decide), vp_in_nI (by omega) (by decide), ?_, nm_e (nm_r (nI_1 i) (k _ ?_))⟩)
    · unfold pz_sf; rw [if_pos c]
    · obtain ⟨t, ht, e, -⟩ := pz_th_some hN hok (by omega) c
      rw [e]; exact vp_in_nI (by omega) (by decide)
    · unfold pz_sf; rw [if_neg c]
theorem pz_sum (hW : pz_ww W w) (hN : N ≤ 8) (hok : pz_ok N w th pe) (h : Post (pz_it (pz_sf w th) N 0)) : wpX8_sum (nI N) W th Post := by
  refine pz_up (fun g i (s : Int32) => wpX8_sum_B4 (nI N) W th Post g s (nI i)) (pz_sf w th) N 0 (fun n => ?_) (fun n i s hi hs k => ?_)
  · rw [wpX8_sum_B4]
    exact br_t (nI_le (Nat.le_refl _) (by omega)) h
  · rw [wpX8_sum_B4]
    refine br_f (nI_ge hi (by omega)) ⟨vp_in_nI (by omega) (by decide), ?_⟩
    rw [nI_clamp (by omega)]
    by_cases c : th i < 0
    · refine br_f (fun q => by rw [fa_le] at q; rw [fa_lt] at c; omega) (nm_r (e' := s) (Int32.add_zero _) (nm_r (nI_1 i) (k _ ?_)))
      unfold pz_sf; rw [if_pos c]
    · obtain ⟨t, ht, e, -⟩ := pz_th_some hN hok (by omega) c
      refine br_t (by rw [e]; exact nI_pos' (by omega)) ⟨vp_in_nI (by omega) (by decide), ?_⟩
      rw [e, pz_8]
      refine ⟨vp_in_nI (by omega) (by decide), nm_e (nm_r (nI_1 i) (k _ ?_))⟩
      unfold pz_sf
      rw [if_neg c, e, nI_clamp (by omega), nI_clamp (by omega), (hW i t (by omega) (by omega)).1]
end PZR
