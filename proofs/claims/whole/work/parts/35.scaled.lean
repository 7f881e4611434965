/-! auctions by smaller steps; what is reported -/
theorem pz_leastWithout {N : Nat} {th : Nat → Int32} {Post : Int32 → Prop} (hN : N ≤ 8) (h : Post (pz_cd (pz_fs (pz_cx th) N 0))) : wpX2_leastWithout (nI N) th Post := by
  refine pz_se (fun g i => wpX2_leastWithout_B2 (nI N) th Post g (nI i)) (pz_cx th) N (fun o => Post (pz_cd o)) h (fun n q => ?_) (fun n i hi h1 h2 => ?_)
  · rw [wpX2_leastWithout_B2]
    exact br_t (nI_le (Nat.le_refl _) (by omega)) q
  · rw [wpX2_leastWithout_B2]
    refine br_f (nI_ge hi (by omega)) ⟨vp_in_nI (by omega) (by decide), ?_⟩
    rw [nI_clamp (by omega)]
    refine br_c (fun c => nm_r (nI_1 i) (h2 ?_)) (fun c => h1 (decide_eq_true (fa_of_nle c)))
    rw [fa_le] at c
    exact decide_eq_false (by rw [fa_lt]; omega)
theorem pz_ownersCounted {N : Nat} {th : Nat → Int32} {Post : Int32 → Prop} (hN : N ≤ 8) (h : Post (nI (pz_oc N th))) : wpX2_ownersCounted (nI N) th Post := by
  refine loop_0 (fun g i (s : Nat) => wpX2_ownersCounted_B4 (nI N) th Post g (nI s) (nI i)) (fun i s => s = fb_ct (fun p => !pz_cx th p) i) N 0 rfl (fun n s hs => ?_) (fun n i s hi hs k => ?_)
  · rw [hs, wpX2_ownersCounted_B4]
    exact br_t (nI_le (Nat.le_refl _) (by omega)) h
  · rw [hs, wpX2_ownersCounted_B4]
    refine br_f (nI_ge hi (by omega)) ⟨vp_in_nI (by omega) (by decide), ?_⟩
    rw [nI_clamp (by omega)]
    have e2 := fb_ct_succ (fun p => !pz_cx th p) i
    refine br_c (fun c => nm_r (nI_1 i) (k _ ?_)) (fun c => nm_r (nI_1 _) (nm_r (nI_1 i) (k _ ?_)))
    · have c1 : pz_cx th i = true := decide_eq_true c
      rw [c1] at e2; simp at e2; omega
    · have c1 : pz_cx th i = false := decide_eq_false c
      rw [c1] at e2; simp at e2; omega
theorem pz_havers {N : Nat} {th : Nat → Int32} {Post : Int32 → Prop} (hN : N ≤ 8) (h : Post (nI (pz_oc N th))) : wpX8_havers (nI N) th Post := by
  refine loop_0 (fun g i (s : Nat) => wpX8_havers_B4 (nI N) th Post g (nI s) (nI i)) (fun i s => s = fb_ct (fun p => !pz_cx th p) i) N 0 rfl (fun n s hs => ?_) (fun n i s hi hs k => ?_)
  · rw [hs, wpX8_havers_B4]
    exact br_t (nI_le (Nat.le_refl _) (by omega)) h
  · rw [hs, wpX8_havers_B4]
    refine br_f (nI_ge hi (by omega)) ⟨vp_in_nI (by omega) (by decide), ?_⟩
    rw [nI_clamp (by omega)]
    have e2 := fb_ct_succ (fun p => !pz_cx th p) i
    have z0 : ∀ m, nI m + 0 = nI m := fun m => nI_add m 0
    refine br_c (fun c => nm_r (nI_1 _) (nm_r (nI_1 i) (k _ ?_))) (fun c => nm_r (z0 _) (nm_r (nI_1 i) (k _ ?_)))
    · rw [fa_le] at c
      have c1 : pz_cx th i = false := decide_eq_false (by rw [fa_lt]; omega)
      rw [c1] at e2; simp at e2; omega
    · have c1 : pz_cx th i = true := decide_eq_true (fa_of_nle c)
      rw [c1] at e2; simp at e2; omega
theorem pz_oc_sub (N : Nat) (th : Nat → Int32) : nI N - nI (pz_oc N th) = nI (fb_ct (pz_cx th) N) := by
  have h := fb_ct_not (pz_cx th) N
  have e : nI N = nI (fb_ct (pz_cx th) N) + nI (pz_oc N th) := by rw [nI_add]; exact congrArg nI h.symm
  rw [e, Int32.add_sub_cancel]
theorem pz_tw0 (f : Nat → Int32) (a b c : Int32) : pz_tw f a b c 0 = a ∧ pz_tw f a b c 1 = b ∧ pz_tw f a b c 2 = c := ⟨rfl, rfl, rfl⟩
theorem pz_reported {N : Nat} {o : Option Nat} {th pe pr f : Nat → Int32} {ck cc cd a : Int32} {m : Nat} {Post : Int32 → Int32 → Int32 → Int32 → Prop} (hN : N ≤ 8) (ho : ∀ p, o = some p → p < N) (h0 : f 0 = ck) (h1 : f 1 = cc) (h2 : f 2 = cd)
    (h : Post (if o.isSome then -10 - a else a) (pz_wr N (m, o, th, pe, pr) f 0) (pz_wr N (m, o, th, pe, pr) f 1) (pz_wr N (m, o, th, pe, pr) f 2)) : wpX7_reported (nI N) (pz_cd o) th ck cc cd a Post := by
  unfold wpX7_reported
  cases o with
  | none =>
    refine br_t pz_m1 (pz_leastWithout hN ?_)
    unfold pz_wr pz_tl at h
    dsimp only at h
    cases hl : pz_fs (pz_cx th) N 0 with
    | none => rw [hl] at h; refine br_t pz_m1 ?_; rw [← h0, ← h1, ← h2]; exact h
    | some l =>
      rw [hl] at h
      obtain ⟨-, h4, -⟩ := pz_fs_some _ _ _ hl
      refine br_f (nI_pos (by omega)) (pz_ownersCounted hN (nm_r (pz_oc_sub N th) h))
  | some p =>
    have := ho p rfl
    exact br_f (nI_pos (by omega)) h
def pz_lw (N : Nat) (w : Nat → Nat → Int32) (f : Nat → Int32) : Nat → Int32 := match pz_fs (fun p => (pz_hb N w p).isNone) N 0 with
  | none => f
  | some l => pz_tw f 5 (200 + nI l) (300 + nI (fb_ct (fun p => (pz_hb N w p).isNone) N))
theorem pz_lw_lw (N : Nat) (w : Nat → Nat → Int32) (f : Nat → Int32) : pz_lw N w (pz_lw N w f) = pz_lw N w f := by
  unfold pz_lw
  cases pz_fs (fun p => (pz_hb N w p).isNone) N 0 with
  | none => rfl
  | some l => exact pz_tw_tw _ _ _ _ _ _ _
theorem pz_tw_lw (N : Nat) (w : Nat → Nat → Int32) (f : Nat → Int32) (a b c : Int32) : pz_tw (pz_lw N w f) a b c = pz_tw f a b c := by
  unfold pz_lw
  cases pz_fs (fun p => (pz_hb N w p).isNone) N 0 with
  | none => rfl
  | some l => exact pz_tw_tw _ _ _ _ _ _ _
theorem pz_tl_lw {N : Nat} {w : Nat → Nat → Int32} {th pe : Nat → Int32} (f : Nat → Int32) (hN : N ≤ 8) (hok : pz_ok N w th pe) (hn : pz_nx N th w = none) : pz_tl N th f = pz_lw N w f := by
  have e : ∀ k, k < N → pz_cx th k = (pz_hb N w k).isNone := by
    intro k hk
    have h1 := pz_fs_none _ _ hn k (Nat.zero_le _) (by omega)
    cases hh : pz_hb N w k with
    | none =>
      rcases hok.1 k (by omega) with q | ⟨t, ht, -, -, -, hw⟩
      · exact decide_eq_true (by rw [q]; exact pz_m1)
      · have := pz_fs_none _ _ hh t (Nat.zero_le _) (by omega)
        exact absurd hw (of_decide_eq_false this)
    | some t =>
      rw [hh] at h1
      simp at h1
      exact decide_eq_false (by rw [fa_lt]; rw [fa_le] at h1; omega)
  unfold pz_tl pz_lw
  rw [pz_fs_congr (c := pz_cx th) (g := fun p => (pz_hb N w p).isNone) N 0 (fun i _ hi => e i (by omega)), fb_ct_cong (p := pz_cx th) (q := fun p => (pz_hb N w p).isNone) e]
  cases pz_fs (fun p => (pz_hb N w p).isNone) N 0 <;> rfl
theorem pz_in_em {N : Nat} {w : Nat → Nat → Int32} {B : Int} {pr : Nat → Int32} (h2 : pz_pb B pr) (h5 : pz_z pr) : pz_in N w B pz_em pz_em pr :=
  ⟨⟨fun p hp => Or.inl (if_pos hp), fun t ht => Or.inl (if_pos ht)⟩, h2, pz_em_z, pz_em_z, h5⟩
def pz_sl (N : Nat) (w : Nat → Nat → Int32) : Nat → Nat → Nat → (Nat → Int32) → (Nat → Int32) → (Nat → Int32) → pz_S
  | 0, _, k, th, pe, pr => (k, none, th, pe, pr)
  | d + 1, i, k, _, _, pr => match (pz_AU N (bw_scale i) w pz_em pz_em pr).2.1 with
    | some p => (k + (pz_AU N (bw_scale i) w pz_em pz_em pr).1, some p, (pz_AU N (bw_scale i) w pz_em pz_em pr).2.2)
    | none => pz_sl N w d (i + 1) (k + (pz_AU N (bw_scale i) w pz_em pz_em pr).1) (pz_AU N (bw_scale i) w pz_em pz_em pr).2.2.1 (pz_AU N (bw_scale i) w pz_em pz_em pr).2.2.2.1 (pz_AU N (bw_scale i) w pz_em pz_em pr).2.2.2.2
theorem pz_scale_in {i : Nat} (h : i < 4) : 1 ≤ (bw_scale i).toInt ∧ (bw_scale i).toInt ≤ 50 := by
  have : i = 0 ∨ i = 1 ∨ i = 2 ∨ i = 3 := by omega
  rcases this with h | h | h | h <;> subst h <;> decide
section PZS
variable {N : Nat} {w : Nat → Nat → Int32} {W : Nat → Int32} {B : Int}
theorem pz_AU_in {pa : Int32} {th pe pr : Nat → Int32} (hN : N ≤ 8) (hw : pz_wb w) (hpa : 1 ≤ pa.toInt ∧ pa.toInt ≤ 50) (hB : B ≤ 1000000) (hB2 : 2000 ≤ B) (h : pz_in N w B th pe pr) :
    pz_in N w (B + 941) (pz_AU N pa w th pe pr).2.2.1 (pz_AU N pa w th pe pr).2.2.2.1 (pz_AU N pa w th pe pr).2.2.2.2 ∧ (pz_AU N pa w th pe pr).1 ≤ 20000 ∧
    ((pz_AU N pa w th pe pr).2.1 = none → pz_in N w B (pz_AU N pa w th pe pr).2.2.1 (pz_AU N pa w th pe pr).2.2.2.1 (pz_AU N pa w th pe pr).2.2.2.2 ∧ pz_nx N (pz_AU N pa w th pe pr).2.2.1 w = none)
    ∧ ∀ p, (pz_AU N pa w th pe pr).2.1 = some p → p < N := pz_au_in hN hw hpa hB hB2 20000 th pe pr h (by have := pz_mu_le pr; omega)
/-- what holds of the end of smaller and smaller steps -/
theorem pz_sl_in (hN : N ≤ 8) (hw : pz_wb w) (hB : B ≤ 1000000) (hB2 : 2000 ≤ B) : ∀ (d i k : Nat) (th pe pr : Nat → Int32), i + d = 4 → pz_in N w B th pe pr → (d = 0 → pz_nx N th w = none) →
    pz_in N w (B + 941) (pz_sl N w d i k th pe pr).2.2.1 (pz_sl N w d i k th pe pr).2.2.2.1 (pz_sl N w d i k th pe pr).2.2.2.2 ∧ ((pz_sl N w d i k th pe pr).2.1 = none → pz_nx N (pz_sl N w d i k th pe pr).2.2.1 w = none) ∧ ∀ p, (pz_sl N w d i k th pe pr).2.1 = some p → p < N
  | 0, i, k, th, pe, pr, _, h, hn => ⟨⟨h.1, pz_pb_mono h.2.1 (by omega), h.2.2⟩, fun _ => hn rfl, fun p q => by cases q⟩
  | d + 1, i, k, th, pe, pr, hi, h, _ => by
    have hA := pz_AU_in (pa := bw_scale i) hN hw (pz_scale_in (by omega)) hB hB2 (pz_in_em (N := N) (w := w) h.2.1 h.2.2.2.2)
    rw [pz_sl]
    cases ho : (pz_AU N (bw_scale i) w pz_em pz_em pr).2.1 with
    | some p => exact ⟨hA.1, fun q => absurd q (fun q => by cases q), fun q hq => (by cases hq; exact hA.2.2.2 _ ho)⟩
    | none => exact pz_sl_in hN hw hB hB2 d (i + 1) _ _ _ _ (by omega) (hA.2.2.1 ho).1 (fun _ => (hA.2.2.1 ho).2)
theorem pz_rs {paB : Int32} {Post : Int32 → Int32 → Int32 → (Nat → Int32) → (Nat → Int32) → (Nat → Int32) → Prop} (hN : N ≤ 8) (hw : pz_wb w) (hB : B ≤ 1000000) (hB2 : 2000 ≤ B) : ∀ (d i k : Nat) (pa : Int32) (th pe pr : Nat → Int32), i + d = 4 → pz_in N w B th pe pr →
    Post (nI (pz_sl N w d i k th pe pr).1) paB (pz_cd (pz_sl N w d i k th pe pr).2.1) (pz_sl N w d i k th pe pr).2.2.1 (pz_sl N w d i k th pe pr).2.2.2.1 (pz_sl N w d i k th pe pr).2.2.2.2 → wpX2_runScaled_B14 (nI N) w Post (d + 1) paB (nI k) (nI i) pa (-1) th pe pr
  | 0, i, k, pa, th, pe, pr, hi, h, hP => by
    rw [wpX2_runScaled_B14]
    exact br_t (nI_le (a := 4) (by omega) (by omega)) hP
  | d + 1, i, k, pa, th, pe, pr, hi, h, hP => by
    have hE := pz_in_em (N := N) (w := w) h.2.1 h.2.2.2.2
    have hA := pz_AU_in (pa := bw_scale i) hN hw (pz_scale_in (by omega)) hB hB2 hE
    rw [wpX2_runScaled_B14]
    refine br_f (nI_ge (b := 4) (by omega) (by omega)) (br_f (by decide) (pz_takeAllAway h.2.2.1 h.2.2.2.1 ⟨vp_in_nI (by omega) (by decide), ?_⟩))
    rw [nI_clamp (by omega)]
    refine pz_runAuction hN hw (pz_scale_in (by omega)) hB hB2 hE (nm_r (nI_add _ _) (nm_r (nI_1 i) ?_))
    rw [pz_sl] at hP
    cases ho : (pz_AU N (bw_scale i) w pz_em pz_em pr).2.1 with
    | none =>
      rw [ho] at hP
      exact pz_rs hN hw hB hB2 d (i + 1) _ _ _ _ _ (by omega) (hA.2.2.1 ho).1 hP
    | some p =>
      rw [ho] at hP
      have hp := hA.2.2.2 _ ho
      have hE : wpX2_runScaled_B55 (nI N) w Post paB (nI (k + (pz_AU N (bw_scale i) w pz_em pz_em pr).1)) (bw_scale i) (pz_cd (some p)) (pz_AU N (bw_scale i) w pz_em pz_em pr).2.2.1 (pz_AU N (bw_scale i) w pz_em pz_em pr).2.2.2.1 (pz_AU N (bw_scale i) w pz_em pz_em pr).2.2.2.2 := hP
      rw [wpX2_runScaled_B14]
      exact br_c (fun _ => hE) (fun _ => br_t (nI_pos' (by omega)) hE)
theorem pz_rs8 {stB : Int32} {g : Nat → Int32} {Post : Int32 → Int32 → Int32 → (Nat → Int32) → (Nat → Int32) → (Nat → Int32) → (Nat → Int32) → Prop} (hW : pz_ww W w) (hN : N ≤ 8) (hN1 : 1 ≤ N) (hw : pz_wb w) (hB : B ≤ 1000000) (hB2 : 2000 ≤ B) : ∀ (d i k : Nat) (st ib : Int32) (th pe pr g1 : Nat → Int32), i + d = 4 → (d = 0 → ib = 0) → pz_in N w B th pe pr → (g1 = pz_lw N w g ∨ (g1 = g ∧ 0 < d)) →
    Post (if (pz_sl N w d i k th pe pr).2.1.isSome then -10 - nI (pz_sl N w d i k th pe pr).1 else nI (pz_sl N w d i k th pe pr).1) stB (pz_fl (pz_sl N w d i k th pe pr).2.1) (pz_sl N w d i k th pe pr).2.2.1 (pz_sl N w d i k th pe pr).2.2.2.1 (pz_sl N w d i k th pe pr).2.2.2.2 (match (pz_sl N w d i k th pe pr).2.1 with | some p => pz_tw g 4 (200 + nI p) (-5) | none => pz_lw N w g) → wpX8_scaled_B12 (nI N) W Post (d + 1) stB (nI k) 1 (nI i) st ib th pe pr g1
  | 0, i, k, st, ib, th, pe, pr, g1, hi, hib, h, hg, hP => by
    rw [hib rfl]
    rw [wpX8_scaled_B12]
    rcases hg with hg | hg
    · rw [hg]
      exact br_t (nI_le (a := 4) (by omega) (by omega)) (br_t rfl hP)
    · exact absurd hg.2 (by omega)
  | d + 1, i, k, st, ib, th, pe, pr, g1, hi, hib, h, hg, hP => by
    have hE := pz_in_em (N := N) (w := w) h.2.1 h.2.2.2.2
    have hA := pz_AU_in (pa := bw_scale i) hN hw (pz_scale_in (by omega)) hB hB2 hE
    have hg2 : ∀ a b c, pz_tw g1 a b c = pz_tw g a b c := by
      intro a b c
      rcases hg with hg | hg
      · rw [hg, pz_tw_lw]
      · rw [hg.1]
    have hg3 : pz_lw N w g1 = pz_lw N w g := by
      rcases hg with hg | hg
      · rw [hg, pz_lw_lw]
      · rw [hg.1]
    rw [pz_sl] at hP
    have kk : wpX8_scaled_B55 (nI N) W (wpX8_scaled_B12 (nI N) W Post (d + 1)) Post stB (nI k) (nI i) (bw_scale i) st ib th pe pr g1 := by
      refine pz_empties hN h.2.2.1 h.2.2.2.1 (pz_bidsAll hW hN hN1 hw (pz_scale_in (by omega)) hB hB2 hE (nm_r (nI_add _ _) ?_))
      unfold pz_wr
      cases ho : (pz_AU N (bw_scale i) w pz_em pz_em pr).2.1 with
      | none =>
        rw [ho] at hP
        refine ⟨fun q => absurd rfl q, fun _ => nm_r (nI_1 i) ?_⟩
        refine pz_rs8 hW hN hN1 hw hB hB2 d (i + 1) _ _ _ _ _ _ _ (by omega) (fun _ => rfl) (hA.2.2.1 ho).1 (Or.inl ?_) hP
        dsimp only
        rw [pz_tl_lw g1 hN (hA.2.2.1 ho).1.1 (hA.2.2.1 ho).2, hg3]
      | some p =>
        rw [ho] at hP
        dsimp only
        rw [hg2]
        refine ⟨fun _ => nm_r (nI_1 i) ?_, fun q => absurd q (show ¬ (1 : Int32) = 0 by decide)⟩
        have hZ : wpX8_scaled_B89 (nI N) W Post stB (nI (k + (pz_AU N (bw_scale i) w pz_em pz_em pr).1)) (bw_scale i) (pz_fl (some p)) (pz_AU N (bw_scale i) w pz_em pz_em pr).2.2.1 (pz_AU N (bw_scale i) w pz_em pz_em pr).2.2.2.1 (pz_AU N (bw_scale i) w pz_em pz_em pr).2.2.2.2 (pz_tw g 4 (200 + nI p) (-5)) := by
          unfold wpX8_scaled_B89
          exact ⟨fun q => absurd q (show ¬ (1 : Int32) = 0 by decide), fun _ => hP⟩
        rw [wpX8_scaled_B12]
        exact br_c (fun _ => hZ) (fun _ => ⟨fun _ => hZ, fun q => absurd rfl q⟩)
    rw [wpX8_scaled_B12]
    refine br_f (nI_ge (b := 4) (by omega) (by omega)) ⟨fun q => absurd q (by decide), fun _ => ?_⟩
    have : i = 0 ∨ i = 1 ∨ i = 2 ∨ i = 3 := by omega
    rcases this with h | h | h | h <;> subst h
    · exact ⟨fun q => absurd rfl q, fun _ => kk⟩
    · exact ⟨fun _ => ⟨fun q => absurd rfl q, fun _ => kk⟩, fun q => absurd q (by decide)⟩
    · exact ⟨fun _ => ⟨fun _ => ⟨fun q => absurd rfl q, fun _ => kk⟩, fun q => absurd q (by decide)⟩, fun q => absurd q (by decide)⟩
    · exact ⟨fun _ => ⟨fun _ => ⟨fun _ => kk, fun q => absurd q (by decide)⟩, fun q => absurd q (by decide)⟩, fun q => absurd q (by decide)⟩
end PZS
