/-! auctions -/
abbrev pz_S : Type := Nat × Option Nat × (Nat → Int32) × (Nat → Int32) × (Nat → Int32)
def pz_au (N : Nat) (pa : Int32) (w : Nat → Nat → Int32) : Nat → (Nat → Int32) → (Nat → Int32) → (Nat → Int32) → pz_S
  | 0, th, pe, pr => (0, none, th, pe, pr)
  | f + 1, th, pe, pr => match pz_ln N pa w th pe pr with
    | none => (0, none, th, pe, pr)
    | some (p, t) => if pz_of N pa pr w p t ≤ 2000
      then ((pz_au N pa w f (pz_th th pe p t) (upd pe t (nI p)) (upd pr t (pz_of N pa pr w p t))).1 + 1, (pz_au N pa w f (pz_th th pe p t) (upd pe t (nI p)) (upd pr t (pz_of N pa pr w p t))).2)
      else (1, some p, pz_th th pe p t, upd pe t (nI p), upd pr t (pz_of N pa pr w p t))
def pz_mu (pr : Nat → Int32) : Nat := fb_sm (fun t => 2001 - (pr t).toInt.toNat) 8
theorem pz_mu_le (pr : Nat → Int32) : pz_mu pr ≤ 16008 := by
  have h1 := fb_sm_le (f := fun t => 2001 - (pr t).toInt.toNat) (g := fun _ => 2001) (n := 8) (fun k _ => by omega)
  rw [fb_sm_const] at h1
  exact h1
theorem pz_mu_bid {pr : Nat → Int32} {t : Nat} {x : Int32} (ht : t < 8) (h0 : 0 ≤ (pr t).toInt) (h1 : (pr t).toInt < x.toInt) (h2 : x ≤ 2000) : pz_mu (upd pr t x) < pz_mu pr := by
  rw [fa_le] at h2
  have h2 : x.toInt ≤ 2000 := h2
  have e := fb_sm_upd (fun t => 2001 - (pr t).toInt.toNat) (2001 - x.toInt.toNat) (i := t) (n := 8) ht
  have e2 : (fun k => 2001 - (upd pr t x k).toInt.toNat) = fun k => if k = t then 2001 - x.toInt.toNat else 2001 - (pr k).toInt.toNat := by
    funext k
    unfold upd
    split <;> rfl
  unfold pz_mu
  rw [e2]
  omega
theorem pz_pb_upd {B : Int} {pr : Nat → Int32} {t : Nat} {x : Int32} (h : pz_pb B pr) (h1 : 0 ≤ x.toInt) (h2 : x.toInt ≤ B) : pz_pb B (upd pr t x) := fun k hk => by
  by_cases q : k = t
  · rw [q, pk_us]; exact ⟨h1, h2⟩
  · rw [pk_un q]; exact h k hk
theorem pz_pb_mono {B C : Int} {pr : Nat → Int32} (h : pz_pb B pr) (hB : B ≤ C) : pz_pb C pr := fun k hk => ⟨(h k hk).1, by have := (h k hk).2; omega⟩
theorem pz_z_th {th pe : Nat → Int32} {p t : Nat} (h : pz_z th) (hp : p < 8) (hq : pe t < 0 ∨ vp_in (pe t) 8) : pz_z (pz_th th pe p t) := by
  unfold pz_th
  refine pz_z_upd ?_ hp
  split
  · exact h
  · next c =>
    rcases hq with q | q
    · exact absurd q c
    · exact pz_z_upd h (bw_lt q)
theorem pz_ok_in {N : Nat} {w : Nat → Nat → Int32} {th pe : Nat → Int32} {t : Nat} (hN : N ≤ 8) (hok : pz_ok N w th pe) (ht : t < 8) : pe t < 0 ∨ vp_in (pe t) 8 := by
  rcases hok.2 t ht with e | ⟨q, h3, -, e, -⟩
  · rw [e]; exact Or.inl pz_m1
  · rw [e]; exact Or.inr (vp_in_nI (by omega) (by decide))
/-- all that bids keep -/
def pz_in (N : Nat) (w : Nat → Nat → Int32) (B : Int) (th pe pr : Nat → Int32) : Prop := pz_ok N w th pe ∧ pz_pb B pr ∧ pz_z th ∧ pz_z pe ∧ pz_z pr
theorem pz_in_bid {N : Nat} {pa : Int32} {w : Nat → Nat → Int32} {B : Int} {th pe pr : Nat → Int32} {p t : Nat} (hN : N ≤ 8) (hw : pz_wb w) (hpa : 1 ≤ pa.toInt ∧ pa.toInt ≤ 50) (hB : B ≤ 1000000) (h : pz_in N w B th pe pr) (hl : pz_ln N pa w th pe pr = some (p, t)) :
    (∀ C : Int, B ≤ C → (pz_of N pa pr w p t).toInt ≤ C → pz_in N w C (pz_th th pe p t) (upd pe t (nI p)) (upd pr t (pz_of N pa pr w p t))) ∧ (pr t).toInt < (pz_of N pa pr w p t).toInt ∧ (pz_of N pa pr w p t).toInt ≤ B + 941 := by
  obtain ⟨hp, ht, hth, hwt, hx, hb⟩ := pz_ln_lt hl
  obtain ⟨h1, h2, h3, h4, h5⟩ := h
  have hI := pz_ofI hN hw h2 hB hpa (by omega) hb
  have h0 := (h2 t (by omega)).1
  exact ⟨fun C hC hx => ⟨pz_ok_bid hN h1 hp ht hth hwt, pz_pb_upd (pz_pb_mono h2 hC) (by omega) hx, pz_z_th h3 (by omega) (pz_ok_in hN h1 (by omega)), pz_z_upd h4 (by omega), pz_z_upd h5 (by omega)⟩, hI⟩
theorem pz_au_in {N : Nat} {pa : Int32} {w : Nat → Nat → Int32} {B : Int} (hN : N ≤ 8) (hw : pz_wb w) (hpa : 1 ≤ pa.toInt ∧ pa.toInt ≤ 50) (hB : B ≤ 1000000) (hB2 : 2000 ≤ B) : ∀ (f : Nat) (th pe pr : Nat → Int32), pz_in N w B th pe pr → pz_mu pr < f →
    pz_in N w (B + 941) (pz_au N pa w f th pe pr).2.2.1 (pz_au N pa w f th pe pr).2.2.2.1 (pz_au N pa w f th pe pr).2.2.2.2 ∧ (pz_au N pa w f th pe pr).1 ≤ f ∧
    ((pz_au N pa w f th pe pr).2.1 = none → pz_in N w B (pz_au N pa w f th pe pr).2.2.1 (pz_au N pa w f th pe pr).2.2.2.1 (pz_au N pa w f th pe pr).2.2.2.2 ∧ pz_nx N (pz_au N pa w f th pe pr).2.2.1 w = none)
    ∧ ∀ p, (pz_au N pa w f th pe pr).2.1 = some p → p < N
  | 0, th, pe, pr, _, hm => absurd hm (by omega)
  | f + 1, th, pe, pr, h, hm => by
    rw [pz_au]
    cases hl : pz_ln N pa w th pe pr with
    | none => exact ⟨⟨h.1, pz_pb_mono h.2.1 (by omega), h.2.2⟩, Nat.zero_le _, fun _ => ⟨h, pz_ln_none hN hl⟩, fun p q => by cases q⟩
    | some x =>
      obtain ⟨p, t⟩ := x
      obtain ⟨h1, h2, h3⟩ := pz_in_bid hN hw hpa hB h hl
      have hlt := pz_ln_lt hl
      have h0 := (h.2.1 t (by omega)).1
      dsimp only
      by_cases c : pz_of N pa pr w p t ≤ 2000
      · rw [if_pos c]
        have c2 : (pz_of N pa pr w p t).toInt ≤ 2000 := by rw [fa_le] at c; exact c
        have ih := pz_au_in hN hw hpa hB hB2 f _ _ _ (h1 B (Int.le_refl _) (by omega)) (by have := pz_mu_bid (by omega) h0 h2 c; omega)
        exact ⟨ih.1, (by dsimp only; omega), ih.2.2⟩
      · rw [if_neg c]
        exact ⟨h1 (B + 941) (by omega) h3, (by dsimp only; omega), fun q => absurd q (fun q => by cases q), fun q hq => (by cases hq; exact hlt.1)⟩
theorem pz_runA {N : Nat} {pa : Int32} {w : Nat → Nat → Int32} {B : Int} {Post : Int32 → Int32 → (Nat → Int32) → (Nat → Int32) → (Nat → Int32) → Prop} (hN : N ≤ 8) (hw : pz_wb w) (hpa : 1 ≤ pa.toInt ∧ pa.toInt ≤ 50) (hB : B ≤ 1000000) (hB2 : 2000 ≤ B) : ∀ (f k : Nat) (th pe pr : Nat → Int32), pz_in N w B th pe pr → pz_mu pr < f → k + f ≤ 1000000 →
    Post (nI (k + (pz_au N pa w f th pe pr).1)) (pz_cd (pz_au N pa w f th pe pr).2.1) (pz_au N pa w f th pe pr).2.2.1 (pz_au N pa w f th pe pr).2.2.2.1 (pz_au N pa w f th pe pr).2.2.2.2 →
    (pz_ln N pa w th pe pr = none → wpX2_runAuction_B12 (nI N) pa w Post (f + 1) (nI k) (-1) (-1) th pe pr) ∧ (∀ p t, pz_ln N pa w th pe pr = some (p, t) → wpX2_runAuction_B12 (nI N) pa w Post (f + 1) (nI k) (nI t) (-1) (pz_th th pe p t) (upd pe t (nI p)) (upd pr t (pz_of N pa pr w p t)))
  | 0, k, th, pe, pr, _, hm, _, _ => absurd hm (by omega)
  | f + 1, k, th, pe, pr, h, hm, hk, hP => by
    refine ⟨fun hl => ?_, fun p t hl => ?_⟩
    · rw [wpX2_runAuction_B12]
      refine br_t pz_m1 ?_
      rw [pz_au, hl] at hP
      exact hP
    · obtain ⟨h1, h2, h3⟩ := pz_in_bid hN hw hpa hB h hl
      have hlt := pz_ln_lt hl
      have h0 := (h.2.1 t (by omega)).1
      rw [wpX2_runAuction_B12]
      refine br_f (nI_pos (by omega)) (br_f (nI_ge (a := k) (b := 1000000) (by omega) (by decide)) (nm_r (nI_1 k) ⟨vp_in_nI (by omega) (by decide), ?_⟩))
      rw [nI_clamp (by omega), pk_us, pk_us]
      rw [pz_au, hl] at hP
      dsimp only at hP
      refine br_c (fun c => ?_) (fun c => ⟨vp_in_nI (by omega) (by decide), ?_⟩)
      · rw [if_pos c] at hP
        have c2 : (pz_of N pa pr w p t).toInt ≤ 2000 := by rw [fa_le] at c; exact c
        have ih := pz_runA (Post := Post) hN hw hpa hB hB2 f (k + 1) _ _ _ (h1 B (Int.le_refl _) (by omega)) (by have := pz_mu_bid (by omega) h0 h2 c; omega) (by omega) (by
          rw [Nat.add_assoc, Nat.add_comm 1]
          exact hP)
        exact pz_letNextBid hN (h1 B (Int.le_refl _) (by omega)).1 ih.1 ih.2
      · rw [if_neg c] at hP
        exact hP
def pz_AU (N : Nat) (pa : Int32) (w : Nat → Nat → Int32) (th pe pr : Nat → Int32) : pz_S := pz_au N pa w 20000 th pe pr
theorem pz_runAuction {N : Nat} {pa br : Int32} {w : Nat → Nat → Int32} {B : Int} {th pe pr : Nat → Int32} {Post : Int32 → Int32 → (Nat → Int32) → (Nat → Int32) → (Nat → Int32) → Prop} (hN : N ≤ 8) (hw : pz_wb w) (hpa : 1 ≤ pa.toInt ∧ pa.toInt ≤ 50) (hB : B ≤ 1000000) (hB2 : 2000 ≤ B) (h : pz_in N w B th pe pr)
    (hP : Post (nI (pz_AU N pa w th pe pr).1) (pz_cd (pz_AU N pa w th pe pr).2.1) (pz_AU N pa w th pe pr).2.2.1 (pz_AU N pa w th pe pr).2.2.2.1 (pz_AU N pa w th pe pr).2.2.2.2) : wpX2_runAuction (nI N) pa br th pe pr w Post := by
  have hm := pz_mu_le pr
  have key := pz_runA (Post := Post) hN hw hpa hB hB2 20000 0 th pe pr h (by omega) (by decide) (by rw [Nat.zero_add]; exact hP)
  exact pz_letNextBid hN h.1 (fun hl => ⟨20001, key.1 hl⟩) (fun p t hl => ⟨20001, key.2 p t hl⟩)
/-! what is told of an auction -/
def pz_tw (f : Nat → Int32) (a b c : Int32) : Nat → Int32 := upd (upd (upd f 0 a) 1 b) 2 c
theorem pz_tw_tw (f : Nat → Int32) (a b c a2 b2 c2 : Int32) : pz_tw (pz_tw f a b c) a2 b2 c2 = pz_tw f a2 b2 c2 := by
  funext k
  unfold pz_tw upd
  by_cases h2 : k = 2
  · simp [h2]
  by_cases h1 : k = 1
  · simp [h1]
  by_cases h0 : k = 0
  · simp [h0]
  · simp [h0, h1, h2]
theorem pz_tellsWrong {f : Nat → Int32} {a b c : Int32} {Post : (Nat → Int32) → Prop} (h : Post (pz_tw f a b c)) : wpX8_tellsWrong f a b c Post :=
  ⟨vp_in_nI (n := 0) (by decide) (by decide), vp_in_nI (n := 1) (by decide) (by decide), vp_in_nI (n := 2) (by decide) (by decide), h⟩
def pz_cx (th : Nat → Int32) : Nat → Bool := fun p => decide (th p < 0)
def pz_tl (N : Nat) (th f : Nat → Int32) : Nat → Int32 := match pz_fs (pz_cx th) N 0 with
  | none => f
  | some l => pz_tw f 5 (200 + nI l) (300 + nI (fb_ct (pz_cx th) N))
theorem pz_tellsLeft {N : Nat} {th f : Nat → Int32} {Post : (Nat → Int32) → Prop} (hN : N ≤ 8) (h : Post (pz_tl N th f)) : wpX8_tellsLeft (nI N) th f Post := by
  refine nm_e (nm_e ⟨N + 1, ?_⟩)
  have key := pz_dn (fun g i (s : Nat × Option Nat) => wpX8_tellsLeft_B11 (nI N) th Post g (nI s.1) (pz_cd s.2) (nI i - 1) f) (fun i s => i ≤ N ∧ s.1 + fb_ct (pz_cx th) i = fb_ct (pz_cx th) N ∧ s.2 = pz_fs (pz_cx th) (N - i) i) (fun n s hs => ?_) (fun n i s hs k => ?_) N (0, none) ⟨Nat.le_refl _, by dsimp only; omega, by rw [Nat.sub_self]; rfl⟩
  · exact key
  · obtain ⟨m, o⟩ := s
    obtain ⟨-, h1, h2⟩ := hs
    have h1 : m + 0 = fb_ct (pz_cx th) N := h1
    have hle := fb_ct_le (pz_cx th) N
    have h2 : o = pz_fs (pz_cx th) N 0 := h2
    rw [wpX8_tellsLeft_B11]
    refine br_t (by decide) ?_
    unfold pz_tl at h
    rw [← h2] at h
    by_cases c : m = 0
    · refine br_t (by rw [c]; show nI 0 ≤ 0; decide) ?_
      cases o with
      | none => exact h
      | some l =>
        obtain ⟨-, h4, h5, -⟩ := pz_fs_some _ _ _ h2.symm
        have := (fb_ct_pos (n := N)).mpr ⟨l, by omega, h5⟩
        omega
    · refine br_f (nI_nle (by omega) (by omega)) (pz_tellsWrong ?_)
      cases o with
      | none =>
        have h3 := pz_fs_none _ _ h2.symm
        have := (fb_ct_zero (n := N)).mpr (fun k hk => h3 k (Nat.zero_le _) (by omega))
        omega
      | some l =>
        dsimp only at h
        rw [← h1] at h
        exact h
  · obtain ⟨m, o⟩ := s
    obtain ⟨hi, h1, h2⟩ := hs
    dsimp only at h1 h2
    rw [wpX8_tellsLeft_B11, nI_pred]
    refine br_f (nI_pos (by omega)) ⟨vp_in_nI (by omega) (by decide), ?_⟩
    rw [nI_clamp (by omega)]
    have e1 : pz_fs (pz_cx th) (N - i) i = if pz_cx th i then some i else pz_fs (pz_cx th) (N - (i + 1)) (i + 1) := by
      rw [show N - i = (N - (i + 1)) + 1 by omega, pz_fs]
    have e2 := fb_ct_succ (pz_cx th) i
    have kk : ∀ m2 o2, m2 + fb_ct (pz_cx th) i = fb_ct (pz_cx th) N → o2 = pz_fs (pz_cx th) (N - i) i → wpX8_tellsLeft_B46 (nI N) th (wpX8_tellsLeft_B11 (nI N) th Post n) Post (nI m2) (nI i) (pz_cd o2) f :=
      fun m2 o2 q1 q2 => nm_r (by rw [Int32.sub_eq_add_neg]) (k (m2, o2) ⟨by omega, q1, q2⟩)
    have z0 : nI m + 0 = nI m := nI_add m 0
    refine br_c (fun c => ?_) (fun c => ?_)
    · have c1 : pz_cx th i = false := by
        unfold pz_cx
        rw [fa_le] at c
        exact decide_eq_false (by rw [fa_lt]; omega)
      rw [c1] at e1 e2
      refine nm_r z0 ⟨vp_in_nI (by omega) (by decide), ?_⟩
      rw [nI_clamp (by omega)]
      exact br_t c (kk m o (by simp at e2; omega) (by rw [e1]; exact h2))
    · have c1 : pz_cx th i = true := decide_eq_true (fa_of_nle c)
      rw [c1] at e1 e2
      refine nm_r (nI_1 m) ⟨vp_in_nI (by omega) (by decide), ?_⟩
      rw [nI_clamp (by omega)]
      exact br_f c (kk (m + 1) (some i) (by simp at e2; omega) (by rw [e1]; rfl))
/-- what the rounds of an auction tell -/
def pz_wr (N : Nat) (r : pz_S) (f : Nat → Int32) : Nat → Int32 := match r.2.1 with
  | some p => pz_tw f 4 (200 + nI p) (-5)
  | none => pz_tl N r.2.2.1 f
def pz_fl (o : Option Nat) : Int32 := if o.isSome then 1 else 0
theorem pz_bidA {N : Nat} {pa : Int32} {w : Nat → Nat → Int32} {W : Nat → Int32} {B : Int} {Post : Int32 → Int32 → (Nat → Int32) → (Nat → Int32) → (Nat → Int32) → (Nat → Int32) → Prop} (hW : pz_ww W w) (hN : N ≤ 8) (hN1 : 1 ≤ N) (hw : pz_wb w) (hpa : 1 ≤ pa.toInt ∧ pa.toInt ≤ 50) (hB : B ≤ 1000000) (hB2 : 2000 ≤ B) : ∀ (f k : Nat) (th pe pr g : Nat → Int32), pz_in N w B th pe pr → pz_mu pr < f →
    Post (nI (k + (pz_au N pa w f th pe pr).1)) (pz_fl (pz_au N pa w f th pe pr).2.1) (pz_au N pa w f th pe pr).2.2.1 (pz_au N pa w f th pe pr).2.2.2.1 (pz_au N pa w f th pe pr).2.2.2.2 (pz_wr N (pz_au N pa w f th pe pr) g) →
    wpX8_bidsAll_B12 (nI N) pa W Post (f + 1) (nI k) (pz_cd (pz_nx N th w)) 0 th pe pr g
  | 0, k, th, pe, pr, g, _, hm, _ => absurd hm (by omega)
  | f + 1, k, th, pe, pr, g, h, hm, hP => by
    rw [wpX8_bidsAll_B12]
    cases hl : pz_ln N pa w th pe pr with
    | none =>
      rw [pz_ln_none hN hl]
      rw [pz_au, hl] at hP
      exact br_t pz_m1 ⟨fun q => absurd rfl q, fun _ => pz_tellsLeft hN hP⟩
    | some x =>
      obtain ⟨p, t⟩ := x
      obtain ⟨h1, h2, h3⟩ := pz_in_bid hN hw hpa hB h hl
      have hlt := pz_ln_lt hl
      have h0 := (h.2.1 t (by omega)).1
      rw [pz_au, hl] at hP
      dsimp only at hP
      rw [hlt.2.2.2.2.1]
      refine br_f (nI_pos (by omega)) ⟨fun q => absurd rfl q, fun _ => pz_bids hW hN hN1 h.1 hl (nm_r (nI_1 k) ⟨vp_in_nI (by omega) (by decide), ?_⟩)⟩
      rw [nI_clamp (by omega), pk_us]
      refine br_c (fun c => ?_) (fun c => ?_)
      · rw [if_pos c] at hP
        have c2 : (pz_of N pa pr w p t).toInt ≤ 2000 := by rw [fa_le] at c; exact c
        refine ⟨Or.inl rfl, br_t rfl (pz_next hW hN hN1 ?_)⟩
        refine pz_bidA hW hN hN1 hw hpa hB hB2 f (k + 1) _ _ _ g (h1 B (Int.le_refl _) (by omega)) (by have := pz_mu_bid (by omega) h0 h2 c; omega) ?_
        rw [Nat.add_assoc, Nat.add_comm 1]
        exact hP
      · rw [if_neg c] at hP
        refine ⟨Or.inr rfl, br_f (by decide) (pz_tellsWrong (pz_next hW hN hN1 ?_))⟩
        have hE : wpX8_bidsAll_B80 (nI N) pa W Post (nI (k + 1)) 1 (pz_th th pe p t) (upd pe t (nI p)) (upd pr t (pz_of N pa pr w p t)) (pz_tw g 4 (200 + nI p) (-5)) := by
          unfold wpX8_bidsAll_B80
          exact ⟨fun _ => hP, fun q => absurd q (by decide)⟩
        rw [wpX8_bidsAll_B12]
        exact br_c (fun _ => hE) (fun _ => ⟨fun _ => hE, fun q => absurd q (by decide)⟩)
theorem pz_bidsAll {N : Nat} {pa ib : Int32} {w : Nat → Nat → Int32} {W : Nat → Int32} {B : Int} {th pe pr g : Nat → Int32} {Post : Int32 → Int32 → (Nat → Int32) → (Nat → Int32) → (Nat → Int32) → (Nat → Int32) → Prop} (hW : pz_ww W w) (hN : N ≤ 8) (hN1 : 1 ≤ N) (hw : pz_wb w) (hpa : 1 ≤ pa.toInt ∧ pa.toInt ≤ 50) (hB : B ≤ 1000000) (hB2 : 2000 ≤ B) (h : pz_in N w B th pe pr)
    (hP : Post (nI (pz_AU N pa w th pe pr).1) (pz_fl (pz_AU N pa w th pe pr).2.1) (pz_AU N pa w th pe pr).2.2.1 (pz_AU N pa w th pe pr).2.2.2.1 (pz_AU N pa w th pe pr).2.2.2.2 (pz_wr N (pz_AU N pa w th pe pr) g)) : wpX8_bidsAll (nI N) pa ib W th pe pr g Post :=
  pz_next hW hN hN1 ⟨20001, pz_bidA hW hN hN1 hw hpa hB hB2 20000 0 th pe pr g h (by have := pz_mu_le pr; omega) (by rw [Nat.zero_add]; exact hP)⟩
/-! rows emptied -/
def pz_em : Nat → Int32 := fun k => if k < 8 then -1 else 0
theorem pz_em_z : pz_z pz_em := fun k hk => if_neg (by omega)
theorem pz_fill8 {f : Nat → Int32} {x : Int32} (h : pz_z f) : fa_fill (fun _ => x) f 8 = fun k => if k < 8 then x else 0 := by
  funext k
  by_cases q : k < 8
  · rw [fa_fill_in q, if_pos q]
  · rw [fa_fill_out (by omega), if_neg q, h k (by omega)]
theorem pz_fill0 {f : Nat → Int32} (h : pz_z f) : fa_fill (fun _ => 0) f 8 = fun _ => (0 : Int32) := by
  rw [pz_fill8 h]
  funext k
  split <;> rfl
theorem pz_takeAllAway {th pe : Nat → Int32} {Post : (Nat → Int32) → (Nat → Int32) → Prop} (h1 : pz_z th) (h2 : pz_z pe) (h : Post pz_em pz_em) : wpX2_takeAllAway th pe Post := by
  refine loop_0 (fun g i (s : (Nat → Int32) × (Nat → Int32)) => wpX2_takeAllAway_B2 Post g (nI i) s.1 s.2) (fun i s => s = (fa_fill (fun _ => -1) th i, fa_fill (fun _ => -1) pe i)) 8 (th, pe) (by rw [fa_fill_0, fa_fill_0]) (fun n s hs => ?_) (fun n i s hi hs k => ?_)
  · rw [hs, wpX2_takeAllAway_B2]
    refine br_t (by decide) ?_
    dsimp only
    rw [pz_fill8 h1, pz_fill8 h2]
    exact h
  · rw [hs, wpX2_takeAllAway_B2]
    refine br_f (nI_ge (b := 8) hi (by decide)) ⟨vp_in_nI (by omega) (by decide), vp_in_nI (by omega) (by decide), nm_r (nI_1 i) ?_⟩
    rw [nI_clamp (by omega)]
    exact k (upd (fa_fill (fun _ => -1) th i) i (-1), upd (fa_fill (fun _ => -1) pe i) i (-1)) (by rw [← fa_fill_succ (fun _ => -1) th, ← fa_fill_succ (fun _ => -1) pe])
theorem pz_startAnew {th pe pr : Nat → Int32} {Post : (Nat → Int32) → (Nat → Int32) → (Nat → Int32) → Prop} (h1 : pz_z th) (h2 : pz_z pe) (h3 : pz_z pr) (h : Post pz_em pz_em (fun _ => 0)) : wpX2_startAnew th pe pr Post := by
  refine pz_takeAllAway h1 h2 ?_
  refine loop_0 (fun g i (s : Nat → Int32) => wpX2_startAnew_B6 Post g (nI i) pz_em pz_em s) (fun i s => s = fa_fill (fun _ => 0) pr i) 8 pr (by rw [fa_fill_0]) (fun n s hs => ?_) (fun n i s hi hs k => ?_)
  · rw [hs, wpX2_startAnew_B6]
    refine br_t (by decide) ?_
    rw [pz_fill0 h3]
    exact h
  · rw [hs, wpX2_startAnew_B6]
    refine br_f (nI_ge (b := 8) hi (by decide)) ⟨vp_in_nI (by omega) (by decide), nm_r (nI_1 i) ?_⟩
    rw [nI_clamp (by omega)]
    exact k _ (by rw [← fa_fill_succ (fun _ => 0) pr])
theorem pz_free {pr : Nat → Int32} {Post : (Nat → Int32) → Prop} (h3 : pz_z pr) (h : Post (fun _ => 0)) : wpX8_free pr Post := by
  refine loop_0 (fun g i (s : Nat → Int32) => wpX8_free_B2 Post g (nI i) s) (fun i s => s = fa_fill (fun _ => 0) pr i) 8 pr (by rw [fa_fill_0]) (fun n s hs => ?_) (fun n i s hi hs k => ?_)
  · rw [hs, wpX8_free_B2]
    refine br_t (by decide) ?_
    rw [pz_fill0 h3]
    exact h
  · rw [hs, wpX8_free_B2]
    refine br_f (nI_ge (b := 8) hi (by decide)) ⟨vp_in_nI (by omega) (by decide), nm_r (nI_1 i) ?_⟩
    rw [nI_clamp (by omega)]
    exact k _ (by rw [← fa_fill_succ (fun _ => 0) pr])
def pz_oc (N : Nat) (th : Nat → Int32) : Nat := fb_ct (fun p => !pz_cx th p) N
theorem pz_empties {N : Nat} {th pe : Nat → Int32} {Post : Int32 → (Nat → Int32) → (Nat → Int32) → Prop} (hN : N ≤ 8) (h1 : pz_z th) (h2 : pz_z pe) (h : Post (nI (pz_oc N th)) pz_em pz_em) : wpX8_empties (nI N) th pe Post := by
  refine loop_0 (fun g i (s : Nat × (Nat → Int32) × (Nat → Int32)) => wpX8_empties_B4 (nI N) Post g (nI s.1) (nI i) s.2.1 s.2.2) (fun i s => s = (fb_ct (fun p => !pz_cx th p) (min i N), fa_fill (fun _ => -1) th i, fa_fill (fun _ => -1) pe i)) 8 (0, th, pe) (by rw [fa_fill_0, fa_fill_0, Nat.zero_min]; rfl) (fun n s hs => ?_) (fun n i s hi hs k => ?_)
  · rw [hs, wpX8_empties_B4]
    refine br_t (by decide) ?_
    dsimp only
    rw [pz_fill8 h1, pz_fill8 h2, Nat.min_eq_right hN]
    exact h
  · rw [hs, wpX8_empties_B4]
    dsimp only
    refine br_f (nI_ge (b := 8) hi (by decide)) ⟨vp_in_nI (by omega) (by decide), ?_⟩
    rw [nI_clamp (by omega), fa_fill_out (Nat.le_refl _)]
    have kk : ∀ m, m = fb_ct (fun p => !pz_cx th p) (min (i + 1) N) → vp_in (nI i) 8 ∧ (vp_in (nI i) 8 ∧ (∀ x7 : Int32, x7 = nI i + 1 → wpX8_empties_B4 (nI N) Post n (nI m) x7 (upd (fa_fill (fun _ => -1) th i) (nI i).toNatClampNeg (-1)) (upd (fa_fill (fun _ => -1) pe i) (nI i).toNatClampNeg (-1)))) := by
      intro m hm
      refine ⟨vp_in_nI (by omega) (by decide), vp_in_nI (by omega) (by decide), nm_r (nI_1 i) ?_⟩
      rw [nI_clamp (by omega)]
      exact k (m, upd (fa_fill (fun _ => -1) th i) i (-1), upd (fa_fill (fun _ => -1) pe i) i (-1)) (by rw [hm, ← fa_fill_succ (fun _ => -1) th, ← fa_fill_succ (fun _ => -1) pe])
    have e2 := fb_ct_succ (fun p => !pz_cx th p) i
    have z0 : ∀ m, nI m + 0 = nI m := fun m => nI_add m 0
    refine br_c (fun c => nm_r (z0 _) (kk _ ?_)) (fun c => br_c (fun c2 => nm_r (z0 _) (kk _ ?_)) (fun c2 => nm_r (nI_1 _) (kk _ ?_)))
    · have c1 : pz_cx th i = true := decide_eq_true c
      rw [c1] at e2
      by_cases q : i < N
      · rw [Nat.min_eq_left (by omega), Nat.min_eq_left (by omega)]; simp at e2; omega
      · rw [Nat.min_eq_right (by omega), Nat.min_eq_right (by omega)]
    · rw [nI_leI (by omega) (by omega)] at c2
      rw [Nat.min_eq_right (by omega), Nat.min_eq_right (by omega)]
    · rw [nI_leI (by omega) (by omega)] at c2
      have c1 : pz_cx th i = false := decide_eq_false c
      rw [c1] at e2
      rw [Nat.min_eq_left (by omega), Nat.min_eq_left (by omega)]; simp at e2; omega
