/-! odds; where a plan ends -/
def pz_oa (N : Nat) (w : Nat → Nat → Int32) (th : Nat → Int32) (p : Nat) : Nat → Bool := fun i => decide ((pz_TA N (nI (5 * i + 1)) w).2.2.1 p = th p)
theorem pz_pace {i : Nat} (hi : i < 10) : 1 ≤ (nI (5 * i + 1)).toInt ∧ (nI (5 * i + 1)).toInt ≤ 50 := by
  rw [nI_toInt (by omega)]; omega
section PZU
variable {N : Nat} {B : Int} {pa : Int32} {w : Nat → Nat → Int32} {W th pe pr : Nat → Int32} {p t u : Nat}
theorem pz_odds7 {a2 xn xpa xbr : Int32} {xth xpe xpr : Nat → Int32} {xw : Nat → Nat → Int32} {Post : Int64 → Int32 → Int32 → Int32 → (Nat → Int32) → (Nat → Int32) → (Nat → Int32) → (Nat → Nat → Int32) → Prop} (hM : pz_M N B pa w W th pe pr) (hp : p < N) (hz : pz_z3 xth xpe xpr)
    (h0 : a2 = 0 ∨ a2 = 1 → ∀ xn xpa xbr xth xpe xpr xw, pz_z3 xth xpe xpr → Post (pz_lt2 (fb_ct (pz_oa N w th p) 10) 10 a2) xn xpa xbr xth xpe xpr xw)
    (h1 : ¬ a2 = 0 → ¬ a2 = 1 → ∀ xn xpa xbr xth xpe xpr xw, pz_z3 xth xpe xpr → Post (-9223372036854775808) xn xpa xbr xth xpe xpr xw) : ∃ g : Nat, wpX7_odds_B26 (nI N) pa th pe pr w (nI p) a2 Post g 0 0 1 xn xpa xbr xth xpe xpr xw := by
  obtain ⟨hN, hN1, hW, hw, hpa, hI⟩ := hM
  have hzh : pz_z3 th pe pr := ⟨hI.2.2.1, hI.2.2.2.1, hI.2.2.2.2⟩
  refine loop_0 (fun g i (s : Nat × Int32 × Int32 × Int32 × (Nat → Int32) × (Nat → Int32) × (Nat → Int32) × (Nat → Nat → Int32)) => wpX7_odds_B26 (nI N) pa th pe pr w (nI p) a2 Post g (nI s.1) (nI i) (nI (5 * i + 1)) s.2.1 s.2.2.1 s.2.2.2.1 s.2.2.2.2.1 s.2.2.2.2.2.1 s.2.2.2.2.2.2.1 s.2.2.2.2.2.2.2)
    (fun i s => s.1 = fb_ct (pz_oa N w th p) i ∧ pz_z3 s.2.2.2.2.1 s.2.2.2.2.2.1 s.2.2.2.2.2.2.1) 10 (0, xn, xpa, xbr, xth, xpe, xpr, xw) ⟨rfl, hz⟩ (fun n s hs => ?_) (fun n i s hi hs k => ?_)
  · obtain ⟨c, xn, xpa, xbr, xth, xpe, xpr, xw⟩ := s
    obtain ⟨g1, g2⟩ := hs
    dsimp only at g1 g2 ⊢
    have hc := fb_ct_le (pz_oa N w th p) 10
    rw [wpX7_odds_B26, g1]
    exact br_t (by decide) (pz_lowestTerms (b := 10) (by omega) (by decide) (by decide) (fun q => h0 q _ _ _ _ _ _ _ g2) (fun q1 q2 => h1 q1 q2 _ _ _ _ _ _ _ g2))
  · obtain ⟨c, xn, xpa, xbr, xth, xpe, xpr, xw⟩ := s
    obtain ⟨g1, g2⟩ := hs
    dsimp only at g1 g2 ⊢
    rw [wpX7_odds_B26]
    refine br_f (nI_nlt (b := 5 * i + 1) (a := 46) (by omega) (by omega)) (pz_become g2 hzh (fun w1 hw1 => pz_startAnew hzh.1 hzh.2.1 hzh.2.2 (pz_runAuction (B := 2000) hN (pz_wb_c hw1 hw) (pz_pace hi) (by decide) (by decide) pz_in0 ?_)))
    have eA : pz_AU N (nI (5 * i + 1)) w1 pz_em pz_em (fun _ => 0) = pz_TA N (nI (5 * i + 1)) w := (pz_AU_c hw1 hN).symm
    rw [eA]
    have hz2 := pz_TA_z (N := N) hN hw (pz_pace hi)
    have e1 := fb_ct_succ (pz_oa N w th p) i
    have e5 : nI (5 * i + 1) + 5 = nI (5 * (i + 1) + 1) := nI_add (5 * i + 1) 5
    refine nm_r (nI_1 i) ⟨vp_in_nI (by omega) (by decide), vp_in_nI (by omega) (by decide), ?_⟩
    rw [nI_clamp (by omega)]
    refine bq_c (fun c0 => nm_r e5 (k (c, _, _, _, _, _, _, _) ⟨?_, hz2⟩)) (fun c0 => nm_r (nI_1 c) (nm_r e5 (k (c + 1, _, _, _, _, _, _, _) ⟨?_, hz2⟩)))
    · have : pz_oa N w th p i = false := decide_eq_false c0
      rw [e1, this, ← g1]; rfl
    · have : pz_oa N w th p i = true := decide_eq_true c0
      rw [e1, this, ← g1]; rfl
theorem pz_odds8 {a2 ib st : Int32} {f mh mo mp mw : Nat → Int32} {Post : Int64 → Int32 → Int32 → Int32 → (Nat → Int32) → (Nat → Int32) → (Nat → Int32) → (Nat → Int32) → (Nat → Int32) → (Nat → Int32) → (Nat → Int32) → (Nat → Int32) → Prop} (hM : pz_M N B pa w W th pe pr) (hp : p < N) (hmi : pz_mi th pe pr f mh mo mp mw)
    (h : ∀ ib f2, (∀ k, k < 3 → f2 k = f k) → Post (pz_lt2 (fb_ct (pz_oa N w th p) 10) 10 a2) pa pa ib th pe pr f2 mh mo mp mw) : ∃ g : Nat, wpX8_odds_B39 (nI N) W (nI p) a2 Post g (th p) 0 1 st pa ib th pe pr f mh mo mp mw := by
  obtain ⟨hN, hN1, hW, hw, hpa, hI⟩ := hM
  have hzh : pz_z3 th pe pr := ⟨hI.2.2.1, hI.2.2.2.1, hI.2.2.2.2⟩
  refine loop_0 (fun g i (s : Nat × Int32 × Int32 × (Nat → Int32) × (Nat → Int32) × (Nat → Int32) × (Nat → Int32)) => wpX8_odds_B39 (nI N) W (nI p) a2 Post g (th p) (nI s.1) (nI (5 * i + 1)) s.2.1 pa s.2.2.1 s.2.2.2.1 s.2.2.2.2.1 s.2.2.2.2.2.1 s.2.2.2.2.2.2 mh mo mp mw)
    (fun i s => s.1 = fb_ct (pz_oa N w th p) i ∧ pz_z3 s.2.2.2.1 s.2.2.2.2.1 s.2.2.2.2.2.1) 10 (0, st, ib, th, pe, pr, f) ⟨rfl, hzh⟩ (fun n s hs => ?_) (fun n i s hi hs k => ?_)
  · obtain ⟨c, st, ib, th1, pe1, pr1, f1⟩ := s
    obtain ⟨g1, g2⟩ := hs
    dsimp only at g1 g2 ⊢
    have hc := fb_ct_le (pz_oa N w th p) 10
    rw [wpX8_odds_B39, g1]
    refine br_t (by decide) (pz_forgets hzh g2 hmi (fun f2 hf2 => ?_))
    rw [nI_l (by omega)]
    exact pz_lowest (b := 10) (by omega) (by decide) (by decide) (h ib f2 hf2)
  · obtain ⟨c, st, ib, th1, pe1, pr1, f1⟩ := s
    obtain ⟨g1, g2⟩ := hs
    dsimp only at g1 g2 ⊢
    rw [wpX8_odds_B39]
    refine br_f (nI_ge (a := 5 * i + 1) (b := 50) (by omega) (by decide)) (pz_tries hW hN hN1 hw (pz_pace hi) g2 (fun b g => ⟨vp_in_nI (by omega) (by decide), ?_⟩))
    rw [nI_clamp (by omega)]
    have hz2 := pz_TA_z (N := N) hN hw (pz_pace hi)
    have e1 := fb_ct_succ (pz_oa N w th p) i
    have e5 : nI (5 * i + 1) + 5 = nI (5 * (i + 1) + 1) := nI_add (5 * i + 1) 5
    refine bq_c (fun c0 => nm_r (e' := nI c) (nI_add c 0) (nm_r e5 (k (c, _, b, _, _, _, g) ⟨?_, hz2⟩))) (fun c0 => nm_r (nI_1 c) (nm_r e5 (k (c + 1, _, b, _, _, _, g) ⟨?_, hz2⟩)))
    · have : pz_oa N w th p i = false := decide_eq_false c0
      rw [e1, this, ← g1]; rfl
    · have : pz_oa N w th p i = true := decide_eq_true c0
      rw [e1, this, ← g1]; rfl
theorem pc_odds {a1 a2 xn xpa xbr ms ib ck cc cd : Int32} {xth xpe xpr f mh mo mp mw : Nat → Int32} {xw : Nat → Nat → Int32} (h : pz_M N B pa w W th pe pr) (hz : pz_z3 xth xpe xpr) (hC : pz_C ck cc cd f) :
    wpX7_odds (nI N) pa th pe pr w xn xpa xbr xth xpe xpr xw a1 a2 (fun r _ _ _ xth1 xpe1 xpr1 _ => wpX8_odds (nI N) pa ms ib W th pe pr f mh mo mp mw a1 a2 (fun r2 st2 ms2 ib2 th2 pe2 pr2 f2 mh2 mo2 mp2 mw2 => r2 = r ∧ pz_z3 xth1 xpe1 xpr1 ∧ st2 = pa ∧ th2 = th ∧ pe2 = pe ∧ pr2 = pr ∧ pz_C ck cc cd f2)) := by
  have h0 := h
  obtain ⟨hN, hN1, hW, hw, hpa, hI⟩ := h
  rcases pz_num N hN a1 with ⟨p, hp, rfl⟩ | b1
  · refine pz_has_y hN hp (bq_f pz_n10 (pz_odds7 h0 hp hz (fun q xn1 xpa1 xbr1 xth1 xpe1 xpr1 xw1 hz1 => ?_) (fun c0 c1 xn1 xpa1 xbr1 xth1 xpe1 xpr1 xw1 hz1 => ?_)))
    · refine pz_isOne_y hN hp (br_f pz_n10 (pz_rng (lo := 0) (hi := 1) rfl rfl (fun q2 => ?_) (fun _ _ => bq_f pz_n10 ⟨vp_in_nI (by omega) (by decide), nm_e (pz_minds (fun mh1 mo1 mp1 mw1 hmi => ?_))⟩)))
      · rcases q with q | q <;> subst q <;> exact absurd q2 (by decide)
      · rw [nI_clamp (by omega)]
        exact pz_odds8 h0 hp hmi (fun ib f2 hf2 => ⟨rfl, hz1, rfl, rfl, rfl, rfl, pz_C_c hC hf2⟩)
    · exact pz_isOne_y hN hp (br_f pz_n10 (pz_rng (lo := 0) (hi := 1) rfl rfl (fun _ => bq_t rfl ⟨rfl, hz1, rfl, rfl, rfl, rfl, hC⟩) (fun q1 q2 => absurd (pz_ltc c0 c1) (fun q => q.elim q1 q2))))
  · exact pz_has_n b1 (bq_t rfl (pz_isOne_n hN hN1 b1 (br_t rfl ⟨rfl, hz, rfl, rfl, rfl, rfl, hC⟩)))
/-- one step of a plan -/
def pz_go (N : Nat) (w : Nat → Nat → Int32) (a b : Int32) (s : Int32 × (Nat → Int32) × (Nat → Int32) × (Nat → Int32)) : Int32 × (Nat → Int32) × (Nat → Int32) × (Nat → Int32) :=
  if a = 0 then (match pz_ln N s.1 w s.2.1 s.2.2.1 s.2.2.2 with
    | none => s
    | some (p, t) => (s.1, pz_th s.2.1 s.2.2.1 p t, upd s.2.2.1 t (nI p), upd s.2.2.2 t (pz_of N s.1 s.2.2.2 w p t)))
  else if a = 1 then (s.1, upd s.2.1 b.toNatClampNeg (-1), (if s.2.1 b.toNatClampNeg < 0 then s.2.2.1 else upd s.2.2.1 (s.2.1 b.toNatClampNeg).toNatClampNeg (-1)), s.2.2.2)
  else (b, s.2)
def pz_gi (N : Nat) (w : Nat → Nat → Int32) (s : Int32 × (Nat → Int32) × (Nat → Int32) × (Nat → Int32)) : Prop := pz_ok N w s.2.1 s.2.2.1 ∧ pz_z3 s.2.1 s.2.2.1 s.2.2.2
def pz_pl (N : Nat) (a b : Int32) : Prop := a = 0 ∨ (a = 1 ∧ ∃ p, p < N ∧ b = nI p) ∨ a = 2
theorem pz_go_in {a b : Int32} {s : Int32 × (Nat → Int32) × (Nat → Int32) × (Nat → Int32)} (hN : N ≤ 8) (hg : pz_gi N w s) (hab : pz_pl N a b) : pz_gi N w (pz_go N w a b s) := by
  obtain ⟨h1, h2, h3, h4⟩ := hg
  unfold pz_go
  rcases hab with rfl | ⟨rfl, q, hq, rfl⟩ | rfl
  · rw [if_pos rfl]
    cases hl : pz_ln N s.1 w s.2.1 s.2.2.1 s.2.2.2 with
    | none => exact ⟨h1, h2, h3, h4⟩
    | some x =>
      obtain ⟨p, t⟩ := x
      have hlt := pz_ln_lt hl
      exact ⟨pz_ok_bid hN h1 hlt.1 hlt.2.1 hlt.2.2.1 hlt.2.2.2.1, pz_z_th h2 (by omega) (pz_ok_in hN h1 (by omega)), pz_z_upd h3 (by omega), pz_z_upd h4 (by omega)⟩
  · rw [if_neg (by decide), if_pos rfl, nI_clamp (by omega)]
    have := pz_in_lose (w2 := w) (B := 0) (pr := fun _ => 0) hN ⟨h1, fun t ht => ⟨Int.le_refl _, Int.le_refl _⟩, h2, h3, fun _ _ => rfl⟩ (show q < 8 by omega) (fun _ _ _ h => h)
    exact ⟨this.1, this.2.2.1, this.2.2.2.1, h4⟩
  · rw [if_neg (by decide), if_neg (by decide)]
    exact ⟨h1, h2, h3, h4⟩
theorem pz_goOn {a b : Int32} {s : Int32 × (Nat → Int32) × (Nat → Int32) × (Nat → Int32)} {Post : Int32 → (Nat → Int32) → (Nat → Int32) → (Nat → Int32) → Prop} (hN : N ≤ 8) (hg : pz_gi N w s) (hab : pz_pl N a b) (h : Post (pz_go N w a b s).1 (pz_go N w a b s).2.1 (pz_go N w a b s).2.2.1 (pz_go N w a b s).2.2.2) : wpX7_goOn (nI N) s.1 s.2.1 s.2.2.1 s.2.2.2 w a b Post := by
  unfold pz_go at h
  rcases hab with rfl | ⟨rfl, q, hq, rfl⟩ | rfl
  · rw [if_pos rfl] at h
    refine bq_t rfl (pz_letNextBid hN hg.1 (fun hl => ?_) (fun p t hl => ?_))
    · rw [hl] at h; exact h
    · rw [hl] at h; exact h
  · rw [if_neg (by decide), if_pos rfl, nI_clamp (by omega)] at h
    exact bq_f (by decide) (bq_t rfl (pz_has_y hN hq (br_f pz_n10 (pz_giveUp hN hg.1 (by omega) h))))
  · rw [if_neg (by decide), if_neg (by decide)] at h
    exact bq_f (by decide) (bq_f (by decide) (bq_t rfl h))
/-- all of a plan -/
def pz_ga (N : Nat) (w : Nat → Nat → Int32) (pl plr : Nat → Int32) (s0 : Int32 × (Nat → Int32) × (Nat → Int32) × (Nat → Int32)) (i : Nat) : Int32 × (Nat → Int32) × (Nat → Int32) × (Nat → Int32) := pz_it (fun k s => pz_go N w (pl k) (plr k) s) i s0
def pz_er (N : Nat) (w : Nat → Nat → Int32) (s : Int32 × (Nat → Int32) × (Nat → Int32) × (Nat → Int32)) (a : Int32) : Int32 := if a = 0 then pz_it (pz_sf w s.2.1) N 0 else pz_it (pz_pf s.2.2.2) N 0
theorem pz_ga_in {pl plr : Nat → Int32} {s0 : Int32 × (Nat → Int32) × (Nat → Int32) × (Nat → Int32)} (hN : N ≤ 8) (hg : pz_gi N w s0) : ∀ i, (∀ k, k < i → pz_pl N (pl k) (plr k)) → pz_gi N w (pz_ga N w pl plr s0 i) :=
  fun i hk => pz_it_ind (fun _ s => pz_gi N w s) i s0 hg (fun k s hki hs => pz_go_in hN hs (hk k hki))
theorem pz_ends7 {a : Int32} {pl plr gpe gpr : Nat → Int32} {gw : Nat → Nat → Int32} {gn gpa : Int32} {gth : Nat → Int32} {Post : Int32 → Int32 → Int32 → (Nat → Int32) → (Nat → Int32) → (Nat → Int32) → (Nat → Nat → Int32) → Prop} {s0 : Int32 × (Nat → Int32) × (Nat → Int32) × (Nat → Int32)} (hN : N ≤ 8) (hu : u ≤ 10) (hg : pz_gi N w s0) (hk : ∀ k, k < u → pz_pl N (pl k) (plr k))
    (h : ∀ xpa xth xpe xpr, pz_z3 xth xpe xpr → Post (pz_er N w (pz_ga N w pl plr s0 u) a) (nI N) xpa xth xpe xpr w) : ∃ g : Nat, wpX7_ends_B27 gn gpa gth gpe gpr gw (nI u) pl plr a Post g 0 (nI N) s0.1 s0.2.1 s0.2.2.1 s0.2.2.2 w := by
  refine pz_up (fun g i (s : Int32 × (Nat → Int32) × (Nat → Int32) × (Nat → Int32)) => wpX7_ends_B27 gn gpa gth gpe gpr gw (nI u) pl plr a Post g (nI i) (nI N) s.1 s.2.1 s.2.2.1 s.2.2.2 w) (fun k s => pz_go N w (pl k) (plr k) s) u s0 (fun n => ?_) (fun n i s hi hs k => ?_)
  · have hgu := pz_ga_in (pl := pl) (plr := plr) hN hg u hk
    rw [wpX7_ends_B27]
    have h2 := h (pz_ga N w pl plr s0 u).1 (pz_ga N w pl plr s0 u).2.1 (pz_ga N w pl plr s0 u).2.2.1 (pz_ga N w pl plr s0 u).2.2.2 hgu.2
    unfold pz_er at h2
    refine br_t (nI_le (Nat.le_refl _) (by omega)) (bq_c (fun c => pz_pricesTogether hN ?_) (fun c => pz_worthTogether hN hgu.1 ?_))
    · rw [if_neg c] at h2; exact h2
    · rw [if_pos c] at h2; exact h2
  · have hgi := pz_ga_in (pl := pl) (plr := plr) hN hg i (fun k hk2 => hk k (by omega))
    rw [wpX7_ends_B27]
    refine br_f (nI_ge hi (by omega)) ⟨vp_in_nI (by omega) (by decide), vp_in_nI (by omega) (by decide), ?_⟩
    rw [nI_clamp (by omega)]
    exact pz_goOn hN (by rw [hs]; exact hgi) (hk i hi) (nm_r (nI_1 i) (k _ rfl))
theorem pz_ends8 {a ms : Int32} {pl plr ml mr f mh mo mp mw : Nat → Int32} {Post : Int32 → Int32 → Int32 → (Nat → Int32) → (Nat → Int32) → (Nat → Int32) → (Nat → Int32) → (Nat → Int32) → (Nat → Int32) → (Nat → Int32) → (Nat → Int32) → Prop} {s0 : Int32 × (Nat → Int32) × (Nat → Int32) × (Nat → Int32)} (hW : pz_ww W w) (hN : N ≤ 8) (hN1 : 1 ≤ N) (hu : u ≤ 10) (hg : pz_gi N w s0) (hk : ∀ k, k < u → pl k = ml k ∧ plr k = mr k ∧ pz_pl N (pl k) (plr k)) (hz : pz_z3 th pe pr) (hmi : pz_mi th pe pr f mh mo mp mw)
    (h : ∀ f2, (∀ k, k < 3 → f2 k = f k) → Post (pz_er N w (pz_ga N w pl plr s0 u) a) ms ms th pe pr f2 mh mo mp mw) : ∃ g : Nat, wpX8_ends_B18 (nI N) (nI u) W ml mr a Post g 0 s0.1 ms s0.2.1 s0.2.2.1 s0.2.2.2 f mh mo mp mw := by
  refine pz_up (fun g i (s : Int32 × (Nat → Int32) × (Nat → Int32) × (Nat → Int32)) => wpX8_ends_B18 (nI N) (nI u) W ml mr a Post g (nI i) s.1 ms s.2.1 s.2.2.1 s.2.2.2 f mh mo mp mw) (fun k s => pz_go N w (pl k) (plr k) s) u s0 (fun n => ?_) (fun n i s hi hs k => ?_)
  · have hgu := pz_ga_in (pl := pl) (plr := plr) hN hg u (fun k hk2 => (hk k hk2).2.2)
    rw [wpX8_ends_B18]
    have hE : wpX8_ends_B97 (nI N) (nI u) W ml mr a Post (pz_er N w (pz_ga N w pl plr s0 u) a) (pz_ga N w pl plr s0 u).1 ms (pz_ga N w pl plr s0 u).2.1 (pz_ga N w pl plr s0 u).2.2.1 (pz_ga N w pl plr s0 u).2.2.2 f mh mo mp mw := pz_forgets hz hgu.2 hmi h
    unfold pz_er at hE
    refine br_t (nI_le (Nat.le_refl _) (by omega)) (bq_c (fun c => pz_prices hN ?_) (fun c => pz_sum hW hN hgu.1 ?_))
    · rw [if_neg c] at hE; exact hE
    · rw [if_pos c] at hE; exact hE
  · have hgi := pz_ga_in (pl := pl) (plr := plr) hN hg i (fun k hk2 => (hk k (by omega)).2.2)
    rw [show pz_ga N w pl plr s0 i = s from hs.symm] at hgi
    obtain ⟨e1, e2, e3⟩ := hk i hi
    rw [wpX8_ends_B18]
    refine br_f (nI_ge hi (by omega)) ⟨vp_in_nI (by omega) (by decide), ?_⟩
    rw [nI_clamp (by omega), ← e1, ← e2]
    have k := k _ rfl
    unfold pz_go at k
    rcases e3 with q | ⟨q, b, hb, e⟩ | q
    · rw [q, if_pos rfl] at k
      rw [q]
      refine bq_t rfl (pz_next hW hN hN1 ?_)
      cases hl : pz_ln N s.1 w s.2.1 s.2.2.1 s.2.2.2 with
      | none =>
        rw [hl] at k
        rw [pz_ln_none hN hl]
        exact br_f (by decide) (nm_r (nI_1 i) k)
      | some x =>
        obtain ⟨p, t⟩ := x
        rw [hl] at k
        have hlt := pz_ln_lt hl
        rw [hlt.2.2.2.2.1]
        exact br_t (nI_pos' (by omega)) (pz_bids hW hN hN1 hgi.1 hl (nm_r (nI_1 i) k))
    · rw [q, e, if_neg (by decide), if_pos rfl, nI_clamp (by omega)] at k
      rw [q, e]
      exact bq_f (by decide) ⟨vp_in_nI (by omega) (by decide), bq_t rfl ⟨vp_in_nI (by omega) (by decide), pz_loses hN hgi.1 (by omega) (nm_r (nI_1 i) k)⟩⟩
    · rw [q, if_neg (by decide), if_neg (by decide)] at k
      rw [q]
      exact bq_f (by decide) ⟨vp_in_nI (by omega) (by decide), bq_f (by decide) ⟨vp_in_nI (by omega) (by decide), nm_r (nI_1 i) k⟩⟩
theorem pc_ends {a xn xpa ms pl mPl ck cc cd : Int32} {plrl plrr ml mr xth xpe xpr f mh mo mp mw : Nat → Int32} {xw : Nat → Nat → Int32} (h : pz_M N B pa w W th pe pr) (hQ : pz_L 10 (fun a b => a = 0 ∨ (a = 1 ∧ ∃ p, p < N ∧ b = nI p) ∨ a = 2) pl plrl plrr mPl ml mr) (hz : pz_z3 xth xpe xpr) (hC : pz_C ck cc cd f) :
    wpX7_ends (nI N) pa th pe pr w pl plrl plrr xn xpa xth xpe xpr xw a (fun r _ _ xth1 xpe1 xpr1 _ => wpX8_ends (nI N) pa mPl ms W th pe pr ml mr f mh mo mp mw a (fun r2 st2 ms2 th2 pe2 pr2 f2 mh2 mo2 mp2 mw2 => r2 = r ∧ pz_z3 xth1 xpe1 xpr1 ∧ st2 = pa ∧ th2 = th ∧ pe2 = pe ∧ pr2 = pr ∧ pz_C ck cc cd f2)) := by
  obtain ⟨hN, hN1, hW, hw, hpa, hI⟩ := h
  obtain ⟨u, hu, rfl, rfl, hk⟩ := hQ
  have hzh : pz_z3 th pe pr := ⟨hI.2.2.1, hI.2.2.2.1, hI.2.2.2.2⟩
  by_cases c1 : a < 0
  · exact br_t c1 (pz_rng (lo := 0) (hi := 1) rfl rfl (fun _ => bq_t rfl ⟨rfl, hz, rfl, rfl, rfl, rfl, hC⟩) (fun q => absurd c1 q))
  by_cases c2 : a ≤ 1
  · refine br_f c1 (br_t c2 (pz_become hz hzh (fun w1 hw1 => ?_)))
    have hg : pz_gi N w1 (pa, th, pe, pr) := ⟨pz_ok_c hw1 hN hI.1, hzh⟩
    refine pz_ends7 (s0 := (pa, th, pe, pr)) hN hu hg (fun k hk2 => (hk k hk2).2.2) (fun xpa1 xth1 xpe1 xpr1 hz1 => ?_)
    refine pz_rng (lo := 0) (hi := 1) rfl rfl (fun q => ?_) (fun _ _ => bq_f pz_n10 (pz_minds (fun mh1 mo1 mp1 mw1 hmi => ?_)))
    · rcases q with q | q
      · exact absurd q c1
      · rw [fa_lt] at q; rw [fa_le] at c2; omega
    exact pz_ends8 (s0 := (pa, th, pe, pr)) (pz_ww_c hw1 hW) hN hN1 hu hg hk hzh hmi (fun f2 hf2 => ⟨rfl, hz1, rfl, rfl, rfl, rfl, pz_C_c hC hf2⟩)
  · refine br_f c1 (br_f c2 (pz_rng (lo := 0) (hi := 1) rfl rfl (fun _ => bq_t rfl ⟨rfl, hz, rfl, rfl, rfl, rfl, hC⟩) (fun _ q => ?_)))
    rw [fa_le] at c2; rw [fa_lt] at q; omega
end PZU
