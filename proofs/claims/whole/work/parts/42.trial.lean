/-! markets that are tried; what is laid by and put back -/
def pz_eq8 (w w2 : Nat → Nat → Int32) : Prop := ∀ p t, p < 8 → t < 8 → w p t = w2 p t
section PZG
variable {N : Nat} {n pa : Int32} {w w2 : Nat → Nat → Int32} {p t : Nat} {pr th pe : Nat → Int32}
theorem pz_gn_c (h : pz_eq8 w w2) (hp : p < 8) (ht : t < 8) : pz_gn n pr w p t = pz_gn n pr w2 p t := by unfold pz_gn; rw [h p t hp ht]
theorem pz_bt_c (h : pz_eq8 w w2) (hp : p < 8) (but : Int32) : ∀ k, k ≤ 8 → pz_bt n pr w p but k = pz_bt n pr w2 p but k
  | 0, _ => rfl
  | k + 1, hk => by
    rw [pz_bt, pz_bt, pz_bt_c h hp but k (by omega), h p k hp (by omega)]
    cases hb : pz_bt n pr w2 p but k with
    | none => rfl
    | some b =>
      have := pz_bt_lt hb
      dsimp only
      rw [pz_gn_c h hp (by omega), pz_gn_c h hp (by omega)]
theorem pz_hb_c (h : pz_eq8 w w2) (hN : N ≤ 8) (hp : p < 8) : pz_hb N w p = pz_hb N w2 p :=
  pz_fs_congr _ _ (fun i _ hi => by rw [h p i hp (by omega)])
theorem pz_nx_c (h : pz_eq8 w w2) (hN : N ≤ 8) : pz_nx N th w = pz_nx N th w2 :=
  pz_fs_congr _ _ (fun i _ hi => by rw [pz_hb_c h hN (by omega)])
theorem pz_of_c (h : pz_eq8 w w2) (hN : N ≤ 8) (hp : p < 8) (ht : t < 8) : pz_of N pa pr w p t = pz_of N pa pr w2 p t := by
  unfold pz_of
  rw [pz_bt_c h hp (nI t) N hN]
  cases hb : pz_bt (nI N) pr w2 p (nI t) N with
  | none => rfl
  | some b =>
    have := pz_bt_lt hb
    dsimp only
    rw [pz_gn_c h hp ht, pz_gn_c h hp (by omega)]
theorem pz_ln_c (h : pz_eq8 w w2) (hN : N ≤ 8) : pz_ln N pa w th pe pr = pz_ln N pa w2 th pe pr := by
  unfold pz_ln
  rw [pz_nx_c h hN]
  cases hq : pz_nx N th w2 with
  | none => rfl
  | some p =>
    obtain ⟨-, hp, -⟩ := pz_fs_some _ _ _ hq
    dsimp only
    rw [pz_bt_c h (by omega) (-1) N hN]
theorem pz_au_c (h : pz_eq8 w w2) (hN : N ≤ 8) : ∀ f (th pe pr : Nat → Int32), pz_au N pa w f th pe pr = pz_au N pa w2 f th pe pr
  | 0, _, _, _ => rfl
  | f + 1, th, pe, pr => by
    rw [pz_au, pz_au, pz_ln_c h hN]
    cases hl : pz_ln N pa w2 th pe pr with
    | none => rfl
    | some x =>
      obtain ⟨p, t⟩ := x
      have hlt := pz_ln_lt hl
      dsimp only
      rw [pz_of_c h hN (by omega) (by omega), pz_au_c h hN f]
theorem pz_AU_c (h : pz_eq8 w w2) (hN : N ≤ 8) : pz_AU N pa w th pe pr = pz_AU N pa w2 th pe pr := pz_au_c h hN _ _ _ _
theorem pz_ok_c (h : pz_eq8 w w2) (hN : N ≤ 8) (hok : pz_ok N w th pe) : pz_ok N w2 th pe := by
  refine ⟨fun p hp => ?_, hok.2⟩
  rcases hok.1 p hp with e | ⟨t, h1, h2, h3, h4, h5⟩
  · exact Or.inl e
  · exact Or.inr ⟨t, h1, h2, h3, h4, by rw [← h p t hp (by omega)]; exact h5⟩
theorem pz_wb_c (h : pz_eq8 w w2) (hw : pz_wb w) : pz_wb w2 := fun p t hp ht => by rw [← h p t hp ht]; exact hw p t hp ht
theorem pz_ww_c {W : Nat → Int32} (h : pz_eq8 w w2) (hW : pz_ww W w) : pz_ww W w2 := fun p t hp ht => by rw [← h p t hp ht]; exact hW p t hp ht
end PZG
theorem pz_cpy8 {f g : Nat → Int32} (hf : pz_z f) (hg : pz_z g) : va_cpy f g (0 : Int32).toNatClampNeg (0 : Int32).toNatClampNeg (8 : Int32).toNatClampNeg = f := by
  funext k
  show (if 0 ≤ k ∧ k < 0 + 8 then f (0 + (k - 0)) else g k) = f k
  by_cases q : k < 8
  · rw [if_pos ⟨by omega, by omega⟩, Nat.zero_add, Nat.sub_zero]
  · rw [if_neg (by omega), hf k (by omega), hg k (by omega)]
theorem pz_cpy8w (f g : Nat → Int32) {k : Nat} (hk : k < 8) : va_cpy f g (0 : Int32).toNatClampNeg (0 : Int32).toNatClampNeg (8 : Int32).toNatClampNeg k = f k := by
  show (if 0 ≤ k ∧ k < 0 + 8 then f (0 + (k - 0)) else g k) = f k
  rw [if_pos ⟨by omega, by omega⟩, Nat.zero_add, Nat.sub_zero]
def pz_z3 (th pe pr : Nat → Int32) : Prop := pz_z th ∧ pz_z pe ∧ pz_z pr
theorem pz_become0 {n pa n2 pa2 : Int32} {th pe pr th2 pe2 pr2 : Nat → Int32} {w w2 : Nat → Nat → Int32} {Post : Int32 → Int32 → (Nat → Int32) → (Nat → Int32) → (Nat → Int32) → (Nat → Nat → Int32) → Prop}
    (h : ∀ w', pz_eq8 w2 w' → Post n2 pa2 (va_cpy th2 th (0 : Int32).toNatClampNeg (0 : Int32).toNatClampNeg (8 : Int32).toNatClampNeg) (va_cpy pe2 pe (0 : Int32).toNatClampNeg (0 : Int32).toNatClampNeg (8 : Int32).toNatClampNeg) (va_cpy pr2 pr (0 : Int32).toNatClampNeg (0 : Int32).toNatClampNeg (8 : Int32).toNatClampNeg) w') : wpX2_become n pa th pe pr w n2 pa2 th2 pe2 pr2 w2 Post := by
  have d0 : ¬ (0 : Int32) < 0 := by decide
  have d8 : ¬ (8 : Int32) < 0 := by decide
  have d9 : (0 : Int32).toNatClampNeg + (8 : Int32).toNatClampNeg ≤ 8 := by decide
  refine loop_0 (fun g i (s : Nat → Nat → Int32) => wpX2_become_B18 n2 pa2 th2 pe2 pr2 w2 Post g (nI i) n2 pa2 th pe pr s) (fun i s => ∀ p t, p < i → p < 8 → t < 8 → w2 p t = s p t) 8 w (fun p t hp => absurd hp (by omega)) (fun n s hs => ?_) (fun n i s hi hs k => ?_)
  · rw [wpX2_become_B18]
    exact br_t (by decide) ⟨d0, d0, d8, d9, d9, d0, d0, d8, d9, d9, d0, d0, d8, d9, d9, h s (fun p t hp ht => hs p t hp hp ht)⟩
  · rw [wpX2_become_B18]
    refine br_f (nI_ge (b := 8) hi (by decide)) ⟨vp_in_nI (by omega) (by decide), vp_in_nI (by omega) (by decide), d0, d0, d8, d9, d9, nm_r (nI_1 i) ?_⟩
    rw [nI_clamp (by omega)]
    refine k _ (fun p t hp hp8 ht => ?_)
    unfold va_up
    by_cases q : p = i
    · subst q; rw [if_pos rfl, pz_cpy8w _ _ ht]
    · rw [if_neg q]; exact hs p t (by omega) hp8 ht
theorem pz_become {n pa n2 pa2 : Int32} {th pe pr th2 pe2 pr2 : Nat → Int32} {w w2 : Nat → Nat → Int32} {Post : Int32 → Int32 → (Nat → Int32) → (Nat → Int32) → (Nat → Int32) → (Nat → Nat → Int32) → Prop} (hz : pz_z3 th pe pr) (hz2 : pz_z3 th2 pe2 pr2)
    (h : ∀ w', pz_eq8 w2 w' → Post n2 pa2 th2 pe2 pr2 w') : wpX2_become n pa th pe pr w n2 pa2 th2 pe2 pr2 w2 Post := by
  refine pz_become0 (fun w' hw' => ?_)
  rw [pz_cpy8 hz2.1 hz.1, pz_cpy8 hz2.2.1 hz.2.1, pz_cpy8 hz2.2.2 hz.2.2]
  exact h w' hw'
theorem pz_lays {N N2 : Nat} {row row2 : Nat → Int32} {Post : (Nat → Int32) → Prop} (h1 : N ≤ N2) (h2 : N2 < 1000) (h : Post (fa_fill row row2 N)) : wpX8_lays N row N2 row2 Post := by
  refine loop_0 (fun g i (s : Nat → Int32) => wpX8_lays_B2 N row N2 Post g (nI i) s) (fun i s => s = fa_fill row row2 i) N row2 (by rw [fa_fill_0]) (fun n s hs => ?_) (fun n i s hi hs k => ?_)
  · rw [hs, wpX8_lays_B2]
    exact br_t (nI_le (Nat.le_refl _) (by omega)) h
  · rw [hs, wpX8_lays_B2]
    refine br_f (nI_ge hi (by omega)) ⟨vp_in_nI (by omega) (by omega), vp_in_nI (by omega) (by omega), nm_r (nI_1 i) ?_⟩
    rw [nI_clamp (by omega)]
    exact k _ (fa_fill_succ _ _ _)
/-- what is laid by: the market's rows and what was told -/
def pz_mi (th pe pr f mh mo mp mw : Nat → Int32) : Prop := (∀ k, k < 8 → mh k = th k ∧ mo k = pe k ∧ mp k = pr k) ∧ ∀ k, k < 3 → mw k = f k
theorem pz_minds {st ms : Int32} {th pe pr f mh mo mp mw : Nat → Int32} {Post : Int32 → (Nat → Int32) → (Nat → Int32) → (Nat → Int32) → (Nat → Int32) → Prop} (h : ∀ a b c d, pz_mi th pe pr f a b c d → Post st a b c d) : wpX8_minds st ms th pe pr f mh mo mp mw Post :=
  pz_lays (by decide) (by decide) (pz_lays (by decide) (by decide) (pz_lays (by decide) (by decide) (pz_lays (by decide) (by decide) (h _ _ _ _ ⟨fun k hk => ⟨fa_fill_in hk, fa_fill_in hk, fa_fill_in hk⟩, fun k hk => fa_fill_in hk⟩))))
theorem pz_fillz {f g m : Nat → Int32} (hf : pz_z f) (hg : pz_z g) (hm : ∀ k, k < 8 → m k = f k) : fa_fill m g 8 = f := by
  funext k
  by_cases q : k < 8
  · rw [fa_fill_in q, hm k q]
  · rw [fa_fill_out (by omega), hf k (by omega), hg k (by omega)]
theorem pz_forgets {st ms : Int32} {th pe pr f mh mo mp mw th1 pe1 pr1 f1 : Nat → Int32} {Post : Int32 → (Nat → Int32) → (Nat → Int32) → (Nat → Int32) → (Nat → Int32) → Prop} (hz : pz_z3 th pe pr) (hz1 : pz_z3 th1 pe1 pr1) (hm : pz_mi th pe pr f mh mo mp mw) (h : ∀ f2, (∀ k, k < 3 → f2 k = f k) → Post ms th pe pr f2) : wpX8_forgets st ms th1 pe1 pr1 f1 mh mo mp mw Post := by
  refine pz_lays (by decide) (by decide) (pz_lays (by decide) (by decide) (pz_lays (by decide) (by decide) (pz_lays (by decide) (by decide) ?_)))
  rw [pz_fillz hz.1 hz1.1 (fun k hk => (hm.1 k hk).1), pz_fillz hz.2.1 hz1.2.1 (fun k hk => (hm.1 k hk).2.1), pz_fillz hz.2.2 hz1.2.2 (fun k hk => (hm.1 k hk).2.2)]
  exact h _ (fun k hk => by rw [fa_fill_in hk, hm.2 k hk])
theorem pz_C_c {ck cc cd : Int32} {f f2 : Nat → Int32} (hC : pz_C ck cc cd f) (h : ∀ k, k < 3 → f2 k = f k) : pz_C ck cc cd f2 := ⟨by rw [h 0 (by decide)]; exact hC.1, by rw [h 1 (by decide)]; exact hC.2.1, by rw [h 2 (by decide)]; exact hC.2.2⟩
/-- the auction from nothing on -/
def pz_TA (N : Nat) (pa : Int32) (w : Nat → Nat → Int32) : pz_S := pz_AU N pa w pz_em pz_em (fun _ => 0)
theorem pz_in0 {N : Nat} {w : Nat → Nat → Int32} : pz_in N w 2000 pz_em pz_em (fun _ => 0) := pz_in_em (fun t ht => ⟨Int.le_refl _, by decide⟩) (fun _ _ => rfl)
theorem pz_TA_z {N : Nat} {pa : Int32} {w : Nat → Nat → Int32} (hN : N ≤ 8) (hw : pz_wb w) (hpa : 1 ≤ pa.toInt ∧ pa.toInt ≤ 50) : pz_z3 (pz_TA N pa w).2.2.1 (pz_TA N pa w).2.2.2.1 (pz_TA N pa w).2.2.2.2 := by
  have h := (pz_AU_in (B := 2000) hN hw hpa (by decide) (by decide) (pz_in0 (N := N) (w := w))).1
  exact ⟨h.2.2.1, h.2.2.2.1, h.2.2.2.2⟩
theorem pz_tries {N : Nat} {pa ib : Int32} {w : Nat → Nat → Int32} {W th pe pr f : Nat → Int32} {Post : Int32 → (Nat → Int32) → (Nat → Int32) → (Nat → Int32) → (Nat → Int32) → Prop} (hW : pz_ww W w) (hN : N ≤ 8) (hN1 : 1 ≤ N) (hw : pz_wb w) (hpa : 1 ≤ pa.toInt ∧ pa.toInt ≤ 50) (hz : pz_z3 th pe pr)
    (h : ∀ b g, Post b (pz_TA N pa w).2.2.1 (pz_TA N pa w).2.2.2.1 (pz_TA N pa w).2.2.2.2 g) : wpX8_triesAuction (nI N) pa ib W th pe pr f Post :=
  pz_empties hN hz.1 hz.2.1 (pz_free hz.2.2 (pz_bidsAll hW hN hN1 hw hpa (B := 2000) (by decide) (by decide) pz_in0 (h _ _)))
def pz_sn (u : Nat) (sl sr th : Nat → Int32) : Bool := (pz_fs (fun k => !decide (th (sl k).toNatClampNeg = sr k)) u 0).isNone
theorem pz_goesAsSeen {N u : Nat} {sl sr th : Nat → Int32} {Post : Int32 → Prop} (hN : N ≤ 8) (hu : u ≤ 5) (hs : ∀ k, k < u → ∃ p, p < N ∧ sl k = nI p) (h : Post (if pz_sn u sl sr th then 1 else 0)) : wpX7_goesAsSeen (nI u) sl sr (nI N) th Post := by
  refine pz_se (fun g i => wpX7_goesAsSeen_B2 (nI u) sl sr (nI N) th Post g (nI i)) (fun k => !decide (th (sl k).toNatClampNeg = sr k)) u (fun o => Post (if o.isNone then 1 else 0)) h (fun n q => ?_) (fun n i hi h1 h2 => ?_)
  · rw [wpX7_goesAsSeen_B2]
    exact br_t (nI_le (Nat.le_refl _) (by omega)) q
  · rw [wpX7_goesAsSeen_B2]
    obtain ⟨p, hp, e⟩ := hs i hi
    refine br_f (nI_ge hi (by omega)) ⟨vp_in_nI (by omega) (by decide), ?_⟩
    rw [nI_clamp (by omega), e]
    refine nm_e (pz_has_y hN hp (br_f pz_n10 ⟨vp_in_nI (by omega) (by decide), vp_in_nI (by omega) (by decide), br_c (fun c => nm_r (nI_1 i) (h2 ?_)) (fun c => h1 ?_)⟩))
    · rw [e]; simp [c]
    · rw [e]; simp [c]
theorem pz_isAllSeen {N u : Nat} {sl sr ml mr th : Nat → Int32} {Post : Int32 → Prop} (hN : N ≤ 8) (hu : u ≤ 5) (hs : ∀ k, k < u → ∃ p, p < N ∧ sl k = nI p) (hm : ∀ k, k < u → sl k = ml k ∧ sr k = mr k) (h : Post (if pz_sn u sl sr th then 1 else 0)) : wpX8_isAllSeen (nI u) th ml mr Post := by
  refine pz_se (fun g i => wpX8_isAllSeen_B2 (nI u) th ml mr Post g (nI i)) (fun k => !decide (th (sl k).toNatClampNeg = sr k)) u (fun o => Post (if o.isNone then 1 else 0)) h (fun n q => ?_) (fun n i hi h1 h2 => ?_)
  · rw [wpX8_isAllSeen_B2]
    exact br_t (nI_le (Nat.le_refl _) (by omega)) q
  · rw [wpX8_isAllSeen_B2]
    obtain ⟨p, hp, e⟩ := hs i hi
    refine br_f (nI_ge hi (by omega)) ⟨vp_in_nI (by omega) (by decide), ?_⟩
    rw [nI_clamp (by omega), ← (hm i hi).1, ← (hm i hi).2]
    refine ⟨by rw [e]; exact vp_in_nI (by omega) (by decide), vp_in_nI (by omega) (by decide), br_c (fun c => nm_r (nI_1 i) (h2 ?_)) (fun c => h1 ?_)⟩
    · simp [c]
    · simp [c]
