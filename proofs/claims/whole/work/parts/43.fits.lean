/-! by which worths it goes as seen; odds -/
theorem pz_fs_snoc (c : Nat → Bool) (d k : Nat) : pz_fs c (d + 1) k = match pz_fs c d k with | some j => some j | none => if c (k + d) then some (k + d) else none := by
  cases h : pz_fs c d k with
  | some j =>
    obtain ⟨h1, h2, h3, h4⟩ := pz_fs_some _ _ _ h
    exact pz_fs_eq h1 (by omega) h3 h4
  | none =>
    have h1 := pz_fs_none _ _ h
    dsimp only
    cases hc : c (k + d) with
    | true => rw [if_pos rfl]; exact pz_fs_eq (by omega) (by omega) hc (fun i h2 h3 => h1 i h2 h3)
    | false =>
      rw [if_neg (by decide)]
      cases h2 : pz_fs c (d + 1) k with
      | none => rfl
      | some j =>
        obtain ⟨g1, g2, g3, g4⟩ := pz_fs_some _ _ _ h2
        by_cases q : j = k + d
        · rw [q, hc] at g3; cases g3
        · rw [h1 j g1 (by omega)] at g3; cases g3
def pz_ls (o : Option Nat) : Int32 := match o with
  | none => -5
  | some k => nI (10 * k)
def pz_wv (w : Nat → Nat → Int32) (p t i : Nat) : Nat → Nat → Int32 := va_up w p (upd (w p) t (nI (10 * i)))
theorem pz_wv_c {w w2 : Nat → Nat → Int32} {p t i : Nat} (h : pz_eq8 w w2) : pz_eq8 (pz_wv w p t i) (pz_wv w2 p t i) := by
  intro p2 t2 hp ht
  unfold pz_wv va_up
  by_cases q : p2 = p
  · subst q
    rw [if_pos rfl, if_pos rfl]
    by_cases q2 : t2 = t
    · rw [q2, pk_us, pk_us]
    · rw [pk_un q2, pk_un q2]; exact h p2 t2 hp ht
  · rw [if_neg q, if_neg q]; exact h p2 t2 hp ht
theorem pz_wv_b {w : Nat → Nat → Int32} {p t i : Nat} (hw : pz_wb w) (hi : i < 10) : pz_wb (pz_wv w p t i) := pz_wb_upd hw (by rw [nI_toInt (by omega)]; omega)
def pz_ft (N : Nat) (pa : Int32) (w : Nat → Nat → Int32) (p t u : Nat) (sl sr : Nat → Int32) : Nat → Bool := fun i => pz_sn u sl sr (pz_TA N pa (pz_wv w p t i)).2.2.1
section PZF
variable {N : Nat} {B : Int} {pa : Int32} {w : Nat → Nat → Int32} {W th pe pr : Nat → Int32} {p t u : Nat} {sl sr ml mr : Nat → Int32}
def pz_fr (N : Nat) (pa : Int32) (w : Nat → Nat → Int32) (p t u : Nat) (sl sr : Nat → Int32) (a3 : Int32) : Int32 := if a3 = 0 then nI (fb_ct (pz_ft N pa w p t u sl sr) 10) else pz_ls (pz_fs (pz_ft N pa w p t u sl sr) 10 0)
theorem pz_fits7 {a3 xn xpa xbr : Int32} {xth xpe xpr : Nat → Int32} {xw : Nat → Nat → Int32} {Post : Int32 → Int32 → Int32 → Int32 → (Nat → Int32) → (Nat → Int32) → (Nat → Int32) → (Nat → Nat → Int32) → Prop} (hM : pz_M N B pa w W th pe pr) (hp : p < N) (ht : t < N) (hu : u ≤ 5) (hs : ∀ k, k < u → ∃ p, p < N ∧ sl k = nI p) (hz : pz_z3 xth xpe xpr)
    (h : ∀ xn xpa xbr xth xpe xpr xw, pz_z3 xth xpe xpr → Post (pz_fr N pa w p t u sl sr a3) xn xpa xbr xth xpe xpr xw) : ∃ g : Nat, wpX7_fits_B49 (nI N) pa th pe pr w (nI u) sl sr (nI p) (nI t) a3 Post g 0 (-5) 0 xn xpa xbr xth xpe xpr xw := by
  obtain ⟨hN, hN1, hW, hw, hpa, hI⟩ := hM
  have hzh : pz_z3 th pe pr := ⟨hI.2.2.1, hI.2.2.2.1, hI.2.2.2.2⟩
  refine loop_0 (fun g i (s : Nat × Option Nat × Int32 × Int32 × Int32 × (Nat → Int32) × (Nat → Int32) × (Nat → Int32) × (Nat → Nat → Int32)) => wpX7_fits_B49 (nI N) pa th pe pr w (nI u) sl sr (nI p) (nI t) a3 Post g (nI s.1) (pz_ls s.2.1) (nI (10 * i)) s.2.2.1 s.2.2.2.1 s.2.2.2.2.1 s.2.2.2.2.2.1 s.2.2.2.2.2.2.1 s.2.2.2.2.2.2.2.1 s.2.2.2.2.2.2.2.2)
    (fun i s => s.1 = fb_ct (pz_ft N pa w p t u sl sr) i ∧ s.2.1 = pz_fs (pz_ft N pa w p t u sl sr) i 0 ∧ pz_z3 s.2.2.2.2.2.1 s.2.2.2.2.2.2.1 s.2.2.2.2.2.2.2.1) 10 (0, none, xn, xpa, xbr, xth, xpe, xpr, xw) ⟨rfl, rfl, hz⟩ (fun n s hs => ?_) (fun n i s hi hs k => ?_)
  · obtain ⟨c, o, xn, xpa, xbr, xth, xpe, xpr, xw⟩ := s
    obtain ⟨h1, h2, h3⟩ := hs
    dsimp only at h1 h2 h3 ⊢
    rw [wpX7_fits_B49]
    have h4 := h xn xpa xbr xth xpe xpr xw h3
    unfold pz_fr at h4
    refine br_t (by decide) (bq_c (fun c3 => ?_) (fun c3 => ?_))
    · rw [if_neg c3, ← h2] at h4; exact h4
    · rw [if_pos c3, ← h1] at h4; exact h4
  · obtain ⟨c, o, xn, xpa, xbr, xth, xpe, xpr, xw⟩ := s
    obtain ⟨h1, h2, h3⟩ := hs
    dsimp only at h1 h2 h3 ⊢
    rw [wpX7_fits_B49]
    refine br_f (nI_nlt (b := 10 * i) (a := 90) (by omega) (by omega)) (pz_become h3 hzh (fun w1 hw1 => ⟨vp_in_nI (by omega) (by decide), vp_in_nI (by omega) (by decide), pz_giveUp hN (pz_ok_c hw1 hN hI.1) (by omega) ?_⟩))
    rw [nI_clamp (by omega), nI_clamp (by omega)]
    have hl := pz_in_lose (w2 := w) hN hI (show p < 8 by omega) (fun _ _ _ h => h)
    refine pz_startAnew hl.2.2.1 hl.2.2.2.1 hI.2.2.2.2 (pz_runAuction (B := 2000) hN (pz_wb_c (pz_wv_c hw1) (pz_wv_b hw hi)) hpa (by decide) (by decide) pz_in0 ?_)
    have eA : pz_AU N pa (va_up w1 p (upd (w1 p) t (nI (10 * i)))) pz_em pz_em (fun _ => 0) = pz_TA N pa (pz_wv w p t i) := (pz_AU_c (pz_wv_c hw1) hN).symm
    rw [eA]
    refine pz_goesAsSeen hN hu hs ?_
    have hz2 := pz_TA_z hN (pz_wv_b (p := p) (t := t) hw hi) hpa
    have e1 := fb_ct_succ (pz_ft N pa w p t u sl sr) i
    have e2 := pz_fs_snoc (pz_ft N pa w p t u sl sr) i 0
    rw [Nat.zero_add] at e2
    have e3 : pz_ft N pa w p t u sl sr i = pz_sn u sl sr (pz_TA N pa (pz_wv w p t i)).2.2.1 := rfl
    have e10 : nI (10 * i) + 10 = nI (10 * (i + 1)) := nI_add (10 * i) 10
    cases hb : pz_sn u sl sr (pz_TA N pa (pz_wv w p t i)).2.2.1 with
    | false =>
      rw [e3, hb] at e1 e2
      refine br_t rfl (nm_r e10 (k (c, o, _, _, _, _, _, _, _) ⟨?_, ?_, hz2⟩))
      · rw [e1, ← h1]; rfl
      · rw [e2, ← h2]; cases o <;> rfl
    | true =>
      rw [e3, hb] at e1 e2
      refine br_f pz_n10 (bq_c (fun c0 => ?_) (fun c0 => ?_))
      · refine nm_r (nI_1 c) (nm_r e10 (k (c + 1, o, _, _, _, _, _, _, _) ⟨?_, ?_, hz2⟩))
        · rw [e1, ← h1]; rfl
        · cases ho : o with
          | some j => rw [ho] at h2; rw [e2, ← h2]
          | none =>
            rw [ho] at h2
            have := (fb_ct_zero (n := i)).mpr (fun k hk => pz_fs_none _ _ h2.symm k (Nat.zero_le _) (by omega))
            rw [← h1] at this
            rw [this] at c0
            exact absurd rfl c0
      · refine nm_r (nI_1 c) (nm_r e10 (k (c + 1, some i, _, _, _, _, _, _, _) ⟨?_, ?_, hz2⟩))
        · rw [e1, ← h1]; rfl
        · cases ho : o with
          | none => rw [ho] at h2; rw [e2, ← h2]; rfl
          | some j =>
            rw [ho] at h2
            obtain ⟨g1, g2, g3, -⟩ := pz_fs_some _ _ _ h2.symm
            have := (fb_ct_pos (n := i)).mpr ⟨j, by omega, g3⟩
            rw [← h1] at this
            have hc10 := fb_ct_le (pz_ft N pa w p t u sl sr) i
            have c0 := (nI_eq (b := 0) (by omega) (by decide)).mp c0
            omega
theorem pz_fits8 {a3 ib was : Int32} {f mh mo mp mw : Nat → Int32} {Post : Int32 → Int32 → Int32 → Int32 → (Nat → Int32) → (Nat → Int32) → (Nat → Int32) → (Nat → Int32) → (Nat → Int32) → (Nat → Int32) → (Nat → Int32) → (Nat → Int32) → (Nat → Int32) → Prop} (hM : pz_M N B pa w W th pe pr) (hp : p < N) (ht : t < N) (hu : u ≤ 5) (hs : ∀ k, k < u → ∃ p, p < N ∧ sl k = nI p) (hm : ∀ k, k < u → sl k = ml k ∧ sr k = mr k) (hmi : pz_mi th pe pr f mh mo mp mw) (hwas : was = W (8 * p + t))
    (h : ∀ ib f2, (∀ k, k < 3 → f2 k = f k) → Post (pz_fr N pa w p t u sl sr a3) pa pa ib W th pe pr f2 mh mo mp mw) : ∃ g : Nat, wpX8_fits_B49 (nI N) (nI u) ml mr (nI p) (nI t) a3 Post g was 0 (-5) 90 pa pa ib W th pe pr f mh mo mp mw := by
  obtain ⟨hN, hN1, hW, hw, hpa, hI⟩ := hM
  have hzh : pz_z3 th pe pr := ⟨hI.2.2.1, hI.2.2.2.1, hI.2.2.2.2⟩
  refine ⟨11, pz_dn (fun g i (s : Nat × Option Nat × Int32 × (Nat → Int32) × (Nat → Int32) × (Nat → Int32) × (Nat → Int32) × (Nat → Int32)) => wpX8_fits_B49 (nI N) (nI u) ml mr (nI p) (nI t) a3 Post g was (nI s.1) (pz_ls s.2.1) (nI (10 * i) - 10) pa pa s.2.2.1 s.2.2.2.1 s.2.2.2.2.1 s.2.2.2.2.2.1 s.2.2.2.2.2.2.1 s.2.2.2.2.2.2.2 mh mo mp mw)
    (fun i s => i ≤ 10 ∧ s.1 + fb_ct (pz_ft N pa w p t u sl sr) i = fb_ct (pz_ft N pa w p t u sl sr) 10 ∧ s.2.1 = pz_fs (pz_ft N pa w p t u sl sr) (10 - i) i ∧ (∀ y, upd s.2.2.2.1 (8 * p + t) y = upd W (8 * p + t) y) ∧ pz_z3 s.2.2.2.2.1 s.2.2.2.2.2.1 s.2.2.2.2.2.2.1) (fun n s hs => ?_) (fun n i s hs k => ?_) 10 (0, none, ib, W, th, pe, pr, f) ⟨Nat.le_refl _, Nat.zero_add _, rfl, fun _ => rfl, hzh⟩⟩
  · obtain ⟨c, o, ib, W1, th1, pe1, pr1, f1⟩ := s
    obtain ⟨-, h1, h2, h3, h4⟩ := hs
    dsimp only at h1 h2 h3 h4 ⊢
    rw [wpX8_fits_B49, pz_8]
    refine br_t (by decide) ⟨vp_in_nI (by omega) (by decide), ?_⟩
    rw [nI_clamp (by omega), h3 was, fa_upd_same hwas.symm]
    refine pz_forgets hzh h4 hmi (fun f2 hf2 => ?_)
    have h5 := h ib f2 hf2
    unfold pz_fr at h5
    have h1 : c = fb_ct (pz_ft N pa w p t u sl sr) 10 := h1
    refine bq_c (fun c3 => ?_) (fun c3 => ?_)
    · rw [if_neg c3] at h5; rw [h2]; exact h5
    · rw [if_pos c3, ← h1] at h5; exact h5
  · obtain ⟨c, o, ib, W1, th1, pe1, pr1, f1⟩ := s
    obtain ⟨hi, h1, h2, h3, h4⟩ := hs
    dsimp only at h1 h2 h3 h4 ⊢
    have e10 : nI (10 * (i + 1)) - 10 = nI (10 * i) := by
      rw [show nI (10 * (i + 1)) = nI (10 * i) + 10 from (nI_add (10 * i) 10).symm, Int32.add_sub_cancel]
    rw [wpX8_fits_B49, pz_8, e10]
    refine br_f (nI_pos (by omega)) ⟨vp_in_nI (by omega) (by decide), ?_⟩
    rw [nI_clamp (by omega), h3]
    have hWv : pz_ww (upd W (8 * p + t) (nI (10 * i))) (pz_wv w p t i) := pz_ww_upd hW (by omega) (by omega) (Or.inr (nI_pos' (by omega)))
    refine pz_tries hWv hN hN1 (pz_wv_b hw (by omega)) hpa h4 (fun b g => pz_isAllSeen hN hu hs hm ?_)
    have hz2 := pz_TA_z hN (pz_wv_b (p := p) (t := t) (i := i) hw (by omega)) hpa
    have e1 := fb_ct_succ (pz_ft N pa w p t u sl sr) i
    have e2 : pz_fs (pz_ft N pa w p t u sl sr) (10 - i) i = if pz_ft N pa w p t u sl sr i then some i else pz_fs (pz_ft N pa w p t u sl sr) (10 - (i + 1)) (i + 1) := by
      rw [show 10 - i = (10 - (i + 1)) + 1 by omega, pz_fs]
    have e3 : pz_ft N pa w p t u sl sr i = pz_sn u sl sr (pz_TA N pa (pz_wv w p t i)).2.2.1 := rfl
    have hWu : ∀ y, upd (upd W (8 * p + t) (nI (10 * i))) (8 * p + t) y = upd W (8 * p + t) y := fun y => fa_upd_twice _ _ _ _
    have hdec : nI (10 * i) + (-10) = nI (10 * i) - 10 := (Int32.sub_eq_add_neg _ _).symm
    cases hb : pz_sn u sl sr (pz_TA N pa (pz_wv w p t i)).2.2.1 with
    | false =>
      rw [e3, hb] at e1 e2
      refine br_t rfl (nm_r (e' := nI c) (nI_add c 0) (pz_isAllSeen hN hu hs hm ?_))
      rw [hb]
      refine br_t rfl (nm_r hdec (k (c, o, b, _, _, _, _, g) ⟨by omega, ?_, ?_, hWu, hz2⟩))
      · rw [e1] at h1; exact h1
      · rw [e2]; exact h2
    | true =>
      rw [e3, hb] at e1 e2
      refine br_f pz_n10 (nm_r (nI_1 c) (pz_isAllSeen hN hu hs hm ?_))
      rw [hb]
      refine br_f pz_n10 (nm_r hdec (k (c + 1, some i, b, _, _, _, _, g) ⟨by omega, ?_, ?_, hWu, hz2⟩))
      · rw [e1] at h1
        have h1 : c + (fb_ct (pz_ft N pa w p t u sl sr) i + 1) = fb_ct (pz_ft N pa w p t u sl sr) 10 := h1
        dsimp only
        omega
      · rw [e2]; rfl
theorem pc_fits {a1 a2 a3 xn xpa xbr ms ib se mSe ck cc cd : Int32} {xth xpe xpr f mh mo mp mw : Nat → Int32} {xw : Nat → Nat → Int32} (h : pz_M N B pa w W th pe pr) (hQ : pz_L 5 (fun a _ => ∃ p, p < N ∧ a = nI p) se sl sr mSe ml mr) (hz : pz_z3 xth xpe xpr) (hC : pz_C ck cc cd f) :
    wpX7_fits (nI N) pa th pe pr w se sl sr xn xpa xbr xth xpe xpr xw a1 a2 a3 (fun r _ _ _ xth1 xpe1 xpr1 _ => wpX8_fits (nI N) pa mSe ms ib W th pe pr ml mr f mh mo mp mw a1 a2 a3 (fun r2 st2 ms2 ib2 W2 th2 pe2 pr2 f2 mh2 mo2 mp2 mw2 => r2 = r ∧ pz_z3 xth1 xpe1 xpr1 ∧ st2 = pa ∧ W2 = W ∧ th2 = th ∧ pe2 = pe ∧ pr2 = pr ∧ pz_C ck cc cd f2)) := by
  have h0 := h
  obtain ⟨hN, hN1, hW, hw, hpa, hI⟩ := h
  obtain ⟨u, hu, rfl, rfl, hk⟩ := hQ
  rcases pz_num N hN a1 with ⟨p, hp, rfl⟩ | b1
  · rcases pz_num N hN a2 with ⟨t, ht, rfl⟩ | b2
    · refine pz_has_y hN hp (br_f pz_n10 (pz_has_y hN ht (br_f pz_n10 ?_)))
      by_cases c1 : a3 < 0
      · exact br_t c1 (pz_isPair_y hN hp ht (br_f pz_n10 (pz_rng (lo := 0) (hi := 1) rfl rfl (fun _ => bq_t rfl ⟨rfl, hz, rfl, rfl, rfl, rfl, rfl, hC⟩) (fun q => absurd c1 q))))
      by_cases c2 : a3 ≤ 1
      · refine br_f c1 (br_t c2 (nm_e (pz_fits7 h0 hp ht hu (fun k hk2 => (hk k hk2).2.2) hz (fun xn1 xpa1 xbr1 xth1 xpe1 xpr1 xw1 hz1 => ?_))))
        refine pz_isPair_y hN hp ht (br_f pz_n10 (pz_rng (lo := 0) (hi := 1) rfl rfl (fun q => ?_) (fun _ _ => bq_f pz_n10 ?_)))
        · rcases q with q | q
          · exact absurd q c1
          · rw [fa_lt] at q; rw [fa_le] at c2; omega
        rw [pz_8]
        refine ⟨vp_in_nI (by omega) (by decide), nm_e (nm_e (pz_minds (fun mh1 mo1 mp1 mw1 hmi => ?_)))⟩
        refine pz_fits8 h0 hp ht hu (fun k hk2 => (hk k hk2).2.2) (fun k hk2 => ⟨(hk k hk2).1, (hk k hk2).2.1⟩) hmi (by rw [nI_clamp (by omega)]) (fun ib f2 hf2 => ⟨rfl, hz1, rfl, rfl, rfl, rfl, rfl, pz_C_c hC hf2⟩)
      · refine br_f c1 (br_f c2 (pz_isPair_y hN hp ht (br_f pz_n10 (pz_rng (lo := 0) (hi := 1) rfl rfl (fun _ => bq_t rfl ⟨rfl, hz, rfl, rfl, rfl, rfl, rfl, hC⟩) (fun _ q => ?_)))))
        rw [fa_le] at c2; rw [fa_lt] at q; omega
    · exact pz_has_y hN hp (br_f pz_n10 (pz_has_n b2 (br_t rfl (pz_isPair_n hN hN1 (Or.inr b2) (br_t rfl ⟨rfl, hz, rfl, rfl, rfl, rfl, rfl, hC⟩)))))
  · exact pz_has_n b1 (br_t rfl (pz_isPair_n hN hN1 (Or.inl b1) (br_t rfl ⟨rfl, hz, rfl, rfl, rfl, rfl, rfl, hC⟩)))
end PZF
