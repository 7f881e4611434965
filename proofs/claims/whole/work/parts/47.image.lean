/-! shift; the image -/
section PZI
variable {N : Nat} {B : Int} {pa : Int32} {w : Nat → Nat → Int32} {W th pe pr : Nat → Int32}
variable {so le ms mz : Nat → Int32} {it mt : Nat → Nat → Int64}
def pz_rk (L : Nat) (a n : Int32) : Prop := ¬ n < 0 ∧ ¬ a < 0 ∧ ¬ nI L < n ∧ ¬ (nI L - n) < a
theorem pz_rk_n {L : Nat} {a n : Int32} (hL : L ≤ 60) (h : pz_rk L a n) : ∃ i m, a = nI i ∧ n = nI m ∧ i + m ≤ L := by
  obtain ⟨h1, h2, h3, h4⟩ := h
  obtain ⟨m, hm, rfl⟩ := nI_of h1
  obtain ⟨i, hi, rfl⟩ := nI_of h2
  rw [nI_ltI (by omega) (by omega)] at h3
  rw [fa_lt, pz_subI hL (by omega), nI_toInt hi] at h4
  exact ⟨i, m, rfl, rfl, by omega⟩
theorem pz_hasRun {L : Nat} {a n : Int32} {Post : Int32 → Prop} (h1 : pz_rk L a n → Post 1) (h0 : ¬ pz_rk L a n → Post 0) : wpX5_hasRun (nI L) a n Post :=
  br_c (fun c => h0 (fun q => q.1 c)) (fun c => br_c (fun c2 => h0 (fun q => q.2.1 c2)) (fun c2 => br_c (fun c3 => h0 (fun q => q.2.2.1 c3)) (fun c3 => br_c (fun c4 => h0 (fun q => q.2.2.2 c4)) (fun c4 => h1 ⟨c, c2, c3, c4⟩))))
theorem pz_va_self {α : Type} (f : Nat → α) (k : Nat) : f = va_up f k (f k) := by
  funext j
  unfold va_up
  by_cases q : j = k
  · rw [if_pos q, q]
  · rw [if_neg q]
theorem pz_va_va {α : Type} (f : Nat → α) (k : Nat) (x y : α) : va_up (va_up f k x) k y = va_up f k y := by
  funext j
  unfold va_up
  by_cases q : j = k
  · rw [if_pos q, if_pos q]
  · rw [if_neg q, if_neg q, if_neg q]
theorem pz_shift8 {s d i j m : Nat} {mv : Nat → Int64} {Post : Int32 → (Nat → Int64) → (Nat → Nat → Int64) → Prop} (hs : s < 6) (hd : d < 6) (hi : i + m ≤ 60) (hj : j + m ≤ 60)
    (h : ∀ mv1 row, (∀ y, y < 60 → row y = if j ≤ y ∧ y < j + m then mt s (i + (y - j)) else mt d y) → Post (nI m) mv1 (va_up mt d row)) : ∃ g : Nat, wpX8_shift_B124 ms mz (nI s) (nI i) (nI d) (nI j) (nI m) Post g 0 mv mt := by
  refine loop_0 (fun g x (mv : Nat → Int64) => wpX8_shift_B124 ms mz (nI s) (nI i) (nI d) (nI j) (nI m) Post g (nI x) mv mt) (fun x mv => ∀ y, y < x → mv y = mt s (i + y)) m mv (fun y hy => absurd hy (by omega)) (fun n mv hmv => ?_) (fun n x mv hx hmv k => ?_)
  · rw [wpX8_shift_B124]
    refine br_t (nI_le (Nat.le_refl _) (by omega)) ?_
    have key : ∃ g : Nat, wpX8_shift_B158 ms mz (nI s) (nI i) (nI d) (nI j) (nI m) Post g 0 mv (va_up mt d (mt d)) := by
      refine loop_0 (fun g x (row : Nat → Int64) => wpX8_shift_B158 ms mz (nI s) (nI i) (nI d) (nI j) (nI m) Post g (nI x) mv (va_up mt d row)) (fun x row => ∀ y, y < 60 → row y = if j ≤ y ∧ y < j + x then mv (y - j) else mt d y) m (mt d) (fun y hy => by rw [if_neg (by omega)]) (fun n row hr => ?_) (fun n x row hx hr k => ?_)
      · rw [wpX8_shift_B158]
        refine br_t (nI_le (Nat.le_refl _) (by omega)) (h mv row (fun y hy => ?_))
        rw [hr y hy]
        by_cases q : j ≤ y ∧ y < j + m
        · rw [if_pos q, if_pos q, hmv _ (by omega)]
        · rw [if_neg q, if_neg q]
      · rw [wpX8_shift_B158, nI_add]
        refine br_f (nI_ge hx (by omega)) ⟨vp_in_nI hd (by decide), vp_in_nI (by omega) (by decide), vp_in_nI (by omega) (by decide), nm_r (nI_1 x) ?_⟩
        rw [nI_clamp (by omega), nI_clamp (by omega), nI_clamp (by omega), pz_va_va]
        refine k _ (fun y hy => ?_)
        have e : va_up mt d row d = row := by unfold va_up; rw [if_pos rfl]
        rw [e]
        by_cases q : y = j + x
        · rw [q, pk_uLs, if_pos ⟨by omega, by omega⟩, Nat.add_sub_cancel_left]
        · rw [pk_uLn q, hr y hy]
          by_cases q2 : j ≤ y ∧ y < j + x
          · rw [if_pos q2, if_pos ⟨by omega, by omega⟩]
          · rw [if_neg q2, if_neg (by omega)]
    rw [← pz_va_self mt d] at key
    exact key
  · rw [wpX8_shift_B124, nI_add]
    refine br_f (nI_ge hx (by omega)) ⟨vp_in_nI hs (by decide), vp_in_nI (by omega) (by decide), vp_in_nI (by omega) (by decide), nm_r (nI_1 x) ?_⟩
    rw [nI_clamp (by omega), nI_clamp (by omega), nI_clamp (by omega)]
    refine k _ (fun y hy => ?_)
    by_cases q : y = x
    · rw [q, pk_uLs]
    · rw [pk_uLn q]; exact hmv y (by omega)
theorem pc_shift {a1 a2 a3 a4 a5 : Int32} {mv : Nat → Int64} (hA : pz_A so le it ms mz mt) : wpX7_shift so le it a1 a2 a3 a4 a5 (fun r it1 => wpX8_shift ms mz mv mt a1 a2 a3 a4 a5 (fun r2 mv1 mt1 => r2 = r ∧ pz_A so le it1 ms mz mt1)) := by
  rcases pz_tp a1 with ⟨s, hs, rfl⟩ | b1
  · rcases pz_tp a3 with ⟨d, hd, rfl⟩ | b3
    · obtain ⟨L, hL, e1, e2, e3, e4, e5⟩ := hA s hs
      obtain ⟨M, hM, g1, g2, g3, g4, g5⟩ := hA d hd
      have go8 : ∀ {Q : Int32 → (Nat → Int64) → (Nat → Nat → Int64) → Prop},
          ((so s = -1 ∨ so d = -1) → Q (-11) mv mt) → (¬ so s = -1 → ¬ so d = -1 → ¬ so s = so d → Q (-12) mv mt) → (¬ so s = -1 → ¬ so d = -1 → so s = so d → ¬ (pz_rk L a2 a5 ∧ pz_rk M a4 a5) → Q (-13) mv mt)
          → (¬ so s = -1 → ¬ so d = -1 → so s = so d → pz_rk L a2 a5 → pz_rk M a4 a5 → ∃ g : Nat, wpX8_shift_B124 ms mz (nI s) a2 (nI d) a4 a5 Q g 0 mv mt) → wpX8_shift ms mz mv mt (nI s) a2 (nI d) a4 a5 Q := by
        intro Q q1 q2 q3 q4
        refine pz_isTape8_y hs (br_f pz_n10 (pz_isTape8_y hd (bq_f pz_n10 ⟨vp_in_nI hs (by decide), ?_⟩)))
        rw [nI_clamp (n := s) (by omega), nI_clamp (n := d) (by omega), e2, e3, g2, g3]
        have lt0 : ∀ {x : Int32} {l : Nat}, ((x = -1 ∧ l = 0) ∨ x = 0 ∨ x = 1 ∨ x = 2 ∨ x = 3 ∨ x = 4) → ((x < 0 → x = -1) ∧ (¬ x < 0 → ¬ x = -1 ∧ 0 ≤ x)) := by
          intro x l hx
          rcases hx with ⟨hx, -⟩ | hx
          · exact ⟨fun _ => hx, fun q => absurd (by rw [hx]; decide) q⟩
          · obtain ⟨s1, s2, s3⟩ := pz_sort hx
            exact ⟨fun q => absurd q s1, fun _ => ⟨s3, s2⟩⟩
        have z1 := lt0 e4
        have z2 := lt0 g4
        refine br_c (fun c => q1 (Or.inl (z1.1 c))) (fun c => ⟨vp_in_nI hd (by decide), ?_⟩)
        have n1 := (z1.2 c).1
        by_cases cd : so d < 0
        · exact br_f (fun q => by rw [fa_le] at q; rw [fa_lt] at cd; omega) (q1 (Or.inr (z2.1 cd)))
        have n2 := (z2.2 cd).1
        refine br_t (z2.2 cd).2 ⟨vp_in_nI hs (by decide), vp_in_nI hd (by decide), br_c (fun ce => ?_) (fun ce => q2 n1 n2 ce)⟩
        have q3 := q3 n1 n2 ce
        refine br_c (fun c1 => q3 (fun q => q.1.1 c1)) (fun c1 => br_c (fun c2 => q3 (fun q => q.1.2.1 c2)) (fun c2 => br_c (fun c3 => q3 (fun q => q.2.2.1 c3)) (fun c3 => ⟨vp_in_nI hs (by decide), br_c (fun c4 => q3 (fun q => q.1.2.2.1 c4)) (fun c4 => ⟨vp_in_nI hd (by decide), br_c (fun c5 => q3 (fun q => q.2.2.2.1 c5)) (fun c5 => ⟨vp_in_nI hs (by decide), br_c (fun c6 => q3 (fun q => q.1.2.2.2 c6)) (fun c6 => ⟨vp_in_nI hd (by decide), br_c (fun c7 => ?_) (fun c7 => q3 (fun q => ?_))⟩)⟩)⟩)⟩)))
        · exact q4 n1 n2 ce ⟨c1, c2, c4, c6⟩ ⟨c1, c3, c5, fun q => by rw [fa_le] at c7; rw [fa_lt] at q; omega⟩
        · exact q.2.2.2.2 (fa_of_nle c7)
      refine pz_isTape7_y hs (br_f pz_n10 (pz_isTape7_y hd (bq_f pz_n10 ⟨vp_in_nI hs (by decide), vp_in_nI hd (by decide), ?_⟩)))
      rw [nI_clamp (n := s) (by omega), nI_clamp (n := d) (by omega), e1, g1]
      refine br_c (fun c => go8 (fun _ => ⟨rfl, hA⟩) (fun q => absurd c q) (fun q => absurd c q) (fun q => absurd c q)) (fun c => bq_c (fun c2 => br_c (fun c3 => ?_) (fun c3 => go8 (fun q => absurd q (fun q => q.elim c c2)) (fun _ _ _ => ⟨rfl, hA⟩) (fun _ _ q => absurd q c3) (fun _ _ q => absurd q c3))) (fun c2 => go8 (fun _ => ⟨rfl, hA⟩) (fun _ q => absurd c2 q) (fun _ q => absurd c2 q) (fun _ q => absurd c2 q)))
      have no8 : ¬ (pz_rk L a2 a5 ∧ pz_rk M a4 a5) → wpX8_shift ms mz mv mt (nI s) a2 (nI d) a4 a5 (fun r2 mv1 mt1 => r2 = -13 ∧ pz_A so le it ms mz mt1) := fun hn => go8 (fun q => absurd q (fun q => q.elim c c2)) (fun _ _ q => absurd c3 q) (fun _ _ _ _ => ⟨rfl, hA⟩) (fun _ _ _ q1 q2 => absurd ⟨q1, q2⟩ hn)
      refine pz_hasRun (fun r1 => br_f pz_n10 (pz_hasRun (fun r2 => bq_f pz_n10 ?_) (fun r2 => bq_t rfl (no8 (fun q => r2 q.2))))) (fun r1 => br_t rfl (no8 (fun q => r1 q.1)))
      obtain ⟨i, m, rfl, rfl, him⟩ := pz_rk_n hL r1
      obtain ⟨j, m2, rfl, em, hjm⟩ := pz_rk_n hM r2
      have hm2 : m2 < 2 ^ 31 := by omega
      have em : m = m2 := (nI_eq (by omega) (by omega)).mp em
      subst em
      rw [nI_clamp (n := i) (by omega), nI_clamp (n := j) (by omega), nI_clamp (n := m) (by omega)]
      refine ⟨nI_pos (by omega), nI_pos (by omega), nI_pos (by omega), by omega, by omega, go8 (fun q => absurd q (fun q => q.elim c c2)) (fun _ _ q => absurd c3 q) (fun _ _ _ q => absurd ⟨r1, r2⟩ q) (fun _ _ _ _ _ => pz_shift8 hs hd (by omega) (by omega) (fun mv1 row hrow => ⟨rfl, pz_A_it hA (fun y hy => ?_)⟩))⟩
      rw [hrow y hy]
      unfold va_cpy
      by_cases q : j ≤ y ∧ y < j + m
      · rw [if_pos q, if_pos q]; exact e5 _ (by omega)
      · rw [if_neg q, if_neg q]; exact g5 y hy
    · exact pz_isTape7_y hs (br_f pz_n10 (pz_isTape7_n b3 (bq_t rfl (pz_isTape8_y hs (br_f pz_n10 (pz_isTape8_n b3 (bq_t rfl ⟨rfl, hA⟩)))))))
  · exact pz_isTape7_n b1 (br_t rfl (pz_isTape8_n b1 (br_t rfl ⟨rfl, hA⟩)))
/-! the image: rows of both sides -/
theorem pz_rows_become {lim u : Nat} {ru : Int32} {rl rr rl2 rr2 : Nat → Int32} {Post : Int32 → (Nat → Int32) → (Nat → Int32) → Prop} (hl : lim < 1000) (hu : u ≤ lim) (h : ∀ a b, (∀ k, k < u → a k = rl2 k ∧ b k = rr2 k) → Post (nI u) a b) : wpX4_become ru lim rl rr (nI u) lim rl2 rr2 Post := by
  unfold wpX4_become
  have e : (if Int32.ofNat lim < nI u then Int32.ofNat lim else nI u) = nI u := by
    exact if_neg (show ¬ nI lim < nI u from nI_nlt hu (by omega))
  rw [e, show (0 : Int32).toNatClampNeg = 0 by decide, nI_clamp (by omega)]
  have d0 : ¬ (0 : Int32) < 0 := by decide
  have du : ¬ nI u < 0 := nI_pos (by omega)
  refine ⟨d0, d0, du, by omega, by omega, d0, d0, du, by omega, by omega, h _ _ (fun k hk => ?_)⟩
  unfold va_cpy
  rw [if_pos ⟨by omega, by omega⟩, if_pos ⟨by omega, by omega⟩, Nat.zero_add, Nat.sub_zero]
  exact ⟨rfl, rfl⟩
theorem pz_passK {s : Nat} {v : Int32} {im : Nat → Int32} {Post : Int32 → Int32 → (Nat → Int32) → Prop} (hs : s < 160) (h : Post v (nI (s + 1)) (upd im s v)) : wpX8_passes (nI s) 1 im v Post := by
  refine br_f pz_n10 ⟨vp_in_nI hs (by decide), ?_⟩
  rw [nI_clamp (by omega), nI_1]
  exact h
theorem pz_passU {s : Nat} {v : Int32} {im : Nat → Int32} {Post : Int32 → Int32 → (Nat → Int32) → Prop} (hs : s < 160) (h : Post (im s) (nI (s + 1)) im) : wpX8_passes (nI s) 0 im v Post := by
  refine br_t rfl ⟨vp_in_nI hs (by decide), vp_in_nI hs (by decide), ?_⟩
  rw [nI_clamp (by omega), nI_1, fa_upd_same rfl]
  exact h
theorem pz_rowK {s L : Nat} {im row : Nat → Int32} {Post : Int32 → (Nat → Int32) → (Nat → Int32) → Prop} (hs : s + L ≤ 160) (h : Post (nI (s + L)) (fb_put im row s L) row) : wpX8_passesRow (nI s) 1 im L row Post := by
  refine loop_0 (fun g i (x : Nat → Int32) => wpX8_passesRow_B2 1 L Post g (nI i) (nI (s + i)) x row) (fun i x => x = fb_put im row s i) L im (by rw [fb_put_0]) (fun n x hx => ?_) (fun n i x hi hx k => ?_)
  · rw [wpX8_passesRow_B2, hx]
    exact br_t (nI_le (Nat.le_refl _) (by omega)) h
  · rw [wpX8_passesRow_B2, hx]
    refine br_f (nI_ge hi (by omega)) ⟨vp_in_nI (by omega) (by omega), ?_⟩
    rw [nI_clamp (by omega)]
    refine pz_passK (by omega) ⟨vp_in_nI (by omega) (by omega), nm_r (nI_1 i) ?_⟩
    rw [fa_upd_same rfl]
    exact k _ (fb_put_succ _ _ _ _)
theorem pz_rowU {s L : Nat} {im row : Nat → Int32} {Post : Int32 → (Nat → Int32) → (Nat → Int32) → Prop} (hs : s + L ≤ 160) (h : Post (nI (s + L)) im (fa_fill (fun k => im (s + k)) row L)) : wpX8_passesRow (nI s) 0 im L row Post := by
  refine loop_0 (fun g i (x : Nat → Int32) => wpX8_passesRow_B2 0 L Post g (nI i) (nI (s + i)) im x) (fun i x => x = fa_fill (fun k => im (s + k)) row i) L row (by rw [fa_fill_0]) (fun n x hx => ?_) (fun n i x hi hx k => ?_)
  · rw [wpX8_passesRow_B2, hx]
    exact br_t (nI_le (Nat.le_refl _) (by omega)) h
  · rw [wpX8_passesRow_B2, hx]
    refine br_f (nI_ge hi (by omega)) ⟨vp_in_nI (by omega) (by omega), ?_⟩
    rw [nI_clamp (by omega)]
    refine pz_passU (by omega) ⟨vp_in_nI (by omega) (by omega), nm_r (nI_1 i) ?_⟩
    exact k _ (fa_fill_succ (fun k => im (s + k)) row i)
/-- the reference's image row, as it is kept -/
def pz_im (im : Nat → Int32) (n st se pl bo : Int32) (W th pe pr ml1 mr1 ml2 mr2 ml3 mr3 : Nat → Int32) : Nat → Int32 := fb_put (fb_put (fb_put (fb_put (fb_put (fb_put (fb_put (fb_put (fb_put (fb_put (upd (upd (upd (upd (upd im 0 n) 1 st) 2 se) 3 pl) 4 bo) W 5 64) th 69 8) pe 77 8) pr 85 8) ml1 93 5) mr1 98 5) ml2 103 10) mr2 113 10) ml3 123 8) mr3 131 8
theorem pz_im_W (im : Nat → Int32) (n st se pl bo : Int32) (W th pe pr ml1 mr1 ml2 mr2 ml3 mr3 : Nat → Int32) {k : Nat} (hk : k < 64) : pz_im im n st se pl bo W th pe pr ml1 mr1 ml2 mr2 ml3 mr3 (5 + k) = W k := by
  unfold pz_im
  rw [fb_put_out (Or.inl (by omega)), fb_put_out (Or.inl (by omega)), fb_put_out (Or.inl (by omega)), fb_put_out (Or.inl (by omega)), fb_put_out (Or.inl (by omega)), fb_put_out (Or.inl (by omega)), fb_put_out (Or.inl (by omega)), fb_put_out (Or.inl (by omega)), fb_put_out (Or.inl (by omega)), fb_put_in (by omega) (by omega), Nat.add_sub_cancel_left]
theorem pz_im_th (im : Nat → Int32) (n st se pl bo : Int32) (W th pe pr ml1 mr1 ml2 mr2 ml3 mr3 : Nat → Int32) {k : Nat} (hk : k < 8) : pz_im im n st se pl bo W th pe pr ml1 mr1 ml2 mr2 ml3 mr3 (69 + k) = th k := by
  unfold pz_im
  rw [fb_put_out (Or.inl (by omega)), fb_put_out (Or.inl (by omega)), fb_put_out (Or.inl (by omega)), fb_put_out (Or.inl (by omega)), fb_put_out (Or.inl (by omega)), fb_put_out (Or.inl (by omega)), fb_put_out (Or.inl (by omega)), fb_put_out (Or.inl (by omega)), fb_put_in (by omega) (by omega), Nat.add_sub_cancel_left]
theorem pz_im_pe (im : Nat → Int32) (n st se pl bo : Int32) (W th pe pr ml1 mr1 ml2 mr2 ml3 mr3 : Nat → Int32) {k : Nat} (hk : k < 8) : pz_im im n st se pl bo W th pe pr ml1 mr1 ml2 mr2 ml3 mr3 (77 + k) = pe k := by
  unfold pz_im
  rw [fb_put_out (Or.inl (by omega)), fb_put_out (Or.inl (by omega)), fb_put_out (Or.inl (by omega)), fb_put_out (Or.inl (by omega)), fb_put_out (Or.inl (by omega)), fb_put_out (Or.inl (by omega)), fb_put_out (Or.inl (by omega)), fb_put_in (by omega) (by omega), Nat.add_sub_cancel_left]
theorem pz_im_pr (im : Nat → Int32) (n st se pl bo : Int32) (W th pe pr ml1 mr1 ml2 mr2 ml3 mr3 : Nat → Int32) {k : Nat} (hk : k < 8) : pz_im im n st se pl bo W th pe pr ml1 mr1 ml2 mr2 ml3 mr3 (85 + k) = pr k := by
  unfold pz_im
  rw [fb_put_out (Or.inl (by omega)), fb_put_out (Or.inl (by omega)), fb_put_out (Or.inl (by omega)), fb_put_out (Or.inl (by omega)), fb_put_out (Or.inl (by omega)), fb_put_out (Or.inl (by omega)), fb_put_in (by omega) (by omega), Nat.add_sub_cancel_left]
theorem pz_im_ml1 (im : Nat → Int32) (n st se pl bo : Int32) (W th pe pr ml1 mr1 ml2 mr2 ml3 mr3 : Nat → Int32) {k : Nat} (hk : k < 5) : pz_im im n st se pl bo W th pe pr ml1 mr1 ml2 mr2 ml3 mr3 (93 + k) = ml1 k := by
  unfold pz_im
  rw [fb_put_out (Or.inl (by omega)), fb_put_out (Or.inl (by omega)), fb_put_out (Or.inl (by omega)), fb_put_out (Or.inl (by omega)), fb_put_out (Or.inl (by omega)), fb_put_in (by omega) (by omega), Nat.add_sub_cancel_left]
theorem pz_im_mr1 (im : Nat → Int32) (n st se pl bo : Int32) (W th pe pr ml1 mr1 ml2 mr2 ml3 mr3 : Nat → Int32) {k : Nat} (hk : k < 5) : pz_im im n st se pl bo W th pe pr ml1 mr1 ml2 mr2 ml3 mr3 (98 + k) = mr1 k := by
  unfold pz_im
  rw [fb_put_out (Or.inl (by omega)), fb_put_out (Or.inl (by omega)), fb_put_out (Or.inl (by omega)), fb_put_out (Or.inl (by omega)), fb_put_in (by omega) (by omega), Nat.add_sub_cancel_left]
theorem pz_im_ml2 (im : Nat → Int32) (n st se pl bo : Int32) (W th pe pr ml1 mr1 ml2 mr2 ml3 mr3 : Nat → Int32) {k : Nat} (hk : k < 10) : pz_im im n st se pl bo W th pe pr ml1 mr1 ml2 mr2 ml3 mr3 (103 + k) = ml2 k := by
  unfold pz_im
  rw [fb_put_out (Or.inl (by omega)), fb_put_out (Or.inl (by omega)), fb_put_out (Or.inl (by omega)), fb_put_in (by omega) (by omega), Nat.add_sub_cancel_left]
theorem pz_im_mr2 (im : Nat → Int32) (n st se pl bo : Int32) (W th pe pr ml1 mr1 ml2 mr2 ml3 mr3 : Nat → Int32) {k : Nat} (hk : k < 10) : pz_im im n st se pl bo W th pe pr ml1 mr1 ml2 mr2 ml3 mr3 (113 + k) = mr2 k := by
  unfold pz_im
  rw [fb_put_out (Or.inl (by omega)), fb_put_out (Or.inl (by omega)), fb_put_in (by omega) (by omega), Nat.add_sub_cancel_left]
theorem pz_im_ml3 (im : Nat → Int32) (n st se pl bo : Int32) (W th pe pr ml1 mr1 ml2 mr2 ml3 mr3 : Nat → Int32) {k : Nat} (hk : k < 8) : pz_im im n st se pl bo W th pe pr ml1 mr1 ml2 mr2 ml3 mr3 (123 + k) = ml3 k := by
  unfold pz_im
  rw [fb_put_out (Or.inl (by omega)), fb_put_in (by omega) (by omega), Nat.add_sub_cancel_left]
theorem pz_im_mr3 (im : Nat → Int32) (n st se pl bo : Int32) (W th pe pr ml1 mr1 ml2 mr2 ml3 mr3 : Nat → Int32) {k : Nat} (hk : k < 8) : pz_im im n st se pl bo W th pe pr ml1 mr1 ml2 mr2 ml3 mr3 (131 + k) = mr3 k := by
  unfold pz_im
  rw [fb_put_in (by omega) (by omega), Nat.add_sub_cancel_left]
theorem pz_im_n (im : Nat → Int32) (n st se pl bo : Int32) (W th pe pr ml1 mr1 ml2 mr2 ml3 mr3 : Nat → Int32) : pz_im im n st se pl bo W th pe pr ml1 mr1 ml2 mr2 ml3 mr3 0 = n ∧ pz_im im n st se pl bo W th pe pr ml1 mr1 ml2 mr2 ml3 mr3 1 = st ∧ pz_im im n st se pl bo W th pe pr ml1 mr1 ml2 mr2 ml3 mr3 2 = se ∧ pz_im im n st se pl bo W th pe pr ml1 mr1 ml2 mr2 ml3 mr3 3 = pl ∧ pz_im im n st se pl bo W th pe pr ml1 mr1 ml2 mr2 ml3 mr3 4 = bo := by
  unfold pz_im
  refine ⟨?_, ?_, ?_, ?_, ?_⟩ <;> rw [fb_put_out (Or.inl (by omega)), fb_put_out (Or.inl (by omega)), fb_put_out (Or.inl (by omega)), fb_put_out (Or.inl (by omega)), fb_put_out (Or.inl (by omega)), fb_put_out (Or.inl (by omega)), fb_put_out (Or.inl (by omega)), fb_put_out (Or.inl (by omega)), fb_put_out (Or.inl (by omega)), fb_put_out (Or.inl (by omega))] <;> rfl
theorem pz_passesAllK {mN mStep mSeen mPlans mBooks mSpot mKeeps : Int32} {mWorth mHas mOwner mPrice mSeenWho mSeenWhat mPlanWhat mPlanN mBookThing mBookPrice mImaged : Nat → Int32} {Post : Int32 → Int32 → Int32 → Int32 → Int32 → Int32 → Int32 → Int32 → (Nat → Int32) → (Nat → Int32) → (Nat → Int32) → (Nat → Int32) → (Nat → Int32) → (Nat → Int32) → (Nat → Int32) → (Nat → Int32) → (Nat → Int32) → (Nat → Int32) → (Nat → Int32) → Prop}
    (h : ∀ sp, Post mN mN mStep mSeen mPlans mBooks sp 1 mWorth mHas mOwner mPrice mSeenWho mSeenWhat mPlanWhat mPlanN mBookThing mBookPrice (pz_im mImaged mN mStep mSeen mPlans mBooks mWorth mHas mOwner mPrice mSeenWho mSeenWhat mPlanWhat mPlanN mBookThing mBookPrice)) : wpX8_passesAll mN mStep mSeen mPlans mBooks mSpot mKeeps mWorth mHas mOwner mPrice mSeenWho mSeenWhat mPlanWhat mPlanN mBookThing mBookPrice mImaged 1 Post :=
  ⟨Or.inr rfl, pz_passK (s := 0) (by decide) (pz_passK (s := 1) (by decide) (pz_passK (s := 2) (by decide) (pz_passK (s := 3) (by decide) (pz_passK (s := 4) (by decide) (pz_rowK (s := 5) (by decide) (pz_rowK (s := 69) (by decide) (pz_rowK (s := 77) (by decide) (pz_rowK (s := 85) (by decide) (pz_rowK (s := 93) (by decide) (pz_rowK (s := 98) (by decide) (pz_rowK (s := 103) (by decide) (pz_rowK (s := 113) (by decide) (pz_rowK (s := 123) (by decide) (pz_rowK (s := 131) (by decide) (h _)))))))))))))))⟩
theorem pz_passesAllU {mN mStep mSeen mPlans mBooks mSpot mKeeps : Int32} {mWorth mHas mOwner mPrice mSeenWho mSeenWhat mPlanWhat mPlanN mBookThing mBookPrice im : Nat → Int32} {Post : Int32 → Int32 → Int32 → Int32 → Int32 → Int32 → Int32 → Int32 → (Nat → Int32) → (Nat → Int32) → (Nat → Int32) → (Nat → Int32) → (Nat → Int32) → (Nat → Int32) → (Nat → Int32) → (Nat → Int32) → (Nat → Int32) → (Nat → Int32) → (Nat → Int32) → Prop}
    (h : ∀ sp, Post (im 0) (im 0) (im 1) (im 2) (im 3) (im 4) sp 0 (fa_fill (fun k => im (5 + k)) mWorth 64) (fa_fill (fun k => im (69 + k)) mHas 8) (fa_fill (fun k => im (77 + k)) mOwner 8) (fa_fill (fun k => im (85 + k)) mPrice 8) (fa_fill (fun k => im (93 + k)) mSeenWho 5) (fa_fill (fun k => im (98 + k)) mSeenWhat 5) (fa_fill (fun k => im (103 + k)) mPlanWhat 10) (fa_fill (fun k => im (113 + k)) mPlanN 10) (fa_fill (fun k => im (123 + k)) mBookThing 8) (fa_fill (fun k => im (131 + k)) mBookPrice 8) im) : wpX8_passesAll mN mStep mSeen mPlans mBooks mSpot mKeeps mWorth mHas mOwner mPrice mSeenWho mSeenWhat mPlanWhat mPlanN mBookThing mBookPrice im 0 Post :=
  ⟨Or.inl rfl, pz_passU (s := 0) (by decide) (pz_passU (s := 1) (by decide) (pz_passU (s := 2) (by decide) (pz_passU (s := 3) (by decide) (pz_passU (s := 4) (by decide) (pz_rowU (s := 5) (by decide) (pz_rowU (s := 69) (by decide) (pz_rowU (s := 77) (by decide) (pz_rowU (s := 85) (by decide) (pz_rowU (s := 93) (by decide) (pz_rowU (s := 98) (by decide) (pz_rowU (s := 103) (by decide) (pz_rowU (s := 113) (by decide) (pz_rowU (s := 123) (by decide) (pz_rowU (s := 131) (by decide) (h _)))))))))))))))⟩
end PZI
