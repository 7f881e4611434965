/-! the image and its taking back -/
theorem pz_ok_c2 {N : Nat} {w : Nat → Nat → Int32} {th pe th2 pe2 : Nat → Int32} (hN : N ≤ 8) (h : ∀ k, k < 8 → th2 k = th k ∧ pe2 k = pe k) (hok : pz_ok N w th pe) : pz_ok N w th2 pe2 := by
  refine ⟨fun p hp => ?_, fun t ht => ?_⟩
  · rw [(h p hp).1]
    rcases hok.1 p hp with e | ⟨t, h1, h2, h3, h4, h5⟩
    · exact Or.inl e
    · exact Or.inr ⟨t, h1, h2, h3, by rw [(h t (by omega)).2]; exact h4, h5⟩
  · rw [(h t ht).2]
    rcases hok.2 t ht with e | ⟨p, h1, h2, h3, h4⟩
    · exact Or.inl e
    · exact Or.inr ⟨p, h1, h2, h3, by rw [(h p (by omega)).1]; exact h4⟩
def pz_K (M : Nat) (B : Int) (kpa : Int32) (kw : Nat → Nat → Int32) (kth kpe kpr : Nat → Int32) (kse : Int32) (ksl ksr : Nat → Int32) (kpl : Int32) (kpll kplr : Nat → Int32) (kbo : Int32) (kbl kbr im : Nat → Int32) : Prop :=
  M ≤ 8 ∧ 1 ≤ M ∧ im 0 = nI M ∧ im 1 = kpa ∧ pz_ww (fun k => im (5 + k)) kw ∧ pz_wb kw ∧ (1 ≤ kpa.toInt ∧ kpa.toInt ≤ 50) ∧ pz_ok M kw kth kpe ∧ pz_pb B kpr ∧ (∀ k, k < 8 → im (69 + k) = kth k ∧ im (77 + k) = kpe k ∧ im (85 + k) = kpr k) ∧
  pz_Q M kse ksl ksr kpl kpll kplr kbo kbl kbr (im 2) (fun k => im (93 + k)) (fun k => im (98 + k)) (im 3) (fun k => im (103 + k)) (fun k => im (113 + k)) (im 4) (fun k => im (123 + k)) (fun k => im (131 + k))
def pz_RK (B : Int) (fl kn kpa : Int32) (kw : Nat → Nat → Int32) (kth kpe kpr : Nat → Int32) (kse : Int32) (ksl ksr : Nat → Int32) (kpl : Int32) (kpll kplr : Nat → Int32) (kbo : Int32) (kbl kbr : Nat → Int32) (mk : Int32) (im : Nat → Int32) : Prop :=
  (fl = 0 ∧ mk = 0) ∨ (fl = 1 ∧ mk = 1 ∧ ∃ M, kn = nI M ∧ pz_K M B kpa kw kth kpe kpr kse ksl ksr kpl kpll kplr kbo kbl kbr im)
theorem pz_RK_mono {B C : Int} {fl kn kpa kse kpl kbo mk : Int32} {kw : Nat → Nat → Int32} {kth kpe kpr ksl ksr kpll kplr kbl kbr im : Nat → Int32} (h : pz_RK B fl kn kpa kw kth kpe kpr kse ksl ksr kpl kpll kplr kbo kbl kbr mk im) (hB : B ≤ C) : pz_RK C fl kn kpa kw kth kpe kpr kse ksl ksr kpl kpll kplr kbo kbl kbr mk im := by
  rcases h with h | ⟨h1, h2, M, h3, h4⟩
  · exact Or.inl h
  · obtain ⟨g1, g2, g3, g4, g5, g6, g7, g8, g9, g10⟩ := h4
    exact Or.inr ⟨h1, h2, M, h3, g1, g2, g3, g4, g5, g6, g7, g8, pz_pb_mono g9 hB, g10⟩
section PZJ
variable {N : Nat} {B : Int} {pa : Int32} {w : Nat → Nat → Int32} {W th pe pr : Nat → Int32}
variable {se pl bo mSe mPl mBo : Int32} {serl serr plrl plrr borl borr mWho mWhat mPw mPn mBt mBp : Nat → Int32}
variable {fl kn kpa kse kpl kbo mk mSpot mKeeps : Int32} {kw : Nat → Nat → Int32} {kth kpe kpr ksl ksr kpll kplr kbl kbr im : Nat → Int32}
theorem pz_L_img {lim u o : Nat} {c : Int32 → Int32 → Prop} {a b rl rr ml mr x y : Nat → Int32} (hu : u ≤ lim) (hk : ∀ k, k < u → rl k = ml k ∧ rr k = mr k ∧ c (rl k) (rr k)) (hab : ∀ k, k < u → a k = rl k ∧ b k = rr k) (hx : ∀ k, k < lim → x k = ml k ∧ y k = mr k) : pz_L lim c (nI u) a b (nI u) x y := by
  refine ⟨u, hu, rfl, rfl, fun k hk2 => ?_⟩
  obtain ⟨h1, h2, h3⟩ := hk k hk2
  obtain ⟨h4, h5⟩ := hab k hk2
  obtain ⟨h6, h7⟩ := hx k (by omega)
  rw [h4, h5, h6, h7]
  exact ⟨h1, h2, h3⟩
theorem pc_image (h : pz_M N B pa w W th pe pr) (hQ : pz_Q N se serl serr pl plrl plrr bo borl borr mSe mWho mWhat mPl mPw mPn mBo mBt mBp) :
    wpX7_image fl (nI N) pa th pe pr w se serl serr pl plrl plrr bo borl borr kn kpa kth kpe kpr kw kse ksl ksr kpl kpll kplr kbo kbl kbr (fun r fl1 kn1 kpa1 kth1 kpe1 kpr1 kw1 kse1 ksl1 ksr1 kpl1 kpll1 kplr1 kbo1 kbl1 kbr1 =>
      wpX8_image (nI N) pa mSe mPl mBo mk mSpot mKeeps W th pe pr mWho mWhat mPw mPn mBt mBp im (fun r2 n2 st2 se2 pl2 bo2 mk2 sp2 ke2 W2 th2 pe2 pr2 who2 what2 pw2 pn2 bt2 bp2 im2 =>
        r2 = r ∧ n2 = nI N ∧ st2 = pa ∧ se2 = mSe ∧ pl2 = mPl ∧ bo2 = mBo ∧ W2 = W ∧ th2 = th ∧ pe2 = pe ∧ pr2 = pr ∧ who2 = mWho ∧ what2 = mWhat ∧ pw2 = mPw ∧ pn2 = mPn ∧ bt2 = mBt ∧ bp2 = mBp ∧ pz_RK B fl1 kn1 kpa1 kw1 kth1 kpe1 kpr1 kse1 ksl1 ksr1 kpl1 kpll1 kplr1 kbo1 kbl1 kbr1 mk2 im2)) := by
  obtain ⟨hN, hN1, hW, hw, hpa, hI⟩ := h
  obtain ⟨⟨u1, hu1, rfl, rfl, hk1⟩, ⟨u2, hu2, rfl, rfl, hk2⟩, ⟨u3, hu3, rfl, rfl, hk3⟩⟩ := hQ
  refine pz_become0 (n := kn) (pa := kpa) (fun w1 hw1 => pz_rows_become (by decide) hu1 (fun a1 b1 hab1 => pz_rows_become (by decide) hu2 (fun a2 b2 hab2 => pz_rows_become (by decide) hu3 (fun a3 b3 hab3 => ?_))))
  refine pz_passesAllK (fun sp => ⟨rfl, rfl, rfl, rfl, rfl, rfl, rfl, rfl, rfl, rfl, rfl, rfl, rfl, rfl, rfl, rfl, Or.inr ⟨rfl, rfl, N, rfl, ?_⟩⟩)
  obtain ⟨n0, n1, n2, n3, n4⟩ := pz_im_n im (nI N) pa (nI u1) (nI u2) (nI u3) W th pe pr mWho mWhat mPw mPn mBt mBp
  have hc : ∀ k, k < 8 → va_cpy th kth (0 : Int32).toNatClampNeg (0 : Int32).toNatClampNeg (8 : Int32).toNatClampNeg k = th k ∧ va_cpy pe kpe (0 : Int32).toNatClampNeg (0 : Int32).toNatClampNeg (8 : Int32).toNatClampNeg k = pe k ∧ va_cpy pr kpr (0 : Int32).toNatClampNeg (0 : Int32).toNatClampNeg (8 : Int32).toNatClampNeg k = pr k := fun k hk => ⟨pz_cpy8w _ _ hk, pz_cpy8w _ _ hk, pz_cpy8w _ _ hk⟩
  refine ⟨hN, hN1, n0, n1, ?_, pz_wb_c hw1 hw, hpa, pz_ok_c hw1 hN (pz_ok_c2 hN (fun k hk => ⟨(hc k hk).1, (hc k hk).2.1⟩) hI.1), ?_, ?_, ?_, ?_, ?_⟩
  · intro p t hp ht
    dsimp only
    rw [pz_im_W _ _ _ _ _ _ _ _ _ _ _ _ _ _ _ _ (show 8 * p + t < 64 by omega), ← hw1 p t hp ht]
    exact hW p t hp ht
  · intro t ht
    rw [(hc t ht).2.2]; exact hI.2.1 t ht
  · intro k hk
    rw [pz_im_th _ _ _ _ _ _ _ _ _ _ _ _ _ _ _ _ hk, pz_im_pe _ _ _ _ _ _ _ _ _ _ _ _ _ _ _ _ hk, pz_im_pr _ _ _ _ _ _ _ _ _ _ _ _ _ _ _ _ hk]
    exact ⟨(hc k hk).1.symm, (hc k hk).2.1.symm, (hc k hk).2.2.symm⟩
  · rw [n2]; exact pz_L_img (o := 0) hu1 hk1 hab1 (fun k hk => ⟨pz_im_ml1 _ _ _ _ _ _ _ _ _ _ _ _ _ _ _ _ hk, pz_im_mr1 _ _ _ _ _ _ _ _ _ _ _ _ _ _ _ _ hk⟩)
  · rw [n3]; exact pz_L_img (o := 0) hu2 hk2 hab2 (fun k hk => ⟨pz_im_ml2 _ _ _ _ _ _ _ _ _ _ _ _ _ _ _ _ hk, pz_im_mr2 _ _ _ _ _ _ _ _ _ _ _ _ _ _ _ _ hk⟩)
  · rw [n4]; exact pz_L_img (o := 0) hu3 hk3 hab3 (fun k hk => ⟨pz_im_ml3 _ _ _ _ _ _ _ _ _ _ _ _ _ _ _ _ hk, pz_im_mr3 _ _ _ _ _ _ _ _ _ _ _ _ _ _ _ _ hk⟩)
theorem pz_cpy_fill {f g x : Nat → Int32} (hg : pz_z g) (h : ∀ k, k < 8 → x k = f k) : fa_fill x g 8 = va_cpy f g (0 : Int32).toNatClampNeg (0 : Int32).toNatClampNeg (8 : Int32).toNatClampNeg ∧ pz_z (fa_fill x g 8) := by
  refine ⟨?_, fun k hk => by rw [fa_fill_out hk, hg k hk]⟩
  funext k
  by_cases q : k < 8
  · rw [fa_fill_in q, pz_cpy8w _ _ q, h k q]
  · rw [fa_fill_out (by omega)]
    show g k = if 0 ≤ k ∧ k < 0 + 8 then f (0 + (k - 0)) else g k
    rw [if_neg (by omega)]
theorem pc_undo (h : pz_M N B pa w W th pe pr) (hQ : pz_Q N se serl serr pl plrl plrr bo borl borr mSe mWho mWhat mPl mPw mPn mBo mBt mBp) (hK : pz_RK B fl kn kpa kw kth kpe kpr kse ksl ksr kpl kpll kplr kbo kbl kbr mk im) :
    wpX7_undo fl (nI N) pa th pe pr w se serl serr pl plrl plrr bo borl borr kn kpa kth kpe kpr kw kse ksl ksr kpl kpll kplr kbo kbl kbr (fun r gn1 gpa1 gth1 gpe1 gpr1 gw1 se1 sl1 sr1 pl1 pll1 plr1 bo1 bl1 br1 =>
      wpX8_undo (nI N) pa mSe mPl mBo mk mSpot mKeeps W th pe pr mWho mWhat mPw mPn mBt mBp im (fun r2 n2 st2 se2 pl2 bo2 sp2 ke2 W2 th2 pe2 pr2 who2 what2 pw2 pn2 bt2 bp2 im2 =>
        r2 = r ∧ im2 = im ∧ ∃ M, gn1 = nI M ∧ n2 = nI M ∧ st2 = gpa1 ∧ th2 = gth1 ∧ pe2 = gpe1 ∧ pr2 = gpr1 ∧ pz_M M B gpa1 gw1 W2 gth1 gpe1 gpr1 ∧ pz_Q M se1 sl1 sr1 pl1 pll1 plr1 bo1 bl1 br1 se2 who2 what2 pl2 pw2 pn2 bo2 bt2 bp2)) := by
  rcases hK with ⟨rfl, rfl⟩ | ⟨rfl, rfl, M, rfl, g1, g2, g3, g4, g5, g6, g7, g8, g9, g10, ⟨⟨u1, hu1, rfl, e1, hk1⟩, ⟨u2, hu2, rfl, e2, hk2⟩, ⟨u3, hu3, rfl, e3, hk3⟩⟩⟩
  · exact bq_t rfl (br_t rfl ⟨rfl, rfl, N, rfl, rfl, rfl, rfl, rfl, rfl, h, hQ⟩)
  obtain ⟨hN, hN1, hW, hw, hpa, hI⟩ := h
  refine bq_f pz_n10 (pz_become0 (n := nI N) (pa := pa) (fun w1 hw1 => pz_rows_become (by decide) hu1 (fun a1 b1 hab1 => pz_rows_become (by decide) hu2 (fun a2 b2 hab2 => pz_rows_become (by decide) hu3 (fun a3 b3 hab3 => ?_)))))
  refine br_f pz_n10 (pz_passesAllU (fun sp => ?_))
  obtain ⟨t1, t2⟩ := pz_cpy_fill (f := kth) (x := fun k => im (69 + k)) hI.2.2.1 (fun k hk => (g10 k hk).1)
  obtain ⟨p1, p2⟩ := pz_cpy_fill (f := kpe) (x := fun k => im (77 + k)) hI.2.2.2.1 (fun k hk => (g10 k hk).2.1)
  obtain ⟨q1, q2⟩ := pz_cpy_fill (f := kpr) (x := fun k => im (85 + k)) hI.2.2.2.2 (fun k hk => (g10 k hk).2.2)
  rw [← t1, ← p1, ← q1]
  refine ⟨g3, rfl, M, rfl, g3, g4, rfl, rfl, rfl, ⟨g1, g2, ?_, pz_wb_c hw1 g6, g7, pz_ok_c hw1 g1 (pz_ok_c2 g1 (fun k hk => ⟨?_, ?_⟩) g8), ?_, t2, p2, q2⟩, ?_, ?_, ?_⟩
  · intro p t hp ht
    rw [fa_fill_in (by omega), ← hw1 p t hp ht]
    exact g5 p t hp ht
  · rw [fa_fill_in hk]; exact (g10 k hk).1
  · rw [fa_fill_in hk]; exact (g10 k hk).2.1
  · intro t ht
    rw [fa_fill_in ht]
    have := g9 t ht
    rw [← (g10 t ht).2.2] at this
    exact this
  · rw [e1]; exact pz_L_img (o := 0) hu1 hk1 hab1 (fun k hk => ⟨fa_fill_in hk, fa_fill_in hk⟩)
  · rw [e2]; exact pz_L_img (o := 0) hu2 hk2 hab2 (fun k hk => ⟨fa_fill_in hk, fa_fill_in hk⟩)
  · rw [e3]; exact pz_L_img (o := 0) hu3 hk3 hab3 (fun k hk => ⟨fa_fill_in hk, fa_fill_in hk⟩)
end PZJ
