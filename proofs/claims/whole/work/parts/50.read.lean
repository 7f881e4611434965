/-! clauses one behind another; the text is read -/
abbrev pz_X : Type := (Nat → Nat → Int32) × (Nat → Int32) × (Nat → Int32) × (Nat → Int32)
def pz_ap (x : Nat × Nat × Int32) (s : pz_X) : pz_X := (va_up s.1 x.1 (upd (s.1 x.1) x.2.1 x.2.2), upd s.2.1 (8 * x.1 + x.2.1) x.2.2, upd s.2.2.1 x.1 (-1), if s.2.2.1 x.1 < 0 then s.2.2.2 else upd s.2.2.2 (s.2.2.1 x.1).toNatClampNeg (-1))
def pz_apl (l : List (Nat × Nat × Int32)) (s : pz_X) : pz_X := l.foldl (fun s x => pz_ap x s) s
def pz_fin (d : Int32) (l : List (Nat × Nat × Int32)) (s : pz_X) : pz_X := if d = 0 then s else pz_apl l s
def pz_okx (N : Nat) (x : Nat × Nat × Int32) : Prop := x.1 < N ∧ x.2.1 < N ∧ -1 ≤ x.2.2.toInt ∧ x.2.2.toInt ≤ 99
/-- the rows of a read text -/
def pz_ar (tp tt tw : Nat → Int32) : Nat → List (Nat × Nat × Int32) → Prop
  | _, [] => True
  | i, x :: l => tp i = nI x.1 ∧ tt i = nI x.2.1 ∧ tw i = x.2.2 ∧ pz_ar tp tt tw (i + 1) l
section PZY
variable {L N : Nat} {tb : Nat → Int32} {B : Int} {pa : Int32} {pr : Nat → Int32}
def pz_MX (N : Nat) (B : Int) (pa : Int32) (pr : Nat → Int32) (s : pz_X) : Prop := pz_M N B pa s.1 s.2.1 s.2.2.1 s.2.2.2 pr
theorem pz_ap_in {x : Nat × Nat × Int32} {s : pz_X} (h : pz_MX N B pa pr s) (hx : pz_okx N x) : pz_MX N B pa pr (pz_ap x s) := by
  obtain ⟨hN, hN1, hW, hw, hpa, hI⟩ := h
  obtain ⟨h1, h2, h3, h4⟩ := hx
  have hv : x.2.2 = -1 ∨ 0 ≤ x.2.2 := by
    rw [fa_eq, fa_le]
    show x.2.2.toInt = -1 ∨ 0 ≤ x.2.2.toInt
    omega
  refine ⟨hN, hN1, pz_ww_upd hW (by omega) (by omega) hv, pz_wb_upd hw ⟨h3, h4⟩, hpa, pz_in_lose hN hI (by omega) (fun k t2 hk h2 => ?_)⟩
  show va_up s.1 x.1 _ k t2 ≠ -1
  unfold va_up
  rw [if_neg hk]; exact h2
theorem pz_becomeWorth {x : Nat × Nat × Int32} {s : pz_X} {Post : (Nat → Int32) → (Nat → Int32) → (Nat → Nat → Int32) → Prop} (h : pz_MX N B pa pr s) (hx : pz_okx N x) (hP : Post (pz_ap x s).2.2.1 (pz_ap x s).2.2.2 (pz_ap x s).1) : wpX2_becomeWorth s.2.2.1 s.2.2.2 s.1 (nI x.1) (nI x.2.1) x.2.2 Post := by
  have hN := h.1
  have h1 := hx.1
  have h2 := hx.2.1
  refine ⟨vp_in_nI (by omega) (by decide), vp_in_nI (by omega) (by decide), pz_giveUp hN h.2.2.2.2.2.1 (by omega) ?_⟩
  rw [nI_clamp (by omega), nI_clamp (by omega)]
  exact hP
theorem pz_becomes {x : Nat × Nat × Int32} {s : pz_X} {Post : Int32 → (Nat → Int32) → (Nat → Int32) → (Nat → Int32) → Prop} (h : pz_MX N B pa pr s) (hx : pz_okx N x) (hP : ∀ r, Post r (pz_ap x s).2.1 (pz_ap x s).2.2.1 (pz_ap x s).2.2.2) : wpX8_becomes s.2.1 s.2.2.1 s.2.2.2 (nI x.1) (nI x.2.1) x.2.2 Post := by
  have hN := h.1
  have h1 := hx.1
  have h2 := hx.2.1
  unfold wpX8_becomes
  rw [pz_8]
  refine ⟨vp_in_nI (by omega) (by decide), nm_e ⟨vp_in_nI (by omega) (by decide), pz_loses hN h.2.2.2.2.2.1 (by omega) ?_⟩⟩
  rw [nI_clamp (by omega)]
  exact br_c (fun _ => hP _) (fun _ => hP _)
theorem pz_ct_ok (h : pz_tbok L tb) : ∀ (d a : Nat), (∀ x ∈ (pz_ct L tb N d a).2.2, pz_okx N x) ∧ (pz_ct L tb N d a).2.2.length ≤ d
  | 0, a => by
    rw [pz_ct]
    split
    · exact ⟨fun x hx => by simp at hx, Nat.le_refl _⟩
    · exact ⟨fun x hx => by simp at hx, Nat.le_refl _⟩
  | d + 1, a => by
    rw [pz_ct]
    by_cases c : L ≤ a
    · rw [if_pos c]; exact ⟨fun x hx => by simp at hx, Nat.zero_le _⟩
    rw [if_neg c]
    by_cases c2 : pz_sg L tb a = 59
    · rw [if_pos c2]
      by_cases c3 : (pz_cl L tb N (a + 1)).1 = 0
      · rw [if_neg (fun q => q c3)]
        have ih := pz_ct_ok h d (pz_cl L tb N (a + 1)).2.1
        have hc := (@pz_cl_in L N tb (a + 1) h).2 c3
        refine ⟨fun x hx => ?_, by simp only [List.length_cons]; omega⟩
        rcases List.mem_cons.mp hx with q | q
        · rw [q]; exact hc
        · exact ih.1 x q
      · rw [if_pos c3]; exact ⟨fun x hx => by simp at hx, Nat.zero_le _⟩
    · rw [if_neg c2]; exact ⟨fun x hx => by simp at hx, Nat.zero_le _⟩
theorem pz_qf_ok (h : pz_tbok L tb) (d a : Nat) : (∀ x ∈ (pz_qf L tb N d a).2.2, pz_okx N x) ∧ (pz_qf L tb N d a).2.2.length ≤ d + 1 := by
  unfold pz_qf
  by_cases c3 : (pz_cl L tb N a).1 = 0
  · rw [if_neg (fun q => q c3)]
    have ih := @pz_ct_ok L N tb h d (pz_cl L tb N a).2.1
    have hc := (@pz_cl_in L N tb a h).2 c3
    refine ⟨fun x hx => ?_, by simp only [List.length_cons]; omega⟩
    rcases List.mem_cons.mp hx with q | q
    · rw [q]; exact hc
    · exact ih.1 x q
  · rw [if_pos c3]; exact ⟨fun x hx => by simp at hx, Nat.zero_le _⟩
theorem pz_findClause {k a : Nat} {tp tt tw : Nat → Int32} {Post : Int32 → Int32 → Int32 → (Nat → Int32) → (Nat → Int32) → (Nat → Int32) → Prop} (h : pz_tbok L tb) (hN : N ≤ 8) (ha : a < 800) (hk : k < 16)
    (h0 : (pz_cl L tb N a).1 = 0 → Post (nI (k + 1)) (nI (pz_cl L tb N a).2.1) 0 (upd tp k (nI (pz_cl L tb N a).2.2.1)) (upd tt k (nI (pz_cl L tb N a).2.2.2.1)) (upd tw k (pz_cl L tb N a).2.2.2.2))
    (h1 : (pz_cl L tb N a).1 ≠ 0 → Post (nI k) (nI (pz_cl L tb N a).2.1) (pz_cl L tb N a).1 tp tt tw) : wpX6_findClause (nI L) (nI k) (nI a) 0 tb tp tt tw (nI N) Post := by
  unfold pz_cl at h0 h1
  refine pz_findNumber (first := 97) (miss := 2) h hN (by omega) (by decide) (by decide) (fun c => bq_t rfl ?_) (fun c x => ?_)
  · rw [if_neg (fun q => q c)] at h0 h1
    refine pz_findNumber (first := 48) (miss := 3) h hN (by omega) (by decide) (by decide) (fun c2 => bq_t rfl (pz_findWorth h (by omega) (fun x hx => ?_))) (fun c2 x => ?_)
    · rw [if_neg (fun q => q c2)] at h0 h1
      dsimp only at h0 h1
      refine bq_c (fun c3 => h1 c3) (fun c3 => br_f (nI_ge (b := 16) hk (by decide)) ⟨vp_in_nI hk (by decide), vp_in_nI hk (by decide), vp_in_nI hk (by decide), ?_⟩)
      have e3 : (pz_w1 L tb (a + 2)).1 = 0 := c3
      have e4 : pz_w1 L tb (a + 1 + 1) = pz_w1 L tb (a + 2) := rfl
      rw [nI_clamp (by omega), nI_1, hx c3, e4, e3]
      exact h0 e3
    · rw [if_pos c2] at h1
      exact bq_f c2 (bq_f c2 (h1 c2))
  · rw [if_pos c] at h1
    exact bq_f c (bq_f c (bq_f c (h1 c)))
theorem pz_clause8 {k a : Nat} {dn : Int32} {W th pe : Nat → Int32} {Post : Int32 → Int32 → Int32 → (Nat → Int32) → (Nat → Int32) → (Nat → Int32) → Prop} (h : pz_tbok L tb) (hN : N ≤ 8) (ha : a < 800)
    (h0 : (pz_cl L tb N a).1 = 0 → ((dn = 0 → Post (nI (pz_cl L tb N a).2.1) 0 (nI (k + 1)) W th pe) ∧ (¬ dn = 0 → wpX8_becomes W th pe (nI (pz_cl L tb N a).2.2.1) (nI (pz_cl L tb N a).2.2.2.1) (pz_cl L tb N a).2.2.2.2 (fun (r8 : Int32) (y9 y10 y11 : Nat → Int32) => Post (nI (pz_cl L tb N a).2.1) 0 (nI (k + 1)) y9 y10 y11))))
    (h1 : (pz_cl L tb N a).1 ≠ 0 → Post (nI (pz_cl L tb N a).2.1) (pz_cl L tb N a).1 (nI k) W th pe) : wpX8_clause (nI N) (nI L) (nI a) 0 (nI k) W th pe tb dn Post := by
  unfold pz_cl at h0 h1
  refine pz_takesOne (first := 97) (last := 104) (miss := 2) h hN (by omega) (by decide) rfl (by decide) (fun c => bq_t rfl ?_) (fun c x => ?_)
  · rw [if_neg (fun q => q c)] at h0 h1
    refine pz_takesOne (first := 48) (last := 55) (miss := 3) h hN (by omega) (by decide) rfl (by decide) (fun c2 => bq_t rfl (pz_takesWorth h (by omega) (fun x hx => ?_))) (fun c2 x => ?_)
    · rw [if_neg (fun q => q c2)] at h0 h1
      dsimp only at h0 h1
      have e4 : pz_w1 L tb (a + 1 + 1) = pz_w1 L tb (a + 2) := rfl
      rw [e4] at hx ⊢
      unfold wpX8_clause_B46
      by_cases c3 : (pz_w1 L tb (a + 2)).1 = 0
      · have h2 := h0 c3
        rw [hx c3, c3, nI_1]
        exact br_t rfl h2
      · exact br_f c3 (h1 c3)
    · rw [if_pos c2] at h1
      exact bq_f c2 (br_f c2 (h1 c2))
  · rw [if_pos c] at h1
    exact bq_f c (bq_f c (br_f c (h1 c)))
/-- all clauses, as the class keeps them -/
theorem pz_clauses7 {Post : Int32 → Int32 → Int32 → (Nat → Int32) → (Nat → Int32) → (Nat → Int32) → Prop} (h : pz_tbok L tb) (hN : N ≤ 8) : ∀ (d c a : Nat) (tp tt tw : Nat → Int32), c + d = 15 → a ≤ 6 * c →
    (∀ tp1 tt1 tw1, (∀ j, j < c → tp1 j = tp j ∧ tt1 j = tt j ∧ tw1 j = tw j) → pz_ar tp1 tt1 tw1 c (pz_qf L tb N d a).2.2 → Post (nI (c + (pz_qf L tb N d a).2.2.length)) (nI (pz_qf L tb N d a).2.1) (pz_qf L tb N d a).1 tp1 tt1 tw1) →
    wpX6_findClauses_B17 (nI L) tb (nI N) Post (d + 2) (nI c) (nI c) (nI a) 0 tp tt tw := by
  intro d
  induction d with
  | zero =>
    intro c a tp tt tw hcd ha hP
    have hL := h.1
    have hci := (@pz_cl_in L N tb a h).1
    unfold pz_qf at hP
    rw [wpX6_findClauses_B17]
    refine br_f (nI_ge (b := 16) (by omega) (by decide)) (pz_findClause h hN (by omega) (by omega) (fun c0 => bq_t rfl ?_) (fun c0 => ?_))
    · rw [if_neg (fun q => q c0), pz_ct] at hP
      by_cases e : L ≤ (pz_cl L tb N a).2.1
      · rw [if_pos e] at hP
        exact br_f (nI_nlt e (by omega)) (hP _ _ _ (fun j hj => ⟨pk_un (by omega), pk_un (by omega), pk_un (by omega)⟩) ⟨pk_us, pk_us, pk_us, trivial⟩)
      · rw [if_neg e] at hP
        have hF := hP _ _ _ (fun j hj => ⟨pk_un (by omega), pk_un (by omega), pk_un (by omega)⟩) ⟨pk_us, pk_us, pk_us, trivial⟩
        have e15 : c = 15 := by omega
        subst e15
        refine br_t (nI_lt (by omega) (by omega)) (pz_sign h (by omega) (bq_c (fun _ => br_f pz_n10 hF) (fun _ => br_t (by decide) (br_f pz_n10 hF))))
    · rw [if_pos c0] at hP
      exact bq_f c0 (hP _ _ _ (fun j hj => ⟨rfl, rfl, rfl⟩) trivial)
  | succ d ih =>
    intro c a tp tt tw hcd ha hP
    have hL := h.1
    have hci := (@pz_cl_in L N tb a h).1
    unfold pz_qf at hP
    rw [wpX6_findClauses_B17]
    refine br_f (nI_ge (b := 16) (by omega) (by decide)) (pz_findClause h hN (by omega) (by omega) (fun c0 => bq_t rfl ?_) (fun c0 => ?_))
    · rw [if_neg (fun q => q c0), pz_ct_succ] at hP
      by_cases e : L ≤ (pz_cl L tb N a).2.1
      · rw [if_pos e] at hP
        exact br_f (nI_nlt e (by omega)) (hP _ _ _ (fun j hj => ⟨pk_un (by omega), pk_un (by omega), pk_un (by omega)⟩) ⟨pk_us, pk_us, pk_us, trivial⟩)
      · rw [if_neg e] at hP
        refine br_t (nI_lt (by omega) (by omega)) (pz_sign h (by omega) (bq_c (fun c2 => br_f pz_n10 ?_) (fun c2 => br_f (nI_ge (b := 16) (by omega) (by decide)) (br_t rfl (nm_r (nI_1 c) ?_)))))
        · rw [if_neg c2] at hP
          exact hP _ _ _ (fun j hj => ⟨pk_un (by omega), pk_un (by omega), pk_un (by omega)⟩) ⟨pk_us, pk_us, pk_us, trivial⟩
        · rw [if_pos c2] at hP
          rw [nI_1]
          refine ih (c + 1) _ _ _ _ (by omega) (by omega) (fun tp1 tt1 tw1 hag har => ?_)
          have hc := hag c (by omega)
          rw [pk_us, pk_us, pk_us] at hc
          have hF := hP tp1 tt1 tw1 (fun j hj => ?_) ⟨hc.1, hc.2.1, hc.2.2, har⟩
          · rw [List.length_cons] at hF
            rw [show c + 1 + (pz_qf L tb N d ((pz_cl L tb N a).2.1 + 1)).2.2.length = c + ((pz_qf L tb N d ((pz_cl L tb N a).2.1 + 1)).2.2.length + 1) by omega]
            exact hF
          · have := hag j (by omega)
            rw [pk_un (by omega), pk_un (by omega), pk_un (by omega)] at this
            exact this
    · rw [if_pos c0] at hP
      exact bq_f c0 (hP _ _ _ (fun j hj => ⟨rfl, rfl, rfl⟩) trivial)
/-- .. and as the reference goes through them -/
theorem pz_gt {dn : Int32} {Post : Int32 → Int32 → Int32 → (Nat → Int32) → (Nat → Int32) → (Nat → Int32) → Prop} (h : pz_tbok L tb) (hN : N ≤ 8) : ∀ (d k a : Nat) (s : pz_X), k + d = 16 → a ≤ 6 * k → pz_MX N B pa pr s →
    Post (nI (pz_ct L tb N d a).2.1) (pz_ct L tb N d a).1 (nI (k + (pz_ct L tb N d a).2.2.length)) (pz_fin dn (pz_ct L tb N d a).2.2 s).2.1 (pz_fin dn (pz_ct L tb N d a).2.2 s).2.2.1 (pz_fin dn (pz_ct L tb N d a).2.2 s).2.2.2 →
    wpX8_goesThrough_B20 (nI N) (nI L) tb dn Post (d + 1) (nI a) 0 (nI k) s.2.1 s.2.2.1 s.2.2.2 := by
  intro d
  induction d with
  | zero =>
    intro k a s hkd ha hM hP
    have hL := h.1
    have e0 : pz_fin dn [] s = s := by
      unfold pz_fin
      split <;> rfl
    rw [pz_ct] at hP
    rw [wpX8_goesThrough_B20]
    refine bq_t rfl ?_
    by_cases e : L ≤ a
    · rw [if_pos e, e0] at hP
      exact br_t (nI_le e (by omega)) hP
    · rw [if_neg e, e0] at hP
      have ek : k = 16 := by omega
      subst ek
      exact br_f (nI_ge (by omega) (by omega)) (br_t rfl hP)
  | succ d ih =>
    intro k a s hkd ha hM hP
    have hL := h.1
    have e0 : pz_fin dn [] s = s := by
      unfold pz_fin
      split <;> rfl
    rw [pz_ct_succ] at hP
    rw [wpX8_goesThrough_B20]
    refine bq_t rfl ?_
    by_cases e : L ≤ a
    · rw [if_pos e, e0] at hP
      exact br_t (nI_le e (by omega)) hP
    rw [if_neg e] at hP
    refine br_f (nI_ge (by omega) (by omega)) (br_f (fun q => ?_) (pz_here h (by omega) (br_c (fun c => ?_) (fun c => ?_))))
    · have := (nI_eq (b := 16) (by omega) (by decide)).mp q; omega
    · rw [if_pos c] at hP
      rw [nI_1]
      unfold pz_qf at hP
      have hci := @pz_cl_in L N tb (a + 1) h
      refine pz_clause8 h hN (by omega) (fun c0 => ?_) (fun c0 => ?_)
      · rw [if_neg (fun q => q c0)] at hP
        rw [List.length_cons, show ∀ n, k + (n + 1) = k + 1 + n from fun n => by omega] at hP
        have hx : pz_okx N (pz_cl L tb N (a + 1)).2.2 := hci.2 c0
        refine br_c (fun cd => ih (k + 1) _ s (by omega) (by omega) hM ?_) (fun cd => pz_becomes hM hx (fun r => ih (k + 1) _ _ (by omega) (by omega) (pz_ap_in hM hx) ?_))
        · have ef : ∀ l, pz_fin dn l s = s := fun l => if_pos cd
          rw [ef] at hP ⊢
          exact hP
        · have ef : ∀ l s, pz_fin dn l s = pz_apl l s := fun l s => if_neg cd
          rw [ef] at hP ⊢
          exact hP
      · rw [if_pos c0, e0] at hP
        rw [wpX8_goesThrough_B20]
        exact bq_f c0 hP
    · rw [if_neg c, e0] at hP
      exact hP
theorem pz_goes {dn t1 t2 t3 : Int32} {s : pz_X} {Post : Int32 → Int32 → Int32 → (Nat → Int32) → (Nat → Int32) → (Nat → Int32) → Prop} (h : pz_tbok L tb) (hN : N ≤ 8) (hM : pz_MX N B pa pr s)
    (hP : Post (nI (pz_qf L tb N 15 0).2.1) (pz_qf L tb N 15 0).1 (nI (pz_qf L tb N 15 0).2.2.length) (pz_fin dn (pz_qf L tb N 15 0).2.2 s).2.1 (pz_fin dn (pz_qf L tb N 15 0).2.2 s).2.2.1 (pz_fin dn (pz_qf L tb N 15 0).2.2 s).2.2.2) :
    wpX8_goesThrough (nI N) (nI L) t1 t2 t3 s.2.1 s.2.2.1 s.2.2.2 tb dn Post := by
  have e0 : pz_fin dn [] s = s := by
    unfold pz_fin
    split <;> rfl
  unfold pz_qf at hP
  have hci := @pz_cl_in L N tb 0 h
  refine pz_clause8 (k := 0) (a := 0) h hN (by decide) (fun c0 => ?_) (fun c0 => ⟨1, ?_⟩)
  · rw [if_neg (fun q => q c0)] at hP
    rw [List.length_cons, Nat.add_comm _ 1] at hP
    have hx : pz_okx N (pz_cl L tb N 0).2.2 := hci.2 c0
    refine br_c (fun cd => ⟨16, pz_gt h hN 15 1 _ s (by decide) (by omega) hM ?_⟩) (fun cd => pz_becomes hM hx (fun r => ⟨16, pz_gt h hN 15 1 _ _ (by decide) (by omega) (pz_ap_in hM hx) ?_⟩))
    · have ef : ∀ l, pz_fin dn l s = s := fun l => if_pos cd
      rw [ef] at hP ⊢
      exact hP
    · have ef : ∀ l s, pz_fin dn l s = pz_apl l s := fun l s => if_neg cd
      rw [ef] at hP ⊢
      exact hP
  · rw [if_pos c0, e0] at hP
    rw [wpX8_goesThrough_B20]
    exact bq_f c0 hP
/-- what was read is done -/
theorem pz_done {v2 v3 tl tc ta tk ck cc cd : Int32} {tp tt tw : Nat → Int32} {gn : Int32} {Post : Int32 → (Nat → Int32) → (Nat → Int32) → (Nat → Nat → Int32) → Int32 → Int32 → Int32 → Int32 → (Nat → Int32) → (Nat → Int32) → (Nat → Int32) → Int32 → Int32 → Int32 → Prop} : ∀ (l : List (Nat × Nat × Int32)) (i : Nat) (s : pz_X) (m : Nat), m = i + l.length → m ≤ 16 → pz_ar tp tt tw i l → (∀ x ∈ l, pz_okx N x) → pz_MX N B pa pr s →
    wpX7_read_B131 gn tb Post (nI m) v2 v3 (pz_apl l s).2.2.1 (pz_apl l s).2.2.2 (pz_apl l s).1 tl tc ta tk tp tt tw ck cc cd →
    wpX7_read_B79 gn tb Post (l.length + 1) (nI m) v2 v3 (nI i) s.2.2.1 s.2.2.2 s.1 tl tc ta tk tp tt tw ck cc cd
  | [], i, s, m, hm, hm2, har, hok, hM, hP => by
    rw [wpX7_read_B79]
    have e : m = i := hm
    subst e
    exact br_t (nI_le (Nat.le_refl _) (by omega)) hP
  | x :: l, i, s, m, hm, hm2, har, hok, hM, hP => by
    rw [List.length_cons] at hm
    obtain ⟨h1, h2, h3, h4⟩ := har
    have hx := hok x List.mem_cons_self
    rw [wpX7_read_B79]
    refine br_f (nI_ge (by omega) (by omega)) ⟨vp_in_nI (by omega) (by decide), vp_in_nI (by omega) (by decide), vp_in_nI (by omega) (by decide), ?_⟩
    rw [nI_clamp (by omega), h1, h2, h3]
    exact pz_becomeWorth hM hx (nm_r (nI_1 i) (pz_done l (i + 1) (pz_ap x s) m (by omega) hm2 h4 (fun y hy => hok y (List.mem_cons_of_mem _ hy)) (pz_ap_in hM hx) hP))
theorem pz_apl_in : ∀ (l : List (Nat × Nat × Int32)) (s : pz_X), (∀ x ∈ l, pz_okx N x) → pz_MX N B pa pr s → pz_MX N B pa pr (pz_apl l s)
  | [], s, _, h => h
  | x :: l, s, hok, h => pz_apl_in l (pz_ap x s) (fun y hy => hok y (List.mem_cons_of_mem _ hy)) (pz_ap_in h (hok x List.mem_cons_self))
theorem pc_read {w : Nat → Nat → Int32} {W th pe : Nat → Int32} {tl tc ta tk mTexted t1 t2 t3 ck cc cd : Int32} {mText tp tt tw f : Nat → Int32} (h : pz_M N B pa w W th pe pr) (hT : pz_T tl tb mTexted mText) (hC : pz_C ck cc cd f) :
    wpX7_read (nI N) th pe w tl tc ta tk tb tp tt tw ck cc cd (fun r th1 pe1 w1 tl1 tc1 ta1 tk1 tp1 tt1 tw1 ck1 cc1 cd1 => wpX8_read (nI N) mTexted t1 t2 t3 W th pe f mText (fun r2 x2 a2 k2 o2 W2 th2 pe2 f2 =>
      r2 = r ∧ th2 = th1 ∧ pe2 = pe1 ∧ pz_M N B pa w1 W2 th1 pe1 pr ∧ pz_T tl1 tb x2 mText ∧ pz_C ck1 cc1 cd1 f2)) := by
  obtain ⟨L, hL, rfl, rfl, rfl, hk⟩ := hT
  have htb : pz_tbok L mText := ⟨hL, hk⟩
  have hN := h.1
  have hM : pz_MX N B pa pr (w, W, th, pe) := h
  have hT0 : pz_T 0 mText 0 mText := ⟨0, Nat.zero_le _, rfl, rfl, rfl, fun k hk => absurd hk (by omega)⟩
  obtain ⟨q1, q2⟩ := @pz_qf_ok L N mText htb 15 0
  refine ⟨17, pz_clauses7 htb hN 15 0 0 tp tt tw rfl (Nat.zero_le _) (fun tp1 tt1 tw1 _ har => ?_)⟩
  rw [Nat.zero_add]
  have g0 : ∀ {Q : Int32 → Int32 → Int32 → (Nat → Int32) → (Nat → Int32) → (Nat → Int32) → Prop} {u1 u2 u3 : Int32}, Q (nI (pz_qf L mText N 15 0).2.1) (pz_qf L mText N 15 0).1 (nI (pz_qf L mText N 15 0).2.2.length) W th pe → wpX8_goesThrough (nI N) (nI L) u1 u2 u3 W th pe mText 0 Q :=
    fun hq => pz_goes (dn := 0) (s := (w, W, th, pe)) htb hN hM hq
  refine br_c (fun c => ?_) (fun c => ?_)
  · refine br_t rfl ⟨(pz_qf L mText N 15 0).2.2.length + 1, ?_⟩
    refine pz_done (pz_qf L mText N 15 0).2.2 0 (w, W, th, pe) _ (Nat.zero_add _).symm q2 har q1 hM ?_
    refine br_t rfl (g0 (bq_t c (pz_goes (dn := 1) (s := (w, W, th, pe)) htb hN hM ⟨rfl, rfl, rfl, ?_, hT0, hC⟩)))
    exact pz_apl_in _ _ q1 hM
  · refine br_f pz_n10 (br_f pz_n10 (g0 (bq_f c (pz_tellsWrong ⟨rfl, rfl, rfl, h, hT0, ⟨rfl, rfl, rfl⟩⟩))))
end PZY
