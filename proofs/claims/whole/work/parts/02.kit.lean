/-! my own rows over the kit: places in families, joins in place, calls that read, calls that write -/
abbrev bw_tys (cI cJ cT cII cJJ : ClassId) : List (ClassId × FieldType) := [(cI, .int), (cJ, .long), (cT, .object "BidMarket$Tape"), (cII, .array .int), (cJJ, .array .long)]
theorem bw_all6 {P : Nat → Prop} (h0 : P 0) (h1 : P 1) (h2 : P 2) (h3 : P 3) (h4 : P 4) (h5 : P 5) : ∀ k, k < 6 → P k := fun k hk => match k, hk with
  | 0, _ => h0 | 1, _ => h1 | 2, _ => h2 | 3, _ => h3 | 4, _ => h4 | 5, _ => h5
  | k + 6, h => absurd h (by omega)
theorem bw_all8 {P : Nat → Prop} (h0 : P 0) (h1 : P 1) (h2 : P 2) (h3 : P 3) (h4 : P 4) (h5 : P 5) (h6 : P 6) (h7 : P 7) : ∀ k, k < 8 → P k := fun k hk => match k, hk with
  | 0, _ => h0 | 1, _ => h1 | 2, _ => h2 | 3, _ => h3 | 4, _ => h4 | 5, _ => h5 | 6, _ => h6 | 7, _ => h7
  | k + 8, h => absurd h (by omega)
theorem bw_lt {i : Int32} {n : Nat} (h : vp_in i n) : i.toNatClampNeg < n := Nat.not_le.mp fun q => h (Or.inr q)
theorem bw_z {x : Int32} (h : x = 0 ∨ x = 1) : narrow .boolean (.int x) = .int x := by rcases h with rfl | rfl <;> rfl
theorem bw_zf {x : Int32} (h : x = 0 ∨ x = 1) : fits .boolean (.int x) = true := by rcases h with rfl | rfl <;> rfl
theorem bw_nd1 {i : Nat} : [i].Nodup := by simp
theorem bw_map1 {ws : va_W} {i : Nat} {x : Nat × va_E} (h : ws[i]? = some x) : [i].map (fun i => ws[i]?) = [x].map some := by simp [h]
theorem bw_map2 {ws : va_W} {i j : Nat} {x y : Nat × va_E} (h : ws[i]? = some x) (h2 : ws[j]? = some y) : [i, j].map (fun i => ws[i]?) = [x, y].map some := by simp [h, h2]
theorem va_P.nil {D : va_G} {cl : List vw_C} {H : Heap} : va_P D cl [] H := fun k q h => by simp at h
theorem bw_swn (hi : Int) (x : Int32) (h : ¬ (x.toInt < 0 ∨ hi < x.toInt)) (h2 : ¬ (0 ≤ x.toInt ∧ x.toInt ≤ hi)) : False := by omega
theorem bw_at {ws wc : va_W} {is : List Nat} (hC : is.map (fun i => ws[i]?) = wc.map some) {k : Nat} {q : Nat × va_E} (h : wc[k]? = some q) : ∃ i, is[k]? = some i ∧ ws[i]? = some q := by
  have h1 : (is.map (fun i => ws[i]?))[k]? = some (some q) := by rw [hC, List.getElem?_map, h]; rfl
  rw [List.getElem?_map] at h1
  cases hi : is[k]? with
  | none => rw [hi] at h1; cases h1
  | some i => rw [hi] at h1; exact ⟨i, rfl, Option.some.inj h1⟩
theorem bw_subP {D : va_G} {cl : List vw_C} {ws wc : va_W} {H : Heap} {is : List Nat} (hP : va_P D cl ws H) (hC : is.map (fun i => ws[i]?) = wc.map some) : va_P D cl wc H := fun k q hq => by
  obtain ⟨i, -, h⟩ := bw_at hC hq
  exact hP i q h
theorem bw_subD {A : Nat → Prop} {ws wc : va_W} {is : List Nat} (hD : va_D A ws) (hC : is.map (fun i => ws[i]?) = wc.map some) (hn : is.Nodup) : va_D (fun _ => True) wc := by
  refine ⟨fun i j p q hi hj hpq => ?_, fun _ _ _ => trivial⟩
  obtain ⟨a, ha, ha2⟩ := bw_at hC hi
  obtain ⟨b, hb, hb2⟩ := bw_at hC hj
  have hab := hD.1 a b p q ha2 hb2 hpq
  subst hab
  obtain ⟨h1, e1⟩ := List.getElem?_eq_some_iff.mp ha
  obtain ⟨h2, e2⟩ := List.getElem?_eq_some_iff.mp hb
  exact (List.getElem_inj hn).mp (e1.trans e2.symm)
def bw_sets (ws : va_W) : List Nat → va_W → va_W
  | i :: is, q :: w => bw_sets (ws.set i q) is w
  | _, _ => ws
theorem bw_setsP {D : va_G} {cl : List vw_C} {H1 : Heap} {A0 : Nat → Prop} : ∀ (is : List Nat) (w1 wc ws : va_W), va_D A0 ws → is.map (fun i => (ws[i]?).map (·.1)) = wc.map (fun q => some q.1) → w1.map (·.1) = wc.map (·.1) → va_P D cl w1 H1 →
    (∀ (k : Nat) (q : Nat × va_E), ws[k]? = some q → k ∉ is → va_at D cl q H1) → (∀ (k : Nat) (q : Nat × va_E), ws[k]? = some q → k ∈ is ∨ va_at D cl q H1) →
    va_P D cl (bw_sets ws is w1) H1 ∧ va_D A0 (bw_sets ws is w1)
  | [], w1, wc, ws, hD, hC, hA, hP1, h1, h2 => by
    unfold bw_sets
    exact ⟨fun k q hq => h1 k q hq (by simp), hD⟩
  | i :: is, [], wc, ws, hD, hC, hA, hP1, h1, h2 => by
    have : wc = [] := by cases wc with | nil => rfl | cons _ _ => simp at hA
    subst this
    simp at hC
  | i :: is, q :: w, [], ws, hD, hC, hA, hP1, h1, h2 => by simp at hA
  | i :: is, q :: w, c :: wc, ws, hD, hC, hA, hP1, h1, h2 => by
    unfold bw_sets
    simp only [List.map_cons, List.cons.injEq] at hC hA
    obtain ⟨hc1, hc2⟩ := hC
    obtain ⟨ha1, ha2⟩ := hA
    have hq : va_at D cl q H1 := hP1 0 q rfl
    obtain ⟨x, hx, hx2⟩ := Option.map_eq_some_iff.mp hc1
    have hil : i < ws.length := (List.getElem?_eq_some_iff.mp hx).1
    have hxq : x.1 = q.1 := by rw [hx2, ha1]
    have hD2 : va_D A0 (ws.set i q) := by
      refine ⟨fun a b p r hp hr hpr => ?_, fun k r hk => ?_⟩
      · rw [List.getElem?_set] at hp hr
        by_cases h3 : i = a <;> by_cases h4 : i = b
        · exact h3.symm.trans h4
        · rw [if_pos h3, if_pos (by omega)] at hp
          rw [if_neg h4] at hr
          cases hp
          exact (hD.1 a b x r (h3 ▸ hx) hr (by rw [hxq]; exact hpr))
        · rw [if_neg h3] at hp
          rw [if_pos h4, if_pos (by omega)] at hr
          cases hr
          exact (hD.1 a b p x hp (h4 ▸ hx) (by rw [hxq]; exact hpr))
        · rw [if_neg h3] at hp
          rw [if_neg h4] at hr
          exact hD.1 a b p r hp hr hpr
      · rw [List.getElem?_set] at hk
        by_cases h3 : i = k
        · rw [if_pos h3, if_pos (by omega)] at hk
          cases hk
          rw [← hxq]
          exact hD.2 i x hx
        · rw [if_neg h3] at hk
          exact hD.2 k r hk
    refine bw_setsP is w wc (ws.set i q) hD2 ?_ ha2 (fun k r hk => hP1 (k + 1) r hk) ?_ ?_
    · rw [← hc2]
      apply List.map_congr_left
      intro k _
      rw [List.getElem?_set]
      by_cases h3 : i = k
      · rw [if_pos h3, if_pos (by omega), ← h3, hx]
        simp [hxq]
      · rw [if_neg h3]
    · intro k r hk hn
      rw [List.getElem?_set] at hk
      by_cases h3 : i = k
      · rw [if_pos h3, if_pos (by omega)] at hk
        cases hk
        exact hq
      · rw [if_neg h3] at hk
        exact h1 k r hk (by simp only [List.mem_cons, not_or]; exact ⟨fun h => h3 h.symm, hn⟩)
    · intro k r hk
      rw [List.getElem?_set] at hk
      by_cases h3 : i = k
      · rw [if_pos h3, if_pos (by omega)] at hk
        cases hk
        exact Or.inr hq
      · rw [if_neg h3] at hk
        by_cases h4 : k ∈ is
        · exact Or.inl h4
        · exact Or.inr (h1 k r hk (by simp only [List.mem_cons, not_or]; exact ⟨fun h => h3 h.symm, h4⟩))
theorem bw_join {A0 : Nat → Prop} {D : va_G} {cl : List vw_C} {ws wc w1 : va_W} {H H1 : Heap} (hP : va_P D cl ws H) (hD : va_D A0 ws) (is : List Nat) (hC : is.map (fun i => ws[i]?) = wc.map some) (hA : w1.map (·.1) = wc.map (·.1))
    (hk : ∀ q : Nat, q < H.size → ¬ va_A wc H.size q → H1[q]? = H[q]?) (hP1 : va_P D cl w1 H1) : va_P D cl (bw_sets ws is w1) H1 ∧ va_D A0 (bw_sets ws is w1) := by
  have hkeep : ∀ (k : Nat) (q : Nat × va_E), ws[k]? = some q → k ∉ is → va_at D cl q H1 := by
    intro k q hq hn
    have hl := (hP k q hq).lt
    refine (hP k q hq).kept (hk q.1 hl fun h => ?_)
    rcases h with ⟨j, e, h⟩ | h
    · obtain ⟨i, h3, h4⟩ := bw_at hC h
      have := hD.1 k i q (q.1, e) hq h4 rfl
      subst this
      exact hn (List.mem_of_getElem? h3)
    · omega
  refine bw_setsP is w1 wc ws hD ?_ hA hP1 hkeep (fun k q hq => ?_)
  · have := congrArg (List.map (fun o : Option (Nat × va_E) => o.map (·.1))) hC
    rw [List.map_map, List.map_map] at this
    exact this
  · by_cases h : k ∈ is
    · exact Or.inl h
    · exact Or.inr (hkeep k q hq h)
section BWK
variable {p : Program} {l : Launch} {e : Env} {R : Room} {s : State} {m : MethodId} {args : Array Value} {below : List Frame} {meth : Method} {c : Code} {H : Heap} {locs : List Loc} {cells slots : Nat} {Q : State → Prop}
variable {cc : ByteArray} {pc : Nat} {ls : Array Slot} {rest st As : List Value} {D : va_G} {cl : List vw_C} {A : Nat → Prop} {a b : Nat} {tys : List (ClassId × FieldType)} {ws wc : va_W} {H0 : Heap}
variable {y : MethodName} {bytes : ByteArray} {maxL nL n index : Nat} {ret : Option FieldType} {wsy Ts : List Cond} {rm : Room} {own C : String} {ci : Nat} {fs : List Value} {q : vw_C}
theorem bw_aald {ty : FieldType} {g : Nat → Nat} {i : Int32} {n : Nat} {f : Nat → Option Nat} {cA : ClassId} {b : Nat} (hexec : p.tables.exec = Jvm.exec) (hb : c.code = cc) (hK : va_K D cl tys s) (hP : va_P D cl ws H) (q0 t0 : Nat) (ha : ws[q0]? = some (a, .inl (cA, n, .inr (.inr (.inr (.inr f)))))) (ht : tys[t0]? = some (cA, ty)) (hty : ty.isReference = true) (hg : ∀ k, k < n → f k = some (g k)) (hin : vp_in i n) (hbq : g i.toNatClampNeg = b) (hdg : decode cc pc = .ok (.aaload, 1))
    (kk : W p l e R s m args below meth c H locs cells slots Q (F0 m (pc + 1) ls (.ref b :: rest))) : W p l e R s m args below meth c H locs cells slots Q (F0 m pc ls (.int i :: .ref a :: rest)) := by
  have hlt : i.toNatClampNeg < n := Nat.not_le.mp fun q => hin (Or.inr q)
  subst hbq
  exact W.aald (v := .ref (g i.toNatClampNeg)) (ty := ty) hexec hb (hP q0 _ ha) ((hK.2 t0 _ ht).1 n (fun j => va_rf (f j))) hty (fun q => by cases q) (by show ¬ (i < 0 ∨ (arrV _ _ _).slots.size ≤ _); rw [arrV_size]; exact hin) (by show (arrV _ _ _).slots[_]? = _; rw [arrV_read _ _ hlt, hg _ hlt]; rfl) rfl rfl hdg kk
theorem bw_blindP {av : List Value} : FrameBlind (va_Pc av (fun U => va_P D cl wc U.heap ∧ va_K D cl tys U)) := fun a U g mk q => ⟨q.1, q.2.1, va_K.moved (u := U) (U := U.calling g mk a) (Vm.Alike.refl U.vm) q.2.2⟩
theorem bw_blindW {av : List Value} {sz : Nat} {A : Nat → Prop} : FrameBlind (va_Pc av (fun U => U.heap.size = sz ∧ va_P D cl wc U.heap ∧ va_K D cl tys U ∧ va_D A wc)) := fun a U g mk q => ⟨q.1, q.2.1, q.2.2.1, va_K.moved (u := U) (U := U.calling g mk a) (Vm.Alike.refl U.vm) q.2.2.2.1, q.2.2.2.2⟩
theorem bw_pvi {Post : Int32 → Prop} (S : CallFix p m c cc nL s args Ts own) (hM : Met l y wsy rm (va_Pc (.ref b :: As) (fun U => va_P D cl wc U.heap ∧ va_K D cl tys U)) (vp_Si Post) 0 0 (fun _ => False)) (cw : CallW R s args own C index y bytes maxL ret wsy rm 0 0 n)
    (hK : va_K D cl tys s) (hP : va_P D cl ws H) (is : List Nat) (hC : is.map (fun i => ws[i]?) = wc.map some) (hr0 : wc[0]? = some (b, .inr (ci, fs))) (hci : cl[ci]? = some q) (hq : q.1 = C) (hn : As.length = n) (hsz : ls.size = nL) (hst : st = As.reverse ++ .ref b :: rest) (hro : (rest.map fun v => v.category).sum ≤ 8) (hf : cells ≤ R.cells ∧ slots ≤ R.slots) (hdg : decode cc pc = .ok (.invokevirtual index, 3))
    (kk : ∀ r : Int32, Post r → W p l e R s m args below meth c H locs cells slots Q (F0 m (pc + 3) ls (.int r :: rest))) : W p l e R s m args below meth c H locs cells slots Q (F0 m pc ls st) := by
  have hPc := bw_subP hP hC
  subst hq
  exact vp_callSi (W.runV S hM cw ⟨bw_blindP, va_recv hK hPc hci hr0, fun U hU hW => ⟨rfl, by rw [hU]; exact hPc, va_K.moved hW.alike hK⟩⟩ rfl hn hsz hst (lv_room hro) hdg hf) kk
theorem bw_pvl {Post : Int64 → Prop} (S : CallFix p m c cc nL s args Ts own) (hM : Met l y wsy rm (va_Pc (.ref b :: As) (fun U => va_P D cl wc U.heap ∧ va_K D cl tys U)) (vp_Sl Post) 0 0 (fun _ => False)) (cw : CallW R s args own C index y bytes maxL ret wsy rm 0 0 n)
    (hK : va_K D cl tys s) (hP : va_P D cl ws H) (is : List Nat) (hC : is.map (fun i => ws[i]?) = wc.map some) (hr0 : wc[0]? = some (b, .inr (ci, fs))) (hci : cl[ci]? = some q) (hq : q.1 = C) (hn : As.length = n) (hsz : ls.size = nL) (hst : st = As.reverse ++ .ref b :: rest) (hro : (rest.map fun v => v.category).sum ≤ 8) (hf : cells ≤ R.cells ∧ slots ≤ R.slots) (hdg : decode cc pc = .ok (.invokevirtual index, 3))
    (kk : ∀ r : Int64, Post r → W p l e R s m args below meth c H locs cells slots Q (F0 m (pc + 3) ls (.long r :: rest))) : W p l e R s m args below meth c H locs cells slots Q (F0 m pc ls st) := by
  have hPc := bw_subP hP hC
  subst hq
  exact vp_callSl (W.runV S hM cw ⟨bw_blindP, va_recv hK hPc hci hr0, fun U hU hW => ⟨rfl, by rw [hU]; exact hPc, va_K.moved hW.alike hK⟩⟩ rfl hn hsz hst (lv_room hro) hdg hf) kk
theorem bw_psi {Post : Int32 → Prop} (S : CallFix p m c cc nL s args Ts own) (hM : Met l y wsy rm (va_Pc As (fun U => va_P D cl wc U.heap ∧ va_K D cl tys U)) (vp_Si Post) 0 0 (fun _ => False)) (cw : CallB R s args own index y bytes maxL ret wsy rm 0 0 n ∧ (Cond.static y).before args s = true)
    (hK : va_K D cl tys s) (hP : va_P D cl ws H) (is : List Nat) (hC : is.map (fun i => ws[i]?) = wc.map some) (hn : As.length = n) (hsz : ls.size = nL) (hst : st = As.reverse ++ rest) (hro : (rest.map fun v => v.category).sum ≤ 8) (hf : cells ≤ R.cells ∧ slots ≤ R.slots) (hdg : decode cc pc = .ok (.invokestatic index, 3))
    (kk : ∀ r : Int32, Post r → W p l e R s m args below meth c H locs cells slots Q (F0 m (pc + 3) ls (.int r :: rest))) : W p l e R s m args below meth c H locs cells slots Q (F0 m pc ls st) := by
  have hPc := bw_subP hP hC
  exact vp_callSi (W.runS S hM cw ⟨bw_blindP, fun U hU hW => ⟨rfl, by rw [hU]; exact hPc, va_K.moved hW.alike hK⟩⟩ rfl hn hsz hst (lv_room hro) hdg hf) kk
theorem bw_psl {Post : Int64 → Prop} (S : CallFix p m c cc nL s args Ts own) (hM : Met l y wsy rm (va_Pc As (fun U => va_P D cl wc U.heap ∧ va_K D cl tys U)) (vp_Sl Post) 0 0 (fun _ => False)) (cw : CallB R s args own index y bytes maxL ret wsy rm 0 0 n ∧ (Cond.static y).before args s = true)
    (hK : va_K D cl tys s) (hP : va_P D cl ws H) (is : List Nat) (hC : is.map (fun i => ws[i]?) = wc.map some) (hn : As.length = n) (hsz : ls.size = nL) (hst : st = As.reverse ++ rest) (hro : (rest.map fun v => v.category).sum ≤ 8) (hf : cells ≤ R.cells ∧ slots ≤ R.slots) (hdg : decode cc pc = .ok (.invokestatic index, 3))
    (kk : ∀ r : Int64, Post r → W p l e R s m args below meth c H locs cells slots Q (F0 m (pc + 3) ls (.long r :: rest))) : W p l e R s m args below meth c H locs cells slots Q (F0 m pc ls st) := by
  have hPc := bw_subP hP hC
  exact vp_callSl (W.runS S hM cw ⟨bw_blindP, fun U hU hW => ⟨rfl, by rw [hU]; exact hPc, va_K.moved hW.alike hK⟩⟩ rfl hn hsz hst (lv_room hro) hdg hf) kk
theorem bw_in {A0 : Nat → Prop} {is : List Nat} {locs : List Loc} (hD : va_D A0 ws) (hS : va_S A0 H0 H locs) (hA : ∀ q, H0.size ≤ q → A0 q) (hC : is.map (fun i => ws[i]?) = wc.map some) : ∀ q, va_A wc H.size q → A0 q := va_free hD hS hA is hC
theorem bw_wvi {S1 : Type} {Post : Int32 → S1 → Prop} {w1 : S1 → va_W} {A0 : Nat → Prop} (S : CallFix p m c cc nL s args Ts own) (hM : Met l y wsy rm (va_Pc (.ref b :: As) (fun U => U.heap.size = H.size ∧ va_P D cl wc U.heap ∧ va_K D cl tys U ∧ va_D (fun _ => True) wc)) (va_Qi Post (fun u t => va_P D cl (w1 u) t.heap) (va_A wc H.size)) 0 0 (va_A wc H.size)) (cw : CallW R s args own C index y bytes maxL ret wsy rm 0 0 n)
    (hK : va_K D cl tys s) (hP : va_P D cl ws H) (hD : va_D A0 ws) (hS : va_S A0 H0 H locs) (hA : ∀ q, H0.size ≤ q → A0 q) (is : List Nat) (hC : is.map (fun i => ws[i]?) = wc.map some) (hnd : is.Nodup) (hw1 : ∀ u, (w1 u).map (·.1) = wc.map (·.1)) (hr0 : wc[0]? = some (b, .inr (ci, fs))) (hci : cl[ci]? = some q) (hq : q.1 = C) (hn : As.length = n) (hsz : ls.size = nL) (hst : st = As.reverse ++ .ref b :: rest) (hro : (rest.map fun v => v.category).sum ≤ 8) (hf : cells ≤ R.cells ∧ slots ≤ R.slots) (hdg : decode cc pc = .ok (.invokevirtual index, 3))
    (kk : ∀ (r : Int32) (u : S1) (H1 : Heap) (locs1 : List Loc), Post r u → va_P D cl (bw_sets ws is (w1 u)) H1 → va_D A0 (bw_sets ws is (w1 u)) → va_S A0 H0 H1 locs1 → W p l e R s m args below meth c H1 locs1 cells slots Q (F0 m (pc + 3) ls (.int r :: rest))) : W p l e R s m args below meth c H locs cells slots Q (F0 m pc ls st) := by
  have hPc := bw_subP hP hC
  have hDc := bw_subD hD hC hnd
  have hFc := bw_in hD hS hA hC
  subst hq
  exact va_calli (va_runV S hM cw ⟨bw_blindW, va_recv hK hPc hci hr0, fun U hU hW => ⟨rfl, by rw [hU], by rw [hU]; exact hPc, va_K.moved hW.alike hK, hDc⟩⟩ rfl hn hsz hst (lv_room hro) hdg hf) hS (fun q _ h => hFc q h) hFc (fun r u t H1 locs1 ht _ hw hB _ hk1 hS1 => by
    obtain ⟨j1, j2⟩ := bw_join hP hD is hC (hw1 u) hk1 (by rw [← ht]; exact hB)
    exact kk r u H1 locs1 hw j1 j2 hS1)
theorem bw_wvv {S1 : Type} {Post : S1 → Prop} {w1 : S1 → va_W} {A0 : Nat → Prop} (S : CallFix p m c cc nL s args Ts own) (hM : Met l y wsy rm (va_Pc (.ref b :: As) (fun U => U.heap.size = H.size ∧ va_P D cl wc U.heap ∧ va_K D cl tys U ∧ va_D (fun _ => True) wc)) (va_Qv Post (fun u t => va_P D cl (w1 u) t.heap) (va_A wc H.size)) 0 0 (va_A wc H.size)) (cw : CallW R s args own C index y bytes maxL ret wsy rm 0 0 n)
    (hK : va_K D cl tys s) (hP : va_P D cl ws H) (hD : va_D A0 ws) (hS : va_S A0 H0 H locs) (hA : ∀ q, H0.size ≤ q → A0 q) (is : List Nat) (hC : is.map (fun i => ws[i]?) = wc.map some) (hnd : is.Nodup) (hw1 : ∀ u, (w1 u).map (·.1) = wc.map (·.1)) (hr0 : wc[0]? = some (b, .inr (ci, fs))) (hci : cl[ci]? = some q) (hq : q.1 = C) (hn : As.length = n) (hsz : ls.size = nL) (hst : st = As.reverse ++ .ref b :: rest) (hro : (rest.map fun v => v.category).sum ≤ 8) (hf : cells ≤ R.cells ∧ slots ≤ R.slots) (hdg : decode cc pc = .ok (.invokevirtual index, 3))
    (kk : ∀ (u : S1) (H1 : Heap) (locs1 : List Loc), Post u → va_P D cl (bw_sets ws is (w1 u)) H1 → va_D A0 (bw_sets ws is (w1 u)) → va_S A0 H0 H1 locs1 → W p l e R s m args below meth c H1 locs1 cells slots Q (F0 m (pc + 3) ls rest)) : W p l e R s m args below meth c H locs cells slots Q (F0 m pc ls st) := by
  have hPc := bw_subP hP hC
  have hDc := bw_subD hD hC hnd
  have hFc := bw_in hD hS hA hC
  subst hq
  exact va_callv (va_runV S hM cw ⟨bw_blindW, va_recv hK hPc hci hr0, fun U hU hW => ⟨rfl, by rw [hU], by rw [hU]; exact hPc, va_K.moved hW.alike hK, hDc⟩⟩ rfl hn hsz hst (lv_room hro) hdg hf) hS (fun q _ h => hFc q h) hFc (fun u t H1 locs1 ht _ hw hB _ hk1 hS1 => by
    obtain ⟨j1, j2⟩ := bw_join hP hD is hC (hw1 u) hk1 (by rw [← ht]; exact hB)
    exact kk u H1 locs1 hw j1 j2 hS1)
theorem bw_wvl {S1 : Type} {Post : Int64 → S1 → Prop} {w1 : S1 → va_W} {A0 : Nat → Prop} (S : CallFix p m c cc nL s args Ts own) (hM : Met l y wsy rm (va_Pc (.ref b :: As) (fun U => U.heap.size = H.size ∧ va_P D cl wc U.heap ∧ va_K D cl tys U ∧ va_D (fun _ => True) wc)) (va_Ql Post (fun u t => va_P D cl (w1 u) t.heap) (va_A wc H.size)) 0 0 (va_A wc H.size)) (cw : CallW R s args own C index y bytes maxL ret wsy rm 0 0 n)
    (hK : va_K D cl tys s) (hP : va_P D cl ws H) (hD : va_D A0 ws) (hS : va_S A0 H0 H locs) (hA : ∀ q, H0.size ≤ q → A0 q) (is : List Nat) (hC : is.map (fun i => ws[i]?) = wc.map some) (hnd : is.Nodup) (hw1 : ∀ u, (w1 u).map (·.1) = wc.map (·.1)) (hr0 : wc[0]? = some (b, .inr (ci, fs))) (hci : cl[ci]? = some q) (hq : q.1 = C) (hn : As.length = n) (hsz : ls.size = nL) (hst : st = As.reverse ++ .ref b :: rest) (hro : (rest.map fun v => v.category).sum ≤ 8) (hf : cells ≤ R.cells ∧ slots ≤ R.slots) (hdg : decode cc pc = .ok (.invokevirtual index, 3))
    (kk : ∀ (r : Int64) (u : S1) (H1 : Heap) (locs1 : List Loc), Post r u → va_P D cl (bw_sets ws is (w1 u)) H1 → va_D A0 (bw_sets ws is (w1 u)) → va_S A0 H0 H1 locs1 → W p l e R s m args below meth c H1 locs1 cells slots Q (F0 m (pc + 3) ls (.long r :: rest))) : W p l e R s m args below meth c H locs cells slots Q (F0 m pc ls st) := by
  have hPc := bw_subP hP hC
  have hDc := bw_subD hD hC hnd
  have hFc := bw_in hD hS hA hC
  subst hq
  exact va_calll (va_runV S hM cw ⟨bw_blindW, va_recv hK hPc hci hr0, fun U hU hW => ⟨rfl, by rw [hU], by rw [hU]; exact hPc, va_K.moved hW.alike hK, hDc⟩⟩ rfl hn hsz hst (lv_room hro) hdg hf) hS (fun q _ h => hFc q h) hFc (fun r u t H1 locs1 ht _ hw hB _ hk1 hS1 => by
    obtain ⟨j1, j2⟩ := bw_join hP hD is hC (hw1 u) hk1 (by rw [← ht]; exact hB)
    exact kk r u H1 locs1 hw j1 j2 hS1)
theorem bw_wsv {S1 : Type} {Post : S1 → Prop} {w1 : S1 → va_W} {A0 : Nat → Prop} (S : CallFix p m c cc nL s args Ts own) (hM : Met l y wsy rm (va_Pc As (fun U => U.heap.size = H.size ∧ va_P D cl wc U.heap ∧ va_K D cl tys U ∧ va_D (fun _ => True) wc)) (va_Qv Post (fun u t => va_P D cl (w1 u) t.heap) (va_A wc H.size)) 0 0 (va_A wc H.size)) (cw : CallB R s args own index y bytes maxL ret wsy rm 0 0 n ∧ (Cond.static y).before args s = true)
    (hK : va_K D cl tys s) (hP : va_P D cl ws H) (hD : va_D A0 ws) (hS : va_S A0 H0 H locs) (hA : ∀ q, H0.size ≤ q → A0 q) (is : List Nat) (hC : is.map (fun i => ws[i]?) = wc.map some) (hnd : is.Nodup) (hw1 : ∀ u, (w1 u).map (·.1) = wc.map (·.1)) (hn : As.length = n) (hsz : ls.size = nL) (hst : st = As.reverse ++ rest) (hro : (rest.map fun v => v.category).sum ≤ 8) (hf : cells ≤ R.cells ∧ slots ≤ R.slots) (hdg : decode cc pc = .ok (.invokestatic index, 3))
    (kk : ∀ (u : S1) (H1 : Heap) (locs1 : List Loc), Post u → va_P D cl (bw_sets ws is (w1 u)) H1 → va_D A0 (bw_sets ws is (w1 u)) → va_S A0 H0 H1 locs1 → W p l e R s m args below meth c H1 locs1 cells slots Q (F0 m (pc + 3) ls rest)) : W p l e R s m args below meth c H locs cells slots Q (F0 m pc ls st) := by
  have hPc := bw_subP hP hC
  have hDc := bw_subD hD hC hnd
  have hFc := bw_in hD hS hA hC
  exact va_callv (va_runS S hM cw ⟨bw_blindW, fun U hU hW => ⟨rfl, by rw [hU], by rw [hU]; exact hPc, va_K.moved hW.alike hK, hDc⟩⟩ rfl hn hsz hst (lv_room hro) hdg hf) hS (fun q _ h => hFc q h) hFc (fun u t H1 locs1 ht _ hw hB _ hk1 hS1 => by
    obtain ⟨j1, j2⟩ := bw_join hP hD is hC (hw1 u) hk1 (by rw [← ht]; exact hB)
    exact kk u H1 locs1 hw j1 j2 hS1)
end BWK
