/-! my own rows over the kit: places in families, joins in place, calls that read, calls that write -/
abbrev bw_tys (cI cJ cT cII cJJ : ClassId) : List (ClassId × FieldType) := [(cI, .int), (cJ, .long), (cT, .object "BidMarket$Tape"), (cII, .array .int), (cJJ, .array .long)]
theorem bw_all6 {P : Nat → Prop} (h0 : P 0) (h1 : P 1) (h2 : P 2) (h3 : P 3) (h4 : P 4) (h5 : P 5) : ∀ k, k < 6 → P k := fun k hk => match k, hk with
  | 0, _ => h0 | 1, _ => h1 | 2, _ => h2 | 3, _ => h3 | 4, _ => h4 | 5, _ => h5
  | k + 6, h => absurd h (by omega)
theorem bw_all8 {P : Nat → Prop} (h0 : P 0) (h1 : P 1) (h2 : P 2) (h3 : P 3) (h4 : P 4) (h5 : P 5) (h6 : P 6) (h7 : P 7) : ∀ k, k < 8 → P k := fun k hk => match k, hk with
  | 0, _ => h0 | 1, _ => h1 | 2, _ => h2 | 3, _ => h3 | 4, _ => h4 | 5, _ => h5 | 6, _ => h6 | 7, _ => h7
  | k + 8, h => absurd h (by omega)
theorem bw_lt {i : Int32} {n : Nat} (h : vp_in i n) : i.toNatClampNeg < n := Nat.not_le.mp fun q => h (Or.inr q)
theorem bw_z {x : Int32} (h : x = 0 ∨ x = 1) : narrow .boolean (.int x) = .int x := by rcases h with rfl | rfl <;> rfl
theorem bw_zf {x : Int32} (h : x = 0 ∨ x = 1) : fits .boolean (.int x) = true := by rcases h with rfl | rfl <;> rfl
theorem bw_nd1 {i : Nat} : [i].Nodup := by simp
theorem va_P.nil {D : va_G} {cl : List vw_C} {H : Heap} : va_P D cl [] H := fun k q h => by simp at h
theorem bw_sw {x : Int32} (hi : Nat) (h : ¬ (x.toInt < 0 ∨ (hi : Int) < x.toInt)) (h2 : ∀ k : Nat, k ≤ hi → ¬ x = Int32.ofNat k) : False := by
  have hb : x.toInt < 2 ^ 31 := by
    have h9 : x.toBitVec.toInt < 2 ^ (32 - 1) := x.toBitVec.toInt_lt
    exact h9
  refine h2 x.toInt.toNat (by omega) ?_
  apply Int32.toInt.inj
  have h3 : (Int32.ofNat x.toInt.toNat).toInt = (x.toInt.toNat : Int) := nI_toInt (by omega)
  rw [h3]
  omega
def bw_get : va_W → Nat → Option (Nat × va_E)
  | [], _ => none
  | x :: _, 0 => some x
  | _ :: xs, k + 1 => bw_get xs k
theorem bw_get_eq : ∀ (ws : va_W) (k : Nat), bw_get ws k = ws[k]?
  | [], k => by simp [bw_get]
  | x :: xs, 0 => rfl
  | x :: xs, k + 1 => by rw [bw_get, bw_get_eq xs k]; simp
theorem bw_map1 {ws : va_W} {i : Nat} {x : Nat × va_E} (h : ws[i]? = some x) : [i].map (fun i => bw_get ws i) = [x].map some := by simp [bw_get_eq, h]
theorem bw_map2 {ws : va_W} {i j : Nat} {x y : Nat × va_E} (h : ws[i]? = some x) (h2 : ws[j]? = some y) : [i, j].map (fun i => bw_get ws i) = [x, y].map some := by simp [bw_get_eq, h, h2]
theorem bw_at {ws wc : va_W} {is : List Nat} (hC : is.map (fun i => bw_get ws i) = wc.map some) {k : Nat} {q : Nat × va_E} (h : wc[k]? = some q) : ∃ i, is[k]? = some i ∧ ws[i]? = some q := by
  have h1 : (is.map (fun i => bw_get ws i))[k]? = some (some q) := by rw [hC, List.getElem?_map, h]; rfl
  rw [List.getElem?_map] at h1
  cases hi : is[k]? with
  | none => rw [hi] at h1; cases h1
  | some i => rw [hi] at h1; exact ⟨i, rfl, by rw [← bw_get_eq]; exact Option.some.inj h1⟩
theorem bw_subP {D : va_G} {cl : List vw_C} {ws wc : va_W} {H : Heap} {is : List Nat} (hP : va_P D cl ws H) (hC : is.map (fun i => bw_get ws i) = wc.map some) : va_P D cl wc H := fun k q hq => by
  obtain ⟨i, -, h⟩ := bw_at hC hq
  exact hP i q h
theorem bw_subD {A : Nat → Prop} {ws wc : va_W} {is : List Nat} (hD : va_D A ws) (hC : is.map (fun i => bw_get ws i) = wc.map some) (hn : is.Nodup) : va_D (fun _ => True) wc := by
  refine ⟨fun i j p q hi hj hpq => ?_, fun _ _ _ => trivial⟩
  obtain ⟨a, ha, ha2⟩ := bw_at hC hi
  obtain ⟨b, hb, hb2⟩ := bw_at hC hj
  have hab := hD.1 a b p q ha2 hb2 hpq
  subst hab
  obtain ⟨h1, e1⟩ := List.getElem?_eq_some_iff.mp ha
  obtain ⟨h2, e2⟩ := List.getElem?_eq_some_iff.mp hb
  exact (List.getElem_inj hn).mp (e1.trans e2.symm)
def bw_look (k : Nat) : List Nat → va_W → Option (Nat × va_E)
  | i :: is, q :: w => cond (Nat.beq k i) (some q) (bw_look k is w)
  | _, _ => none
/-- in ws, from place k on, what w has at the places is -/
def bw_put (is : List Nat) (w : va_W) : va_W → Nat → va_W
  | [], _ => []
  | x :: ws, k => (bw_look k is w).getD x :: bw_put is w ws (k + 1)
theorem bw_put_at (is : List Nat) (w : va_W) : ∀ (ws : va_W) (k j : Nat), (bw_put is w ws k)[j]? = (ws[j]?).map (fun x => (bw_look (k + j) is w).getD x)
  | [], k, j => by simp [bw_put]
  | x :: ws, k, 0 => by simp [bw_put]
  | x :: ws, k, j + 1 => by
    rw [bw_put, List.getElem?_cons_succ, List.getElem?_cons_succ, bw_put_at is w ws (k + 1) j, show k + 1 + j = k + (j + 1) by omega]
theorem bw_look_some {k : Nat} {q : Nat × va_E} : ∀ (is : List Nat) (w : va_W), bw_look k is w = some q → ∃ j : Nat, is[j]? = some k ∧ w[j]? = some q
  | [], _, h => by simp [bw_look] at h
  | i :: is, [], h => by simp [bw_look] at h
  | i :: is, x :: w, h => by
    rw [bw_look] at h
    cases hb : Nat.beq k i with
    | true =>
      rw [hb] at h
      have := Nat.eq_of_beq_eq_true hb
      subst this
      exact ⟨0, rfl, h⟩
    | false =>
      rw [hb] at h
      obtain ⟨j, h1, h2⟩ := bw_look_some is w h
      exact ⟨j + 1, h1, h2⟩
theorem bw_look_none {k : Nat} : ∀ (is : List Nat) (w : va_W), is.length = w.length → bw_look k is w = none → k ∉ is
  | [], _, _, _ => by simp
  | i :: is, [], h, _ => by simp at h
  | i :: is, x :: w, hl, h => by
    rw [bw_look] at h
    cases hb : Nat.beq k i with
    | true => rw [hb] at h; cases h
    | false =>
      rw [hb] at h
      have h1 := bw_look_none is w (by simpa using hl) h
      have h2 := Nat.ne_of_beq_eq_false hb
      simp [h1, h2]
theorem bw_join {A0 : Nat → Prop} {D : va_G} {cl : List vw_C} {ws wc w1 : va_W} {H H1 : Heap} (hP : va_P D cl ws H) (hD : va_D A0 ws) (is : List Nat) (hC : is.map (fun i => bw_get ws i) = wc.map some) (hA : w1.map (·.1) = wc.map (·.1))
    (hk : ∀ q : Nat, q < H.size → ¬ va_A wc H.size q → H1[q]? = H[q]?) (hP1 : va_P D cl w1 H1) : va_P D cl (bw_put is w1 ws 0) H1 ∧ va_D A0 (bw_put is w1 ws 0) := by
  have hlen : is.length = w1.length := by
    have h1 := congrArg List.length hC
    have h2 := congrArg List.length hA
    simp only [List.length_map] at h1 h2
    omega
  have hsame : ∀ (k : Nat) (x q : Nat × va_E), ws[k]? = some x → bw_look k is w1 = some q → q.1 = x.1 := by
    intro k x q hx hq
    obtain ⟨j, h1, h2⟩ := bw_look_some is w1 hq
    have h3 : (w1.map (·.1))[j]? = some q.1 := by rw [List.getElem?_map, h2]; rfl
    rw [hA, List.getElem?_map] at h3
    obtain ⟨c, h4, h5⟩ := Option.map_eq_some_iff.mp h3
    obtain ⟨i, h6, h7⟩ := bw_at hC h4
    rw [h1] at h6
    cases h6
    rw [hx] at h7
    cases h7
    exact h5.symm
  have hget : ∀ (k : Nat) (r : Nat × va_E), (bw_put is w1 ws 0)[k]? = some r → ∃ x, ws[k]? = some x ∧ r.1 = x.1 ∧ (bw_look k is w1 = some r ∨ (bw_look k is w1 = none ∧ r = x)) := by
    intro k r h
    rw [bw_put_at, Nat.zero_add] at h
    obtain ⟨x, h1, h2⟩ := Option.map_eq_some_iff.mp h
    cases hl : bw_look k is w1 with
    | none => rw [hl] at h2; cases h2; exact ⟨_, h1, rfl, Or.inr ⟨rfl, rfl⟩⟩
    | some q => rw [hl] at h2; cases h2; exact ⟨x, h1, hsame k x _ h1 hl, Or.inl rfl⟩
  refine ⟨fun k r hr => ?_, fun i j p q hi hj hpq => ?_, fun k r hr => ?_⟩
  · obtain ⟨x, h1, -, h2 | ⟨h2, rfl⟩⟩ := hget k r hr
    · obtain ⟨j, -, h4⟩ := bw_look_some is w1 h2
      exact hP1 j r h4
    · have hn := bw_look_none is w1 hlen h2
      have hl := (hP k r h1).lt
      refine (hP k r h1).kept (hk r.1 hl fun h => ?_)
      rcases h with ⟨j, e, h⟩ | h
      · obtain ⟨i, h3, h4⟩ := bw_at hC h
        have := hD.1 k i r (r.1, e) h1 h4 rfl
        subst this
        exact hn (List.mem_of_getElem? h3)
      · omega
  · obtain ⟨x, h1, h2, -⟩ := hget i p hi
    obtain ⟨y, h3, h4, -⟩ := hget j q hj
    exact hD.1 i j x y h1 h3 (by rw [← h2, ← h4, hpq])
  · obtain ⟨x, h1, h2, -⟩ := hget k r hr
    rw [h2]
    exact hD.2 k x h1
theorem bw_free {A0 : Nat → Prop} {ws wc : va_W} {H0 H : Heap} {locs : List Loc} {is : List Nat} (hD : va_D A0 ws) (hS : va_S A0 H0 H locs) (hA : ∀ q, H0.size ≤ q → A0 q) (hC : is.map (fun i => bw_get ws i) = wc.map some) : ∀ q, va_A wc H.size q → A0 q := by
  intro q h
  rcases h with ⟨k, e, h⟩ | h
  · obtain ⟨i, -, h4⟩ := bw_at hC h
    exact hD.2 i (q, e) h4
  · exact hA q (Nat.le_trans hS.1 h)
/-- the static row of steps, which nobody writes -/
def bw_scale (j : Nat) : Int32 := match j with | 0 => 50 | 1 => 10 | 2 => 2 | 3 => 1 | _ => 0
def bw_SC (sc : Nat) (A : Nat → Prop) (U : State) (H : Heap) : Prop := va_Z "BidMarket$Market" "SCALE" "[I" (.ref sc) A U H ∧ va_T .int sc 4 (fun j => .int (bw_scale j)) A U H
theorem bw_SC.moved {sc : Nat} {A : Nat → Prop} {u U : State} {H : Heap} (hvm : u.vm.Alike U.vm) (h : bw_SC sc A u H) : bw_SC sc A U H := ⟨va_Z.moved hvm h.1, va_T.moved hvm h.2⟩
theorem bw_SC.kept {sc : Nat} {A : Nat → Prop} {U : State} {H H1 : Heap} (h : bw_SC sc A U H) (hq : ∀ a : Nat, a < H.size → ¬ A a → H1[a]? = H[a]?) : bw_SC sc A U H1 := ⟨va_Z.kept h.1 hq, va_T.kept h.2 hq⟩
theorem bw_SC.narrow {sc : Nat} {A B : Nat → Prop} {U : State} {H : Heap} (h : bw_SC sc A U H) (hAB : ∀ q, B q → A q) : bw_SC sc B U H := ⟨va_Z.narrow h.1 hAB, va_T.narrow h.2 hAB⟩
section BWK
variable {p : Program} {l : Launch} {e : Env} {R : Room} {s : State} {m : MethodId} {args : Array Value} {below : List Frame} {meth : Method} {c : Code} {H : Heap} {locs : List Loc} {cells slots : Nat} {Q : State → Prop}
variable {cc : ByteArray} {pc : Nat} {ls : Array Slot} {rest st As : List Value} {D : va_G} {cl : List vw_C} {A : Nat → Prop} {a b : Nat} {tys : List (ClassId × FieldType)} {ws wc : va_W} {H0 : Heap}
variable {y : MethodName} {bytes : ByteArray} {maxL nL n index : Nat} {ret : Option FieldType} {wsy Ts : List Cond} {rm : Room} {own C : String} {ci : Nat} {fs : List Value} {q : vw_C}
theorem bw_aald {ty : FieldType} {g : Nat → Nat} {i : Int32} {n : Nat} {f : Nat → Option Nat} {cA : ClassId} {b : Nat} (hexec : p.tables.exec = Jvm.exec) (hb : c.code = cc) (hK : va_K D cl tys s) (hP : va_P D cl ws H) (q0 t0 : Nat) (ha : ws[q0]? = some (a, .inl (cA, n, .inr (.inr (.inr (.inr f)))))) (ht : tys[t0]? = some (cA, ty)) (hty : ty.isReference = true) (hg : ∀ k, k < n → f k = some (g k)) (hin : vp_in i n) (hbq : g i.toNatClampNeg = b) (hdg : decode cc pc = .ok (.aaload, 1))
    (kk : W p l e R s m args below meth c H locs cells slots Q (F0 m (pc + 1) ls (.ref b :: rest))) : W p l e R s m args below meth c H locs cells slots Q (F0 m pc ls (.int i :: .ref a :: rest)) := by
  have hlt : i.toNatClampNeg < n := Nat.not_le.mp fun q => hin (Or.inr q)
  subst hbq
  exact W.aald (v := .ref (g i.toNatClampNeg)) (ty := ty) hexec hb (hP q0 _ ha) ((hK.2 t0 _ ht).1 n (fun j => va_rf (f j))) hty (fun q => by cases q) (by show ¬ (i < 0 ∨ (arrV _ _ _).slots.size ≤ _); rw [arrV_size]; exact hin) (by show (arrV _ _ _).slots[_]? = _; rw [arrV_read _ _ hlt, hg _ hlt]; rfl) rfl rfl hdg kk
theorem bw_blindP {av : List Value} : FrameBlind (va_Pc av (fun U => va_P D cl wc U.heap ∧ va_K D cl tys U)) := fun a U g mk q => ⟨q.1, q.2.1, va_K.moved (u := U) (U := U.calling g mk a) (Vm.Alike.refl U.vm) q.2.2⟩
theorem bw_blindW {av : List Value} {sz : Nat} {A : Nat → Prop} : FrameBlind (va_Pc av (fun U => U.heap.size = sz ∧ va_P D cl wc U.heap ∧ va_K D cl tys U ∧ va_D A wc)) := fun a U g mk q => ⟨q.1, q.2.1, q.2.2.1, va_K.moved (u := U) (U := U.calling g mk a) (Vm.Alike.refl U.vm) q.2.2.2.1, q.2.2.2.2⟩
theorem bw_pvi {Post : Int32 → Prop} (S : CallFix p m c cc nL s args Ts own) (hM : Met l y wsy rm (va_Pc (.ref b :: As) (fun U => va_P D cl wc U.heap ∧ va_K D cl tys U)) (vp_Si Post) 0 0 (fun _ => False)) (cw : CallW R s args own C index y bytes maxL ret wsy rm 0 0 n)
    (hK : va_K D cl tys s) (hP : va_P D cl ws H) (is : List Nat) (hC : is.map (fun i => bw_get ws i) = wc.map some) (hr0 : wc[0]? = some (b, .inr (ci, fs))) (hci : cl[ci]? = some q) (hq : q.1 = C) (hn : As.length = n) (hsz : ls.size = nL) (hst : st = As.reverse ++ .ref b :: rest) (hro : (rest.map fun v => v.category).sum ≤ 8) (hf : cells ≤ R.cells ∧ slots ≤ R.slots) (hdg : decode cc pc = .ok (.invokevirtual index, 3))
    (kk : ∀ r : Int32, Post r → W p l e R s m args below meth c H locs cells slots Q (F0 m (pc + 3) ls (.int r :: rest))) : W p l e R s m args below meth c H locs cells slots Q (F0 m pc ls st) := by
  have hPc := bw_subP hP hC
  subst hq
  exact vp_callSi (W.runV S hM cw ⟨bw_blindP, va_recv hK hPc hci hr0, fun U hU hW => ⟨rfl, by rw [hU]; exact hPc, va_K.moved hW.alike hK⟩⟩ rfl hn hsz hst (lv_room hro) hdg hf) kk
theorem bw_pvl {Post : Int64 → Prop} (S : CallFix p m c cc nL s args Ts own) (hM : Met l y wsy rm (va_Pc (.ref b :: As) (fun U => va_P D cl wc U.heap ∧ va_K D cl tys U)) (vp_Sl Post) 0 0 (fun _ => False)) (cw : CallW R s args own C index y bytes maxL ret wsy rm 0 0 n)
    (hK : va_K D cl tys s) (hP : va_P D cl ws H) (is : List Nat) (hC : is.map (fun i => bw_get ws i) = wc.map some) (hr0 : wc[0]? = some (b, .inr (ci, fs))) (hci : cl[ci]? = some q) (hq : q.1 = C) (hn : As.length = n) (hsz : ls.size = nL) (hst : st = As.reverse ++ .ref b :: rest) (hro : (rest.map fun v => v.category).sum ≤ 8) (hf : cells ≤ R.cells ∧ slots ≤ R.slots) (hdg : decode cc pc = .ok (.invokevirtual index, 3))
    (kk : ∀ r : Int64, Post r → W p l e R s m args below meth c H locs cells slots Q (F0 m (pc + 3) ls (.long r :: rest))) : W p l e R s m args below meth c H locs cells slots Q (F0 m pc ls st) := by
  have hPc := bw_subP hP hC
  subst hq
  exact vp_callSl (W.runV S hM cw ⟨bw_blindP, va_recv hK hPc hci hr0, fun U hU hW => ⟨rfl, by rw [hU]; exact hPc, va_K.moved hW.alike hK⟩⟩ rfl hn hsz hst (lv_room hro) hdg hf) kk
theorem bw_psi {Post : Int32 → Prop} (S : CallFix p m c cc nL s args Ts own) (hM : Met l y wsy rm (va_Pc As (fun U => va_P D cl wc U.heap ∧ va_K D cl tys U)) (vp_Si Post) 0 0 (fun _ => False)) (cw : CallB R s args own index y bytes maxL ret wsy rm 0 0 n ∧ (Cond.static y).before args s = true)
    (hK : va_K D cl tys s) (hP : va_P D cl ws H) (is : List Nat) (hC : is.map (fun i => bw_get ws i) = wc.map some) (hn : As.length = n) (hsz : ls.size = nL) (hst : st = As.reverse ++ rest) (hro : (rest.map fun v => v.category).sum ≤ 8) (hf : cells ≤ R.cells ∧ slots ≤ R.slots) (hdg : decode cc pc = .ok (.invokestatic index, 3))
    (kk : ∀ r : Int32, Post r → W p l e R s m args below meth c H locs cells slots Q (F0 m (pc + 3) ls (.int r :: rest))) : W p l e R s m args below meth c H locs cells slots Q (F0 m pc ls st) := by
  have hPc := bw_subP hP hC
  exact vp_callSi (W.runS S hM cw ⟨bw_blindP, fun U hU hW => ⟨rfl, by rw [hU]; exact hPc, va_K.moved hW.alike hK⟩⟩ rfl hn hsz hst (lv_room hro) hdg hf) kk
theorem bw_psl {Post : Int64 → Prop} (S : CallFix p m c cc nL s args Ts own) (hM : Met l y wsy rm (va_Pc As (fun U => va_P D cl wc U.heap ∧ va_K D cl tys U)) (vp_Sl Post) 0 0 (fun _ => False)) (cw : CallB R s args own index y bytes maxL ret wsy rm 0 0 n ∧ (Cond.static y).before args s = true)
    (hK : va_K D cl tys s) (hP : va_P D cl ws H) (is : List Nat) (hC : is.map (fun i => bw_get ws i) = wc.map some) (hn : As.length = n) (hsz : ls.size = nL) (hst : st = As.reverse ++ rest) (hro : (rest.map fun v => v.category).sum ≤ 8) (hf : cells ≤ R.cells ∧ slots ≤ R.slots) (hdg : decode cc pc = .ok (.invokestatic index, 3))
    (kk : ∀ r : Int64, Post r → W p l e R s m args below meth c H locs cells slots Q (F0 m (pc + 3) ls (.long r :: rest))) : W p l e R s m args below meth c H locs cells slots Q (F0 m pc ls st) := by
  have hPc := bw_subP hP hC
  exact vp_callSl (W.runS S hM cw ⟨bw_blindP, fun U hU hW => ⟨rfl, by rw [hU]; exact hPc, va_K.moved hW.alike hK⟩⟩ rfl hn hsz hst (lv_room hro) hdg hf) kk
theorem bw_in {A0 : Nat → Prop} {is : List Nat} {locs : List Loc} (hD : va_D A0 ws) (hS : va_S A0 H0 H locs) (hA : ∀ q, H0.size ≤ q → A0 q) (hC : is.map (fun i => bw_get ws i) = wc.map some) : ∀ q, va_A wc H.size q → A0 q := bw_free hD hS hA hC
theorem bw_wvi {S1 : Type} {Post : Int32 → S1 → Prop} {w1 : S1 → va_W} {A0 : Nat → Prop} (S : CallFix p m c cc nL s args Ts own) (hM : Met l y wsy rm (va_Pc (.ref b :: As) (fun U => U.heap.size = H.size ∧ va_P D cl wc U.heap ∧ va_K D cl tys U ∧ va_D (fun _ => True) wc)) (va_Qi Post (fun u t => va_P D cl (w1 u) t.heap) (va_A wc H.size)) 0 0 (va_A wc H.size)) (cw : CallW R s args own C index y bytes maxL ret wsy rm 0 0 n)
    (hK : va_K D cl tys s) (hP : va_P D cl ws H) (hD : va_D A0 ws) (hS : va_S A0 H0 H locs) (hA : ∀ q, H0.size ≤ q → A0 q) (is : List Nat) (hC : is.map (fun i => bw_get ws i) = wc.map some) (hnd : is.Nodup) (hw1 : ∀ u, (w1 u).map (·.1) = wc.map (·.1)) (hr0 : wc[0]? = some (b, .inr (ci, fs))) (hci : cl[ci]? = some q) (hq : q.1 = C) (hn : As.length = n) (hsz : ls.size = nL) (hst : st = As.reverse ++ .ref b :: rest) (hro : (rest.map fun v => v.category).sum ≤ 8) (hf : cells ≤ R.cells ∧ slots ≤ R.slots) (hdg : decode cc pc = .ok (.invokevirtual index, 3))
    (kk : ∀ (r : Int32) (u : S1) (H1 : Heap) (locs1 : List Loc), Post r u → va_P D cl (bw_put is (w1 u) ws 0) H1 → va_D A0 (bw_put is (w1 u) ws 0) → va_S A0 H0 H1 locs1 → W p l e R s m args below meth c H1 locs1 cells slots Q (F0 m (pc + 3) ls (.int r :: rest))) : W p l e R s m args below meth c H locs cells slots Q (F0 m pc ls st) := by
  have hPc := bw_subP hP hC
  have hDc := bw_subD hD hC hnd
  have hFc := bw_in hD hS hA hC
  subst hq
  exact va_calli (va_runV S hM cw ⟨bw_blindW, va_recv hK hPc hci hr0, fun U hU hW => ⟨rfl, by rw [hU], by rw [hU]; exact hPc, va_K.moved hW.alike hK, hDc⟩⟩ rfl hn hsz hst (lv_room hro) hdg hf) hS (fun q _ h => hFc q h) hFc (fun r u t H1 locs1 ht _ hw hB _ hk1 hS1 => by
    obtain ⟨j1, j2⟩ := bw_join hP hD is hC (hw1 u) hk1 (by rw [← ht]; exact hB)
    exact kk r u H1 locs1 hw j1 j2 hS1)
theorem bw_wvv {S1 : Type} {Post : S1 → Prop} {w1 : S1 → va_W} {A0 : Nat → Prop} (S : CallFix p m c cc nL s args Ts own) (hM : Met l y wsy rm (va_Pc (.ref b :: As) (fun U => U.heap.size = H.size ∧ va_P D cl wc U.heap ∧ va_K D cl tys U ∧ va_D (fun _ => True) wc)) (va_Qv Post (fun u t => va_P D cl (w1 u) t.heap) (va_A wc H.size)) 0 0 (va_A wc H.size)) (cw : CallW R s args own C index y bytes maxL ret wsy rm 0 0 n)
    (hK : va_K D cl tys s) (hP : va_P D cl ws H) (hD : va_D A0 ws) (hS : va_S A0 H0 H locs) (hA : ∀ q, H0.size ≤ q → A0 q) (is : List Nat) (hC : is.map (fun i => bw_get ws i) = wc.map some) (hnd : is.Nodup) (hw1 : ∀ u, (w1 u).map (·.1) = wc.map (·.1)) (hr0 : wc[0]? = some (b, .inr (ci, fs))) (hci : cl[ci]? = some q) (hq : q.1 = C) (hn : As.length = n) (hsz : ls.size = nL) (hst : st = As.reverse ++ .ref b :: rest) (hro : (rest.map fun v => v.category).sum ≤ 8) (hf : cells ≤ R.cells ∧ slots ≤ R.slots) (hdg : decode cc pc = .ok (.invokevirtual index, 3))
    (kk : ∀ (u : S1) (H1 : Heap) (locs1 : List Loc), Post u → va_P D cl (bw_put is (w1 u) ws 0) H1 → va_D A0 (bw_put is (w1 u) ws 0) → va_S A0 H0 H1 locs1 → W p l e R s m args below meth c H1 locs1 cells slots Q (F0 m (pc + 3) ls rest)) : W p l e R s m args below meth c H locs cells slots Q (F0 m pc ls st) := by
  have hPc := bw_subP hP hC
  have hDc := bw_subD hD hC hnd
  have hFc := bw_in hD hS hA hC
  subst hq
  exact va_callv (va_runV S hM cw ⟨bw_blindW, va_recv hK hPc hci hr0, fun U hU hW => ⟨rfl, by rw [hU], by rw [hU]; exact hPc, va_K.moved hW.alike hK, hDc⟩⟩ rfl hn hsz hst (lv_room hro) hdg hf) hS (fun q _ h => hFc q h) hFc (fun u t H1 locs1 ht _ hw hB _ hk1 hS1 => by
    obtain ⟨j1, j2⟩ := bw_join hP hD is hC (hw1 u) hk1 (by rw [← ht]; exact hB)
    exact kk u H1 locs1 hw j1 j2 hS1)
theorem bw_wvl {S1 : Type} {Post : Int64 → S1 → Prop} {w1 : S1 → va_W} {A0 : Nat → Prop} (S : CallFix p m c cc nL s args Ts own) (hM : Met l y wsy rm (va_Pc (.ref b :: As) (fun U => U.heap.size = H.size ∧ va_P D cl wc U.heap ∧ va_K D cl tys U ∧ va_D (fun _ => True) wc)) (va_Ql Post (fun u t => va_P D cl (w1 u) t.heap) (va_A wc H.size)) 0 0 (va_A wc H.size)) (cw : CallW R s args own C index y bytes maxL ret wsy rm 0 0 n)
    (hK : va_K D cl tys s) (hP : va_P D cl ws H) (hD : va_D A0 ws) (hS : va_S A0 H0 H locs) (hA : ∀ q, H0.size ≤ q → A0 q) (is : List Nat) (hC : is.map (fun i => bw_get ws i) = wc.map some) (hnd : is.Nodup) (hw1 : ∀ u, (w1 u).map (·.1) = wc.map (·.1)) (hr0 : wc[0]? = some (b, .inr (ci, fs))) (hci : cl[ci]? = some q) (hq : q.1 = C) (hn : As.length = n) (hsz : ls.size = nL) (hst : st = As.reverse ++ .ref b :: rest) (hro : (rest.map fun v => v.category).sum ≤ 8) (hf : cells ≤ R.cells ∧ slots ≤ R.slots) (hdg : decode cc pc = .ok (.invokevirtual index, 3))
    (kk : ∀ (r : Int64) (u : S1) (H1 : Heap) (locs1 : List Loc), Post r u → va_P D cl (bw_put is (w1 u) ws 0) H1 → va_D A0 (bw_put is (w1 u) ws 0) → va_S A0 H0 H1 locs1 → W p l e R s m args below meth c H1 locs1 cells slots Q (F0 m (pc + 3) ls (.long r :: rest))) : W p l e R s m args below meth c H locs cells slots Q (F0 m pc ls st) := by
  have hPc := bw_subP hP hC
  have hDc := bw_subD hD hC hnd
  have hFc := bw_in hD hS hA hC
  subst hq
  exact va_calll (va_runV S hM cw ⟨bw_blindW, va_recv hK hPc hci hr0, fun U hU hW => ⟨rfl, by rw [hU], by rw [hU]; exact hPc, va_K.moved hW.alike hK, hDc⟩⟩ rfl hn hsz hst (lv_room hro) hdg hf) hS (fun q _ h => hFc q h) hFc (fun r u t H1 locs1 ht _ hw hB _ hk1 hS1 => by
    obtain ⟨j1, j2⟩ := bw_join hP hD is hC (hw1 u) hk1 (by rw [← ht]; exact hB)
    exact kk r u H1 locs1 hw j1 j2 hS1)
theorem bw_wsv {S1 : Type} {Post : S1 → Prop} {w1 : S1 → va_W} {A0 : Nat → Prop} (S : CallFix p m c cc nL s args Ts own) (hM : Met l y wsy rm (va_Pc As (fun U => U.heap.size = H.size ∧ va_P D cl wc U.heap ∧ va_K D cl tys U ∧ va_D (fun _ => True) wc)) (va_Qv Post (fun u t => va_P D cl (w1 u) t.heap) (va_A wc H.size)) 0 0 (va_A wc H.size)) (cw : CallB R s args own index y bytes maxL ret wsy rm 0 0 n ∧ (Cond.static y).before args s = true)
    (hK : va_K D cl tys s) (hP : va_P D cl ws H) (hD : va_D A0 ws) (hS : va_S A0 H0 H locs) (hA : ∀ q, H0.size ≤ q → A0 q) (is : List Nat) (hC : is.map (fun i => bw_get ws i) = wc.map some) (hnd : is.Nodup) (hw1 : ∀ u, (w1 u).map (·.1) = wc.map (·.1)) (hn : As.length = n) (hsz : ls.size = nL) (hst : st = As.reverse ++ rest) (hro : (rest.map fun v => v.category).sum ≤ 8) (hf : cells ≤ R.cells ∧ slots ≤ R.slots) (hdg : decode cc pc = .ok (.invokestatic index, 3))
    (kk : ∀ (u : S1) (H1 : Heap) (locs1 : List Loc), Post u → va_P D cl (bw_put is (w1 u) ws 0) H1 → va_D A0 (bw_put is (w1 u) ws 0) → va_S A0 H0 H1 locs1 → W p l e R s m args below meth c H1 locs1 cells slots Q (F0 m (pc + 3) ls rest)) : W p l e R s m args below meth c H locs cells slots Q (F0 m pc ls st) := by
  have hPc := bw_subP hP hC
  have hDc := bw_subD hD hC hnd
  have hFc := bw_in hD hS hA hC
  exact va_callv (va_runS S hM cw ⟨bw_blindW, fun U hU hW => ⟨rfl, by rw [hU], by rw [hU]; exact hPc, va_K.moved hW.alike hK, hDc⟩⟩ rfl hn hsz hst (lv_room hro) hdg hf) hS (fun q _ h => hFc q h) hFc (fun u t H1 locs1 ht _ hw hB _ hk1 hS1 => by
    obtain ⟨j1, j2⟩ := bw_join hP hD is hC (hw1 u) hk1 (by rw [← ht]; exact hB)
    exact kk u H1 locs1 hw j1 j2 hS1)
theorem bw_blindS {av : List Value} {sz sc : Nat} {A A2 : Nat → Prop} : FrameBlind (va_Pc av (fun U => U.heap.size = sz ∧ va_P D cl wc U.heap ∧ va_K D cl tys U ∧ va_D A wc ∧ bw_SC sc A2 U U.heap)) := fun a U g mk q => ⟨q.1, q.2.1, q.2.2.1, va_K.moved (u := U) (U := U.calling g mk a) (Vm.Alike.refl U.vm) q.2.2.2.1, q.2.2.2.2.1, bw_SC.moved (u := U) (U := U.calling g mk a) (Vm.Alike.refl U.vm) q.2.2.2.2.2⟩
theorem bw_wviS {S1 : Type} {Post : Int32 → S1 → Prop} {w1 : S1 → va_W} {A0 : Nat → Prop} {sc : Nat} (hSC : bw_SC sc A0 s s.heap) (S : CallFix p m c cc nL s args Ts own) (hM : Met l y wsy rm (va_Pc (.ref b :: As) (fun U => U.heap.size = H.size ∧ va_P D cl wc U.heap ∧ va_K D cl tys U ∧ va_D (fun _ => True) wc ∧ bw_SC sc (va_A wc H.size) U U.heap)) (va_Qi Post (fun u t => va_P D cl (w1 u) t.heap) (va_A wc H.size)) 0 0 (va_A wc H.size)) (cw : CallW R s args own C index y bytes maxL ret wsy rm 0 0 n)
    (hK : va_K D cl tys s) (hP : va_P D cl ws H) (hD : va_D A0 ws) (hS : va_S A0 s.heap H locs) (hA : ∀ q, s.heap.size ≤ q → A0 q) (is : List Nat) (hC : is.map (fun i => bw_get ws i) = wc.map some) (hnd : is.Nodup) (hw1 : ∀ u, (w1 u).map (·.1) = wc.map (·.1)) (hr0 : wc[0]? = some (b, .inr (ci, fs))) (hci : cl[ci]? = some q) (hq : q.1 = C) (hn : As.length = n) (hsz : ls.size = nL) (hst : st = As.reverse ++ .ref b :: rest) (hro : (rest.map fun v => v.category).sum ≤ 8) (hf : cells ≤ R.cells ∧ slots ≤ R.slots) (hdg : decode cc pc = .ok (.invokevirtual index, 3))
    (kk : ∀ (r : Int32) (u : S1) (H1 : Heap) (locs1 : List Loc), Post r u → va_P D cl (bw_put is (w1 u) ws 0) H1 → va_D A0 (bw_put is (w1 u) ws 0) → va_S A0 s.heap H1 locs1 → W p l e R s m args below meth c H1 locs1 cells slots Q (F0 m (pc + 3) ls (.int r :: rest))) : W p l e R s m args below meth c H locs cells slots Q (F0 m pc ls st) := by
  have hPc := bw_subP hP hC
  have hDc := bw_subD hD hC hnd
  have hFc := bw_in hD hS hA hC
  subst hq
  exact va_calli (va_runV S hM cw ⟨bw_blindS, va_recv hK hPc hci hr0, fun U hU hW => ⟨rfl, by rw [hU], by rw [hU]; exact hPc, va_K.moved hW.alike hK, hDc, by rw [hU]; exact ((hSC.moved hW.alike).kept hS.2.1).narrow hFc⟩⟩ rfl hn hsz hst (lv_room hro) hdg hf) hS (fun q _ h => hFc q h) hFc (fun r u t H1 locs1 ht _ hw hB _ hk1 hS1 => by
    obtain ⟨j1, j2⟩ := bw_join hP hD is hC (hw1 u) hk1 (by rw [← ht]; exact hB)
    exact kk r u H1 locs1 hw j1 j2 hS1)
end BWK
