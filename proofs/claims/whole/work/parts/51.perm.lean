/-! worlds in another order -/
theorem bw_memP {D : va_G} {cl : List vw_C} {ws wc : va_W} {H : Heap} (h : va_P D cl ws H) (hs : ∀ q, q ∈ wc → q ∈ ws) : va_P D cl wc H := fun k q hq => by
  obtain ⟨i, hi⟩ := List.mem_iff_getElem?.mp (hs q (List.mem_of_getElem? hq))
  exact h i q hi
theorem bw_nodup {A : Nat → Prop} {ws : va_W} (h : va_D A ws) : (ws.map (·.1)).Nodup := by
  rw [List.Nodup, List.pairwise_iff_getElem]
  intro i j hi hj hij he
  rw [List.length_map] at hi hj
  rw [List.getElem_map, List.getElem_map] at he
  have := h.1 i j _ _ (List.getElem?_eq_getElem hi) (List.getElem?_eq_getElem hj) he
  omega
theorem bw_nodupD {A : Nat → Prop} {ws : va_W} (h : (ws.map (·.1)).Nodup) (hA : ∀ q, q ∈ ws → A q.1) : va_D A ws := by
  refine ⟨fun i j p q hi hj hpq => ?_, fun k q hq => hA q (List.mem_of_getElem? hq)⟩
  have e1 : (ws.map (·.1))[i]? = some p.1 := by rw [List.getElem?_map, hi]; rfl
  have e2 : (ws.map (·.1))[j]? = some p.1 := by rw [List.getElem?_map, hj, hpq]; rfl
  have hl : i < (ws.map (·.1)).length := (List.getElem?_eq_some_iff.mp e1).1
  exact (List.getElem?_inj hl h).mp (e1.trans e2.symm)
theorem bw_permDD {A : Nat → Prop} {ws wc : va_W} (h : va_D A ws) (hp : List.Perm ws wc) : va_D A wc := by
  refine bw_nodupD ((hp.map _).nodup_iff.mp (bw_nodup h)) (fun q hq => ?_)
  obtain ⟨i, hi⟩ := List.mem_iff_getElem?.mp (hp.mem_iff.mpr hq)
  exact h.2 i q hi
theorem bw_swapP {D : va_G} {cl : List vw_C} {c0 a : Nat × va_E} {T S : va_W} {H : Heap} (h : va_P D cl (c0 :: a :: (T ++ S)) H) : va_P D cl (c0 :: a :: (S ++ T)) H :=
  bw_memP h (fun q hq => by simp only [List.mem_cons, List.mem_append] at hq ⊢; rcases hq with h | h | h | h <;> simp [h])
theorem bw_swapD {A : Nat → Prop} {c0 a : Nat × va_E} {T S : va_W} (h : va_D A (c0 :: a :: (T ++ S))) : va_D A (c0 :: a :: (S ++ T)) :=
  bw_permDD h (List.Perm.cons _ (List.Perm.cons _ List.perm_append_comm))
theorem bw_perm7 {α : Type} {c0 a : α} {G S1 S2 S3 S4 S5 S6 : List α} : List.Perm (c0 :: a :: (S6 ++ (S5 ++ (S4 ++ (S3 ++ (S2 ++ (S1 ++ G))))))) (c0 :: (G ++ (a :: (S1 ++ (S2 ++ (S3 ++ (S4 ++ (S5 ++ S6)))))))) := by
  classical
  refine List.Perm.cons _ ((List.Perm.cons a ?_).trans List.perm_middle.symm)
  refine List.perm_iff_count.mpr (fun x => ?_)
  simp only [List.count_append]
  omega
theorem bw_permP {D : va_G} {cl : List vw_C} {c0 a : Nat × va_E} {G S1 S2 S3 S4 S5 S6 : va_W} {H : Heap} (h : va_P D cl (c0 :: a :: (S6 ++ (S5 ++ (S4 ++ (S3 ++ (S2 ++ (S1 ++ G))))))) H) : va_P D cl (c0 :: (G ++ (a :: (S1 ++ (S2 ++ (S3 ++ (S4 ++ (S5 ++ S6)))))))) H :=
  bw_memP h (fun _ hq => bw_perm7.mem_iff.mpr hq)
theorem bw_permD {A : Nat → Prop} {c0 a : Nat × va_E} {G S1 S2 S3 S4 S5 S6 : va_W} (h : va_D A (c0 :: a :: (S6 ++ (S5 ++ (S4 ++ (S3 ++ (S2 ++ (S1 ++ G)))))))) : va_D A (c0 :: (G ++ (a :: (S1 ++ (S2 ++ (S3 ++ (S4 ++ (S5 ++ S6)))))))) :=
  bw_permDD h bw_perm7
