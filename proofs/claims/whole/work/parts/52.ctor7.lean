set_option maxHeartbeats 8000000 in
set_option maxRecDepth 100000 in
theorem mX7_init (l : Launch) (dC : Nat → ClassId) (dI : Nat → Nat → Nat) (cI cJ cT cII cJJ : ClassId) (h : Nat) (sz : Nat) (Post : Int32 → Int32 → Int32 → Int32 → (Nat → Int32) → (Nat → Int32) → (Nat → Int32) → (Nat → Nat → Int32) → Int32 → (Nat → Int32) → (Nat → Int32) → Int32 → (Nat → Int32) → (Nat → Int32) → Int32 → (Nat → Int32) → (Nat → Int32) → Int32 → Int32 → Int32 → (Nat → Int32) → (Nat → Int32) → (Nat → Int32) → (Nat → Nat → Int32) → Int32 → (Nat → Int32) → (Nat → Int32) → Int32 → (Nat → Int32) → (Nat → Int32) → Int32 → (Nat → Int32) → (Nat → Int32) → Int32 → Int32 → Int32 → (Nat → Int32) → (Nat → Int32) → (Nat → Int32) → (Nat → Nat → Int32) → (Nat → Int32) → Int32 → Int32 → Int32 → Int32 → (Nat → Int32) → (Nat → Int32) → (Nat → Int32) → (Nat → Int32) → Int32 → Int32 → Int32 → (Nat → Int32) → (Nat → Int32) → (Nat → Nat → Int64) → Prop) (hw : wpX7_init Post) : Met l yX7_init wsX7_init ({ frames := 5, cells := 80, slots := 1255, locals := 105 } : Room) (va_Pc [.ref h] (fun U => U.heap.size = sz ∧ va_P (dC, dI) vwCl [(h, .inr (7, [.null, .null, .null, .null, .null, .null, .null, .int 0]))] U.heap ∧ va_K (dC, dI) vwCl (bw_tys cI cJ cT cII cJJ) U ∧ va_D (fun _ => True) [(h, .inr (7, [.null, .null, .null, .null, .null, .null, .null, .int 0]))] ∧ bw_X U)) (va_Qv (fun (u : (Nat → Nat) × Int32 × Int32 × Int32 × Int32 × (Nat → Int32) × (Nat → Int32) × (Nat → Int32) × (Nat → Nat → Int32) × Int32 × (Nat → Int32) × (Nat → Int32) × Int32 × (Nat → Int32) × (Nat → Int32) × Int32 × (Nat → Int32) × (Nat → Int32) × Int32 × Int32 × Int32 × (Nat → Int32) × (Nat → Int32) × (Nat → Int32) × (Nat → Nat → Int32) × Int32 × (Nat → Int32) × (Nat → Int32) × Int32 × (Nat → Int32) × (Nat → Int32) × Int32 × (Nat → Int32) × (Nat → Int32) × Int32 × Int32 × Int32 × (Nat → Int32) × (Nat → Int32) × (Nat → Int32) × (Nat → Nat → Int32) × (Nat → Int32) × Int32 × Int32 × Int32 × Int32 × (Nat → Int32) × (Nat → Int32) × (Nat → Int32) × (Nat → Int32) × Int32 × Int32 × Int32 × (Nat → Int32) × (Nat → Int32) × (Nat → Nat → Int64)) => u.1 0 = h ∧ Post u.2.1 u.2.2.1 u.2.2.2.1 u.2.2.2.2.1 u.2.2.2.2.2.1 u.2.2.2.2.2.2.1 u.2.2.2.2.2.2.2.1 u.2.2.2.2.2.2.2.2.1 u.2.2.2.2.2.2.2.2.2.1 u.2.2.2.2.2.2.2.2.2.2.1 u.2.2.2.2.2.2.2.2.2.2.2.1 u.2.2.2.2.2.2.2.2.2.2.2.2.1 u.2.2.2.2.2.2.2.2.2.2.2.2.2.1 u.2.2.2.2.2.2.2.2.2.2.2.2.2.2.1 u.2.2.2.2.2.2.2.2.2.2.2.2.2.2.2.1 u.2.2.2.2.2.2.2.2.2.2.2.2.2.2.2.2.1 u.2.2.2.2.2.2.2.2.2.2.2.2.2.2.2.2.2.1 u.2.2.2.2.2.2.2.2.2.2.2.2.2.2.2.2.2.2.1 u.2.2.2.2.2.2.2.2.2.2.2.2.2.2.2.2.2.2.2.1 u.2.2.2.2.2.2.2.2.2.2.2.2.2.2.2.2.2.2.2.2.1 u.2.2.2.2.2.2.2.2.2.2.2.2.2.2.2.2.2.2.2.2.2.1 u.2.2.2.2.2.2.2.2.2.2.2.2.2.2.2.2.2.2.2.2.2.2.1 u.2.2.2.2.2.2.2.2.2.2.2.2.2.2.2.2.2.2.2.2.2.2.2.1 u.2.2.2.2.2.2.2.2.2.2.2.2.2.2.2.2.2.2.2.2.2.2.2.2.1 u.2.2.2.2.2.2.2.2.2.2.2.2.2.2.2.2.2.2.2.2.2.2.2.2.2.1 u.2.2.2.2.2.2.2.2.2.2.2.2.2.2.2.2.2.2.2.2.2.2.2.2.2.2.1 u.2.2.2.2.2.2.2.2.2.2.2.2.2.2.2.2.2.2.2.2.2.2.2.2.2.2.2.1 u.2.2.2.2.2.2.2.2.2.2.2.2.2.2.2.2.2.2.2.2.2.2.2.2.2.2.2.2.1 u.2.2.2.2.2.2.2.2.2.2.2.2.2.2.2.2.2.2.2.2.2.2.2.2.2.2.2.2.2.1 u.2.2.2.2.2.2.2.2.2.2.2.2.2.2.2.2.2.2.2.2.2.2.2.2.2.2.2.2.2.2.1 u.2.2.2.2.2.2.2.2.2.2.2.2.2.2.2.2.2.2.2.2.2.2.2.2.2.2.2.2.2.2.2.1 u.2.2.2.2.2.2.2.2.2.2.2.2.2.2.2.2.2.2.2.2.2.2.2.2.2.2.2.2.2.2.2.2.1 u.2.2.2.2.2.2.2.2.2.2.2.2.2.2.2.2.2.2.2.2.2.2.2.2.2.2.2.2.2.2.2.2.2.1 u.2.2.2.2.2.2.2.2.2.2.2.2.2.2.2.2.2.2.2.2.2.2.2.2.2.2.2.2.2.2.2.2.2.2.1 u.2.2.2.2.2.2.2.2.2.2.2.2.2.2.2.2.2.2.2.2.2.2.2.2.2.2.2.2.2.2.2.2.2.2.2.1 u.2.2.2.2.2.2.2.2.2.2.2.2.2.2.2.2.2.2.2.2.2.2.2.2.2.2.2.2.2.2.2.2.2.2.2.2.1 u.2.2.2.2.2.2.2.2.2.2.2.2.2.2.2.2.2.2.2.2.2.2.2.2.2.2.2.2.2.2.2.2.2.2.2.2.2.1 u.2.2.2.2.2.2.2.2.2.2.2.2.2.2.2.2.2.2.2.2.2.2.2.2.2.2.2.2.2.2.2.2.2.2.2.2.2.2.1 u.2.2.2.2.2.2.2.2.2.2.2.2.2.2.2.2.2.2.2.2.2.2.2.2.2.2.2.2.2.2.2.2.2.2.2.2.2.2.2.1 u.2.2.2.2.2.2.2.2.2.2.2.2.2.2.2.2.2.2.2.2.2.2.2.2.2.2.2.2.2.2.2.2.2.2.2.2.2.2.2.2.1 u.2.2.2.2.2.2.2.2.2.2.2.2.2.2.2.2.2.2.2.2.2.2.2.2.2.2.2.2.2.2.2.2.2.2.2.2.2.2.2.2.2.1 u.2.2.2.2.2.2.2.2.2.2.2.2.2.2.2.2.2.2.2.2.2.2.2.2.2.2.2.2.2.2.2.2.2.2.2.2.2.2.2.2.2.2.1 u.2.2.2.2.2.2.2.2.2.2.2.2.2.2.2.2.2.2.2.2.2.2.2.2.2.2.2.2.2.2.2.2.2.2.2.2.2.2.2.2.2.2.2.1 u.2.2.2.2.2.2.2.2.2.2.2.2.2.2.2.2.2.2.2.2.2.2.2.2.2.2.2.2.2.2.2.2.2.2.2.2.2.2.2.2.2.2.2.2.1 u.2.2.2.2.2.2.2.2.2.2.2.2.2.2.2.2.2.2.2.2.2.2.2.2.2.2.2.2.2.2.2.2.2.2.2.2.2.2.2.2.2.2.2.2.2.1 u.2.2.2.2.2.2.2.2.2.2.2.2.2.2.2.2.2.2.2.2.2.2.2.2.2.2.2.2.2.2.2.2.2.2.2.2.2.2.2.2.2.2.2.2.2.2.1 u.2.2.2.2.2.2.2.2.2.2.2.2.2.2.2.2.2.2.2.2.2.2.2.2.2.2.2.2.2.2.2.2.2.2.2.2.2.2.2.2.2.2.2.2.2.2.2.1 u.2.2.2.2.2.2.2.2.2.2.2.2.2.2.2.2.2.2.2.2.2.2.2.2.2.2.2.2.2.2.2.2.2.2.2.2.2.2.2.2.2.2.2.2.2.2.2.2.1 u.2.2.2.2.2.2.2.2.2.2.2.2.2.2.2.2.2.2.2.2.2.2.2.2.2.2.2.2.2.2.2.2.2.2.2.2.2.2.2.2.2.2.2.2.2.2.2.2.2.1 u.2.2.2.2.2.2.2.2.2.2.2.2.2.2.2.2.2.2.2.2.2.2.2.2.2.2.2.2.2.2.2.2.2.2.2.2.2.2.2.2.2.2.2.2.2.2.2.2.2.2.1 u.2.2.2.2.2.2.2.2.2.2.2.2.2.2.2.2.2.2.2.2.2.2.2.2.2.2.2.2.2.2.2.2.2.2.2.2.2.2.2.2.2.2.2.2.2.2.2.2.2.2.2.1 u.2.2.2.2.2.2.2.2.2.2.2.2.2.2.2.2.2.2.2.2.2.2.2.2.2.2.2.2.2.2.2.2.2.2.2.2.2.2.2.2.2.2.2.2.2.2.2.2.2.2.2.2.1 u.2.2.2.2.2.2.2.2.2.2.2.2.2.2.2.2.2.2.2.2.2.2.2.2.2.2.2.2.2.2.2.2.2.2.2.2.2.2.2.2.2.2.2.2.2.2.2.2.2.2.2.2.2.1 u.2.2.2.2.2.2.2.2.2.2.2.2.2.2.2.2.2.2.2.2.2.2.2.2.2.2.2.2.2.2.2.2.2.2.2.2.2.2.2.2.2.2.2.2.2.2.2.2.2.2.2.2.2.2.1 u.2.2.2.2.2.2.2.2.2.2.2.2.2.2.2.2.2.2.2.2.2.2.2.2.2.2.2.2.2.2.2.2.2.2.2.2.2.2.2.2.2.2.2.2.2.2.2.2.2.2.2.2.2.2.2) (fun (u : (Nat → Nat) × Int32 × Int32 × Int32 × Int32 × (Nat → Int32) × (Nat → Int32) × (Nat → Int32) × (Nat → Nat → Int32) × Int32 × (Nat → Int32) × (Nat → Int32) × Int32 × (Nat → Int32) × (Nat → Int32) × Int32 × (Nat → Int32) × (Nat → Int32) × Int32 × Int32 × Int32 × (Nat → Int32) × (Nat → Int32) × (Nat → Int32) × (Nat → Nat → Int32) × Int32 × (Nat → Int32) × (Nat → Int32) × Int32 × (Nat → Int32) × (Nat → Int32) × Int32 × (Nat → Int32) × (Nat → Int32) × Int32 × Int32 × Int32 × (Nat → Int32) × (Nat → Int32) × (Nat → Int32) × (Nat → Nat → Int32) × (Nat → Int32) × Int32 × Int32 × Int32 × Int32 × (Nat → Int32) × (Nat → Int32) × (Nat → Int32) × (Nat → Int32) × Int32 × Int32 × Int32 × (Nat → Int32) × (Nat → Int32) × (Nat → Nat → Int64)) t => va_P (dC, dI) vwCl (wdF7 cI cJ cT cII cJJ u.1 u.2.1 u.2.2.1 u.2.2.2.1 u.2.2.2.2.1 u.2.2.2.2.2.1 u.2.2.2.2.2.2.1 u.2.2.2.2.2.2.2.1 u.2.2.2.2.2.2.2.2.1 u.2.2.2.2.2.2.2.2.2.1 u.2.2.2.2.2.2.2.2.2.2.1 u.2.2.2.2.2.2.2.2.2.2.2.1 u.2.2.2.2.2.2.2.2.2.2.2.2.1 u.2.2.2.2.2.2.2.2.2.2.2.2.2.1 u.2.2.2.2.2.2.2.2.2.2.2.2.2.2.1 u.2.2.2.2.2.2.2.2.2.2.2.2.2.2.2.1 u.2.2.2.2.2.2.2.2.2.2.2.2.2.2.2.2.1 u.2.2.2.2.2.2.2.2.2.2.2.2.2.2.2.2.2.1 u.2.2.2.2.2.2.2.2.2.2.2.2.2.2.2.2.2.2.1 u.2.2.2.2.2.2.2.2.2.2.2.2.2.2.2.2.2.2.2.1 u.2.2.2.2.2.2.2.2.2.2.2.2.2.2.2.2.2.2.2.2.1 u.2.2.2.2.2.2.2.2.2.2.2.2.2.2.2.2.2.2.2.2.2.1 u.2.2.2.2.2.2.2.2.2.2.2.2.2.2.2.2.2.2.2.2.2.2.1 u.2.2.2.2.2.2.2.2.2.2.2.2.2.2.2.2.2.2.2.2.2.2.2.1 u.2.2.2.2.2.2.2.2.2.2.2.2.2.2.2.2.2.2.2.2.2.2.2.2.1 u.2.2.2.2.2.2.2.2.2.2.2.2.2.2.2.2.2.2.2.2.2.2.2.2.2.1 u.2.2.2.2.2.2.2.2.2.2.2.2.2.2.2.2.2.2.2.2.2.2.2.2.2.2.1 u.2.2.2.2.2.2.2.2.2.2.2.2.2.2.2.2.2.2.2.2.2.2.2.2.2.2.2.1 u.2.2.2.2.2.2.2.2.2.2.2.2.2.2.2.2.2.2.2.2.2.2.2.2.2.2.2.2.1 u.2.2.2.2.2.2.2.2.2.2.2.2.2.2.2.2.2.2.2.2.2.2.2.2.2.2.2.2.2.1 u.2.2.2.2.2.2.2.2.2.2.2.2.2.2.2.2.2.2.2.2.2.2.2.2.2.2.2.2.2.2.1 u.2.2.2.2.2.2.2.2.2.2.2.2.2.2.2.2.2.2.2.2.2.2.2.2.2.2.2.2.2.2.2.1 u.2.2.2.2.2.2.2.2.2.2.2.2.2.2.2.2.2.2.2.2.2.2.2.2.2.2.2.2.2.2.2.2.1 u.2.2.2.2.2.2.2.2.2.2.2.2.2.2.2.2.2.2.2.2.2.2.2.2.2.2.2.2.2.2.2.2.2.1 u.2.2.2.2.2.2.2.2.2.2.2.2.2.2.2.2.2.2.2.2.2.2.2.2.2.2.2.2.2.2.2.2.2.2.1 u.2.2.2.2.2.2.2.2.2.2.2.2.2.2.2.2.2.2.2.2.2.2.2.2.2.2.2.2.2.2.2.2.2.2.2.1 u.2.2.2.2.2.2.2.2.2.2.2.2.2.2.2.2.2.2.2.2.2.2.2.2.2.2.2.2.2.2.2.2.2.2.2.2.1 u.2.2.2.2.2.2.2.2.2.2.2.2.2.2.2.2.2.2.2.2.2.2.2.2.2.2.2.2.2.2.2.2.2.2.2.2.2.1 u.2.2.2.2.2.2.2.2.2.2.2.2.2.2.2.2.2.2.2.2.2.2.2.2.2.2.2.2.2.2.2.2.2.2.2.2.2.2.1 u.2.2.2.2.2.2.2.2.2.2.2.2.2.2.2.2.2.2.2.2.2.2.2.2.2.2.2.2.2.2.2.2.2.2.2.2.2.2.2.1 u.2.2.2.2.2.2.2.2.2.2.2.2.2.2.2.2.2.2.2.2.2.2.2.2.2.2.2.2.2.2.2.2.2.2.2.2.2.2.2.2.1 u.2.2.2.2.2.2.2.2.2.2.2.2.2.2.2.2.2.2.2.2.2.2.2.2.2.2.2.2.2.2.2.2.2.2.2.2.2.2.2.2.2.1 u.2.2.2.2.2.2.2.2.2.2.2.2.2.2.2.2.2.2.2.2.2.2.2.2.2.2.2.2.2.2.2.2.2.2.2.2.2.2.2.2.2.2.1 u.2.2.2.2.2.2.2.2.2.2.2.2.2.2.2.2.2.2.2.2.2.2.2.2.2.2.2.2.2.2.2.2.2.2.2.2.2.2.2.2.2.2.2.1 u.2.2.2.2.2.2.2.2.2.2.2.2.2.2.2.2.2.2.2.2.2.2.2.2.2.2.2.2.2.2.2.2.2.2.2.2.2.2.2.2.2.2.2.2.1 u.2.2.2.2.2.2.2.2.2.2.2.2.2.2.2.2.2.2.2.2.2.2.2.2.2.2.2.2.2.2.2.2.2.2.2.2.2.2.2.2.2.2.2.2.2.1 u.2.2.2.2.2.2.2.2.2.2.2.2.2.2.2.2.2.2.2.2.2.2.2.2.2.2.2.2.2.2.2.2.2.2.2.2.2.2.2.2.2.2.2.2.2.2.1 u.2.2.2.2.2.2.2.2.2.2.2.2.2.2.2.2.2.2.2.2.2.2.2.2.2.2.2.2.2.2.2.2.2.2.2.2.2.2.2.2.2.2.2.2.2.2.2.1 u.2.2.2.2.2.2.2.2.2.2.2.2.2.2.2.2.2.2.2.2.2.2.2.2.2.2.2.2.2.2.2.2.2.2.2.2.2.2.2.2.2.2.2.2.2.2.2.2.1 u.2.2.2.2.2.2.2.2.2.2.2.2.2.2.2.2.2.2.2.2.2.2.2.2.2.2.2.2.2.2.2.2.2.2.2.2.2.2.2.2.2.2.2.2.2.2.2.2.2.1 u.2.2.2.2.2.2.2.2.2.2.2.2.2.2.2.2.2.2.2.2.2.2.2.2.2.2.2.2.2.2.2.2.2.2.2.2.2.2.2.2.2.2.2.2.2.2.2.2.2.2.1 u.2.2.2.2.2.2.2.2.2.2.2.2.2.2.2.2.2.2.2.2.2.2.2.2.2.2.2.2.2.2.2.2.2.2.2.2.2.2.2.2.2.2.2.2.2.2.2.2.2.2.2.1 u.2.2.2.2.2.2.2.2.2.2.2.2.2.2.2.2.2.2.2.2.2.2.2.2.2.2.2.2.2.2.2.2.2.2.2.2.2.2.2.2.2.2.2.2.2.2.2.2.2.2.2.2.1 u.2.2.2.2.2.2.2.2.2.2.2.2.2.2.2.2.2.2.2.2.2.2.2.2.2.2.2.2.2.2.2.2.2.2.2.2.2.2.2.2.2.2.2.2.2.2.2.2.2.2.2.2.2.1 u.2.2.2.2.2.2.2.2.2.2.2.2.2.2.2.2.2.2.2.2.2.2.2.2.2.2.2.2.2.2.2.2.2.2.2.2.2.2.2.2.2.2.2.2.2.2.2.2.2.2.2.2.2.2.1 u.2.2.2.2.2.2.2.2.2.2.2.2.2.2.2.2.2.2.2.2.2.2.2.2.2.2.2.2.2.2.2.2.2.2.2.2.2.2.2.2.2.2.2.2.2.2.2.2.2.2.2.2.2.2.2) t.heap ∧ va_D (va_A [(h, .inr (7, [.null, .null, .null, .null, .null, .null, .null, .int 0]))] sz) (wdF7 cI cJ cT cII cJJ u.1 u.2.1 u.2.2.1 u.2.2.2.1 u.2.2.2.2.1 u.2.2.2.2.2.1 u.2.2.2.2.2.2.1 u.2.2.2.2.2.2.2.1 u.2.2.2.2.2.2.2.2.1 u.2.2.2.2.2.2.2.2.2.1 u.2.2.2.2.2.2.2.2.2.2.1 u.2.2.2.2.2.2.2.2.2.2.2.1 u.2.2.2.2.2.2.2.2.2.2.2.2.1 u.2.2.2.2.2.2.2.2.2.2.2.2.2.1 u.2.2.2.2.2.2.2.2.2.2.2.2.2.2.1 u.2.2.2.2.2.2.2.2.2.2.2.2.2.2.2.1 u.2.2.2.2.2.2.2.2.2.2.2.2.2.2.2.2.1 u.2.2.2.2.2.2.2.2.2.2.2.2.2.2.2.2.2.1 u.2.2.2.2.2.2.2.2.2.2.2.2.2.2.2.2.2.2.1 u.2.2.2.2.2.2.2.2.2.2.2.2.2.2.2.2.2.2.2.1 u.2.2.2.2.2.2.2.2.2.2.2.2.2.2.2.2.2.2.2.2.1 u.2.2.2.2.2.2.2.2.2.2.2.2.2.2.2.2.2.2.2.2.2.1 u.2.2.2.2.2.2.2.2.2.2.2.2.2.2.2.2.2.2.2.2.2.2.1 u.2.2.2.2.2.2.2.2.2.2.2.2.2.2.2.2.2.2.2.2.2.2.2.1 u.2.2.2.2.2.2.2.2.2.2.2.2.2.2.2.2.2.2.2.2.2.2.2.2.1 u.2.2.2.2.2.2.2.2.2.2.2.2.2.2.2.2.2.2.2.2.2.2.2.2.2.1 u.2.2.2.2.2.2.2.2.2.2.2.2.2.2.2.2.2.2.2.2.2.2.2.2.2.2.1 u.2.2.2.2.2.2.2.2.2.2.2.2.2.2.2.2.2.2.2.2.2.2.2.2.2.2.2.1 u.2.2.2.2.2.2.2.2.2.2.2.2.2.2.2.2.2.2.2.2.2.2.2.2.2.2.2.2.1 u.2.2.2.2.2.2.2.2.2.2.2.2.2.2.2.2.2.2.2.2.2.2.2.2.2.2.2.2.2.1 u.2.2.2.2.2.2.2.2.2.2.2.2.2.2.2.2.2.2.2.2.2.2.2.2.2.2.2.2.2.2.1 u.2.2.2.2.2.2.2.2.2.2.2.2.2.2.2.2.2.2.2.2.2.2.2.2.2.2.2.2.2.2.2.1 u.2.2.2.2.2.2.2.2.2.2.2.2.2.2.2.2.2.2.2.2.2.2.2.2.2.2.2.2.2.2.2.2.1 u.2.2.2.2.2.2.2.2.2.2.2.2.2.2.2.2.2.2.2.2.2.2.2.2.2.2.2.2.2.2.2.2.2.1 u.2.2.2.2.2.2.2.2.2.2.2.2.2.2.2.2.2.2.2.2.2.2.2.2.2.2.2.2.2.2.2.2.2.2.1 u.2.2.2.2.2.2.2.2.2.2.2.2.2.2.2.2.2.2.2.2.2.2.2.2.2.2.2.2.2.2.2.2.2.2.2.1 u.2.2.2.2.2.2.2.2.2.2.2.2.2.2.2.2.2.2.2.2.2.2.2.2.2.2.2.2.2.2.2.2.2.2.2.2.1 u.2.2.2.2.2.2.2.2.2.2.2.2.2.2.2.2.2.2.2.2.2.2.2.2.2.2.2.2.2.2.2.2.2.2.2.2.2.1 u.2.2.2.2.2.2.2.2.2.2.2.2.2.2.2.2.2.2.2.2.2.2.2.2.2.2.2.2.2.2.2.2.2.2.2.2.2.2.1 u.2.2.2.2.2.2.2.2.2.2.2.2.2.2.2.2.2.2.2.2.2.2.2.2.2.2.2.2.2.2.2.2.2.2.2.2.2.2.2.1 u.2.2.2.2.2.2.2.2.2.2.2.2.2.2.2.2.2.2.2.2.2.2.2.2.2.2.2.2.2.2.2.2.2.2.2.2.2.2.2.2.1 u.2.2.2.2.2.2.2.2.2.2.2.2.2.2.2.2.2.2.2.2.2.2.2.2.2.2.2.2.2.2.2.2.2.2.2.2.2.2.2.2.2.1 u.2.2.2.2.2.2.2.2.2.2.2.2.2.2.2.2.2.2.2.2.2.2.2.2.2.2.2.2.2.2.2.2.2.2.2.2.2.2.2.2.2.2.1 u.2.2.2.2.2.2.2.2.2.2.2.2.2.2.2.2.2.2.2.2.2.2.2.2.2.2.2.2.2.2.2.2.2.2.2.2.2.2.2.2.2.2.2.1 u.2.2.2.2.2.2.2.2.2.2.2.2.2.2.2.2.2.2.2.2.2.2.2.2.2.2.2.2.2.2.2.2.2.2.2.2.2.2.2.2.2.2.2.2.1 u.2.2.2.2.2.2.2.2.2.2.2.2.2.2.2.2.2.2.2.2.2.2.2.2.2.2.2.2.2.2.2.2.2.2.2.2.2.2.2.2.2.2.2.2.2.1 u.2.2.2.2.2.2.2.2.2.2.2.2.2.2.2.2.2.2.2.2.2.2.2.2.2.2.2.2.2.2.2.2.2.2.2.2.2.2.2.2.2.2.2.2.2.2.1 u.2.2.2.2.2.2.2.2.2.2.2.2.2.2.2.2.2.2.2.2.2.2.2.2.2.2.2.2.2.2.2.2.2.2.2.2.2.2.2.2.2.2.2.2.2.2.2.1 u.2.2.2.2.2.2.2.2.2.2.2.2.2.2.2.2.2.2.2.2.2.2.2.2.2.2.2.2.2.2.2.2.2.2.2.2.2.2.2.2.2.2.2.2.2.2.2.2.1 u.2.2.2.2.2.2.2.2.2.2.2.2.2.2.2.2.2.2.2.2.2.2.2.2.2.2.2.2.2.2.2.2.2.2.2.2.2.2.2.2.2.2.2.2.2.2.2.2.2.1 u.2.2.2.2.2.2.2.2.2.2.2.2.2.2.2.2.2.2.2.2.2.2.2.2.2.2.2.2.2.2.2.2.2.2.2.2.2.2.2.2.2.2.2.2.2.2.2.2.2.2.1 u.2.2.2.2.2.2.2.2.2.2.2.2.2.2.2.2.2.2.2.2.2.2.2.2.2.2.2.2.2.2.2.2.2.2.2.2.2.2.2.2.2.2.2.2.2.2.2.2.2.2.2.1 u.2.2.2.2.2.2.2.2.2.2.2.2.2.2.2.2.2.2.2.2.2.2.2.2.2.2.2.2.2.2.2.2.2.2.2.2.2.2.2.2.2.2.2.2.2.2.2.2.2.2.2.2.1 u.2.2.2.2.2.2.2.2.2.2.2.2.2.2.2.2.2.2.2.2.2.2.2.2.2.2.2.2.2.2.2.2.2.2.2.2.2.2.2.2.2.2.2.2.2.2.2.2.2.2.2.2.2.1 u.2.2.2.2.2.2.2.2.2.2.2.2.2.2.2.2.2.2.2.2.2.2.2.2.2.2.2.2.2.2.2.2.2.2.2.2.2.2.2.2.2.2.2.2.2.2.2.2.2.2.2.2.2.2.1 u.2.2.2.2.2.2.2.2.2.2.2.2.2.2.2.2.2.2.2.2.2.2.2.2.2.2.2.2.2.2.2.2.2.2.2.2.2.2.2.2.2.2.2.2.2.2.2.2.2.2.2.2.2.2.2)) (va_A [(h, .inr (7, [.null, .null, .null, .null, .null, .null, .null, .int 0]))] sz)) 80 1255 (va_A [(h, .inr (7, [.null, .null, .null, .null, .null, .null, .null, .int 0]))] sz) := by
  refine Met.ofW (cc := cX7_init) (maxL := 2) (ret := none) (by decide) rfl ?_
  intro p e s m args below meth c s₁ B hml hv
  obtain ⟨rfl, hsz, hP, hK, hD0, hX⟩ := hv
  have hx := B.exec
  have hb := B.bytes
  have hr := B.returns
  have hts := atoms_spec (ws := wsX7_init) B.pre
  have hown : s.vm.findClass RX7 = some m.cls := findClass_of_methodNamed B.named
  have hlocks := B.notSynchronized
  have hin : meth.name = "<init>" := (name_of_methodNamed B.named B.method).1
  subst hsz
  have hD := hD0.self (sz := s.heap.size)
  generalize hAe : va_A [(h, .inr (7, [.null, .null, .null, .null, .null, .null, .null, .int 0]))] s.heap.size = A at hD ⊢
  have hA : ∀ q : Nat, s.heap.size ≤ q → A q := fun q h => by rw [← hAe]; exact Or.inr h
  have hS : va_S A s.heap s.heap [] := va_S.rf
  have hl := lv_entry ([.ref h]) (n := 2) (Nat.le_of_ble_eq_true rfl)
  rw [lg_entry_eq]
  generalize (lg_sl ([.ref h]) ++ List.replicate (2 - (lg_sl ([.ref h])).length) Slot.unset).toArray = ls at hl ⊢
  have hl : lv_has ls 2 [(0, .ref h)] := hl
  unfold wpX7_init at hw
  refine lv_aload_n hx hb dX7_init_0 rfl (lv_at hl 0 rfl) ?_
  refine W.objInit hx hb hown (hts (.methodLink RX7 3 objectInit) (List.mem_of_getElem? (i := 1) rfl)) (hts (.instanceMethod objectInit) (List.mem_of_getElem? (i := 2) rfl)) (hts (.code objectInit ⟨#[0xb1]⟩ 1 none) (List.mem_of_getElem? (i := 3) rfl)) rfl (by rw [hml]; exact hl.1) rfl dX7_init_1 (Nat.le_of_ble_eq_true rfl) (Nat.le_of_ble_eq_true rfl) ?_
  refine W.eq (g2 := F0 m 4 ls []) rfl ?_
  refine lv_aload_n hx hb dX7_init_4 rfl (lv_at hl 0 rfl) ?_
  refine va_new (ci := 1) (fs := [.null, .null, .null, .null]) (C := RX1) (T := TX1) (N := 4) hx hb hts (fun w h => List.mem_cons_of_mem _ (List.mem_append_left _ (List.mem_append_left _ (List.mem_append_left _ (List.mem_append_left _ (List.mem_append_left _ (List.mem_append_left _ (List.mem_append_left _ (List.mem_append_right _ h))))))))) tyX1 tyX1_ok hown (hts (.classLink RX7 9 RX1) (List.mem_of_getElem? (i := 4) rfl)) (hts (.instantiable RX1 4) (List.mem_of_getElem? (i := 5) rfl)) (hts (.initialized RX1) (List.mem_of_getElem? (i := 6) rfl)) hK hP hD hS hA rfl (fun j hj => by rcases (show j = 0 ∨ j = 1 ∨ j = 2 ∨ j = 3 by omega) with rfl | rfl | rfl | rfl <;> rfl) (Nat.le_of_ble_eq_true rfl) (Nat.le_of_ble_eq_true rfl) dX7_init_5 (fun q1 H hPn hDn hS => ?_)
  refine W.widen (k := 1) (n := 4) (Nat.le_of_ble_eq_true rfl) (Nat.le_of_ble_eq_true rfl) ?_
  clear hP hD
  have hP : va_P (dC, dI) vwCl [(h, .inr (7, [.null, .null, .null, .null, .null, .null, .null, .int 0])), (q1, .inr (1, [.null, .null, .null, .null]))] H := hPn
  have hD : va_D A [(h, .inr (7, [.null, .null, .null, .null, .null, .null, .null, .int 0])), (q1, .inr (1, [.null, .null, .null, .null]))] := hDn
  clear hPn hDn
  refine lv_dup hx hb dX7_init_8 rfl ?_
  refine bw_ctorN (X := [(h, .inr (7, [.null, .null, .null, .null, .null, .null, .null, .int 0]))]) (wc := [(q1, .inr (1, [.null, .null, .null, .null]))]) (w1 := (fun (u : (Nat → Nat) × Int32 × Int32 × Int32 × (Nat → Int32) × (Nat → Int32) × (Nat → Int32) × (Nat → Nat → Int32) × Int32 × (Nat → Int32) × (Nat → Int32) × Int32 × (Nat → Int32) × (Nat → Int32) × Int32 × (Nat → Int32) × (Nat → Int32)) => wdF1 cI cJ cT cII cJJ u.1 u.2.1 u.2.2.1 u.2.2.2.1 u.2.2.2.2.1 u.2.2.2.2.2.1 u.2.2.2.2.2.2.1 u.2.2.2.2.2.2.2.1 u.2.2.2.2.2.2.2.2.1 u.2.2.2.2.2.2.2.2.2.1 u.2.2.2.2.2.2.2.2.2.2.1 u.2.2.2.2.2.2.2.2.2.2.2.1 u.2.2.2.2.2.2.2.2.2.2.2.2.1 u.2.2.2.2.2.2.2.2.2.2.2.2.2.1 u.2.2.2.2.2.2.2.2.2.2.2.2.2.2.1 u.2.2.2.2.2.2.2.2.2.2.2.2.2.2.2.1 u.2.2.2.2.2.2.2.2.2.2.2.2.2.2.2.2)) (As := []) (rest := [.ref q1, .ref h]) (k2 := 23) (n2 := 176) ⟨hx, hb, hml, hown, hts⟩ (mX1_init l dC dI cI cJ cT cII cJJ q1 _ _ hw) ⟨va_cnB 0 hts gX7_init_X1_init_n11 rfl rfl rfl hX.2.2.2.1 (hts (.initialized RX1) (List.mem_of_getElem? (i := 6) rfl)) hdX1_init ⟨Nat.le_of_ble_eq_true rfl, Nat.le_of_ble_eq_true rfl⟩, rfl, (hts (.instanceMethod yX1_init) (List.mem_of_getElem? (i := 30) rfl))⟩ hX hK hP hD hS hA rfl hl.1 rfl (Nat.le_of_ble_eq_true rfl) ⟨Nat.le_of_ble_eq_true rfl, Nat.le_of_ble_eq_true rfl⟩ (Nat.le_of_ble_eq_true rfl) (Nat.le_of_ble_eq_true rfl) dX7_init_9 (fun u H35 locs hw hPn hDn hS => ?_)
  obtain ⟨ad2, y19, y20, y21, y22, y23, y24, y25, y26, y27, y28, y29, y30, y31, y32, y33, y34⟩ := u
  clear hP hD
  obtain ⟨hq, hw⟩ := hw
  try dsimp only at hq hw
  subst hq
  have hP : va_P (dC, dI) vwCl ((h, .inr (7, [.null, .null, .null, .null, .null, .null, .null, .int 0])) :: (wdF1 cI cJ cT cII cJJ ad2 y19 y20 y21 y22 y23 y24 y25 y26 y27 y28 y29 y30 y31 y32 y33 y34)) H35 := hPn
  have hD : va_D A ((h, .inr (7, [.null, .null, .null, .null, .null, .null, .null, .int 0])) :: (wdF1 cI cJ cT cII cJJ ad2 y19 y20 y21 y22 y23 y24 y25 y26 y27 y28 y29 y30 y31 y32 y33 y34)) := hDn
  clear hPn hDn
  obtain ⟨T1, eT1⟩ : ∃ T : va_W, T = (wdF1 cI cJ cT cII cJJ ad2 y19 y20 y21 y22 y23 y24 y25 y26 y27 y28 y29 y30 y31 y32 y33 y34) := ⟨_, rfl⟩
  rw [← eT1] at hP hD
  refine va_putF (D := (dC, dI)) (ci := 7) (v := .ref (ad2 0)) (ty := (.object "BidMarket$Holdings")) (C := RX7) (T := TX7) (N := 8) hx hb hts (fun w h => List.mem_cons_of_mem _ (List.mem_append_left _ (List.mem_append_left _ (List.mem_append_left _ (List.mem_append_left _ (List.mem_append_left _ (List.mem_append_left _ (List.mem_append_right _ h)))))))) tyX7 tyX7_ok nmX7 hown hK hP hD hS 0 rfl rfl 0 (by decide) (hts (.fieldLink RX7 12 "BidMarket" "held" "LBidMarket$Holdings;") (List.mem_of_getElem? (i := 7) rfl)) (fun _ h9 => h9) rfl hin rfl (by decide +kernel) rfl rfl (Nat.le_of_ble_eq_true rfl) dX7_init_12 (fun H locs hPn hDn hS => ?_)
  clear hP hD
  have hP : va_P (dC, dI) vwCl ((h, .inr (7, [.ref (ad2 0), .null, .null, .null, .null, .null, .null, .int 0])) :: T1) H := hPn
  have hD : va_D A ((h, .inr (7, [.ref (ad2 0), .null, .null, .null, .null, .null, .null, .int 0])) :: T1) := hDn
  clear hPn hDn
  refine lv_aload_n hx hb dX7_init_15 rfl (lv_at hl 0 rfl) ?_
  refine va_new (ci := 1) (fs := [.null, .null, .null, .null]) (C := RX1) (T := TX1) (N := 4) hx hb hts (fun w h => List.mem_cons_of_mem _ (List.mem_append_left _ (List.mem_append_left _ (List.mem_append_left _ (List.mem_append_left _ (List.mem_append_left _ (List.mem_append_left _ (List.mem_append_left _ (List.mem_append_right _ h))))))))) tyX1 tyX1_ok hown (hts (.classLink RX7 9 RX1) (List.mem_of_getElem? (i := 4) rfl)) (hts (.instantiable RX1 4) (List.mem_of_getElem? (i := 5) rfl)) (hts (.initialized RX1) (List.mem_of_getElem? (i := 6) rfl)) hK hP hD hS hA rfl (fun j hj => by rcases (show j = 0 ∨ j = 1 ∨ j = 2 ∨ j = 3 by omega) with rfl | rfl | rfl | rfl <;> rfl) (Nat.le_of_ble_eq_true rfl) (Nat.le_of_ble_eq_true rfl) dX7_init_16 (fun q36 H hPn hDn hS => ?_)
  refine W.widen (k := 24) (n := 180) (Nat.le_of_ble_eq_true rfl) (Nat.le_of_ble_eq_true rfl) ?_
  clear hP hD
  have hP : va_P (dC, dI) vwCl ((h, .inr (7, [.ref (ad2 0), .null, .null, .null, .null, .null, .null, .int 0])) :: (T1 ++ ([(q36, .inr (1, [.null, .null, .null, .null]))] : va_W))) H := hPn
  have hD : va_D A ((h, .inr (7, [.ref (ad2 0), .null, .null, .null, .null, .null, .null, .int 0])) :: (T1 ++ ([(q36, .inr (1, [.null, .null, .null, .null]))] : va_W))) := hDn
  clear hPn hDn
  refine lv_dup hx hb dX7_init_19 rfl ?_
  refine bw_ctorN (X := ((h, .inr (7, [.ref (ad2 0), .null, .null, .null, .null, .null, .null, .int 0])) :: T1)) (wc := [(q36, .inr (1, [.null, .null, .null, .null]))]) (w1 := (fun (u : (Nat → Nat) × Int32 × Int32 × Int32 × (Nat → Int32) × (Nat → Int32) × (Nat → Int32) × (Nat → Nat → Int32) × Int32 × (Nat → Int32) × (Nat → Int32) × Int32 × (Nat → Int32) × (Nat → Int32) × Int32 × (Nat → Int32) × (Nat → Int32)) => wdF1 cI cJ cT cII cJJ u.1 u.2.1 u.2.2.1 u.2.2.2.1 u.2.2.2.2.1 u.2.2.2.2.2.1 u.2.2.2.2.2.2.1 u.2.2.2.2.2.2.2.1 u.2.2.2.2.2.2.2.2.1 u.2.2.2.2.2.2.2.2.2.1 u.2.2.2.2.2.2.2.2.2.2.1 u.2.2.2.2.2.2.2.2.2.2.2.1 u.2.2.2.2.2.2.2.2.2.2.2.2.1 u.2.2.2.2.2.2.2.2.2.2.2.2.2.1 u.2.2.2.2.2.2.2.2.2.2.2.2.2.2.1 u.2.2.2.2.2.2.2.2.2.2.2.2.2.2.2.1 u.2.2.2.2.2.2.2.2.2.2.2.2.2.2.2.2)) (As := []) (rest := [.ref q36, .ref h]) (k2 := 46) (n2 := 352) ⟨hx, hb, hml, hown, hts⟩ (mX1_init l dC dI cI cJ cT cII cJJ q36 _ _ hw) ⟨va_cnB 0 hts gX7_init_X1_init_n11 rfl rfl rfl hX.2.2.2.1 (hts (.initialized RX1) (List.mem_of_getElem? (i := 6) rfl)) hdX1_init ⟨Nat.le_of_ble_eq_true rfl, Nat.le_of_ble_eq_true rfl⟩, rfl, (hts (.instanceMethod yX1_init) (List.mem_of_getElem? (i := 30) rfl))⟩ hX hK hP hD hS hA rfl hl.1 rfl (Nat.le_of_ble_eq_true rfl) ⟨Nat.le_of_ble_eq_true rfl, Nat.le_of_ble_eq_true rfl⟩ (Nat.le_of_ble_eq_true rfl) (Nat.le_of_ble_eq_true rfl) dX7_init_20 (fun u H70 locs hw hPn hDn hS => ?_)
  obtain ⟨ad37, y54, y55, y56, y57, y58, y59, y60, y61, y62, y63, y64, y65, y66, y67, y68, y69⟩ := u
  clear hP hD
  obtain ⟨hq, hw⟩ := hw
  try dsimp only at hq hw
  subst hq
  have hP : va_P (dC, dI) vwCl ((h, .inr (7, [.ref (ad2 0), .null, .null, .null, .null, .null, .null, .int 0])) :: (T1 ++ (wdF1 cI cJ cT cII cJJ ad37 y54 y55 y56 y57 y58 y59 y60 y61 y62 y63 y64 y65 y66 y67 y68 y69))) H70 := hPn
  have hD : va_D A ((h, .inr (7, [.ref (ad2 0), .null, .null, .null, .null, .null, .null, .int 0])) :: (T1 ++ (wdF1 cI cJ cT cII cJJ ad37 y54 y55 y56 y57 y58 y59 y60 y61 y62 y63 y64 y65 y66 y67 y68 y69))) := hDn
  clear hPn hDn
  obtain ⟨T2, eT2⟩ : ∃ T : va_W, T = T1 ++ (wdF1 cI cJ cT cII cJJ ad37 y54 y55 y56 y57 y58 y59 y60 y61 y62 y63 y64 y65 y66 y67 y68 y69) := ⟨_, rfl⟩
  rw [← eT2] at hP hD
  refine va_putF (D := (dC, dI)) (ci := 7) (v := .ref (ad37 0)) (ty := (.object "BidMarket$Holdings")) (C := RX7) (T := TX7) (N := 8) hx hb hts (fun w h => List.mem_cons_of_mem _ (List.mem_append_left _ (List.mem_append_left _ (List.mem_append_left _ (List.mem_append_left _ (List.mem_append_left _ (List.mem_append_left _ (List.mem_append_right _ h)))))))) tyX7 tyX7_ok nmX7 hown hK hP hD hS 0 rfl rfl 1 (by decide) (hts (.fieldLink RX7 18 "BidMarket" "kept" "LBidMarket$Holdings;") (List.mem_of_getElem? (i := 8) rfl)) (fun _ h9 => h9) rfl hin rfl (by decide +kernel) rfl rfl (Nat.le_of_ble_eq_true rfl) dX7_init_23 (fun H locs hPn hDn hS => ?_)
  clear hP hD
  have hP : va_P (dC, dI) vwCl ((h, .inr (7, [.ref (ad2 0), .ref (ad37 0), .null, .null, .null, .null, .null, .int 0])) :: T2) H := hPn
  have hD : va_D A ((h, .inr (7, [.ref (ad2 0), .ref (ad37 0), .null, .null, .null, .null, .null, .int 0])) :: T2) := hDn
  clear hPn hDn
  refine lv_aload_n hx hb dX7_init_26 rfl (lv_at hl 0 rfl) ?_
  refine va_new (ci := 2) (fs := [.null, .null, .null, .null, .int 0, .int 0, .int 0]) (C := RX2) (T := TX2) (N := 7) hx hb hts (fun w h => List.mem_cons_of_mem _ (List.mem_append_left _ (List.mem_append_left _ (List.mem_append_left _ (List.mem_append_left _ (List.mem_append_left _ (List.mem_append_right _ h))))))) tyX2 tyX2_ok hown (hts (.classLink RX7 21 RX2) (List.mem_of_getElem? (i := 9) rfl)) (hts (.instantiable RX2 7) (List.mem_of_getElem? (i := 10) rfl)) (hts (.initialized RX2) (List.mem_of_getElem? (i := 11) rfl)) hK hP hD hS hA rfl (fun j hj => by rcases (show j = 0 ∨ j = 1 ∨ j = 2 ∨ j = 3 ∨ j = 4 ∨ j = 5 ∨ j = 6 by omega) with rfl | rfl | rfl | rfl | rfl | rfl | rfl <;> rfl) (Nat.le_of_ble_eq_true rfl) (Nat.le_of_ble_eq_true rfl) dX7_init_27 (fun q71 H hPn hDn hS => ?_)
  refine W.widen (k := 47) (n := 359) (Nat.le_of_ble_eq_true rfl) (Nat.le_of_ble_eq_true rfl) ?_
  clear hP hD
  have hP : va_P (dC, dI) vwCl ((h, .inr (7, [.ref (ad2 0), .ref (ad37 0), .null, .null, .null, .null, .null, .int 0])) :: (T2 ++ ([(q71, .inr (2, [.null, .null, .null, .null, .int 0, .int 0, .int 0]))] : va_W))) H := hPn
  have hD : va_D A ((h, .inr (7, [.ref (ad2 0), .ref (ad37 0), .null, .null, .null, .null, .null, .int 0])) :: (T2 ++ ([(q71, .inr (2, [.null, .null, .null, .null, .int 0, .int 0, .int 0]))] : va_W))) := hDn
  clear hPn hDn
  refine lv_dup hx hb dX7_init_30 rfl ?_
  refine bw_ctor (X := ((h, .inr (7, [.ref (ad2 0), .ref (ad37 0), .null, .null, .null, .null, .null, .int 0])) :: T2)) (wc := [(q71, .inr (2, [.null, .null, .null, .null, .int 0, .int 0, .int 0]))]) (w1 := (fun (u : (Nat → Nat) × Int32 × Int32 × Int32 × (Nat → Int32) × (Nat → Int32) × (Nat → Int32) × (Nat → Nat → Int32)) => wdF2 cI cJ cT cII cJJ u.1 u.2.1 u.2.2.1 u.2.2.2.1 u.2.2.2.2.1 u.2.2.2.2.2.1 u.2.2.2.2.2.2.1 u.2.2.2.2.2.2.2)) (As := []) (rest := [.ref q71, .ref h]) (k2 := 59) (n2 := 455) ⟨hx, hb, hml, hown, hts⟩ (mX2_init l dC dI cI cJ cT cII cJJ q71 _ _ hw) (cwI 0 hts gX7_init_X2_init rfl rfl rfl (hts (.initialized RX2) (List.mem_of_getElem? (i := 11) rfl)) (hts (.methodLink RX7 23 yX2_init) (List.mem_of_getElem? (i := 73) rfl)) (hts (.instanceMethod yX2_init) (List.mem_of_getElem? (i := 42) rfl)) rfl hdX2_init ⟨Nat.le_of_ble_eq_true rfl, Nat.le_of_ble_eq_true rfl⟩) hX hK hP hD hS hA rfl hl.1 rfl (Nat.le_of_ble_eq_true rfl) ⟨Nat.le_of_ble_eq_true rfl, Nat.le_of_ble_eq_true rfl⟩ (Nat.le_of_ble_eq_true rfl) (Nat.le_of_ble_eq_true rfl) dX7_init_31 (fun u H87 locs hw hPn hDn hS => ?_)
  obtain ⟨ad72, y80, y81, y82, y83, y84, y85, y86⟩ := u
  clear hP hD
  obtain ⟨hq, hw⟩ := hw
  try dsimp only at hq hw
  subst hq
  have hP : va_P (dC, dI) vwCl ((h, .inr (7, [.ref (ad2 0), .ref (ad37 0), .null, .null, .null, .null, .null, .int 0])) :: (T2 ++ (wdF2 cI cJ cT cII cJJ ad72 y80 y81 y82 y83 y84 y85 y86))) H87 := hPn
  have hD : va_D A ((h, .inr (7, [.ref (ad2 0), .ref (ad37 0), .null, .null, .null, .null, .null, .int 0])) :: (T2 ++ (wdF2 cI cJ cT cII cJJ ad72 y80 y81 y82 y83 y84 y85 y86))) := hDn
  clear hPn hDn
  obtain ⟨T3, eT3⟩ : ∃ T : va_W, T = T2 ++ (wdF2 cI cJ cT cII cJJ ad72 y80 y81 y82 y83 y84 y85 y86) := ⟨_, rfl⟩
  rw [← eT3] at hP hD
  refine va_putF (D := (dC, dI)) (ci := 7) (v := .ref (ad72 0)) (ty := (.object "BidMarket$Market")) (C := RX7) (T := TX7) (N := 8) hx hb hts (fun w h => List.mem_cons_of_mem _ (List.mem_append_left _ (List.mem_append_left _ (List.mem_append_left _ (List.mem_append_left _ (List.mem_append_left _ (List.mem_append_left _ (List.mem_append_right _ h)))))))) tyX7 tyX7_ok nmX7 hown hK hP hD hS 0 rfl rfl 2 (by decide) (hts (.fieldLink RX7 24 "BidMarket" "trial" "LBidMarket$Market;") (List.mem_of_getElem? (i := 12) rfl)) (fun _ h9 => h9) rfl hin rfl (by decide +kernel) rfl rfl (Nat.le_of_ble_eq_true rfl) dX7_init_34 (fun H locs hPn hDn hS => ?_)
  clear hP hD
  have hP : va_P (dC, dI) vwCl ((h, .inr (7, [.ref (ad2 0), .ref (ad37 0), .ref (ad72 0), .null, .null, .null, .null, .int 0])) :: T3) H := hPn
  have hD : va_D A ((h, .inr (7, [.ref (ad2 0), .ref (ad37 0), .ref (ad72 0), .null, .null, .null, .null, .int 0])) :: T3) := hDn
  clear hPn hDn
  refine lv_aload_n hx hb dX7_init_37 rfl (lv_at hl 0 rfl) ?_
  refine va_new (ci := 3) (fs := [.null]) (C := RX3) (T := TX3) (N := 1) hx hb hts (fun w h => List.mem_cons_of_mem _ (List.mem_append_left _ (List.mem_append_left _ (List.mem_append_left _ (List.mem_append_left _ (List.mem_append_right _ h)))))) tyX3 tyX3_ok hown (hts (.classLink RX7 28 RX3) (List.mem_of_getElem? (i := 13) rfl)) (hts (.instantiable RX3 1) (List.mem_of_getElem? (i := 14) rfl)) (hts (.initialized RX3) (List.mem_of_getElem? (i := 15) rfl)) hK hP hD hS hA rfl (fun j hj => by rcases (show j = 0 by omega) with rfl <;> rfl) (Nat.le_of_ble_eq_true rfl) (Nat.le_of_ble_eq_true rfl) dX7_init_38 (fun q88 H hPn hDn hS => ?_)
  refine W.widen (k := 60) (n := 456) (Nat.le_of_ble_eq_true rfl) (Nat.le_of_ble_eq_true rfl) ?_
  clear hP hD
  have hP : va_P (dC, dI) vwCl ((h, .inr (7, [.ref (ad2 0), .ref (ad37 0), .ref (ad72 0), .null, .null, .null, .null, .int 0])) :: (T3 ++ ([(q88, .inr (3, [.null]))] : va_W))) H := hPn
  have hD : va_D A ((h, .inr (7, [.ref (ad2 0), .ref (ad37 0), .ref (ad72 0), .null, .null, .null, .null, .int 0])) :: (T3 ++ ([(q88, .inr (3, [.null]))] : va_W))) := hDn
  clear hPn hDn
  refine lv_dup hx hb dX7_init_41 rfl ?_
  refine bw_ctorN (X := ((h, .inr (7, [.ref (ad2 0), .ref (ad37 0), .ref (ad72 0), .null, .null, .null, .null, .int 0])) :: T3)) (wc := [(q88, .inr (3, [.null]))]) (w1 := (fun (u : (Nat → Nat) × (Nat → Int32)) => wdF3 cI cJ cT cII cJJ u.1 u.2)) (As := []) (rest := [.ref q88, .ref h]) (k2 := 61) (n2 := 712) ⟨hx, hb, hml, hown, hts⟩ (mX3_init l dC dI cI cJ cT cII cJJ q88 _ _ hw) ⟨va_cnB 0 hts gX7_init_X3_init_n30 rfl rfl rfl hX.2.2.2.2.1 (hts (.initialized RX3) (List.mem_of_getElem? (i := 15) rfl)) hdX3_init ⟨Nat.le_of_ble_eq_true rfl, Nat.le_of_ble_eq_true rfl⟩, rfl, (hts (.instanceMethod yX3_init) (List.mem_of_getElem? (i := 74) rfl))⟩ hX hK hP hD hS hA rfl hl.1 rfl (Nat.le_of_ble_eq_true rfl) ⟨Nat.le_of_ble_eq_true rfl, Nat.le_of_ble_eq_true rfl⟩ (Nat.le_of_ble_eq_true rfl) (Nat.le_of_ble_eq_true rfl) dX7_init_42 (fun u H92 locs hw hPn hDn hS => ?_)
  obtain ⟨ad89, y91⟩ := u
  clear hP hD
  obtain ⟨hq, hw⟩ := hw
  try dsimp only at hq hw
  subst hq
  have hP : va_P (dC, dI) vwCl ((h, .inr (7, [.ref (ad2 0), .ref (ad37 0), .ref (ad72 0), .null, .null, .null, .null, .int 0])) :: (T3 ++ (wdF3 cI cJ cT cII cJJ ad89 y91))) H92 := hPn
  have hD : va_D A ((h, .inr (7, [.ref (ad2 0), .ref (ad37 0), .ref (ad72 0), .null, .null, .null, .null, .int 0])) :: (T3 ++ (wdF3 cI cJ cT cII cJJ ad89 y91))) := hDn
  clear hPn hDn
  obtain ⟨T4, eT4⟩ : ∃ T : va_W, T = T3 ++ (wdF3 cI cJ cT cII cJJ ad89 y91) := ⟨_, rfl⟩
  rw [← eT4] at hP hD
  refine va_putF (D := (dC, dI)) (ci := 7) (v := .ref (ad89 0)) (ty := (.object "BidMarket$Optimum")) (C := RX7) (T := TX7) (N := 8) hx hb hts (fun w h => List.mem_cons_of_mem _ (List.mem_append_left _ (List.mem_append_left _ (List.mem_append_left _ (List.mem_append_left _ (List.mem_append_left _ (List.mem_append_left _ (List.mem_append_right _ h)))))))) tyX7 tyX7_ok nmX7 hown hK hP hD hS 0 rfl rfl 3 (by decide) (hts (.fieldLink RX7 31 "BidMarket" "optimum" "LBidMarket$Optimum;") (List.mem_of_getElem? (i := 16) rfl)) (fun _ h9 => h9) rfl hin rfl (by decide +kernel) rfl rfl (Nat.le_of_ble_eq_true rfl) dX7_init_45 (fun H locs hPn hDn hS => ?_)
  clear hP hD
  have hP : va_P (dC, dI) vwCl ((h, .inr (7, [.ref (ad2 0), .ref (ad37 0), .ref (ad72 0), .ref (ad89 0), .null, .null, .null, .int 0])) :: T4) H := hPn
  have hD : va_D A ((h, .inr (7, [.ref (ad2 0), .ref (ad37 0), .ref (ad72 0), .ref (ad89 0), .null, .null, .null, .int 0])) :: T4) := hDn
  clear hPn hDn
  refine lv_aload_n hx hb dX7_init_48 rfl (lv_at hl 0 rfl) ?_
  refine va_new (ci := 6) (fs := [.null, .int 0, .null, .null, .null, .int 0, .int 0, .int 0]) (C := RX6) (T := TX6) (N := 8) hx hb hts (fun w h => List.mem_cons_of_mem _ (List.mem_append_left _ (List.mem_append_left _ (List.mem_append_left _ (List.mem_append_right _ h))))) tyX6 tyX6_ok hown (hts (.classLink RX7 35 RX6) (List.mem_of_getElem? (i := 17) rfl)) (hts (.instantiable RX6 8) (List.mem_of_getElem? (i := 18) rfl)) (hts (.initialized RX6) (List.mem_of_getElem? (i := 19) rfl)) hK hP hD hS hA rfl (fun j hj => by rcases (show j = 0 ∨ j = 1 ∨ j = 2 ∨ j = 3 ∨ j = 4 ∨ j = 5 ∨ j = 6 ∨ j = 7 by omega) with rfl | rfl | rfl | rfl | rfl | rfl | rfl | rfl <;> rfl) (Nat.le_of_ble_eq_true rfl) (Nat.le_of_ble_eq_true rfl) dX7_init_49 (fun q93 H hPn hDn hS => ?_)
  refine W.widen (k := 62) (n := 720) (Nat.le_of_ble_eq_true rfl) (Nat.le_of_ble_eq_true rfl) ?_
  clear hP hD
  have hP : va_P (dC, dI) vwCl ((h, .inr (7, [.ref (ad2 0), .ref (ad37 0), .ref (ad72 0), .ref (ad89 0), .null, .null, .null, .int 0])) :: (T4 ++ ([(q93, .inr (6, [.null, .int 0, .null, .null, .null, .int 0, .int 0, .int 0]))] : va_W))) H := hPn
  have hD : va_D A ((h, .inr (7, [.ref (ad2 0), .ref (ad37 0), .ref (ad72 0), .ref (ad89 0), .null, .null, .null, .int 0])) :: (T4 ++ ([(q93, .inr (6, [.null, .int 0, .null, .null, .null, .int 0, .int 0, .int 0]))] : va_W))) := hDn
  clear hPn hDn
  refine lv_dup hx hb dX7_init_52 rfl ?_
  refine bw_ctorN (X := ((h, .inr (7, [.ref (ad2 0), .ref (ad37 0), .ref (ad72 0), .ref (ad89 0), .null, .null, .null, .int 0])) :: T4)) (wc := [(q93, .inr (6, [.null, .int 0, .null, .null, .null, .int 0, .int 0, .int 0]))]) (w1 := (fun (u : (Nat → Nat) × Int32 × Int32 × Int32 × Int32 × (Nat → Int32) × (Nat → Int32) × (Nat → Int32) × (Nat → Int32)) => wdF6 cI cJ cT cII cJJ u.1 u.2.1 u.2.2.1 u.2.2.2.1 u.2.2.2.2.1 u.2.2.2.2.2.1 u.2.2.2.2.2.2.1 u.2.2.2.2.2.2.2.1 u.2.2.2.2.2.2.2.2)) (As := []) (rest := [.ref q93, .ref h]) (k2 := 66) (n2 := 868) ⟨hx, hb, hml, hown, hts⟩ (mX6_init l dC dI cI cJ cT cII cJJ q93 _ _ hw) ⟨va_cnB 0 hts gX7_init_X6_init_n37 rfl rfl rfl hX.2.2.2.2.2.1 (hts (.initialized RX6) (List.mem_of_getElem? (i := 19) rfl)) hdX6_init ⟨Nat.le_of_ble_eq_true rfl, Nat.le_of_ble_eq_true rfl⟩, rfl, (hts (.instanceMethod yX6_init) (List.mem_of_getElem? (i := 78) rfl))⟩ hX hK hP hD hS hA rfl hl.1 rfl (Nat.le_of_ble_eq_true rfl) ⟨Nat.le_of_ble_eq_true rfl, Nat.le_of_ble_eq_true rfl⟩ (Nat.le_of_ble_eq_true rfl) (Nat.le_of_ble_eq_true rfl) dX7_init_53 (fun u H111 locs hw hPn hDn hS => ?_)
  obtain ⟨ad94, y103, y104, y105, y106, y107, y108, y109, y110⟩ := u
  clear hP hD
  obtain ⟨hq, hw⟩ := hw
  try dsimp only at hq hw
  subst hq
  have hP : va_P (dC, dI) vwCl ((h, .inr (7, [.ref (ad2 0), .ref (ad37 0), .ref (ad72 0), .ref (ad89 0), .null, .null, .null, .int 0])) :: (T4 ++ (wdF6 cI cJ cT cII cJJ ad94 y103 y104 y105 y106 y107 y108 y109 y110))) H111 := hPn
  have hD : va_D A ((h, .inr (7, [.ref (ad2 0), .ref (ad37 0), .ref (ad72 0), .ref (ad89 0), .null, .null, .null, .int 0])) :: (T4 ++ (wdF6 cI cJ cT cII cJJ ad94 y103 y104 y105 y106 y107 y108 y109 y110))) := hDn
  clear hPn hDn
  obtain ⟨T5, eT5⟩ : ∃ T : va_W, T = T4 ++ (wdF6 cI cJ cT cII cJJ ad94 y103 y104 y105 y106 y107 y108 y109 y110) := ⟨_, rfl⟩
  rw [← eT5] at hP hD
  refine va_putF (D := (dC, dI)) (ci := 7) (v := .ref (ad94 0)) (ty := (.object "BidMarket$Text")) (C := RX7) (T := TX7) (N := 8) hx hb hts (fun w h => List.mem_cons_of_mem _ (List.mem_append_left _ (List.mem_append_left _ (List.mem_append_left _ (List.mem_append_left _ (List.mem_append_left _ (List.mem_append_left _ (List.mem_append_right _ h)))))))) tyX7 tyX7_ok nmX7 hown hK hP hD hS 0 rfl rfl 4 (by decide) (hts (.fieldLink RX7 38 "BidMarket" "text" "LBidMarket$Text;") (List.mem_of_getElem? (i := 20) rfl)) (fun _ h9 => h9) rfl hin rfl (by decide +kernel) rfl rfl (Nat.le_of_ble_eq_true rfl) dX7_init_56 (fun H locs hPn hDn hS => ?_)
  clear hP hD
  have hP : va_P (dC, dI) vwCl ((h, .inr (7, [.ref (ad2 0), .ref (ad37 0), .ref (ad72 0), .ref (ad89 0), .ref (ad94 0), .null, .null, .int 0])) :: T5) H := hPn
  have hD : va_D A ((h, .inr (7, [.ref (ad2 0), .ref (ad37 0), .ref (ad72 0), .ref (ad89 0), .ref (ad94 0), .null, .null, .int 0])) :: T5) := hDn
  clear hPn hDn
  refine lv_aload_n hx hb dX7_init_59 rfl (lv_at hl 0 rfl) ?_
  refine va_new (ci := 0) (fs := [.int 0, .int 0, .int 0]) (C := RX0) (T := TX0) (N := 3) hx hb hts (fun w h => List.mem_cons_of_mem _ (List.mem_append_left _ (List.mem_append_left _ (List.mem_append_right _ h)))) tyX0 tyX0_ok hown (hts (.classLink RX7 42 RX0) (List.mem_of_getElem? (i := 21) rfl)) (hts (.instantiable RX0 3) (List.mem_of_getElem? (i := 22) rfl)) (hts (.initialized RX0) (List.mem_of_getElem? (i := 23) rfl)) hK hP hD hS hA rfl (fun j hj => by rcases (show j = 0 ∨ j = 1 ∨ j = 2 by omega) with rfl | rfl | rfl <;> rfl) (Nat.le_of_ble_eq_true rfl) (Nat.le_of_ble_eq_true rfl) dX7_init_60 (fun q112 H hPn hDn hS => ?_)
  refine W.widen (k := 67) (n := 871) (Nat.le_of_ble_eq_true rfl) (Nat.le_of_ble_eq_true rfl) ?_
  clear hP hD
  have hP : va_P (dC, dI) vwCl ((h, .inr (7, [.ref (ad2 0), .ref (ad37 0), .ref (ad72 0), .ref (ad89 0), .ref (ad94 0), .null, .null, .int 0])) :: (T5 ++ ([(q112, .inr (0, [.int 0, .int 0, .int 0]))] : va_W))) H := hPn
  have hD : va_D A ((h, .inr (7, [.ref (ad2 0), .ref (ad37 0), .ref (ad72 0), .ref (ad89 0), .ref (ad94 0), .null, .null, .int 0])) :: (T5 ++ ([(q112, .inr (0, [.int 0, .int 0, .int 0]))] : va_W))) := hDn
  clear hPn hDn
  refine lv_dup hx hb dX7_init_63 rfl ?_
  refine bw_ctorN (X := ((h, .inr (7, [.ref (ad2 0), .ref (ad37 0), .ref (ad72 0), .ref (ad89 0), .ref (ad94 0), .null, .null, .int 0])) :: T5)) (wc := [(q112, .inr (0, [.int 0, .int 0, .int 0]))]) (w1 := (fun (u : (Nat → Nat) × Int32 × Int32 × Int32) => wdF0 cI cJ cT cII cJJ u.1 u.2.1 u.2.2.1 u.2.2.2)) (As := []) (rest := [.ref q112, .ref h]) (k2 := 67) (n2 := 871) ⟨hx, hb, hml, hown, hts⟩ (mX0_init l dC dI cI cJ cT cII cJJ q112 _ _ hw) ⟨va_cnB 0 hts gX7_init_X0_init_n44 rfl rfl rfl hX.2.2.2.2.2.2.1 (hts (.initialized RX0) (List.mem_of_getElem? (i := 23) rfl)) hdX0_init ⟨Nat.le_of_ble_eq_true rfl, Nat.le_of_ble_eq_true rfl⟩, rfl, (hts (.instanceMethod yX0_init) (List.mem_of_getElem? (i := 89) rfl))⟩ hX hK hP hD hS hA rfl hl.1 rfl (Nat.le_of_ble_eq_true rfl) ⟨Nat.le_of_ble_eq_true rfl, Nat.le_of_ble_eq_true rfl⟩ (Nat.le_of_ble_eq_true rfl) (Nat.le_of_ble_eq_true rfl) dX7_init_64 (fun u H120 locs hw hPn hDn hS => ?_)
  obtain ⟨ad113, y117, y118, y119⟩ := u
  clear hP hD
  obtain ⟨hq, hw⟩ := hw
  try dsimp only at hq hw
  subst hq
  have hP : va_P (dC, dI) vwCl ((h, .inr (7, [.ref (ad2 0), .ref (ad37 0), .ref (ad72 0), .ref (ad89 0), .ref (ad94 0), .null, .null, .int 0])) :: (T5 ++ (wdF0 cI cJ cT cII cJJ ad113 y117 y118 y119))) H120 := hPn
  have hD : va_D A ((h, .inr (7, [.ref (ad2 0), .ref (ad37 0), .ref (ad72 0), .ref (ad89 0), .ref (ad94 0), .null, .null, .int 0])) :: (T5 ++ (wdF0 cI cJ cT cII cJJ ad113 y117 y118 y119))) := hDn
  clear hPn hDn
  obtain ⟨T6, eT6⟩ : ∃ T : va_W, T = T5 ++ (wdF0 cI cJ cT cII cJJ ad113 y117 y118 y119) := ⟨_, rfl⟩
  rw [← eT6] at hP hD
  refine va_putF (D := (dC, dI)) (ci := 7) (v := .ref (ad113 0)) (ty := (.object "BidMarket$Complaint")) (C := RX7) (T := TX7) (N := 8) hx hb hts (fun w h => List.mem_cons_of_mem _ (List.mem_append_left _ (List.mem_append_left _ (List.mem_append_left _ (List.mem_append_left _ (List.mem_append_left _ (List.mem_append_left _ (List.mem_append_right _ h)))))))) tyX7 tyX7_ok nmX7 hown hK hP hD hS 0 rfl rfl 5 (by decide) (hts (.fieldLink RX7 45 "BidMarket" "complaint" "LBidMarket$Complaint;") (List.mem_of_getElem? (i := 24) rfl)) (fun _ h9 => h9) rfl hin rfl (by decide +kernel) rfl rfl (Nat.le_of_ble_eq_true rfl) dX7_init_67 (fun H locs hPn hDn hS => ?_)
  clear hP hD
  have hP : va_P (dC, dI) vwCl ((h, .inr (7, [.ref (ad2 0), .ref (ad37 0), .ref (ad72 0), .ref (ad89 0), .ref (ad94 0), .ref (ad113 0), .null, .int 0])) :: T6) H := hPn
  have hD : va_D A ((h, .inr (7, [.ref (ad2 0), .ref (ad37 0), .ref (ad72 0), .ref (ad89 0), .ref (ad94 0), .ref (ad113 0), .null, .int 0])) :: T6) := hDn
  clear hPn hDn
  refine lv_aload_n hx hb dX7_init_70 rfl (lv_at hl 0 rfl) ?_
  refine lv_bipush (v := 6) hx hb dX7_init_71 (by decide) ?_
  refine va_newq (N' := 6) hx hb hown (hts (.classLink RX7 49 RX5) (List.mem_of_getElem? (i := 25) rfl)) hX.2.2.1 hK hP hD hS hA (by decide) rfl (Nat.le_of_ble_eq_true rfl) (Nat.le_of_ble_eq_true rfl) (Nat.le_of_ble_eq_true rfl) dX7_init_73 (fun q121 cA H hK2 hPn hDn hS => ?_)
  have ecA := (bw_last (t0 := 2) hK rfl hK2).symm
  subst ecA
  refine W.widen (k := 68) (n := 877) (Nat.le_of_ble_eq_true rfl) (Nat.le_of_ble_eq_true rfl) ?_
  have hPn := bw_frontP hPn
  have hDn := bw_frontD hDn
  clear hP hD
  have hP : va_P (dC, dI) vwCl ((h, .inr (7, [.ref (ad2 0), .ref (ad37 0), .ref (ad72 0), .ref (ad89 0), .ref (ad94 0), .ref (ad113 0), .null, .int 0])) :: ((q121, .inl (cT, 6, .inr (.inr (.inr (.inr (fun _ => none)))))) :: T6)) H := hPn
  have hD : va_D A ((h, .inr (7, [.ref (ad2 0), .ref (ad37 0), .ref (ad72 0), .ref (ad89 0), .ref (ad94 0), .ref (ad113 0), .null, .int 0])) :: ((q121, .inl (cT, 6, .inr (.inr (.inr (.inr (fun _ => none)))))) :: T6)) := hDn
  clear hPn hDn
  refine va_putF (D := (dC, dI)) (ci := 7) (v := .ref q121) (ty := (.array (.object "BidMarket$Tape"))) (C := RX7) (T := TX7) (N := 8) hx hb hts (fun w h => List.mem_cons_of_mem _ (List.mem_append_left _ (List.mem_append_left _ (List.mem_append_left _ (List.mem_append_left _ (List.mem_append_left _ (List.mem_append_left _ (List.mem_append_right _ h)))))))) tyX7 tyX7_ok nmX7 hown hK hP hD hS 0 rfl rfl 6 (by decide) (hts (.fieldLink RX7 51 "BidMarket" "tapes" "[LBidMarket$Tape;") (List.mem_of_getElem? (i := 26) rfl)) (fun _ h9 => h9) rfl hin rfl (by decide +kernel) rfl rfl (Nat.le_of_ble_eq_true rfl) dX7_init_76 (fun H locs hPn hDn hS => ?_)
  clear hP hD
  have hP : va_P (dC, dI) vwCl ((h, .inr (7, [.ref (ad2 0), .ref (ad37 0), .ref (ad72 0), .ref (ad89 0), .ref (ad94 0), .ref (ad113 0), .ref q121, .int 0])) :: ((q121, .inl (cT, 6, .inr (.inr (.inr (.inr (fun _ => none)))))) :: T6)) H := hPn
  have hD : va_D A ((h, .inr (7, [.ref (ad2 0), .ref (ad37 0), .ref (ad72 0), .ref (ad89 0), .ref (ad94 0), .ref (ad113 0), .ref q121, .int 0])) :: ((q121, .inl (cT, 6, .inr (.inr (.inr (.inr (fun _ => none)))))) :: T6)) := hDn
  clear hPn hDn
  refine lv_aload_n hx hb dX7_init_79 rfl (lv_at hl 0 rfl) ?_
  refine lv_iconst (v := 0) hx hb dX7_init_80 (by decide) ?_
  refine va_put (D := (dC, dI)) (ci := 7) (v := .int 0) (ty := .boolean) (C := RX7) (T := TX7) (N := 8) hx hb hts (fun w h => List.mem_cons_of_mem _ (List.mem_append_left _ (List.mem_append_left _ (List.mem_append_left _ (List.mem_append_left _ (List.mem_append_left _ (List.mem_append_left _ (List.mem_append_right _ h)))))))) tyX7 tyX7_ok nmX7 hown hK hP hD hS 0 rfl rfl 7 (by decide) (hts (.fieldLink RX7 55 "BidMarket" "imaged" "Z") (List.mem_of_getElem? (i := 27) rfl)) (fun _ h9 => h9) rfl (by decide +kernel) rfl rfl (Nat.le_of_ble_eq_true rfl) dX7_init_81 (fun H locs hPn hDn hS => ?_)
  clear hP hD
  have hP : va_P (dC, dI) vwCl ((h, .inr (7, [.ref (ad2 0), .ref (ad37 0), .ref (ad72 0), .ref (ad89 0), .ref (ad94 0), .ref (ad113 0), .ref q121, .int 0])) :: ((q121, .inl (cT, 6, .inr (.inr (.inr (.inr (fun _ => none)))))) :: T6)) H := hPn
  have hD : va_D A ((h, .inr (7, [.ref (ad2 0), .ref (ad37 0), .ref (ad72 0), .ref (ad89 0), .ref (ad94 0), .ref (ad113 0), .ref q121, .int 0])) :: ((q121, .inl (cT, 6, .inr (.inr (.inr (.inr (fun _ => none)))))) :: T6)) := hDn
  clear hPn hDn
  refine lv_iconst (v := 0) hx hb dX7_init_84 (by decide) ?_
  refine lv_istore_n (lv' := [(1, .int 0), (0, .ref h)]) hx hb dX7_init_85 rfl hl (by decide) rfl (fun ls hl => ?_)
  refine lv_iload_n hx hb dX7_init_86 rfl (lv_at hl 0 rfl) ?_
  refine lv_bipush (v := 6) hx hb dX7_init_87 (by decide) ?_
  refine lv_icmp_ge (tgt := 111) hx hb dX7_init_89 (by decide) (fun c1 => ?_) (fun c1 => ?_)
  · exact absurd c1 (by decide)
  refine lv_aload_n hx hb dX7_init_92 rfl (lv_at hl 1 rfl) ?_
  refine va_get (D := (dC, dI)) (ci := 7) (v := .ref q121) (C := RX7) (T := TX7) (N := 8) hx hb hts (fun w h => List.mem_cons_of_mem _ (List.mem_append_left _ (List.mem_append_left _ (List.mem_append_left _ (List.mem_append_left _ (List.mem_append_left _ (List.mem_append_left _ (List.mem_append_right _ h)))))))) hown hK hP 0 rfl rfl 6 (by decide) (hts (.fieldLink RX7 51 "BidMarket" "tapes" "[LBidMarket$Tape;") (List.mem_of_getElem? (i := 26) rfl)) (fun _ h9 => h9) rfl dX7_init_93 ?_
  refine lv_iload_n hx hb dX7_init_96 rfl (lv_at hl 0 rfl) ?_
  refine va_new (ci := 5) (fs := [.null, .int 0, .int 0]) (C := RX5) (T := TX5) (N := 3) hx hb hts (fun w h => List.mem_cons_of_mem _ (List.mem_append_left _ (List.mem_append_right _ h))) tyX5 tyX5_ok hown (hts (.classLink RX7 49 RX5) (List.mem_of_getElem? (i := 25) rfl)) (hts (.instantiable RX5 3) (List.mem_of_getElem? (i := 28) rfl)) (hts (.initialized RX5) (List.mem_of_getElem? (i := 29) rfl)) hK hP hD hS hA rfl (fun j hj => by rcases (show j = 0 ∨ j = 1 ∨ j = 2 by omega) with rfl | rfl | rfl <;> rfl) (Nat.le_of_ble_eq_true rfl) (Nat.le_of_ble_eq_true rfl) dX7_init_97 (fun q122 H hPn hDn hS => ?_)
  refine W.widen (k := 69) (n := 880) (Nat.le_of_ble_eq_true rfl) (Nat.le_of_ble_eq_true rfl) ?_
  clear hP hD
  have hP : va_P (dC, dI) vwCl ((h, .inr (7, [.ref (ad2 0), .ref (ad37 0), .ref (ad72 0), .ref (ad89 0), .ref (ad94 0), .ref (ad113 0), .ref q121, .int 0])) :: ((q121, .inl (cT, 6, .inr (.inr (.inr (.inr (fun _ => none)))))) :: (T6 ++ ([(q122, .inr (5, [.null, .int 0, .int 0]))] : va_W)))) H := hPn
  have hD : va_D A ((h, .inr (7, [.ref (ad2 0), .ref (ad37 0), .ref (ad72 0), .ref (ad89 0), .ref (ad94 0), .ref (ad113 0), .ref q121, .int 0])) :: ((q121, .inl (cT, 6, .inr (.inr (.inr (.inr (fun _ => none)))))) :: (T6 ++ ([(q122, .inr (5, [.null, .int 0, .int 0]))] : va_W)))) := hDn
  clear hPn hDn
  refine lv_dup hx hb dX7_init_100 rfl ?_
  refine bw_ctorN (X := ((h, .inr (7, [.ref (ad2 0), .ref (ad37 0), .ref (ad72 0), .ref (ad89 0), .ref (ad94 0), .ref (ad113 0), .ref q121, .int 0])) :: ((q121, .inl (cT, 6, .inr (.inr (.inr (.inr (fun _ => none)))))) :: T6))) (wc := [(q122, .inr (5, [.null, .int 0, .int 0]))]) (w1 := (fun (u : (Nat → Nat) × Int32 × Int32 × (Nat → Int64)) => wdF5 cI cJ cT cII cJJ u.1 u.2.1 u.2.2.1 u.2.2.2)) (As := []) (rest := [.ref q122, .int 0, .ref q121]) (k2 := 70) (n2 := 940) ⟨hx, hb, hml, hown, hts⟩ (mX5_init l dC dI cI cJ cT cII cJJ q122 _ _ hw) ⟨va_cnB 0 hts gX7_init_X5_init_n59 rfl rfl rfl hX.2.2.2.2.2.2.2 (hts (.initialized RX5) (List.mem_of_getElem? (i := 29) rfl)) hdX5_init ⟨Nat.le_of_ble_eq_true rfl, Nat.le_of_ble_eq_true rfl⟩, rfl, (hts (.instanceMethod yX5_init) (List.mem_of_getElem? (i := 95) rfl))⟩ hX hK hP hD hS hA rfl hl.1 rfl (Nat.le_of_ble_eq_true rfl) ⟨Nat.le_of_ble_eq_true rfl, Nat.le_of_ble_eq_true rfl⟩ (Nat.le_of_ble_eq_true rfl) (Nat.le_of_ble_eq_true rfl) dX7_init_101 (fun u H130 locs hw hPn hDn hS => ?_)
  obtain ⟨ad123, y127, y128, y129⟩ := u
  clear hP hD
  obtain ⟨hq, hw⟩ := hw
  try dsimp only at hq hw
  subst hq
  have hP : va_P (dC, dI) vwCl ((h, .inr (7, [.ref (ad2 0), .ref (ad37 0), .ref (ad72 0), .ref (ad89 0), .ref (ad94 0), .ref (ad113 0), .ref q121, .int 0])) :: ((q121, .inl (cT, 6, .inr (.inr (.inr (.inr (fun _ => none)))))) :: (T6 ++ (wdF5 cI cJ cT cII cJJ ad123 y127 y128 y129)))) H130 := hPn
  have hD : va_D A ((h, .inr (7, [.ref (ad2 0), .ref (ad37 0), .ref (ad72 0), .ref (ad89 0), .ref (ad94 0), .ref (ad113 0), .ref q121, .int 0])) :: ((q121, .inl (cT, 6, .inr (.inr (.inr (.inr (fun _ => none)))))) :: (T6 ++ (wdF5 cI cJ cT cII cJJ ad123 y127 y128 y129)))) := hDn
  clear hPn hDn
  have hP := bw_swapP hP
  have hD := bw_swapD hD
  refine va_astq hx hb hK hP hD hS 1 2 2 5 (r := (RX5, TX5, 3)) rfl rfl rfl rfl (i := 0) (bw_vin (by decide) (by decide)) dX7_init_104 (fun H locs hPn hDn hS => ?_)
  clear hP hD
  have hP : va_P (dC, dI) vwCl ((h, .inr (7, [.ref (ad2 0), .ref (ad37 0), .ref (ad72 0), .ref (ad89 0), .ref (ad94 0), .ref (ad113 0), .ref q121, .int 0])) :: ((q121, .inl (cT, 6, .inr (.inr (.inr (.inr (va_up (fun _ => none) 0 (some (ad123 0)))))))) :: ((wdF5 cI cJ cT cII cJJ ad123 y127 y128 y129) ++ T6))) H := hPn
  have hD : va_D A ((h, .inr (7, [.ref (ad2 0), .ref (ad37 0), .ref (ad72 0), .ref (ad89 0), .ref (ad94 0), .ref (ad113 0), .ref q121, .int 0])) :: ((q121, .inl (cT, 6, .inr (.inr (.inr (.inr (va_up (fun _ => none) 0 (some (ad123 0)))))))) :: ((wdF5 cI cJ cT cII cJJ ad123 y127 y128 y129) ++ T6))) := hDn
  clear hPn hDn
  obtain ⟨T7, eT7⟩ : ∃ T : va_W, T = (wdF5 cI cJ cT cII cJJ ad123 y127 y128 y129) ++ T6 := ⟨_, rfl⟩
  rw [← eT7] at hP hD
  refine lv_iinc (v := 1) (lv' := [(1, .int 1), (0, .ref h)]) hx hb dX7_init_105 hl (k := 0) rfl (by decide) (by decide) rfl (fun ls hl => ?_)
  refine lv_goto (tgt := 86) hx hb dX7_init_108 (by decide) ?_
  refine lv_iload_n hx hb dX7_init_86 rfl (lv_at hl 0 rfl) ?_
  refine lv_bipush (v := 6) hx hb dX7_init_87 (by decide) ?_
  refine lv_icmp_ge (tgt := 111) hx hb dX7_init_89 (by decide) (fun c1 => ?_) (fun c1 => ?_)
  · exact absurd c1 (by decide)
  refine lv_aload_n hx hb dX7_init_92 rfl (lv_at hl 1 rfl) ?_
  refine va_get (D := (dC, dI)) (ci := 7) (v := .ref q121) (C := RX7) (T := TX7) (N := 8) hx hb hts (fun w h => List.mem_cons_of_mem _ (List.mem_append_left _ (List.mem_append_left _ (List.mem_append_left _ (List.mem_append_left _ (List.mem_append_left _ (List.mem_append_left _ (List.mem_append_right _ h)))))))) hown hK hP 0 rfl rfl 6 (by decide) (hts (.fieldLink RX7 51 "BidMarket" "tapes" "[LBidMarket$Tape;") (List.mem_of_getElem? (i := 26) rfl)) (fun _ h9 => h9) rfl dX7_init_93 ?_
  refine lv_iload_n hx hb dX7_init_96 rfl (lv_at hl 0 rfl) ?_
  refine va_new (ci := 5) (fs := [.null, .int 0, .int 0]) (C := RX5) (T := TX5) (N := 3) hx hb hts (fun w h => List.mem_cons_of_mem _ (List.mem_append_left _ (List.mem_append_right _ h))) tyX5 tyX5_ok hown (hts (.classLink RX7 49 RX5) (List.mem_of_getElem? (i := 25) rfl)) (hts (.instantiable RX5 3) (List.mem_of_getElem? (i := 28) rfl)) (hts (.initialized RX5) (List.mem_of_getElem? (i := 29) rfl)) hK hP hD hS hA rfl (fun j hj => by rcases (show j = 0 ∨ j = 1 ∨ j = 2 by omega) with rfl | rfl | rfl <;> rfl) (Nat.le_of_ble_eq_true rfl) (Nat.le_of_ble_eq_true rfl) dX7_init_97 (fun q131 H hPn hDn hS => ?_)
  refine W.widen (k := 71) (n := 943) (Nat.le_of_ble_eq_true rfl) (Nat.le_of_ble_eq_true rfl) ?_
  clear hP hD
  have hP : va_P (dC, dI) vwCl ((h, .inr (7, [.ref (ad2 0), .ref (ad37 0), .ref (ad72 0), .ref (ad89 0), .ref (ad94 0), .ref (ad113 0), .ref q121, .int 0])) :: ((q121, .inl (cT, 6, .inr (.inr (.inr (.inr (va_up (fun _ => none) 0 (some (ad123 0)))))))) :: (T7 ++ ([(q131, .inr (5, [.null, .int 0, .int 0]))] : va_W)))) H := hPn
  have hD : va_D A ((h, .inr (7, [.ref (ad2 0), .ref (ad37 0), .ref (ad72 0), .ref (ad89 0), .ref (ad94 0), .ref (ad113 0), .ref q121, .int 0])) :: ((q121, .inl (cT, 6, .inr (.inr (.inr (.inr (va_up (fun _ => none) 0 (some (ad123 0)))))))) :: (T7 ++ ([(q131, .inr (5, [.null, .int 0, .int 0]))] : va_W)))) := hDn
  clear hPn hDn
  refine lv_dup hx hb dX7_init_100 rfl ?_
  refine bw_ctorN (X := ((h, .inr (7, [.ref (ad2 0), .ref (ad37 0), .ref (ad72 0), .ref (ad89 0), .ref (ad94 0), .ref (ad113 0), .ref q121, .int 0])) :: ((q121, .inl (cT, 6, .inr (.inr (.inr (.inr (va_up (fun _ => none) 0 (some (ad123 0)))))))) :: T7))) (wc := [(q131, .inr (5, [.null, .int 0, .int 0]))]) (w1 := (fun (u : (Nat → Nat) × Int32 × Int32 × (Nat → Int64)) => wdF5 cI cJ cT cII cJJ u.1 u.2.1 u.2.2.1 u.2.2.2)) (As := []) (rest := [.ref q131, .int 1, .ref q121]) (k2 := 72) (n2 := 1003) ⟨hx, hb, hml, hown, hts⟩ (mX5_init l dC dI cI cJ cT cII cJJ q131 _ _ hw) ⟨va_cnB 0 hts gX7_init_X5_init_n59 rfl rfl rfl hX.2.2.2.2.2.2.2 (hts (.initialized RX5) (List.mem_of_getElem? (i := 29) rfl)) hdX5_init ⟨Nat.le_of_ble_eq_true rfl, Nat.le_of_ble_eq_true rfl⟩, rfl, (hts (.instanceMethod yX5_init) (List.mem_of_getElem? (i := 95) rfl))⟩ hX hK hP hD hS hA rfl hl.1 rfl (Nat.le_of_ble_eq_true rfl) ⟨Nat.le_of_ble_eq_true rfl, Nat.le_of_ble_eq_true rfl⟩ (Nat.le_of_ble_eq_true rfl) (Nat.le_of_ble_eq_true rfl) dX7_init_101 (fun u H139 locs hw hPn hDn hS => ?_)
  obtain ⟨ad132, y136, y137, y138⟩ := u
  clear hP hD
  obtain ⟨hq, hw⟩ := hw
  try dsimp only at hq hw
  subst hq
  have hP : va_P (dC, dI) vwCl ((h, .inr (7, [.ref (ad2 0), .ref (ad37 0), .ref (ad72 0), .ref (ad89 0), .ref (ad94 0), .ref (ad113 0), .ref q121, .int 0])) :: ((q121, .inl (cT, 6, .inr (.inr (.inr (.inr (va_up (fun _ => none) 0 (some (ad123 0)))))))) :: (T7 ++ (wdF5 cI cJ cT cII cJJ ad132 y136 y137 y138)))) H139 := hPn
  have hD : va_D A ((h, .inr (7, [.ref (ad2 0), .ref (ad37 0), .ref (ad72 0), .ref (ad89 0), .ref (ad94 0), .ref (ad113 0), .ref q121, .int 0])) :: ((q121, .inl (cT, 6, .inr (.inr (.inr (.inr (va_up (fun _ => none) 0 (some (ad123 0)))))))) :: (T7 ++ (wdF5 cI cJ cT cII cJJ ad132 y136 y137 y138)))) := hDn
  clear hPn hDn
  have hP := bw_swapP hP
  have hD := bw_swapD hD
  refine va_astq hx hb hK hP hD hS 1 2 2 5 (r := (RX5, TX5, 3)) rfl rfl rfl rfl (i := 1) (bw_vin (by decide) (by decide)) dX7_init_104 (fun H locs hPn hDn hS => ?_)
  clear hP hD
  have hP : va_P (dC, dI) vwCl ((h, .inr (7, [.ref (ad2 0), .ref (ad37 0), .ref (ad72 0), .ref (ad89 0), .ref (ad94 0), .ref (ad113 0), .ref q121, .int 0])) :: ((q121, .inl (cT, 6, .inr (.inr (.inr (.inr (va_up (va_up (fun _ => none) 0 (some (ad123 0))) 1 (some (ad132 0)))))))) :: ((wdF5 cI cJ cT cII cJJ ad132 y136 y137 y138) ++ T7))) H := hPn
  have hD : va_D A ((h, .inr (7, [.ref (ad2 0), .ref (ad37 0), .ref (ad72 0), .ref (ad89 0), .ref (ad94 0), .ref (ad113 0), .ref q121, .int 0])) :: ((q121, .inl (cT, 6, .inr (.inr (.inr (.inr (va_up (va_up (fun _ => none) 0 (some (ad123 0))) 1 (some (ad132 0)))))))) :: ((wdF5 cI cJ cT cII cJJ ad132 y136 y137 y138) ++ T7))) := hDn
  clear hPn hDn
  obtain ⟨T8, eT8⟩ : ∃ T : va_W, T = (wdF5 cI cJ cT cII cJJ ad132 y136 y137 y138) ++ T7 := ⟨_, rfl⟩
  rw [← eT8] at hP hD
  refine lv_iinc (v := 2) (lv' := [(1, .int 2), (0, .ref h)]) hx hb dX7_init_105 hl (k := 0) rfl (by decide) (by decide) rfl (fun ls hl => ?_)
  refine lv_goto (tgt := 86) hx hb dX7_init_108 (by decide) ?_
  refine lv_iload_n hx hb dX7_init_86 rfl (lv_at hl 0 rfl) ?_
  refine lv_bipush (v := 6) hx hb dX7_init_87 (by decide) ?_
  refine lv_icmp_ge (tgt := 111) hx hb dX7_init_89 (by decide) (fun c1 => ?_) (fun c1 => ?_)
  · exact absurd c1 (by decide)
  refine lv_aload_n hx hb dX7_init_92 rfl (lv_at hl 1 rfl) ?_
  refine va_get (D := (dC, dI)) (ci := 7) (v := .ref q121) (C := RX7) (T := TX7) (N := 8) hx hb hts (fun w h => List.mem_cons_of_mem _ (List.mem_append_left _ (List.mem_append_left _ (List.mem_append_left _ (List.mem_append_left _ (List.mem_append_left _ (List.mem_append_left _ (List.mem_append_right _ h)))))))) hown hK hP 0 rfl rfl 6 (by decide) (hts (.fieldLink RX7 51 "BidMarket" "tapes" "[LBidMarket$Tape;") (List.mem_of_getElem? (i := 26) rfl)) (fun _ h9 => h9) rfl dX7_init_93 ?_
  refine lv_iload_n hx hb dX7_init_96 rfl (lv_at hl 0 rfl) ?_
  refine va_new (ci := 5) (fs := [.null, .int 0, .int 0]) (C := RX5) (T := TX5) (N := 3) hx hb hts (fun w h => List.mem_cons_of_mem _ (List.mem_append_left _ (List.mem_append_right _ h))) tyX5 tyX5_ok hown (hts (.classLink RX7 49 RX5) (List.mem_of_getElem? (i := 25) rfl)) (hts (.instantiable RX5 3) (List.mem_of_getElem? (i := 28) rfl)) (hts (.initialized RX5) (List.mem_of_getElem? (i := 29) rfl)) hK hP hD hS hA rfl (fun j hj => by rcases (show j = 0 ∨ j = 1 ∨ j = 2 by omega) with rfl | rfl | rfl <;> rfl) (Nat.le_of_ble_eq_true rfl) (Nat.le_of_ble_eq_true rfl) dX7_init_97 (fun q140 H hPn hDn hS => ?_)
  refine W.widen (k := 73) (n := 1006) (Nat.le_of_ble_eq_true rfl) (Nat.le_of_ble_eq_true rfl) ?_
  clear hP hD
  have hP : va_P (dC, dI) vwCl ((h, .inr (7, [.ref (ad2 0), .ref (ad37 0), .ref (ad72 0), .ref (ad89 0), .ref (ad94 0), .ref (ad113 0), .ref q121, .int 0])) :: ((q121, .inl (cT, 6, .inr (.inr (.inr (.inr (va_up (va_up (fun _ => none) 0 (some (ad123 0))) 1 (some (ad132 0)))))))) :: (T8 ++ ([(q140, .inr (5, [.null, .int 0, .int 0]))] : va_W)))) H := hPn
  have hD : va_D A ((h, .inr (7, [.ref (ad2 0), .ref (ad37 0), .ref (ad72 0), .ref (ad89 0), .ref (ad94 0), .ref (ad113 0), .ref q121, .int 0])) :: ((q121, .inl (cT, 6, .inr (.inr (.inr (.inr (va_up (va_up (fun _ => none) 0 (some (ad123 0))) 1 (some (ad132 0)))))))) :: (T8 ++ ([(q140, .inr (5, [.null, .int 0, .int 0]))] : va_W)))) := hDn
  clear hPn hDn
  refine lv_dup hx hb dX7_init_100 rfl ?_
  refine bw_ctorN (X := ((h, .inr (7, [.ref (ad2 0), .ref (ad37 0), .ref (ad72 0), .ref (ad89 0), .ref (ad94 0), .ref (ad113 0), .ref q121, .int 0])) :: ((q121, .inl (cT, 6, .inr (.inr (.inr (.inr (va_up (va_up (fun _ => none) 0 (some (ad123 0))) 1 (some (ad132 0)))))))) :: T8))) (wc := [(q140, .inr (5, [.null, .int 0, .int 0]))]) (w1 := (fun (u : (Nat → Nat) × Int32 × Int32 × (Nat → Int64)) => wdF5 cI cJ cT cII cJJ u.1 u.2.1 u.2.2.1 u.2.2.2)) (As := []) (rest := [.ref q140, .int 2, .ref q121]) (k2 := 74) (n2 := 1066) ⟨hx, hb, hml, hown, hts⟩ (mX5_init l dC dI cI cJ cT cII cJJ q140 _ _ hw) ⟨va_cnB 0 hts gX7_init_X5_init_n59 rfl rfl rfl hX.2.2.2.2.2.2.2 (hts (.initialized RX5) (List.mem_of_getElem? (i := 29) rfl)) hdX5_init ⟨Nat.le_of_ble_eq_true rfl, Nat.le_of_ble_eq_true rfl⟩, rfl, (hts (.instanceMethod yX5_init) (List.mem_of_getElem? (i := 95) rfl))⟩ hX hK hP hD hS hA rfl hl.1 rfl (Nat.le_of_ble_eq_true rfl) ⟨Nat.le_of_ble_eq_true rfl, Nat.le_of_ble_eq_true rfl⟩ (Nat.le_of_ble_eq_true rfl) (Nat.le_of_ble_eq_true rfl) dX7_init_101 (fun u H148 locs hw hPn hDn hS => ?_)
  obtain ⟨ad141, y145, y146, y147⟩ := u
  clear hP hD
  obtain ⟨hq, hw⟩ := hw
  try dsimp only at hq hw
  subst hq
  have hP : va_P (dC, dI) vwCl ((h, .inr (7, [.ref (ad2 0), .ref (ad37 0), .ref (ad72 0), .ref (ad89 0), .ref (ad94 0), .ref (ad113 0), .ref q121, .int 0])) :: ((q121, .inl (cT, 6, .inr (.inr (.inr (.inr (va_up (va_up (fun _ => none) 0 (some (ad123 0))) 1 (some (ad132 0)))))))) :: (T8 ++ (wdF5 cI cJ cT cII cJJ ad141 y145 y146 y147)))) H148 := hPn
  have hD : va_D A ((h, .inr (7, [.ref (ad2 0), .ref (ad37 0), .ref (ad72 0), .ref (ad89 0), .ref (ad94 0), .ref (ad113 0), .ref q121, .int 0])) :: ((q121, .inl (cT, 6, .inr (.inr (.inr (.inr (va_up (va_up (fun _ => none) 0 (some (ad123 0))) 1 (some (ad132 0)))))))) :: (T8 ++ (wdF5 cI cJ cT cII cJJ ad141 y145 y146 y147)))) := hDn
  clear hPn hDn
  have hP := bw_swapP hP
  have hD := bw_swapD hD
  refine va_astq hx hb hK hP hD hS 1 2 2 5 (r := (RX5, TX5, 3)) rfl rfl rfl rfl (i := 2) (bw_vin (by decide) (by decide)) dX7_init_104 (fun H locs hPn hDn hS => ?_)
  clear hP hD
  have hP : va_P (dC, dI) vwCl ((h, .inr (7, [.ref (ad2 0), .ref (ad37 0), .ref (ad72 0), .ref (ad89 0), .ref (ad94 0), .ref (ad113 0), .ref q121, .int 0])) :: ((q121, .inl (cT, 6, .inr (.inr (.inr (.inr (va_up (va_up (va_up (fun _ => none) 0 (some (ad123 0))) 1 (some (ad132 0))) 2 (some (ad141 0)))))))) :: ((wdF5 cI cJ cT cII cJJ ad141 y145 y146 y147) ++ T8))) H := hPn
  have hD : va_D A ((h, .inr (7, [.ref (ad2 0), .ref (ad37 0), .ref (ad72 0), .ref (ad89 0), .ref (ad94 0), .ref (ad113 0), .ref q121, .int 0])) :: ((q121, .inl (cT, 6, .inr (.inr (.inr (.inr (va_up (va_up (va_up (fun _ => none) 0 (some (ad123 0))) 1 (some (ad132 0))) 2 (some (ad141 0)))))))) :: ((wdF5 cI cJ cT cII cJJ ad141 y145 y146 y147) ++ T8))) := hDn
  clear hPn hDn
  obtain ⟨T9, eT9⟩ : ∃ T : va_W, T = (wdF5 cI cJ cT cII cJJ ad141 y145 y146 y147) ++ T8 := ⟨_, rfl⟩
  rw [← eT9] at hP hD
  refine lv_iinc (v := 3) (lv' := [(1, .int 3), (0, .ref h)]) hx hb dX7_init_105 hl (k := 0) rfl (by decide) (by decide) rfl (fun ls hl => ?_)
  refine lv_goto (tgt := 86) hx hb dX7_init_108 (by decide) ?_
  refine lv_iload_n hx hb dX7_init_86 rfl (lv_at hl 0 rfl) ?_
  refine lv_bipush (v := 6) hx hb dX7_init_87 (by decide) ?_
  refine lv_icmp_ge (tgt := 111) hx hb dX7_init_89 (by decide) (fun c1 => ?_) (fun c1 => ?_)
  · exact absurd c1 (by decide)
  refine lv_aload_n hx hb dX7_init_92 rfl (lv_at hl 1 rfl) ?_
  refine va_get (D := (dC, dI)) (ci := 7) (v := .ref q121) (C := RX7) (T := TX7) (N := 8) hx hb hts (fun w h => List.mem_cons_of_mem _ (List.mem_append_left _ (List.mem_append_left _ (List.mem_append_left _ (List.mem_append_left _ (List.mem_append_left _ (List.mem_append_left _ (List.mem_append_right _ h)))))))) hown hK hP 0 rfl rfl 6 (by decide) (hts (.fieldLink RX7 51 "BidMarket" "tapes" "[LBidMarket$Tape;") (List.mem_of_getElem? (i := 26) rfl)) (fun _ h9 => h9) rfl dX7_init_93 ?_
  refine lv_iload_n hx hb dX7_init_96 rfl (lv_at hl 0 rfl) ?_
  refine va_new (ci := 5) (fs := [.null, .int 0, .int 0]) (C := RX5) (T := TX5) (N := 3) hx hb hts (fun w h => List.mem_cons_of_mem _ (List.mem_append_left _ (List.mem_append_right _ h))) tyX5 tyX5_ok hown (hts (.classLink RX7 49 RX5) (List.mem_of_getElem? (i := 25) rfl)) (hts (.instantiable RX5 3) (List.mem_of_getElem? (i := 28) rfl)) (hts (.initialized RX5) (List.mem_of_getElem? (i := 29) rfl)) hK hP hD hS hA rfl (fun j hj => by rcases (show j = 0 ∨ j = 1 ∨ j = 2 by omega) with rfl | rfl | rfl <;> rfl) (Nat.le_of_ble_eq_true rfl) (Nat.le_of_ble_eq_true rfl) dX7_init_97 (fun q149 H hPn hDn hS => ?_)
  refine W.widen (k := 75) (n := 1069) (Nat.le_of_ble_eq_true rfl) (Nat.le_of_ble_eq_true rfl) ?_
  clear hP hD
  have hP : va_P (dC, dI) vwCl ((h, .inr (7, [.ref (ad2 0), .ref (ad37 0), .ref (ad72 0), .ref (ad89 0), .ref (ad94 0), .ref (ad113 0), .ref q121, .int 0])) :: ((q121, .inl (cT, 6, .inr (.inr (.inr (.inr (va_up (va_up (va_up (fun _ => none) 0 (some (ad123 0))) 1 (some (ad132 0))) 2 (some (ad141 0)))))))) :: (T9 ++ ([(q149, .inr (5, [.null, .int 0, .int 0]))] : va_W)))) H := hPn
  have hD : va_D A ((h, .inr (7, [.ref (ad2 0), .ref (ad37 0), .ref (ad72 0), .ref (ad89 0), .ref (ad94 0), .ref (ad113 0), .ref q121, .int 0])) :: ((q121, .inl (cT, 6, .inr (.inr (.inr (.inr (va_up (va_up (va_up (fun _ => none) 0 (some (ad123 0))) 1 (some (ad132 0))) 2 (some (ad141 0)))))))) :: (T9 ++ ([(q149, .inr (5, [.null, .int 0, .int 0]))] : va_W)))) := hDn
  clear hPn hDn
  refine lv_dup hx hb dX7_init_100 rfl ?_
  refine bw_ctorN (X := ((h, .inr (7, [.ref (ad2 0), .ref (ad37 0), .ref (ad72 0), .ref (ad89 0), .ref (ad94 0), .ref (ad113 0), .ref q121, .int 0])) :: ((q121, .inl (cT, 6, .inr (.inr (.inr (.inr (va_up (va_up (va_up (fun _ => none) 0 (some (ad123 0))) 1 (some (ad132 0))) 2 (some (ad141 0)))))))) :: T9))) (wc := [(q149, .inr (5, [.null, .int 0, .int 0]))]) (w1 := (fun (u : (Nat → Nat) × Int32 × Int32 × (Nat → Int64)) => wdF5 cI cJ cT cII cJJ u.1 u.2.1 u.2.2.1 u.2.2.2)) (As := []) (rest := [.ref q149, .int 3, .ref q121]) (k2 := 76) (n2 := 1129) ⟨hx, hb, hml, hown, hts⟩ (mX5_init l dC dI cI cJ cT cII cJJ q149 _ _ hw) ⟨va_cnB 0 hts gX7_init_X5_init_n59 rfl rfl rfl hX.2.2.2.2.2.2.2 (hts (.initialized RX5) (List.mem_of_getElem? (i := 29) rfl)) hdX5_init ⟨Nat.le_of_ble_eq_true rfl, Nat.le_of_ble_eq_true rfl⟩, rfl, (hts (.instanceMethod yX5_init) (List.mem_of_getElem? (i := 95) rfl))⟩ hX hK hP hD hS hA rfl hl.1 rfl (Nat.le_of_ble_eq_true rfl) ⟨Nat.le_of_ble_eq_true rfl, Nat.le_of_ble_eq_true rfl⟩ (Nat.le_of_ble_eq_true rfl) (Nat.le_of_ble_eq_true rfl) dX7_init_101 (fun u H157 locs hw hPn hDn hS => ?_)
  obtain ⟨ad150, y154, y155, y156⟩ := u
  clear hP hD
  obtain ⟨hq, hw⟩ := hw
  try dsimp only at hq hw
  subst hq
  have hP : va_P (dC, dI) vwCl ((h, .inr (7, [.ref (ad2 0), .ref (ad37 0), .ref (ad72 0), .ref (ad89 0), .ref (ad94 0), .ref (ad113 0), .ref q121, .int 0])) :: ((q121, .inl (cT, 6, .inr (.inr (.inr (.inr (va_up (va_up (va_up (fun _ => none) 0 (some (ad123 0))) 1 (some (ad132 0))) 2 (some (ad141 0)))))))) :: (T9 ++ (wdF5 cI cJ cT cII cJJ ad150 y154 y155 y156)))) H157 := hPn
  have hD : va_D A ((h, .inr (7, [.ref (ad2 0), .ref (ad37 0), .ref (ad72 0), .ref (ad89 0), .ref (ad94 0), .ref (ad113 0), .ref q121, .int 0])) :: ((q121, .inl (cT, 6, .inr (.inr (.inr (.inr (va_up (va_up (va_up (fun _ => none) 0 (some (ad123 0))) 1 (some (ad132 0))) 2 (some (ad141 0)))))))) :: (T9 ++ (wdF5 cI cJ cT cII cJJ ad150 y154 y155 y156)))) := hDn
  clear hPn hDn
  have hP := bw_swapP hP
  have hD := bw_swapD hD
  refine va_astq hx hb hK hP hD hS 1 2 2 5 (r := (RX5, TX5, 3)) rfl rfl rfl rfl (i := 3) (bw_vin (by decide) (by decide)) dX7_init_104 (fun H locs hPn hDn hS => ?_)
  clear hP hD
  have hP : va_P (dC, dI) vwCl ((h, .inr (7, [.ref (ad2 0), .ref (ad37 0), .ref (ad72 0), .ref (ad89 0), .ref (ad94 0), .ref (ad113 0), .ref q121, .int 0])) :: ((q121, .inl (cT, 6, .inr (.inr (.inr (.inr (va_up (va_up (va_up (va_up (fun _ => none) 0 (some (ad123 0))) 1 (some (ad132 0))) 2 (some (ad141 0))) 3 (some (ad150 0)))))))) :: ((wdF5 cI cJ cT cII cJJ ad150 y154 y155 y156) ++ T9))) H := hPn
  have hD : va_D A ((h, .inr (7, [.ref (ad2 0), .ref (ad37 0), .ref (ad72 0), .ref (ad89 0), .ref (ad94 0), .ref (ad113 0), .ref q121, .int 0])) :: ((q121, .inl (cT, 6, .inr (.inr (.inr (.inr (va_up (va_up (va_up (va_up (fun _ => none) 0 (some (ad123 0))) 1 (some (ad132 0))) 2 (some (ad141 0))) 3 (some (ad150 0)))))))) :: ((wdF5 cI cJ cT cII cJJ ad150 y154 y155 y156) ++ T9))) := hDn
  clear hPn hDn
  obtain ⟨T10, eT10⟩ : ∃ T : va_W, T = (wdF5 cI cJ cT cII cJJ ad150 y154 y155 y156) ++ T9 := ⟨_, rfl⟩
  rw [← eT10] at hP hD
  refine lv_iinc (v := 4) (lv' := [(1, .int 4), (0, .ref h)]) hx hb dX7_init_105 hl (k := 0) rfl (by decide) (by decide) rfl (fun ls hl => ?_)
  refine lv_goto (tgt := 86) hx hb dX7_init_108 (by decide) ?_
  refine lv_iload_n hx hb dX7_init_86 rfl (lv_at hl 0 rfl) ?_
  refine lv_bipush (v := 6) hx hb dX7_init_87 (by decide) ?_
  refine lv_icmp_ge (tgt := 111) hx hb dX7_init_89 (by decide) (fun c1 => ?_) (fun c1 => ?_)
  · exact absurd c1 (by decide)
  refine lv_aload_n hx hb dX7_init_92 rfl (lv_at hl 1 rfl) ?_
  refine va_get (D := (dC, dI)) (ci := 7) (v := .ref q121) (C := RX7) (T := TX7) (N := 8) hx hb hts (fun w h => List.mem_cons_of_mem _ (List.mem_append_left _ (List.mem_append_left _ (List.mem_append_left _ (List.mem_append_left _ (List.mem_append_left _ (List.mem_append_left _ (List.mem_append_right _ h)))))))) hown hK hP 0 rfl rfl 6 (by decide) (hts (.fieldLink RX7 51 "BidMarket" "tapes" "[LBidMarket$Tape;") (List.mem_of_getElem? (i := 26) rfl)) (fun _ h9 => h9) rfl dX7_init_93 ?_
  refine lv_iload_n hx hb dX7_init_96 rfl (lv_at hl 0 rfl) ?_
  refine va_new (ci := 5) (fs := [.null, .int 0, .int 0]) (C := RX5) (T := TX5) (N := 3) hx hb hts (fun w h => List.mem_cons_of_mem _ (List.mem_append_left _ (List.mem_append_right _ h))) tyX5 tyX5_ok hown (hts (.classLink RX7 49 RX5) (List.mem_of_getElem? (i := 25) rfl)) (hts (.instantiable RX5 3) (List.mem_of_getElem? (i := 28) rfl)) (hts (.initialized RX5) (List.mem_of_getElem? (i := 29) rfl)) hK hP hD hS hA rfl (fun j hj => by rcases (show j = 0 ∨ j = 1 ∨ j = 2 by omega) with rfl | rfl | rfl <;> rfl) (Nat.le_of_ble_eq_true rfl) (Nat.le_of_ble_eq_true rfl) dX7_init_97 (fun q158 H hPn hDn hS => ?_)
  refine W.widen (k := 77) (n := 1132) (Nat.le_of_ble_eq_true rfl) (Nat.le_of_ble_eq_true rfl) ?_
  clear hP hD
  have hP : va_P (dC, dI) vwCl ((h, .inr (7, [.ref (ad2 0), .ref (ad37 0), .ref (ad72 0), .ref (ad89 0), .ref (ad94 0), .ref (ad113 0), .ref q121, .int 0])) :: ((q121, .inl (cT, 6, .inr (.inr (.inr (.inr (va_up (va_up (va_up (va_up (fun _ => none) 0 (some (ad123 0))) 1 (some (ad132 0))) 2 (some (ad141 0))) 3 (some (ad150 0)))))))) :: (T10 ++ ([(q158, .inr (5, [.null, .int 0, .int 0]))] : va_W)))) H := hPn
  have hD : va_D A ((h, .inr (7, [.ref (ad2 0), .ref (ad37 0), .ref (ad72 0), .ref (ad89 0), .ref (ad94 0), .ref (ad113 0), .ref q121, .int 0])) :: ((q121, .inl (cT, 6, .inr (.inr (.inr (.inr (va_up (va_up (va_up (va_up (fun _ => none) 0 (some (ad123 0))) 1 (some (ad132 0))) 2 (some (ad141 0))) 3 (some (ad150 0)))))))) :: (T10 ++ ([(q158, .inr (5, [.null, .int 0, .int 0]))] : va_W)))) := hDn
  clear hPn hDn
  refine lv_dup hx hb dX7_init_100 rfl ?_
  refine bw_ctorN (X := ((h, .inr (7, [.ref (ad2 0), .ref (ad37 0), .ref (ad72 0), .ref (ad89 0), .ref (ad94 0), .ref (ad113 0), .ref q121, .int 0])) :: ((q121, .inl (cT, 6, .inr (.inr (.inr (.inr (va_up (va_up (va_up (va_up (fun _ => none) 0 (some (ad123 0))) 1 (some (ad132 0))) 2 (some (ad141 0))) 3 (some (ad150 0)))))))) :: T10))) (wc := [(q158, .inr (5, [.null, .int 0, .int 0]))]) (w1 := (fun (u : (Nat → Nat) × Int32 × Int32 × (Nat → Int64)) => wdF5 cI cJ cT cII cJJ u.1 u.2.1 u.2.2.1 u.2.2.2)) (As := []) (rest := [.ref q158, .int 4, .ref q121]) (k2 := 78) (n2 := 1192) ⟨hx, hb, hml, hown, hts⟩ (mX5_init l dC dI cI cJ cT cII cJJ q158 _ _ hw) ⟨va_cnB 0 hts gX7_init_X5_init_n59 rfl rfl rfl hX.2.2.2.2.2.2.2 (hts (.initialized RX5) (List.mem_of_getElem? (i := 29) rfl)) hdX5_init ⟨Nat.le_of_ble_eq_true rfl, Nat.le_of_ble_eq_true rfl⟩, rfl, (hts (.instanceMethod yX5_init) (List.mem_of_getElem? (i := 95) rfl))⟩ hX hK hP hD hS hA rfl hl.1 rfl (Nat.le_of_ble_eq_true rfl) ⟨Nat.le_of_ble_eq_true rfl, Nat.le_of_ble_eq_true rfl⟩ (Nat.le_of_ble_eq_true rfl) (Nat.le_of_ble_eq_true rfl) dX7_init_101 (fun u H166 locs hw hPn hDn hS => ?_)
  obtain ⟨ad159, y163, y164, y165⟩ := u
  clear hP hD
  obtain ⟨hq, hw⟩ := hw
  try dsimp only at hq hw
  subst hq
  have hP : va_P (dC, dI) vwCl ((h, .inr (7, [.ref (ad2 0), .ref (ad37 0), .ref (ad72 0), .ref (ad89 0), .ref (ad94 0), .ref (ad113 0), .ref q121, .int 0])) :: ((q121, .inl (cT, 6, .inr (.inr (.inr (.inr (va_up (va_up (va_up (va_up (fun _ => none) 0 (some (ad123 0))) 1 (some (ad132 0))) 2 (some (ad141 0))) 3 (some (ad150 0)))))))) :: (T10 ++ (wdF5 cI cJ cT cII cJJ ad159 y163 y164 y165)))) H166 := hPn
  have hD : va_D A ((h, .inr (7, [.ref (ad2 0), .ref (ad37 0), .ref (ad72 0), .ref (ad89 0), .ref (ad94 0), .ref (ad113 0), .ref q121, .int 0])) :: ((q121, .inl (cT, 6, .inr (.inr (.inr (.inr (va_up (va_up (va_up (va_up (fun _ => none) 0 (some (ad123 0))) 1 (some (ad132 0))) 2 (some (ad141 0))) 3 (some (ad150 0)))))))) :: (T10 ++ (wdF5 cI cJ cT cII cJJ ad159 y163 y164 y165)))) := hDn
  clear hPn hDn
  have hP := bw_swapP hP
  have hD := bw_swapD hD
  refine va_astq hx hb hK hP hD hS 1 2 2 5 (r := (RX5, TX5, 3)) rfl rfl rfl rfl (i := 4) (bw_vin (by decide) (by decide)) dX7_init_104 (fun H locs hPn hDn hS => ?_)
  clear hP hD
  have hP : va_P (dC, dI) vwCl ((h, .inr (7, [.ref (ad2 0), .ref (ad37 0), .ref (ad72 0), .ref (ad89 0), .ref (ad94 0), .ref (ad113 0), .ref q121, .int 0])) :: ((q121, .inl (cT, 6, .inr (.inr (.inr (.inr (va_up (va_up (va_up (va_up (va_up (fun _ => none) 0 (some (ad123 0))) 1 (some (ad132 0))) 2 (some (ad141 0))) 3 (some (ad150 0))) 4 (some (ad159 0)))))))) :: ((wdF5 cI cJ cT cII cJJ ad159 y163 y164 y165) ++ T10))) H := hPn
  have hD : va_D A ((h, .inr (7, [.ref (ad2 0), .ref (ad37 0), .ref (ad72 0), .ref (ad89 0), .ref (ad94 0), .ref (ad113 0), .ref q121, .int 0])) :: ((q121, .inl (cT, 6, .inr (.inr (.inr (.inr (va_up (va_up (va_up (va_up (va_up (fun _ => none) 0 (some (ad123 0))) 1 (some (ad132 0))) 2 (some (ad141 0))) 3 (some (ad150 0))) 4 (some (ad159 0)))))))) :: ((wdF5 cI cJ cT cII cJJ ad159 y163 y164 y165) ++ T10))) := hDn
  clear hPn hDn
  obtain ⟨T11, eT11⟩ : ∃ T : va_W, T = (wdF5 cI cJ cT cII cJJ ad159 y163 y164 y165) ++ T10 := ⟨_, rfl⟩
  rw [← eT11] at hP hD
  refine lv_iinc (v := 5) (lv' := [(1, .int 5), (0, .ref h)]) hx hb dX7_init_105 hl (k := 0) rfl (by decide) (by decide) rfl (fun ls hl => ?_)
  refine lv_goto (tgt := 86) hx hb dX7_init_108 (by decide) ?_
  refine lv_iload_n hx hb dX7_init_86 rfl (lv_at hl 0 rfl) ?_
  refine lv_bipush (v := 6) hx hb dX7_init_87 (by decide) ?_
  refine lv_icmp_ge (tgt := 111) hx hb dX7_init_89 (by decide) (fun c1 => ?_) (fun c1 => ?_)
  · exact absurd c1 (by decide)
  refine lv_aload_n hx hb dX7_init_92 rfl (lv_at hl 1 rfl) ?_
  refine va_get (D := (dC, dI)) (ci := 7) (v := .ref q121) (C := RX7) (T := TX7) (N := 8) hx hb hts (fun w h => List.mem_cons_of_mem _ (List.mem_append_left _ (List.mem_append_left _ (List.mem_append_left _ (List.mem_append_left _ (List.mem_append_left _ (List.mem_append_left _ (List.mem_append_right _ h)))))))) hown hK hP 0 rfl rfl 6 (by decide) (hts (.fieldLink RX7 51 "BidMarket" "tapes" "[LBidMarket$Tape;") (List.mem_of_getElem? (i := 26) rfl)) (fun _ h9 => h9) rfl dX7_init_93 ?_
  refine lv_iload_n hx hb dX7_init_96 rfl (lv_at hl 0 rfl) ?_
  refine va_new (ci := 5) (fs := [.null, .int 0, .int 0]) (C := RX5) (T := TX5) (N := 3) hx hb hts (fun w h => List.mem_cons_of_mem _ (List.mem_append_left _ (List.mem_append_right _ h))) tyX5 tyX5_ok hown (hts (.classLink RX7 49 RX5) (List.mem_of_getElem? (i := 25) rfl)) (hts (.instantiable RX5 3) (List.mem_of_getElem? (i := 28) rfl)) (hts (.initialized RX5) (List.mem_of_getElem? (i := 29) rfl)) hK hP hD hS hA rfl (fun j hj => by rcases (show j = 0 ∨ j = 1 ∨ j = 2 by omega) with rfl | rfl | rfl <;> rfl) (Nat.le_of_ble_eq_true rfl) (Nat.le_of_ble_eq_true rfl) dX7_init_97 (fun q167 H hPn hDn hS => ?_)
  refine W.widen (k := 79) (n := 1195) (Nat.le_of_ble_eq_true rfl) (Nat.le_of_ble_eq_true rfl) ?_
  clear hP hD
  have hP : va_P (dC, dI) vwCl ((h, .inr (7, [.ref (ad2 0), .ref (ad37 0), .ref (ad72 0), .ref (ad89 0), .ref (ad94 0), .ref (ad113 0), .ref q121, .int 0])) :: ((q121, .inl (cT, 6, .inr (.inr (.inr (.inr (va_up (va_up (va_up (va_up (va_up (fun _ => none) 0 (some (ad123 0))) 1 (some (ad132 0))) 2 (some (ad141 0))) 3 (some (ad150 0))) 4 (some (ad159 0)))))))) :: (T11 ++ ([(q167, .inr (5, [.null, .int 0, .int 0]))] : va_W)))) H := hPn
  have hD : va_D A ((h, .inr (7, [.ref (ad2 0), .ref (ad37 0), .ref (ad72 0), .ref (ad89 0), .ref (ad94 0), .ref (ad113 0), .ref q121, .int 0])) :: ((q121, .inl (cT, 6, .inr (.inr (.inr (.inr (va_up (va_up (va_up (va_up (va_up (fun _ => none) 0 (some (ad123 0))) 1 (some (ad132 0))) 2 (some (ad141 0))) 3 (some (ad150 0))) 4 (some (ad159 0)))))))) :: (T11 ++ ([(q167, .inr (5, [.null, .int 0, .int 0]))] : va_W)))) := hDn
  clear hPn hDn
  refine lv_dup hx hb dX7_init_100 rfl ?_
  refine bw_ctorN (X := ((h, .inr (7, [.ref (ad2 0), .ref (ad37 0), .ref (ad72 0), .ref (ad89 0), .ref (ad94 0), .ref (ad113 0), .ref q121, .int 0])) :: ((q121, .inl (cT, 6, .inr (.inr (.inr (.inr (va_up (va_up (va_up (va_up (va_up (fun _ => none) 0 (some (ad123 0))) 1 (some (ad132 0))) 2 (some (ad141 0))) 3 (some (ad150 0))) 4 (some (ad159 0)))))))) :: T11))) (wc := [(q167, .inr (5, [.null, .int 0, .int 0]))]) (w1 := (fun (u : (Nat → Nat) × Int32 × Int32 × (Nat → Int64)) => wdF5 cI cJ cT cII cJJ u.1 u.2.1 u.2.2.1 u.2.2.2)) (As := []) (rest := [.ref q167, .int 5, .ref q121]) (k2 := 80) (n2 := 1255) ⟨hx, hb, hml, hown, hts⟩ (mX5_init l dC dI cI cJ cT cII cJJ q167 _ _ hw) ⟨va_cnB 0 hts gX7_init_X5_init_n59 rfl rfl rfl hX.2.2.2.2.2.2.2 (hts (.initialized RX5) (List.mem_of_getElem? (i := 29) rfl)) hdX5_init ⟨Nat.le_of_ble_eq_true rfl, Nat.le_of_ble_eq_true rfl⟩, rfl, (hts (.instanceMethod yX5_init) (List.mem_of_getElem? (i := 95) rfl))⟩ hX hK hP hD hS hA rfl hl.1 rfl (Nat.le_of_ble_eq_true rfl) ⟨Nat.le_of_ble_eq_true rfl, Nat.le_of_ble_eq_true rfl⟩ (Nat.le_of_ble_eq_true rfl) (Nat.le_of_ble_eq_true rfl) dX7_init_101 (fun u H175 locs hw hPn hDn hS => ?_)
  obtain ⟨ad168, y172, y173, y174⟩ := u
  clear hP hD
  obtain ⟨hq, hw⟩ := hw
  try dsimp only at hq hw
  subst hq
  have hP : va_P (dC, dI) vwCl ((h, .inr (7, [.ref (ad2 0), .ref (ad37 0), .ref (ad72 0), .ref (ad89 0), .ref (ad94 0), .ref (ad113 0), .ref q121, .int 0])) :: ((q121, .inl (cT, 6, .inr (.inr (.inr (.inr (va_up (va_up (va_up (va_up (va_up (fun _ => none) 0 (some (ad123 0))) 1 (some (ad132 0))) 2 (some (ad141 0))) 3 (some (ad150 0))) 4 (some (ad159 0)))))))) :: (T11 ++ (wdF5 cI cJ cT cII cJJ ad168 y172 y173 y174)))) H175 := hPn
  have hD : va_D A ((h, .inr (7, [.ref (ad2 0), .ref (ad37 0), .ref (ad72 0), .ref (ad89 0), .ref (ad94 0), .ref (ad113 0), .ref q121, .int 0])) :: ((q121, .inl (cT, 6, .inr (.inr (.inr (.inr (va_up (va_up (va_up (va_up (va_up (fun _ => none) 0 (some (ad123 0))) 1 (some (ad132 0))) 2 (some (ad141 0))) 3 (some (ad150 0))) 4 (some (ad159 0)))))))) :: (T11 ++ (wdF5 cI cJ cT cII cJJ ad168 y172 y173 y174)))) := hDn
  clear hPn hDn
  have hP := bw_swapP hP
  have hD := bw_swapD hD
  refine va_astq hx hb hK hP hD hS 1 2 2 5 (r := (RX5, TX5, 3)) rfl rfl rfl rfl (i := 5) (bw_vin (by decide) (by decide)) dX7_init_104 (fun H locs hPn hDn hS => ?_)
  clear hP hD
  have hP : va_P (dC, dI) vwCl ((h, .inr (7, [.ref (ad2 0), .ref (ad37 0), .ref (ad72 0), .ref (ad89 0), .ref (ad94 0), .ref (ad113 0), .ref q121, .int 0])) :: ((q121, .inl (cT, 6, .inr (.inr (.inr (.inr (va_up (va_up (va_up (va_up (va_up (va_up (fun _ => none) 0 (some (ad123 0))) 1 (some (ad132 0))) 2 (some (ad141 0))) 3 (some (ad150 0))) 4 (some (ad159 0))) 5 (some (ad168 0)))))))) :: ((wdF5 cI cJ cT cII cJJ ad168 y172 y173 y174) ++ T11))) H := hPn
  have hD : va_D A ((h, .inr (7, [.ref (ad2 0), .ref (ad37 0), .ref (ad72 0), .ref (ad89 0), .ref (ad94 0), .ref (ad113 0), .ref q121, .int 0])) :: ((q121, .inl (cT, 6, .inr (.inr (.inr (.inr (va_up (va_up (va_up (va_up (va_up (va_up (fun _ => none) 0 (some (ad123 0))) 1 (some (ad132 0))) 2 (some (ad141 0))) 3 (some (ad150 0))) 4 (some (ad159 0))) 5 (some (ad168 0)))))))) :: ((wdF5 cI cJ cT cII cJJ ad168 y172 y173 y174) ++ T11))) := hDn
  clear hPn hDn
  obtain ⟨T12, eT12⟩ : ∃ T : va_W, T = (wdF5 cI cJ cT cII cJJ ad168 y172 y173 y174) ++ T11 := ⟨_, rfl⟩
  rw [← eT12] at hP hD
  refine lv_iinc (v := 6) (lv' := [(1, .int 6), (0, .ref h)]) hx hb dX7_init_105 hl (k := 0) rfl (by decide) (by decide) rfl (fun ls hl => ?_)
  refine lv_goto (tgt := 86) hx hb dX7_init_108 (by decide) ?_
  refine lv_iload_n hx hb dX7_init_86 rfl (lv_at hl 0 rfl) ?_
  refine lv_bipush (v := 6) hx hb dX7_init_87 (by decide) ?_
  refine lv_icmp_ge (tgt := 111) hx hb dX7_init_89 (by decide) (fun c1 => ?_) (fun c1 => ?_)
  rotate_left
  · exact absurd (by decide) c1
  subst eT12
  subst eT11
  subst eT10
  subst eT9
  subst eT8
  subst eT7
  subst eT6
  subst eT5
  subst eT4
  subst eT3
  subst eT2
  subst eT1
  obtain ⟨AD, e_h, e_ad2, e_ad37, e_ad72, e_ad89, e_ad94, e_ad113, e_q121, e_ad123, e_ad132, e_ad141, e_ad150, e_ad159, e_ad168⟩ : ∃ AD : Nat → Nat, AD 0 = h ∧ (∀ k, k < 23 → AD (k + 1) = ad2 k) ∧ (∀ k, k < 23 → AD (k + 24) = ad37 k) ∧ (∀ k, k < 13 → AD (k + 47) = ad72 k) ∧ (∀ k, k < 2 → AD (k + 60) = ad89 k) ∧ (∀ k, k < 5 → AD (k + 62) = ad94 k) ∧ (∀ k, k < 1 → AD (k + 67) = ad113 k) ∧ AD 68 = q121 ∧ (∀ k, k < 2 → AD (k + 69) = ad123 k) ∧ (∀ k, k < 2 → AD (k + 71) = ad132 k) ∧ (∀ k, k < 2 → AD (k + 73) = ad141 k) ∧ (∀ k, k < 2 → AD (k + 75) = ad150 k) ∧ (∀ k, k < 2 → AD (k + 77) = ad159 k) ∧ (∀ k, k < 2 → AD (k + 79) = ad168 k) := ⟨fun k => cond (Nat.blt k 1) h (cond (Nat.blt k 24) (ad2 (k - 1)) (cond (Nat.blt k 47) (ad37 (k - 24)) (cond (Nat.blt k 60) (ad72 (k - 47)) (cond (Nat.blt k 62) (ad89 (k - 60)) (cond (Nat.blt k 67) (ad94 (k - 62)) (cond (Nat.blt k 68) (ad113 (k - 67)) (cond (Nat.blt k 69) q121 (cond (Nat.blt k 71) (ad123 (k - 69)) (cond (Nat.blt k 73) (ad132 (k - 71)) (cond (Nat.blt k 75) (ad141 (k - 73)) (cond (Nat.blt k 77) (ad150 (k - 75)) (cond (Nat.blt k 79) (ad159 (k - 77)) (cond (Nat.blt k 81) (ad168 (k - 79)) (0)))))))))))))), rfl, (fun k hk => match k, hk with | 0, _ => rfl | 1, _ => rfl | 2, _ => rfl | 3, _ => rfl | 4, _ => rfl | 5, _ => rfl | 6, _ => rfl | 7, _ => rfl | 8, _ => rfl | 9, _ => rfl | 10, _ => rfl | 11, _ => rfl | 12, _ => rfl | 13, _ => rfl | 14, _ => rfl | 15, _ => rfl | 16, _ => rfl | 17, _ => rfl | 18, _ => rfl | 19, _ => rfl | 20, _ => rfl | 21, _ => rfl | 22, _ => rfl | k + 23, h => absurd h (by omega)), (fun k hk => match k, hk with | 0, _ => rfl | 1, _ => rfl | 2, _ => rfl | 3, _ => rfl | 4, _ => rfl | 5, _ => rfl | 6, _ => rfl | 7, _ => rfl | 8, _ => rfl | 9, _ => rfl | 10, _ => rfl | 11, _ => rfl | 12, _ => rfl | 13, _ => rfl | 14, _ => rfl | 15, _ => rfl | 16, _ => rfl | 17, _ => rfl | 18, _ => rfl | 19, _ => rfl | 20, _ => rfl | 21, _ => rfl | 22, _ => rfl | k + 23, h => absurd h (by omega)), (fun k hk => match k, hk with | 0, _ => rfl | 1, _ => rfl | 2, _ => rfl | 3, _ => rfl | 4, _ => rfl | 5, _ => rfl | 6, _ => rfl | 7, _ => rfl | 8, _ => rfl | 9, _ => rfl | 10, _ => rfl | 11, _ => rfl | 12, _ => rfl | k + 13, h => absurd h (by omega)), (fun k hk => match k, hk with | 0, _ => rfl | 1, _ => rfl | k + 2, h => absurd h (by omega)), (fun k hk => match k, hk with | 0, _ => rfl | 1, _ => rfl | 2, _ => rfl | 3, _ => rfl | 4, _ => rfl | k + 5, h => absurd h (by omega)), (fun k hk => match k, hk with | 0, _ => rfl | k + 1, h => absurd h (by omega)), rfl, (fun k hk => match k, hk with | 0, _ => rfl | 1, _ => rfl | k + 2, h => absurd h (by omega)), (fun k hk => match k, hk with | 0, _ => rfl | 1, _ => rfl | k + 2, h => absurd h (by omega)), (fun k hk => match k, hk with | 0, _ => rfl | 1, _ => rfl | k + 2, h => absurd h (by omega)), (fun k hk => match k, hk with | 0, _ => rfl | 1, _ => rfl | k + 2, h => absurd h (by omega)), (fun k hk => match k, hk with | 0, _ => rfl | 1, _ => rfl | k + 2, h => absurd h (by omega)), (fun k hk => match k, hk with | 0, _ => rfl | 1, _ => rfl | k + 2, h => absurd h (by omega))⟩
  rw [wdF1_congr (g := fun k => AD (k + 1)) (fun k hk => (e_ad2 k hk).symm), ← e_ad2 0 (by decide)] at hP hD
  rw [wdF1_congr (g := fun k => AD (k + 24)) (fun k hk => (e_ad37 k hk).symm), ← e_ad37 0 (by decide)] at hP hD
  rw [wdF2_congr (g := fun k => AD (k + 47)) (fun k hk => (e_ad72 k hk).symm), ← e_ad72 0 (by decide)] at hP hD
  rw [wdF3_congr (g := fun k => AD (k + 60)) (fun k hk => (e_ad89 k hk).symm), ← e_ad89 0 (by decide)] at hP hD
  rw [wdF6_congr (g := fun k => AD (k + 62)) (fun k hk => (e_ad94 k hk).symm), ← e_ad94 0 (by decide)] at hP hD
  rw [wdF0_congr (g := fun k => AD (k + 67)) (fun k hk => (e_ad113 k hk).symm), ← e_ad113 0 (by decide)] at hP hD
  subst e_q121
  rw [wdF5_congr (g := fun k => AD (k + 69)) (fun k hk => (e_ad123 k hk).symm), ← e_ad123 0 (by decide)] at hP hD
  rw [wdF5_congr (g := fun k => AD (k + 71)) (fun k hk => (e_ad132 k hk).symm), ← e_ad132 0 (by decide)] at hP hD
  rw [wdF5_congr (g := fun k => AD (k + 73)) (fun k hk => (e_ad141 k hk).symm), ← e_ad141 0 (by decide)] at hP hD
  rw [wdF5_congr (g := fun k => AD (k + 75)) (fun k hk => (e_ad150 k hk).symm), ← e_ad150 0 (by decide)] at hP hD
  rw [wdF5_congr (g := fun k => AD (k + 77)) (fun k hk => (e_ad159 k hk).symm), ← e_ad159 0 (by decide)] at hP hD
  rw [wdF5_congr (g := fun k => AD (k + 79)) (fun k hk => (e_ad168 k hk).symm), ← e_ad168 0 (by decide)] at hP hD
  have eo176 : (va_up (va_up (va_up (va_up (va_up (va_up (fun _ => none) 0 (some (AD (0 + 69)))) 1 (some (AD (0 + 71)))) 2 (some (AD (0 + 73)))) 3 (some (AD (0 + 75)))) 4 (some (AD (0 + 77)))) 5 (some (AD (0 + 79)))) = (fun i => if i < 6 then some (AD (2 * i + 69)) else none) := by
    funext i
    match i with | 0 => rfl | 1 => rfl | 2 => rfl | 3 => rfl | 4 => rfl | 5 => rfl | k + 6 => rw [if_neg (by omega)]; rfl
  rw [eo176] at hP hD
  subst e_h
  have hPf : va_P (dC, dI) vwCl (wdF7 cI cJ cT cII cJJ AD 0 y19 y20 y21 y22 y23 y24 y25 y26 y27 y28 y29 y30 y31 y32 y33 y34 y54 y55 y56 y57 y58 y59 y60 y61 y62 y63 y64 y65 y66 y67 y68 y69 y80 y81 y82 y83 y84 y85 y86 y91 y103 y104 y105 y106 y107 y108 y109 y110 y117 y118 y119 (fun k => match k with | 0 => y127 | 1 => y136 | 2 => y145 | 3 => y154 | 4 => y163 | _ => y172) (fun k => match k with | 0 => y128 | 1 => y137 | 2 => y146 | 3 => y155 | 4 => y164 | _ => y173) (fun k => match k with | 0 => y129 | 1 => y138 | 2 => y147 | 3 => y156 | 4 => y165 | _ => y174)) H := bw_permP hP
  have hDf : va_D A (wdF7 cI cJ cT cII cJJ AD 0 y19 y20 y21 y22 y23 y24 y25 y26 y27 y28 y29 y30 y31 y32 y33 y34 y54 y55 y56 y57 y58 y59 y60 y61 y62 y63 y64 y65 y66 y67 y68 y69 y80 y81 y82 y83 y84 y85 y86 y91 y103 y104 y105 y106 y107 y108 y109 y110 y117 y118 y119 (fun k => match k with | 0 => y127 | 1 => y136 | 2 => y145 | 3 => y154 | 4 => y163 | _ => y172) (fun k => match k with | 0 => y128 | 1 => y137 | 2 => y146 | 3 => y155 | 4 => y164 | _ => y173) (fun k => match k with | 0 => y129 | 1 => y138 | 2 => y147 | 3 => y156 | 4 => y165 | _ => y174)) := bw_permD hD
  clear hP hD
  have hP := hPf
  have hD := hDf
  exact W.vret hx hb hr (fun t ht hW => ⟨⟨(AD, 0, y19, y20, y21, y22, y23, y24, y25, y26, y27, y28, y29, y30, y31, y32, y33, y34, y54, y55, y56, y57, y58, y59, y60, y61, y62, y63, y64, y65, y66, y67, y68, y69, y80, y81, y82, y83, y84, y85, y86, y91, y103, y104, y105, y106, y107, y108, y109, y110, y117, y118, y119, fun k => match k with | 0 => y127 | 1 => y136 | 2 => y145 | 3 => y154 | 4 => y163 | _ => y172, fun k => match k with | 0 => y128 | 1 => y137 | 2 => y146 | 3 => y155 | 4 => y164 | _ => y173, fun k => match k with | 0 => y129 | 1 => y138 | 2 => y147 | 3 => y156 | 4 => y165 | _ => y174), rfl, ⟨rfl, hw⟩, by show va_P _ _ _ t.heap ∧ _; rw [ht]; exact ⟨hP, hD⟩⟩, hS.F ht⟩) hS.2.2 dX7_init_111
