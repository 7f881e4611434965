/-! pure part: numbers, loops -/
def pz_it {σ : Type} (f : Nat → σ → σ) : Nat → σ → σ
  | 0, s => s
  | k + 1, s => f k (pz_it f k s)
theorem pz_up {σ : Type} (W : Nat → Nat → σ → Prop) (f : Nat → σ → σ) (e : Nat) (s0 : σ) (hx : ∀ n, W (n + 1) e (pz_it f e s0)) (hs : ∀ n i s, i < e → s = pz_it f i s0 → (∀ s', s' = f i s → W n (i + 1) s') → W (n + 1) i s) : ∃ n, W n 0 s0 :=
  loop_0 W (fun i s => s = pz_it f i s0) e s0 rfl (fun n s h => by rw [h]; exact hx n) (fun n i s hi h k => hs n i s hi h (fun s' h' => k s' (by rw [h', h]; rfl)))
theorem pz_it_congr {σ : Type} {f g : Nat → σ → σ} : ∀ (e : Nat) (s : σ), (∀ i t, i < e → f i t = g i t) → pz_it f e s = pz_it g e s
  | 0, _, _ => rfl
  | e + 1, s, h => by
    show f e (pz_it f e s) = g e (pz_it g e s)
    rw [pz_it_congr e s (fun i t hi => h i t (by omega)), h e _ (by omega)]
/-- what holds at the start and is kept by each turn holds at the end -/
theorem pz_it_ind {σ : Type} {f : Nat → σ → σ} (I : Nat → σ → Prop) : ∀ (e : Nat) (s : σ), I 0 s → (∀ i t, i < e → I i t → I (i + 1) (f i t)) → I e (pz_it f e s)
  | 0, _, h, _ => h
  | e + 1, s, h, hs => hs e _ (by omega) (pz_it_ind I e s h (fun i t hi => hs i t (by omega)))
/-- down: the index i + 1 stands for the place i, 0 for past the end -/
theorem pz_dn {σ : Type} (W : Nat → Nat → σ → Prop) (I : Nat → σ → Prop) (hx : ∀ n s, I 0 s → W (n + 1) 0 s) (hs : ∀ n i s, I (i + 1) s → (∀ s', I i s' → W n i s') → W (n + 1) (i + 1) s) : ∀ i s, I i s → W (i + 1) i s := by
  intro i
  induction i with
  | zero => exact fun s h => hx 0 s h
  | succ i ih => exact fun s h => hs (i + 1) i s h (fun s' h' => ih s' h')
def pz_fs (c : Nat → Bool) : Nat → Nat → Option Nat
  | 0, _ => none
  | d + 1, k => if c k then some k else pz_fs c d (k + 1)
def pz_cd : Option Nat → Int32
  | none => -1
  | some k => nI k
theorem pz_fs_some {c : Nat → Bool} : ∀ (d k j : Nat), pz_fs c d k = some j → k ≤ j ∧ j < k + d ∧ c j = true ∧ ∀ i, k ≤ i → i < j → c i = false
  | 0, k, j, h => by cases h
  | d + 1, k, j, h => by
    rw [pz_fs] at h
    cases hc : c k with
    | true =>
      rw [hc, if_pos rfl] at h
      cases h
      exact ⟨Nat.le_refl _, by omega, hc, fun i h1 h2 => absurd h1 (by omega)⟩
    | false =>
      rw [hc, if_neg (by decide)] at h
      obtain ⟨h1, h2, h3, h4⟩ := pz_fs_some d (k + 1) j h
      refine ⟨by omega, by omega, h3, fun i h5 h6 => ?_⟩
      by_cases h7 : i = k
      · rw [h7]; exact hc
      · exact h4 i (by omega) h6
theorem pz_fs_none {c : Nat → Bool} : ∀ (d k : Nat), pz_fs c d k = none → ∀ i, k ≤ i → i < k + d → c i = false
  | 0, k, h, i, h1, h2 => absurd h1 (by omega)
  | d + 1, k, h, i, h1, h2 => by
    rw [pz_fs] at h
    cases hc : c k with
    | true => rw [hc, if_pos rfl] at h; cases h
    | false =>
      rw [hc, if_neg (by decide)] at h
      by_cases h7 : i = k
      · rw [h7]; exact hc
      · exact pz_fs_none d (k + 1) h i (by omega) (by omega)
theorem pz_fs_eq {c : Nat → Bool} {d k j : Nat} (h1 : k ≤ j) (h2 : j < k + d) (h3 : c j = true) (h4 : ∀ i, k ≤ i → i < j → c i = false) : pz_fs c d k = some j := by
  cases h : pz_fs c d k with
  | none => rw [pz_fs_none d k h j h1 h2] at h3; cases h3
  | some m =>
    obtain ⟨a1, a2, a3, a4⟩ := pz_fs_some d k m h
    by_cases q : m = j
    · rw [q]
    · by_cases q2 : m < j
      · rw [h4 m a1 q2] at a3; cases a3
      · rw [a4 j h1 (by omega)] at h3; cases h3
theorem pz_fs_congr {c g : Nat → Bool} : ∀ (d k : Nat), (∀ i, k ≤ i → i < k + d → c i = g i) → pz_fs c d k = pz_fs g d k
  | 0, _, _ => rfl
  | d + 1, k, h => by rw [pz_fs, pz_fs, h k (Nat.le_refl _) (by omega), pz_fs_congr d (k + 1) (fun i h1 h2 => h i (by omega) (by omega))]
theorem pz_se (W : Nat → Nat → Prop) (c : Nat → Bool) (e : Nat) (Q : Option Nat → Prop) (hQ : Q (pz_fs c e 0)) (hx : ∀ n, Q none → W (n + 1) e) (hs : ∀ n i, i < e → (c i = true → Q (some i)) → (c i = false → W n (i + 1)) → W (n + 1) i) : ∃ n, W n 0 := by
  have key : ∀ d k, k + d = e → Q (pz_fs c d k) → W (d + 1) k := by
    intro d
    induction d with
    | zero => intro k hk h; have : k = e := by omega
              subst this; exact hx 0 h
    | succ d ih =>
      intro k hk h
      rw [pz_fs] at h
      refine hs _ k (by omega) (fun q => ?_) (fun q => ?_)
      · rw [q, if_pos rfl] at h; exact h
      · rw [q, if_neg (by decide)] at h; exact ih (k + 1) (by omega) h
  exact ⟨e + 1, key e 0 (by omega) hQ⟩
theorem pz_up0 {f : Nat → Int32} {k : Nat} {x : Int32} (h : f k = x) : upd f k x = f := by
  funext j
  by_cases q : j = k
  · rw [q, pk_us, h]
  · rw [pk_un q]
theorem pz_cd_neg {o : Option Nat} (h : pz_cd o < 0) (hb : ∀ k, o = some k → k < 2 ^ 31) : o = none := by
  cases o with
  | none => rfl
  | some k => exact absurd h (nI_pos (hb k rfl))
theorem pz_m1 : ((-1 : Int32) < 0) := by decide
theorem pz_nm1 : ¬ (0 : Int32) ≤ -1 := by decide
theorem pz_8 (p t : Nat) : (8 : Int32) * nI p + nI t = nI (8 * p + t) := by
  rw [← nI_add]
  exact congrArg (· + nI t) (Int32.ofNat_mul 8 p).symm
