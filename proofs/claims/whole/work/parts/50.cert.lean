/-! one-trees: sets of edges, an edge of i and j being the number 8*i+j; two certificates, one set -/
def ed (n k : Nat) : Prop := k / 8 < k % 8 ∧ k % 8 < n
/-- the edges of S without city 0, as ends -/
def js (S : Nat → Prop) (a b : Nat) : Prop := ∃ k, 8 ≤ k ∧ S k ∧ k / 8 = a ∧ k % 8 = b
/-- all cities but 0 hang together -/
def jn (n : Nat) (S : Nat → Prop) : Prop := ∀ u v, 1 ≤ u → u < n → 1 ≤ v → v < n → cn_c (js S) u v
def tc (S : Nat → Bool) : Nat := cn_k (fun k => decide (8 ≤ k) && S k) 64
def zc (S : Nat → Bool) : Nat := cn_k S 8
def elt (W : Nat → Int) (h k : Nat) : Prop := W h < W k ∨ (W h = W k ∧ h < k)
theorem elt_tr {W : Nat → Int} {a b c : Nat} (h1 : elt W a b) (h2 : elt W b c) : elt W a c := by unfold elt at *; omega
theorem elt_ir {W : Nat → Int} {a b : Nat} (h1 : elt W a b) (h2 : elt W b a) : False := by unfold elt at *; omega
theorem elt_to {W : Nat → Int} {a b : Nat} (h : a ≠ b) : elt W a b ∨ elt W b a := by unfold elt; omega
theorem js_up {S S' : Nat → Prop} (h : ∀ k, 8 ≤ k → S k → S' k) : ∀ a b, js S a b → js S' a b := fun a b ⟨k, h1, h2, h3⟩ => ⟨k, h1, h k h1 h2, h3⟩
theorem cn_k_one {p : Nat → Bool} : ∀ M, (∀ v w, v < M → w < M → p v = true → p w = true → v = w) → cn_k p M ≤ 1
  | 0, _ => by simp [cn_k]
  | m + 1, h => by
    simp only [cn_k]
    by_cases hp : p m = true
    · have : cn_k p m ≤ cn_k (fun _ => false) m := cn_k_mono m (fun v hv hv2 => by
        have := h v m (by omega) (by omega) hv2 hp
        omega)
      have z : ∀ m, cn_k (fun _ => false) m = 0 := fun m => by
        induction m with
        | zero => rfl
        | succ m ih => simp only [cn_k, ih]; rfl
      rw [z] at this
      rw [if_pos hp]
      omega
    · have := cn_k_one m (fun v w hv hw => h v w (by omega) (by omega))
      rw [if_neg hp]
      omega
theorem cn_k_eq {p q : Nat → Bool} {M : Nat} (h : ∀ v, v < M → p v = true → q v = true) (hc : cn_k q M ≤ cn_k p M) : ∀ v, v < M → q v = true → p v = true := by
  intro v hv hq
  cases hp : p v with
  | true => rfl
  | false =>
    have h1 := cn_k_cut (p := q) (q := fun x => q x && !(x == v)) (b := v) M hv hq (fun x _ => rfl)
    have h2 : cn_k p M ≤ cn_k (fun x => q x && !(x == v)) M := cn_k_mono M (fun x hx hpx => by
      have : x ≠ v := fun e => by rw [e, hp] at hpx; cases hpx
      simp [h x hx hpx, this])
    omega
theorem cn_few2 {lo hi : Nat} (S : Nat → Bool) : ∀ M, ∃ f : Nat → Nat, (∀ k, k < M → 8 ≤ k → S k = true → f (k / 8) = f (k % 8)) ∧ cn_n lo hi 8 (fun i => i) ≤ cn_n lo hi 8 f + cn_k (fun k => decide (8 ≤ k) && S k) M
  | 0 => ⟨fun i => i, fun k hk => by omega, by simp [cn_k]⟩
  | m + 1 => by
    obtain ⟨f, h1, h2⟩ := cn_few2 (lo := lo) (hi := hi) S m
    simp only [cn_k]
    by_cases hp : (decide (8 ≤ m) && S m) = true
    · refine ⟨cn_j f (f (m / 8)) (f (m % 8)), fun k hk h8 hs => ?_, ?_⟩
      · by_cases e : k = m
        · subst e
          unfold cn_j
          rw [if_pos rfl]
          split <;> rfl
        · unfold cn_j
          rw [h1 k (by omega) h8 hs]
      · have := cn_j_le (lo := lo) (hi := hi) (M := 8) (a := f (m / 8)) (b := f (m % 8)) (f := f)
        rw [if_pos hp]
        omega
    · refine ⟨f, fun k hk h8 hs => ?_, ?_⟩
      · by_cases e : k = m
        · subst e
          exact absurd (by simp [h8, hs]) hp
        · exact h1 k (by omega) h8 hs
      · rw [if_neg hp]
        omega
theorem cn_id : ∀ n, n ≤ 8 → cn_n 1 n 8 (fun i => i) = n - 1 := by decide +kernel
/-- what joins has edges enough -/
theorem jn_few {n : Nat} {S : Nat → Bool} (h3 : 3 ≤ n) (h8 : n ≤ 8) (hs : ∀ k, S k = true → ed n k) (h : jn n (fun k => S k = true)) : n - 2 ≤ tc S := by
  obtain ⟨f, h1, h2⟩ := cn_few2 (lo := 1) (hi := n) S 64
  rw [cn_id n h8] at h2
  have hf : ∀ a b, js (fun k => S k = true) a b → f a = f b := fun a b ⟨k, k1, k2, k3, k4⟩ => by
    have := hs k k2
    unfold ed at this
    rw [← k3, ← k4]
    exact h1 k (by omega) k1 k2
  have h5 : cn_n 1 n 8 f ≤ 1 := cn_k_one 8 (fun v w _ _ hv hw => by
    obtain ⟨i, i1, i2, i3⟩ := cn_at_iff.mp hv
    obtain ⟨j, j1, j2, j3⟩ := cn_at_iff.mp hw
    rw [← i3, ← j3]
    exact h i j i1 i2 j1 j2 f hf)
  unfold tc
  omega
/-- a ring is one edge too many -/
theorem jn_ring {n : Nat} {S : Nat → Bool} (h3 : 3 ≤ n) (h8 : n ≤ 8) (hs : ∀ k, S k = true → ed n k) (h : jn n (fun k => S k = true)) {k : Nat} (hk : 8 ≤ k) (hS : S k = true) (hr : cn_c (js (fun g => S g = true ∧ g ≠ k)) (k / 8) (k % 8)) : n - 1 ≤ tc S := by
  have hke := hs k hS
  have h1 : jn n (fun g => (S g && !(g == k)) = true) := fun u v a b c d => by
    refine cn_all (fun x y ⟨g, g1, g2, g3, g4⟩ => ?_) (h u v a b c d)
    have hup : ∀ p q, js (fun g => S g = true ∧ g ≠ k) p q → js (fun g => (S g && !(g == k)) = true) p q := js_up (fun g _ hg => by simp [hg.1, hg.2])
    by_cases e : g = k
    · subst e
      rw [← g3, ← g4]
      exact cn_up hup hr
    · exact cn_e ⟨g, g1, by simp [g2, e], g3, g4⟩
  have h2 := jn_few h3 h8 (S := fun g => S g && !(g == k)) (fun g hg => hs g (by simp at hg; exact hg.1)) h1
  unfold ed at hke
  have h4 : tc S = tc (fun g => S g && !(g == k)) + 1 := by
    unfold tc
    refine cn_k_cut (b := k) 64 (by omega) (by simp [hk, hS]) (fun v _ => ?_)
    show (decide (8 ≤ v) && (S v && !(v == k))) = ((decide (8 ≤ v) && S v) && !(v == k))
    rw [Bool.and_assoc]
  omega
/-- the end of a growing tree -/
def kcert (n : Nat) (A R T : Nat → Bool) (W : Nat → Int) : Prop := (∀ k, A k = true → ed n k) ∧ (∀ k, T k = true → A k = true) ∧ (∀ k, R k = true → T k = true) ∧ zc T = 2 ∧ tc T = n - 2 ∧ jn n (fun k => T k = true) ∧ (∀ k h, k < 8 → h < 8 → A k = true → T k = false → T h = true → R h = false → elt W h k) ∧ (∀ k, 8 ≤ k → A k = true → T k = false → cn_c (js (fun g => T g = true ∧ (R g = true ∨ elt W g k))) (k / 8) (k % 8))
/-- the end of a shrinking one -/
def vcert (n : Nat) (A R S : Nat → Bool) (W : Nat → Int) : Prop := (∀ k, S k = true → A k = true) ∧ (∀ k, R k = true → S k = true) ∧ zc S = 2 ∧ (∀ k h, k < 8 → h < 8 → A k = true → S k = false → S h = true → R h = false → elt W h k) ∧ (∀ k, 8 ≤ k → S k = true → R k = false → ∃ f : Nat → Nat, f (k / 8) ≠ f (k % 8) ∧ ∀ g, 8 ≤ g → A g = true → (R g = true ∨ elt W g k) → f (g / 8) = f (g % 8)) ∧ jn n (fun k => S k = true)
theorem cert_eq {n : Nat} {A R T S : Nat → Bool} {W : Nat → Int} (h3 : 3 ≤ n) (h8 : n ≤ 8) (hT : kcert n A R T W) (hS : vcert n A R S W) : (∀ k, S k = T k) ∧ tc S = n - 2 := by
  obtain ⟨a0, a1, a2, a3, a4, _, a5, a6⟩ := hT
  obtain ⟨b1, b2, b3, b4, b5, b6⟩ := hS
  have hsub : ∀ k, 8 ≤ k → S k = true → T k = true := by
    intro k hk hs
    cases ht : T k with
    | true => rfl
    | false =>
      exfalso
      have hr : R k = false := by
        cases hr : R k with
        | false => rfl
        | true => rw [a2 k hr] at ht; cases ht
      obtain ⟨f, f1, f2⟩ := b5 k hk hs hr
      exact f1 (a6 k hk (b1 k hs) ht f (fun a b ⟨g, g1, g2, g3, g4⟩ => by
        rw [← g3, ← g4]
        exact f2 g g1 (a1 g g2.1) g2.2))
  have hle : tc S ≤ tc T := cn_k_mono 64 (fun k _ hk => by
    simp at hk ⊢
    exact ⟨hk.1, hsub k hk.1 hk.2⟩)
  have hge := jn_few h3 h8 (fun k hk => a0 k (b1 k hk)) b6
  have hsup : ∀ k, 8 ≤ k → T k = true → S k = true := by
    intro k hk ht
    have he := a0 k (a1 k ht)
    unfold ed at he
    have := cn_k_eq (p := fun k => decide (8 ≤ k) && S k) (q := fun k => decide (8 ≤ k) && T k) (M := 64) (fun v _ hv => by
      simp at hv ⊢
      exact ⟨hv.1, hsub v hv.1 hv.2⟩) (show tc T ≤ tc S by omega) k (by omega) (by simp [hk, ht])
    simp at this
    exact this.2
  -- at city 0
  have hz : ∀ k, k < 8 → S k = true → T k = true := by
    intro k hk hs
    cases ht : T k with
    | true => rfl
    | false =>
      exfalso
      have hr : R k = false := by
        cases hr : R k with
        | false => rfl
        | true => rw [a2 k hr] at ht; cases ht
      -- another one is in T only
      have hex : ∃ h, h < 8 ∧ T h = true ∧ S h = false := by
        refine Classical.byContradiction fun hn => ?_
        have hall : ∀ v, v < 8 → T v = true → S v = true := fun v hv htv => by
          cases hsv : S v with
          | true => rfl
          | false => exact absurd ⟨v, hv, htv, hsv⟩ hn
        have := cn_k_eq (p := T) (q := S) (M := 8) hall (show zc S ≤ zc T by omega) k hk hs
        rw [ht] at this
        cases this
      obtain ⟨h, h1, h2, h4⟩ := hex
      have hrh : R h = false := by
        cases hrh : R h with
        | false => rfl
        | true => rw [b2 h hrh] at h4; cases h4
      exact elt_ir (a5 k h hk h1 (b1 k hs) ht h2 hrh) (b4 h k h1 hk (a1 h h2) h4 hs hr)
  have hz2 : ∀ k, k < 8 → T k = true → S k = true := cn_k_eq (p := S) (q := T) (M := 8) hz (show zc T ≤ zc S by omega)
  refine ⟨fun k => ?_, by omega⟩
  have i1 : S k = true → T k = true := fun h => by
    rcases Nat.lt_or_ge k 8 with z | z
    · exact hz k z h
    · exact hsub k z h
  have i2 : T k = true → S k = true := fun h => by
    rcases Nat.lt_or_ge k 8 with z | z
    · exact hz2 k z h
    · exact hsup k z h
  cases h1 : S k <;> cases h2 : T k <;> simp_all
