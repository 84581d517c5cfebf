/-! cn_: connected ends, by labellings; how many labels there are -/
def cn_c (S : Nat → Nat → Prop) (u v : Nat) : Prop := ∀ f : Nat → Nat, (∀ a b, S a b → f a = f b) → f u = f v
theorem cn_rf {S : Nat → Nat → Prop} {u : Nat} : cn_c S u u := fun _ _ => rfl
theorem cn_sy {S : Nat → Nat → Prop} {u v : Nat} (h : cn_c S u v) : cn_c S v u := fun f hf => (h f hf).symm
theorem cn_tr {S : Nat → Nat → Prop} {u v w : Nat} (h : cn_c S u v) (h2 : cn_c S v w) : cn_c S u w := fun f hf => (h f hf).trans (h2 f hf)
theorem cn_up {S S' : Nat → Nat → Prop} {u v : Nat} (hs : ∀ a b, S a b → S' a b) (h : cn_c S u v) : cn_c S' u v := fun f hf => h f (fun a b hab => hf a b (hs a b hab))
theorem cn_e {S : Nat → Nat → Prop} {a b : Nat} (h : S a b) : cn_c S a b := fun _ hf => hf a b h
theorem cn_all {S S' : Nat → Nat → Prop} {u v : Nat} (hs : ∀ a b, S a b → cn_c S' a b) (h : cn_c S u v) : cn_c S' u v := fun f hf => h f (fun a b hab => hs a b hab f hf)
theorem cn_cross {S : Nat → Nat → Prop} {u v : Nat} (h : cn_c S u v) (f : Nat → Nat) (hf : f u ≠ f v) : ∃ a b, S a b ∧ f a ≠ f b :=
  Classical.byContradiction fun hn => hf (h f (fun a b hab => Classical.byContradiction fun hne => hn ⟨a, b, hab, hne⟩))
/-- how many numbers below M are so -/
def cn_k (p : Nat → Bool) : Nat → Nat
  | 0 => 0
  | m + 1 => cn_k p m + (if p m then 1 else 0)
theorem cn_k_le {p q : Nat → Bool} {b : Nat} : ∀ M, (∀ v, v < M → p v = true → q v = true ∨ v = b) → cn_k p M ≤ cn_k q M + (if b < M then 1 else 0)
  | 0, _ => by simp [cn_k]
  | m + 1, h => by
    have ih := cn_k_le (p := p) (q := q) (b := b) m (fun v hv => h v (by omega))
    simp only [cn_k]
    by_cases hp : p m = true
    · rcases h m (by omega) hp with hq | hb
      · rw [if_pos hp, if_pos hq]
        have h2 : (if b < m then 1 else 0) ≤ (if b < m + 1 then 1 else 0) := by split <;> split <;> omega
        omega
      · subst hb
        rw [if_pos hp]
        simp only [Nat.lt_irrefl, if_false] at ih
        rw [if_pos (Nat.lt_succ_self m)]
        omega
    · rw [if_neg hp]
      have h2 : (if b < m then 1 else 0) ≤ (if b < m + 1 then 1 else 0) := by split <;> split <;> omega
      omega
theorem cn_k_mono {p q : Nat → Bool} : ∀ M, (∀ v, v < M → p v = true → q v = true) → cn_k p M ≤ cn_k q M
  | 0, _ => by simp [cn_k]
  | m + 1, h => by
    have ih := cn_k_mono (p := p) (q := q) m (fun v hv => h v (by omega))
    simp only [cn_k]
    by_cases hp : p m = true
    · rw [if_pos hp, if_pos (h m (by omega) hp)]
      omega
    · rw [if_neg hp]
      omega
theorem cn_k_cut {p q : Nat → Bool} {b : Nat} : ∀ M, b < M → p b = true → (∀ v, v < M → q v = (p v && !(v == b))) → cn_k p M = cn_k q M + 1
  | 0, hb, _, _ => by omega
  | m + 1, hb, hp, h => by
    simp only [cn_k]
    by_cases e : b = m
    · subst e
      have e1 : cn_k p b = cn_k q b := by
        apply Nat.le_antisymm
        · apply cn_k_mono
          intro v hv hpv
          rw [h v (by omega), hpv]
          have : (v == b) = false := beq_eq_false_iff_ne.mpr (by omega)
          simp [this]
        · apply cn_k_mono
          intro v hv hqv
          rw [h v (by omega)] at hqv
          simp at hqv
          exact hqv.1
      have e2 : q b = false := by rw [h b (by omega)]; simp
      rw [hp, e2, e1]
      simp
    · have ih := cn_k_cut (p := p) (q := q) (b := b) m (by omega) hp (fun v hv => h v (by omega))
      have e2 : q m = p m := by
        rw [h m (by omega)]
        have : (m == b) = false := beq_eq_false_iff_ne.mpr (fun z => e z.symm)
        simp [this]
      rw [e2, ih]
      omega
theorem cn_k_pos {p : Nat → Bool} : ∀ M v, v < M → p v = true → 1 ≤ cn_k p M
  | 0, v, hv, _ => by omega
  | m + 1, v, hv, hp => by
    simp only [cn_k]
    by_cases e : v = m
    · subst e; rw [if_pos hp]; omega
    · have := cn_k_pos m v (by omega) hp
      omega
theorem cn_k_two {p : Nat → Bool} : ∀ M v w, v < w → w < M → p v = true → p w = true → 2 ≤ cn_k p M
  | 0, v, w, _, hw, _, _ => by omega
  | m + 1, v, w, hvw, hw, hp, hq => by
    simp only [cn_k]
    by_cases e : w = m
    · subst e
      have := cn_k_pos w v hvw hp
      rw [if_pos hq]; omega
    · have := cn_k_two m v w hvw (by omega) hp hq
      omega
/-- the labels of the places lo .. hi-1 -/
def cn_at (lo hi : Nat) (f : Nat → Nat) (v : Nat) : Bool := (List.range hi).any (fun i => decide (lo ≤ i) && (f i == v))
theorem cn_at_iff {lo hi v : Nat} {f : Nat → Nat} : cn_at lo hi f v = true ↔ ∃ i, lo ≤ i ∧ i < hi ∧ f i = v := by
  unfold cn_at
  rw [List.any_eq_true]
  constructor
  · rintro ⟨i, hi, h⟩
    simp only [Bool.and_eq_true, decide_eq_true_eq, beq_iff_eq] at h
    exact ⟨i, h.1, List.mem_range.mp hi, h.2⟩
  · rintro ⟨i, h1, h2, h3⟩
    exact ⟨i, List.mem_range.mpr h2, by simp [h1, h3]⟩
def cn_n (lo hi M : Nat) (f : Nat → Nat) : Nat := cn_k (cn_at lo hi f) M
/-- b's places come to a -/
def cn_j (f : Nat → Nat) (a b : Nat) : Nat → Nat := fun i => if f i = b then a else f i
theorem cn_j_le {lo hi M a b : Nat} {f : Nat → Nat} : cn_n lo hi M f ≤ cn_n lo hi M (cn_j f a b) + 1 := by
  have h := cn_k_le (p := cn_at lo hi f) (q := cn_at lo hi (cn_j f a b)) (b := b) M (fun v _ hv => by
    obtain ⟨i, h1, h2, h3⟩ := cn_at_iff.mp hv
    by_cases e : v = b
    · exact Or.inr e
    · exact Or.inl (cn_at_iff.mpr ⟨i, h1, h2, by unfold cn_j; rw [if_neg (by rw [h3]; exact e)]; exact h3⟩))
  unfold cn_n
  split at h <;> omega
theorem cn_j_cut {lo hi M a b : Nat} {f : Nat → Nat} (hb : b < M) (hab : a ≠ b) (ha : ∃ i, lo ≤ i ∧ i < hi ∧ f i = a) (hbb : ∃ i, lo ≤ i ∧ i < hi ∧ f i = b) : cn_n lo hi M f = cn_n lo hi M (cn_j f a b) + 1 := by
  refine cn_k_cut M hb (cn_at_iff.mpr hbb) (fun v _ => ?_)
  have key : cn_at lo hi (cn_j f a b) v = true ↔ (cn_at lo hi f v && !(v == b)) = true := by
    rw [cn_at_iff, Bool.and_eq_true, cn_at_iff]
    simp only [Bool.not_eq_true', beq_eq_false_iff_ne, ne_eq]
    constructor
    · rintro ⟨i, h1, h2, h3⟩
      unfold cn_j at h3
      by_cases e : f i = b
      · rw [if_pos e] at h3
        subst h3
        exact ⟨ha, hab⟩
      · rw [if_neg e] at h3
        exact ⟨⟨i, h1, h2, h3⟩, fun z => e (h3.trans z)⟩
    · rintro ⟨⟨i, h1, h2, h3⟩, hne⟩
      exact ⟨i, h1, h2, by unfold cn_j; rw [if_neg (by rw [h3]; exact hne)]; exact h3⟩
  cases h1 : cn_at lo hi (cn_j f a b) v <;> cases h2 : (cn_at lo hi f v && !(v == b)) <;> simp_all
/-- few edges leave many labels -/
theorem cn_few {lo hi M : Nat} (l : List (Nat × Nat)) : ∃ f : Nat → Nat, (∀ e ∈ l, f e.1 = f e.2) ∧ cn_n lo hi M (fun i => i) ≤ cn_n lo hi M f + l.length := by
  induction l with
  | nil => exact ⟨fun i => i, ⟨fun e h => (by cases h), (by simp)⟩⟩
  | cons e l ih =>
    obtain ⟨f, h1, h2⟩ := ih
    refine ⟨cn_j f (f e.1) (f e.2), fun x hx => ?_, ?_⟩
    · rcases List.mem_cons.mp hx with rfl | hx
      · unfold cn_j
        rw [if_pos rfl]
        split <;> rfl
      · unfold cn_j
        rw [h1 x hx]
    · have := cn_j_le (lo := lo) (hi := hi) (M := M) (a := f e.1) (b := f e.2) (f := f)
      simp only [List.length_cons]
      omega
