/-! what stands between the class's state and the reference's -/
/-- only these numbers and these arrays changed -/
def fr (S T : List Nat) (c c' : ox_S) : Prop := (∀ k, k ∉ S → c'.1 k = c.1 k) ∧ ∀ a, a ∉ T → c'.2 a = c.2 a
theorem fr_rf {S T : List Nat} {c : ox_S} : fr S T c c := ⟨fun _ _ => rfl, fun _ _ => rfl⟩
theorem fr_tr {S T : List Nat} {c d e : ox_S} (h1 : fr S T c d) (h2 : fr S T d e) : fr S T c e := ⟨fun k h => (h2.1 k h).trans (h1.1 k h), fun a h => (h2.2 a h).trans (h1.2 a h)⟩
theorem fr_s1 {S T : List Nat} {c : ox_S} {k : Nat} {v : Int32} (h : k ∈ S) : fr S T c (ox_s1 c k v) := ⟨fun j hj => if_neg (fun (e : j = k) => hj (by rw [e]; exact h)), fun _ _ => rfl⟩
theorem fr_s2 {S T : List Nat} {c : ox_S} {a i : Nat} {v : Int32} (h : a ∈ T) : fr S T c (ox_s2 c a i v) := ⟨fun _ _ => rfl, fun b hb => if_neg (fun (e : b = a) => hb (by rw [e]; exact h))⟩
theorem fr_sA {S T : List Nat} {c : ox_S} {a : Nat} {f : Nat → Int32} (h : a ∈ T) : fr S T c (ox_sA c a f) := ⟨fun _ _ => rfl, fun b hb => if_neg (fun (e : b = a) => hb (by rw [e]; exact h))⟩
theorem fr_up {S T S' T' : List Nat} {c d : ox_S} (h : fr S T c d) (hS : ∀ k ∈ S, k ∈ S') (hT : ∀ k ∈ T, k ∈ T') : fr S' T' c d := ⟨fun k hk => h.1 k (fun z => hk (hS k z)), fun a ha => h.2 a (fun z => ha (hT a z))⟩
theorem s1_1 (c : ox_S) (k j : Nat) (v : Int32) : (ox_s1 c k v).1 j = if j = k then v else c.1 j := rfl
theorem s1_2 (c : ox_S) (k : Nat) (v : Int32) : (ox_s1 c k v).2 = c.2 := rfl
theorem s2_1 (c : ox_S) (a i : Nat) (v : Int32) : (ox_s2 c a i v).1 = c.1 := rfl
theorem s2_2 (c : ox_S) (a i b : Nat) (v : Int32) : (ox_s2 c a i v).2 b = if b = a then upd (c.2 b) i v else c.2 b := rfl
theorem s2_at (c : ox_S) (a i b j : Nat) (v : Int32) : (ox_s2 c a i v).2 b j = if b = a ∧ j = i then v else c.2 b j := by
  rw [s2_2]
  by_cases h : b = a
  · subst h
    rw [if_pos rfl]
    simp [upd]
  · rw [if_neg h, if_neg (fun z => h z.1)]
/-- the number of the edge of i and j, i before j, among n cities -/
def en (n i j : Nat) : Nat := i * n - i * (i + 1) / 2 + (j - i - 1)
theorem en_lt : ∀ n, n ≤ 8 → ∀ j, j < n → ∀ i, i < j → en n i j < n * (n - 1) / 2 := by decide +kernel
theorem en_28 {n i j : Nat} (hn : n ≤ 8) (hj : j < n) (hi : i < j) : en n i j < 28 := Nat.lt_of_lt_of_le (en_lt n hn j hj i hi) ((by decide +kernel : ∀ n, n ≤ 8 → n * (n - 1) / 2 ≤ 28) n hn)
/-- the edges in their order -/
def prs (n : Nat) : List (Nat × Nat) := (List.range n).flatMap (fun i => ((List.range n).filter (fun j => decide (i < j))).map (fun j => (i, j)))
theorem prs_en : ∀ n, n ≤ 8 → ∀ j, j < n → ∀ i, i < j → (prs n)[en n i j]? = some (i, j) := by decide +kernel
theorem prs_of : ∀ n, n ≤ 8 → ∀ e, e < n * (n - 1) / 2 → ((prs n).getD e (0, 0)).1 < ((prs n).getD e (0, 0)).2 ∧ ((prs n).getD e (0, 0)).2 < n ∧ en n ((prs n).getD e (0, 0)).1 ((prs n).getD e (0, 0)).2 = e := by decide +kernel
theorem en_ex {n e : Nat} (hn : n ≤ 8) (he : e < n * (n - 1) / 2) : ∃ i j, i < j ∧ j < n ∧ en n i j = e := ⟨_, _, prs_of n hn e he⟩
theorem en_inj {n i j i' j' : Nat} (hn : n ≤ 8) (hj : j < n) (hi : i < j) (hj' : j' < n) (hi' : i' < j') (h : en n i j = en n i' j') : i = i' ∧ j = j' := by
  have h1 := prs_en n hn j hj i hi
  have h2 := prs_en n hn j' hj' i' hi'
  rw [h, h2] at h1
  have h3 := Option.some.inj h1
  exact ⟨(congrArg Prod.fst h3).symm, (congrArg Prod.snd h3).symm⟩
/-- the text -/
def rl_text (c m : ox_S) : Prop := ∃ N, N ≤ 480 ∧ c.1 0 = nI N ∧ m.1 0 = nI N ∧ ∀ j, j < N → c.2 0 j = m.2 0 j ∧ (10 : Int32) ≤ c.2 0 j ∧ c.2 0 j ≤ 126
/-- the cities, their distances and potentials -/
def rl_land (n : Nat) (c m : ox_S) : Prop := (n = 0 ∨ (3 ≤ n ∧ n ≤ 8)) ∧ c.1 10 = nI n ∧ m.1 1 = nI n
def rl_dist (n : Nat) (d : Nat → Nat → Nat) (c m : ox_S) : Prop := ∀ i j, i < n → j < n → c.2 6 (8 * i + j) = nI (d i j) ∧ m.2 1 (8 * i + j) = nI (d i j) ∧ d i j = d j i ∧ d i j ≤ 9999 ∧ d i i = 0
def rl_pot (n : Nat) (c m : ox_S) : Prop := ∀ i, i < n → c.2 10 i = m.2 3 i ∧ (-100000 : Int32) ≤ c.2 10 i ∧ c.2 10 i ≤ 100000
/-- the edges' numbers -/
def rl_num (n : Nat) (c : ox_S) : Prop := c.1 11 = nI (n * (n - 1) / 2) ∧ ∀ i j, i < j → j < n → c.2 8 (en n i j) = nI i ∧ c.2 9 (en n i j) = nI j ∧ c.2 7 (8 * i + j) = nI (en n i j) ∧ c.2 7 (8 * j + i) = nI (en n i j)
/-- marks -/
def rl_mark (n : Nat) (c m : ox_S) : Prop := (∀ i j, i < j → j < n → (m.2 2 (8 * i + j) = 0 ∨ m.2 2 (8 * i + j) = 1 ∨ m.2 2 (8 * i + j) = 2) ∧ m.2 2 (8 * j + i) = m.2 2 (8 * i + j) ∧ (bt (c.1 12) (en n i j) = true ↔ m.2 2 (8 * i + j) = 1) ∧ (bt (c.1 13) (en n i j) = true ↔ m.2 2 (8 * i + j) = 2)) ∧ ∀ e, n * (n - 1) / 2 ≤ e → bt (c.1 12) e = false ∧ bt (c.1 13) e = false
/-- the tour that is kept -/
def rl_known (n : Nat) (c m : ox_S) : Prop := (c.1 18 = 0 ∧ m.1 2 = 0) ∨ (c.1 18 = 1 ∧ m.1 2 = 1 ∧ ∀ k, k < n → c.2 16 k = m.2 4 k)
/-- the cases -/
def rl_cases (n : Nat) (c m : ox_S) : Prop := ∃ k, k ≤ 10 ∧ c.1 19 = nI k ∧ m.1 3 = nI k ∧ (n = 0 → k = 0) ∧ ∀ j, j < k → c.2 17 j = m.2 5 j ∧ c.2 18 j = m.2 6 j ∧ c.2 17 j &&& c.2 18 j = 0 ∧ ∀ e, n * (n - 1) / 2 ≤ e → bt (c.2 17 j) e = false ∧ bt (c.2 18 j) e = false
/-- cities in range -/
theorem pc_city {σ : ox_S} {n : Nat} (h : σ.1 10 = nI n) (hn : n < 2 ^ 31) (x : Int32) : ((x < 0 ∨ nI n ≤ x) ∧ oc_Land_isCity x σ = some 0) ∨ ∃ i, i < n ∧ x = nI i ∧ oc_Land_isCity x σ = some 1 := by
  unfold oc_Land_isCity
  rcases pk_ix x hn with h1 | h1 | ⟨i, hi, rfl⟩
  · exact Or.inl ⟨Or.inl h1, if_pos h1⟩
  · refine Or.inl ⟨Or.inr h1, ?_⟩
    by_cases h2 : x < 0
    · rw [if_pos h2]
    · rw [if_neg h2, h, if_pos h1]
  · refine Or.inr ⟨i, hi, rfl, ?_⟩
    rw [if_neg (nI_pos (by omega)), h, if_neg (nI_ge hi hn)]
theorem pm_city {σ : ox_S} {n : Nat} (h : σ.1 1 = nI n) (hn : n < 2 ^ 31) (x : Int32) : ((x < 0 ∨ nI n ≤ x) → om_Mo_city x σ = some 0) ∧ ∀ i, i < n → x = nI i → om_Mo_city x σ = some 1 := by
  unfold om_Mo_city
  refine ⟨fun h1 => ?_, fun i hi hx => ?_⟩
  · by_cases h2 : x < 0
    · rw [if_pos h2]
    · rw [if_neg h2, h, if_pos (h1.resolve_left h2)]
  · subst hx
    rw [if_neg (nI_pos (by omega)), h, if_neg (nI_ge hi hn)]
theorem p_8 (i j : Nat) : (8 : Int32) * nI i + nI j = nI (8 * i + j) := by
  rw [show (8 : Int32) = nI 8 from rfl, pk_mul, nI_add]
theorem p_8' (i j : Nat) : nI i * (8 : Int32) + nI j = nI (8 * i + j) := by
  rw [show (8 : Int32) = nI 8 from rfl, pk_mul, nI_add, Nat.mul_comm]
theorem nI_ne {a b : Nat} (h : a ≠ b) (ha : a < 2 ^ 31) (hb : b < 2 ^ 31) : ¬ nI a = nI b := fun e => h ((nI_eq ha hb).mp e)
