/-! edges of a row; rows that keep to marks and cases -/
/-- i and j are neighbours in the row, at a place below k -/
def thb (f : Nat → Nat) (n i j : Nat) : Nat → Bool
  | 0 => false
  | k + 1 => thb f n i j k || ((decide (f k = i) && decide (nxp f n k = j)) || (decide (f k = j) && decide (nxp f n k = i)))
theorem thb_iff {f : Nat → Nat} {n i j : Nat} : ∀ k, thb f n i j k = true ↔ ∃ p, p < k ∧ ((f p = i ∧ nxp f n p = j) ∨ (f p = j ∧ nxp f n p = i))
  | 0 => by simp [thb]
  | k + 1 => by
    unfold thb
    rw [Bool.or_eq_true, thb_iff k]
    simp only [Bool.or_eq_true, Bool.and_eq_true, decide_eq_true_eq]
    constructor
    · rintro (⟨p, h1, h2⟩ | h)
      · exact ⟨p, by omega, h2⟩
      · exact ⟨k, by omega, h⟩
    · rintro ⟨p, h1, h2⟩
      by_cases e : p = k
      · subst e; exact Or.inr h2
      · exact Or.inl ⟨p, by omega, h2⟩
theorem nxp_lt {n : Nat} {f : Nat → Nat} (h1 : 1 ≤ n) (hf : fok n f) {k : Nat} (hk : k < n) : nxp f n k < n := by
  unfold nxp
  split
  · exact hf.1 0 (by omega)
  · exact hf.1 (k + 1) (by omega)
def b01 (b : Bool) : Int32 := if b then 1 else 0
theorem pm_hasL {n : Nat} {f : Nat → Nat} {σ : ox_S} (h3 : 3 ≤ n) (h8 : n ≤ 8) (hn : σ.1 1 = nI n) (hf : fok n f) (h : ro 13 n f σ) {i j : Nat} (hi : i < n) (hj : j < n) : ∀ r k, k + r = n → om_Mo_has_h5 (nI i) (nI j) (b01 (thb f n i j k)) (nI k) σ = some (b01 (thb f n i j n)) := by
  intro r
  induction r with
  | zero =>
    intro k hk
    have e : k = n := by omega
    subst e
    unfold om_Mo_has_h5
    refine ox_w_inr ?_
    show om_Mo_has_b5 (nI i) (nI j) (b01 (thb f k i j k)) (nI k) σ = _
    unfold om_Mo_has_b5
    rw [hn, if_pos (nI_le (Nat.le_refl _) (by omega))]
    cases thb f k i j k <;> rfl
  | succ r ih =>
    intro k hk
    have hk2 : k < n := by omega
    rw [← ih (k + 1) (by omega)]
    unfold om_Mo_has_h5
    refine ox_w_inl ?_
    show om_Mo_has_b5 (nI i) (nI j) (b01 (thb f n i j k)) (nI k) σ = _
    have hnx := nxp_lt (by omega) hf hk2
    have hfk := hf.1 k hk2
    have q1 : (nI (f k) = nI i) ↔ f k = i := nI_eq (by omega) (by omega)
    have q2 : (nI (f k) = nI j) ↔ f k = j := nI_eq (by omega) (by omega)
    have q3 : (nI (nxp f n k) = nI i) ↔ nxp f n k = i := nI_eq (by omega) (by omega)
    have q4 : (nI (nxp f n k) = nI j) ↔ nxp f n k = j := nI_eq (by omega) (by omega)
    unfold om_Mo_has_b5 om_Mo_has_j43
    rw [hn, if_neg (nI_ge hk2 (by omega)), pm_nextAt h3 h8 hn h hk2]
    simp only [Option.bind_some, ox_let, ox_ix_nI (show k < 8 by omega) (by omega), h k hk2, nI_1, q1, q2, q3, q4]
    rw [show thb f n i j (k + 1) = (thb f n i j k || ((decide (f k = i) && decide (nxp f n k = j)) || (decide (f k = j) && decide (nxp f n k = i)))) from rfl]
    generalize thb f n i j k = w
    cases w
    · generalize f k = a
      generalize nxp f n k = b
      clear q1 q2 q3 q4 hnx hfk ih
      by_cases c1 : a = i
      · subst c1
        by_cases c4 : b = j
        · subst c4
          simp [b01]
        · by_cases c2 : a = j
          · subst c2
            simp [b01, c4]
          · simp [b01, c4, c2]
      · by_cases c2 : a = j
        · subst c2
          by_cases c3 : b = i
          · subst c3
            simp [b01, c1]
          · simp [b01, c1, c3]
        · simp [b01, c1, c2]
    · simp [b01]
theorem pm_has {n : Nat} {f : Nat → Nat} {σ : ox_S} (h3 : 3 ≤ n) (h8 : n ≤ 8) (hn : σ.1 1 = nI n) (hf : fok n f) (h : ro 13 n f σ) {i j : Nat} (hi : i < n) (hj : j < n) : om_Mo_has (nI i) (nI j) σ = some (b01 (thb f n i j n)) := pm_hasL h3 h8 hn hf h hi hj n 0 (by omega)
/-- a mark is kept at an edge -/
def pg (f : Nat → Nat) (n : Nat) (M : Nat → Nat → Int32) (i j : Nat) : Bool := if M i j = 0 then true else if M i j = 1 then thb f n i j n else !thb f n i j n
/-- at all edges of i from j on -/
def pgA (f : Nat → Nat) (n : Nat) (M : Nat → Nat → Int32) (i j : Nat) : Prop := ∀ q, j ≤ q → q < n → pg f n M i q = true
theorem pm_alJ {n : Nat} {f : Nat → Nat} {σ : ox_S} {M : Nat → Nat → Int32} (h3 : 3 ≤ n) (h8 : n ≤ 8) (hn : σ.1 1 = nI n) (hf : fok n f) (h : ro 13 n f σ) (hM : ∀ a b, a < n → b < n → σ.2 2 (8 * a + b) = M a b) {i : Nat} (hi : i < n) : ∀ r j, j + r = n → (pgA f n M i j ∧ om_Mo_allowed_h44 (1 : Int32) (nI i) (nI j) σ = some (.inl ((1 : Int32), nI (i + 1)))) ∨ (¬ pgA f n M i j ∧ om_Mo_allowed_h44 (1 : Int32) (nI i) (nI j) σ = some (.inl ((0 : Int32), nI (i + 1)))) := by
  intro r
  induction r with
  | zero =>
    intro j hj
    refine Or.inl ⟨fun q h1 h2 => by omega, ?_⟩
    unfold om_Mo_allowed_h44
    refine ox_w_inr ?_
    show om_Mo_allowed_b44 (1 : Int32) (nI i) (nI j) σ = _
    unfold om_Mo_allowed_b44
    rw [hn, if_pos (nI_le (by omega) (by omega))]
    simp only [ox_let, nI_1]
  | succ r ih =>
    intro j hj
    have hj2 : j < n := by omega
    have hb : om_Mo_allowed_b44 (1 : Int32) (nI i) (nI j) σ = some (.inl (b01 (pg f n M i j), nI (j + 1))) := by
      unfold om_Mo_allowed_b44
      rw [hn, if_neg (nI_ge hj2 (by omega)), if_neg (by decide), pm_has h3 h8 hn hf h hi hj2]
      simp only [Option.bind_some, ox_let, p_8, ox_ix_nI (show 8 * i + j < 64 by omega) (by omega), hM i j hi hj2, nI_1]
      unfold pg
      by_cases c0 : M i j = 0
      · rw [if_pos c0, if_pos c0]; rfl
      · rw [if_neg c0, if_neg c0]
        by_cases c1 : M i j = 1
        · rw [if_pos c1, if_pos c1]
          cases thb f n i j n <;> simp [b01]
        · rw [if_neg c1, if_neg c1]
          cases thb f n i j n <;> simp [b01]
    cases hp : pg f n M i j with
    | true =>
      have e : om_Mo_allowed_h44 (1 : Int32) (nI i) (nI j) σ = om_Mo_allowed_h44 (1 : Int32) (nI i) (nI (j + 1)) σ := by
        unfold om_Mo_allowed_h44
        refine ox_w_inl ?_
        show om_Mo_allowed_b44 (1 : Int32) (nI i) (nI j) σ = _
        rw [hb, hp]
        rfl
      rw [e]
      rcases ih (j + 1) (by omega) with ⟨a, b⟩ | ⟨a, b⟩
      · refine Or.inl ⟨fun q h1 h2 => ?_, b⟩
        rcases Nat.eq_or_lt_of_le h1 with z | z
        · rw [← z]; exact hp
        · exact a q z h2
      · exact Or.inr ⟨fun z => a (fun q h1 h2 => z q (by omega) h2), b⟩
    | false =>
      refine Or.inr ⟨fun z => ?_, ?_⟩
      · have := z j (Nat.le_refl _) hj2
        rw [hp] at this
        cases this
      · have e : om_Mo_allowed_h44 (1 : Int32) (nI i) (nI j) σ = om_Mo_allowed_h44 (0 : Int32) (nI i) (nI (j + 1)) σ := by
          unfold om_Mo_allowed_h44
          refine ox_w_inl ?_
          show om_Mo_allowed_b44 (1 : Int32) (nI i) (nI j) σ = _
          rw [hb, hp]
          rfl
        rw [e]
        unfold om_Mo_allowed_h44
        refine ox_w_inr ?_
        show om_Mo_allowed_b44 (0 : Int32) (nI i) (nI (j + 1)) σ = _
        unfold om_Mo_allowed_b44
        simp only [ox_let, nI_1]
        by_cases c : σ.1 1 ≤ nI (j + 1)
        · rw [if_pos c]
        · rw [if_neg c]; rfl
theorem pm_alI {n : Nat} {f : Nat → Nat} {σ : ox_S} {M : Nat → Nat → Int32} (h3 : 3 ≤ n) (h8 : n ≤ 8) (hn : σ.1 1 = nI n) (hf : fok n f) (h : ro 13 n f σ) (hM : ∀ a b, a < n → b < n → σ.2 2 (8 * a + b) = M a b) : ∀ r i, i + r = n → ((∀ a, i ≤ a → a < n → pgA f n M a (a + 1)) ∧ om_Mo_allowed_h28 (1 : Int32) (nI i) σ = some 1) ∨ ((¬ ∀ a, i ≤ a → a < n → pgA f n M a (a + 1)) ∧ om_Mo_allowed_h28 (1 : Int32) (nI i) σ = some 0) := by
  have stop : ∀ i, om_Mo_allowed_h28 (0 : Int32) (nI i) σ = some 0 := by
    intro i
    unfold om_Mo_allowed_h28
    refine ox_w_inr ?_
    show om_Mo_allowed_b28 (0 : Int32) (nI i) σ = _
    unfold om_Mo_allowed_b28
    by_cases c : σ.1 1 ≤ nI i
    · rw [if_pos c]; rfl
    · rw [if_neg c]; rfl
  intro r
  induction r with
  | zero =>
    intro i hi
    refine Or.inl ⟨fun a h1 h2 => by omega, ?_⟩
    unfold om_Mo_allowed_h28
    refine ox_w_inr ?_
    show om_Mo_allowed_b28 (1 : Int32) (nI i) σ = _
    unfold om_Mo_allowed_b28
    rw [hn, if_pos (nI_le (by omega) (by omega))]
    rfl
  | succ r ih =>
    intro i hi
    have hi2 : i < n := by omega
    have hb : om_Mo_allowed_b28 (1 : Int32) (nI i) σ = om_Mo_allowed_h44 (1 : Int32) (nI i) (nI (i + 1)) σ := by
      unfold om_Mo_allowed_b28
      rw [hn, if_neg (nI_ge hi2 (by omega)), if_neg (by decide)]
      simp only [ox_let, nI_1]
    rcases pm_alJ h3 h8 hn hf h hM hi2 (n - (i + 1)) (i + 1) (by omega) with ⟨a, b⟩ | ⟨a, b⟩
    · have e : om_Mo_allowed_h28 (1 : Int32) (nI i) σ = om_Mo_allowed_h28 (1 : Int32) (nI (i + 1)) σ := by
        unfold om_Mo_allowed_h28
        refine ox_w_inl ?_
        show om_Mo_allowed_b28 (1 : Int32) (nI i) σ = _
        rw [hb, b]
      rw [e]
      rcases ih (i + 1) (by omega) with ⟨a2, b2⟩ | ⟨a2, b2⟩
      · refine Or.inl ⟨fun q h1 h2 => ?_, b2⟩
        rcases Nat.eq_or_lt_of_le h1 with z | z
        · rw [← z]; exact a
        · exact a2 q z h2
      · exact Or.inr ⟨fun z => a2 (fun q h1 h2 => z q (by omega) h2), b2⟩
    · refine Or.inr ⟨fun z => a (z i (Nat.le_refl _) hi2), ?_⟩
      have e : om_Mo_allowed_h28 (1 : Int32) (nI i) σ = om_Mo_allowed_h28 (0 : Int32) (nI (i + 1)) σ := by
        unfold om_Mo_allowed_h28
        refine ox_w_inl ?_
        show om_Mo_allowed_b28 (1 : Int32) (nI i) σ = _
        rw [hb, b]
      rw [e]
      exact stop _
/-- allowed: the row is the first of its two, and keeps all marks -/
theorem pm_allowed {n : Nat} {f : Nat → Nat} {σ : ox_S} {M : Nat → Nat → Int32} (h3 : 3 ≤ n) (h8 : n ≤ 8) (hn : σ.1 1 = nI n) (hf : fok n f) (h : ro 13 n f σ) (hM : ∀ a b, a < n → b < n → σ.2 2 (8 * a + b) = M a b) : ((f 1 < f (n - 1) ∧ ∀ i j, i < j → j < n → pg f n M i j = true) ∧ om_Mo_allowed σ = some 1) ∨ ((¬ (f 1 < f (n - 1) ∧ ∀ i j, i < j → j < n → pg f n M i j = true)) ∧ om_Mo_allowed σ = some 0) := by
  have l1 := hf.1 1 (by omega)
  have l2 := hf.1 (n - 1) (by omega)
  have hb : om_Mo_allowed σ = if nI (f (n - 1)) ≤ nI (f 1) then om_Mo_allowed_h28 (0 : Int32) (nI 0) σ else om_Mo_allowed_h28 (1 : Int32) (nI 0) σ := by
    unfold om_Mo_allowed
    rw [show (1 : Int32) = nI 1 from rfl, ox_ix_nI (by omega) (by omega), hn, pk_sub (by omega), ox_ix_nI (show n - 1 < 8 by omega) (by omega), h 1 (by omega), h (n - 1) (by omega)]
    rfl
  rw [hb]
  by_cases c : f 1 < f (n - 1)
  · rw [if_neg (nI_ge c (by omega))]
    rcases pm_alI h3 h8 hn hf h hM n 0 (by omega) with ⟨a, b⟩ | ⟨a, b⟩
    · exact Or.inl ⟨⟨c, fun i j hij hj => a i (by omega) (by omega) j (by omega) hj⟩, b⟩
    · exact Or.inr ⟨fun z => a (fun i _ hi q h1 h2 => z.2 i q (by omega) h2), b⟩
  · rw [if_pos (nI_le (by omega) (by omega))]
    refine Or.inr ⟨fun z => c z.1, ?_⟩
    unfold om_Mo_allowed_h28
    refine ox_w_inr ?_
    show om_Mo_allowed_b28 (0 : Int32) (nI 0) σ = _
    unfold om_Mo_allowed_b28
    by_cases c : σ.1 1 ≤ nI 0
    · rw [if_pos c]; rfl
    · rw [if_neg c]; rfl
/-! the class's sets of edges -/
theorem es_bt {n : Nat} {f : Nat → Nat} (h8 : n ≤ 8) (hf : fok n f) (h2 : 2 ≤ n) : ∀ k, k ≤ n → ∀ e, e < 32 → (bt (tr_es n f k) e = true ↔ ∃ p, p < k ∧ es2 n (pv f n p) (f p) = e)
  | 0, _, e, he => by
    show bt 0 e = true ↔ _
    rw [b_0]
    simp
  | k + 1, hk, e, he => by
    have ih := es_bt h8 hf h2 k (by omega) e he
    have hpv : pv f n k < n ∧ pv f n k ≠ f k := by
      unfold pv
      by_cases z : k = 0
      · rw [if_pos z]
        refine ⟨hf.1 _ (by omega), fun q => ?_⟩
        have := hf.2.1 _ _ (by omega) (by omega) q
        omega
      · rw [if_neg z]
        refine ⟨hf.1 _ (by omega), fun q => ?_⟩
        have := hf.2.1 _ _ (by omega) (by omega) q
        omega
    have hlt := es2_28 h8 hpv.1 (hf.1 k (by omega)) hpv.2
    show bt (tr_es n f k ||| ((1 : Int32) <<< (nI (es2 n (pv f n k) (f k)) &&& 31))) e = true ↔ _
    rw [b_set _ _ (by omega) he, Bool.or_eq_true, ih, decide_eq_true_eq]
    constructor
    · rintro (⟨p, h1, h2⟩ | h)
      · exact ⟨p, by omega, h2⟩
      · exact ⟨k, by omega, h.symm⟩
    · rintro ⟨p, h1, h2⟩
      by_cases z : p = k
      · subst z; exact Or.inr h2.symm
      · exact Or.inl ⟨p, by omega, h2⟩
theorem es2_en {n a b i j : Nat} (h8 : n ≤ 8) (ha : a < n) (hb : b < n) (hab : a ≠ b) (hij : i < j) (hj : j < n) : es2 n a b = en n i j ↔ (a = i ∧ b = j) ∨ (a = j ∧ b = i) := by
  unfold es2
  by_cases h1 : a < b
  · rw [if_pos h1]
    constructor
    · intro e
      exact Or.inl (en_inj h8 hb h1 hj hij e)
    · rintro (⟨rfl, rfl⟩ | ⟨rfl, rfl⟩)
      · rfl
      · omega
  · rw [if_neg h1]
    constructor
    · intro e
      have := en_inj h8 ha (by omega) hj hij e
      exact Or.inr ⟨this.2, this.1⟩
    · rintro (⟨rfl, rfl⟩ | ⟨rfl, rfl⟩)
      · omega
      · rfl
/-- an edge is in the row's set where its ends are neighbours -/
theorem es_has {n : Nat} {f : Nat → Nat} (h3 : 3 ≤ n) (h8 : n ≤ 8) (hf : fok n f) {i j : Nat} (hij : i < j) (hj : j < n) : bt (tr_es n f n) (en n i j) = thb f n i j n := by
  have he := en_28 h8 hj hij
  have key : bt (tr_es n f n) (en n i j) = true ↔ thb f n i j n = true := by
    rw [es_bt h8 hf (by omega) n (Nat.le_refl _) _ (by omega), thb_iff]
    constructor
    · rintro ⟨p, hp, e⟩
      by_cases z : p = 0
      · subst z
        refine ⟨n - 1, by omega, ?_⟩
        have h0 : nxp f n (n - 1) = f 0 := by unfold nxp; rw [if_pos (by omega)]
        have h1 : pv f n 0 = f (n - 1) := by unfold pv; rw [if_pos rfl]
        rw [h0]
        rw [h1] at e
        have := (es2_en h8 (hf.1 _ (by omega)) (hf.1 _ (by omega)) (fun q => by have := hf.2.1 _ _ (by omega) (by omega) q; omega) hij hj).mp e
        exact this
      · refine ⟨p - 1, by omega, ?_⟩
        have h0 : nxp f n (p - 1) = f p := by unfold nxp; rw [if_neg (by omega)]; congr 1; omega
        have h1 : pv f n p = f (p - 1) := by unfold pv; rw [if_neg z]
        rw [h0]
        rw [h1] at e
        exact (es2_en h8 (hf.1 _ (by omega)) (hf.1 _ (by omega)) (fun q => by have := hf.2.1 _ _ (by omega) (by omega) q; omega) hij hj).mp e
    · rintro ⟨p, hp, e⟩
      by_cases z : p + 1 = n
      · refine ⟨0, by omega, ?_⟩
        have h0 : nxp f n p = f 0 := by unfold nxp; rw [if_pos z]
        have h1 : pv f n 0 = f p := by unfold pv; rw [if_pos rfl]; congr 1; omega
        rw [h1]
        rw [h0] at e
        exact (es2_en h8 (hf.1 _ (by omega)) (hf.1 _ (by omega)) (fun q => by have := hf.2.1 _ _ (by omega) (by omega) q; omega) hij hj).mpr e
      · refine ⟨p + 1, by omega, ?_⟩
        have h0 : nxp f n p = f (p + 1) := by unfold nxp; rw [if_neg z]
        have h1 : pv f n (p + 1) = f p := by unfold pv; rw [if_neg (by omega)]; rfl
        rw [h1]
        rw [h0] at e
        exact (es2_en h8 (hf.1 _ (by omega)) (hf.1 _ (by omega)) (fun q => by have := hf.2.1 _ _ (by omega) (by omega) q; omega) hij hj).mpr e
  cases h1 : bt (tr_es n f n) (en n i j) <;> cases h2 : thb f n i j n <;> simp_all
/-- keepsTo, edge by edge -/
theorem pc_keeps {n : Nat} (h8 : n ≤ 8) {S R B : Int32} {σ : ox_S} (hR : ∀ e, n * (n - 1) / 2 ≤ e → bt R e = false) (hB : ∀ e, n * (n - 1) / 2 ≤ e → bt B e = false) : ((∀ i j, i < j → j < n → (bt R (en n i j) = true → bt S (en n i j) = true) ∧ (bt B (en n i j) = true → bt S (en n i j) = false)) ∧ oc_T_keepsTo S R B σ = some 1) ∨ ((¬ ∀ i j, i < j → j < n → (bt R (en n i j) = true → bt S (en n i j) = true) ∧ (bt B (en n i j) = true → bt S (en n i j) = false)) ∧ oc_T_keepsTo S R B σ = some 0) := by
  have e1 : S &&& R = R ↔ ∀ i j, i < j → j < n → bt R (en n i j) = true → bt S (en n i j) = true := by
    constructor
    · intro h i j hij hj hb
      have h1 : bt (S &&& R) (en n i j) = bt R (en n i j) := by rw [h]
      rw [b_and, hb] at h1
      simpa using h1
    · intro h
      apply b_ext
      intro e he
      rw [b_and]
      cases hb : bt R e with
      | false => simp
      | true =>
        have hlt : e < n * (n - 1) / 2 := by
          rcases Nat.lt_or_ge e (n * (n - 1) / 2) with z | z
          · exact z
          · rw [hR e z] at hb; cases hb
        obtain ⟨i, j, hij, hj, rfl⟩ := en_ex h8 hlt
        rw [h i j hij hj hb]
        rfl
  have e2 : S &&& B = 0 ↔ ∀ i j, i < j → j < n → bt B (en n i j) = true → bt S (en n i j) = false := by
    constructor
    · intro h i j hij hj hb
      have h1 : bt (S &&& B) (en n i j) = false := by rw [h]; exact b_0 _
      rw [b_and, hb] at h1
      simpa using h1
    · intro h
      apply b_ext
      intro e he
      rw [b_and, b_0]
      cases hb : bt B e with
      | false => simp
      | true =>
        have hlt : e < n * (n - 1) / 2 := by
          rcases Nat.lt_or_ge e (n * (n - 1) / 2) with z | z
          · exact z
          · rw [hB e z] at hb; cases hb
        obtain ⟨i, j, hij, hj, rfl⟩ := en_ex h8 hlt
        rw [h i j hij hj hb]
        rfl
  unfold oc_T_keepsTo
  by_cases c1 : S &&& R = R
  · rw [if_pos c1]
    by_cases c2 : S &&& B = 0
    · rw [if_pos c2]
      exact Or.inl ⟨fun i j hij hj => ⟨e1.mp c1 i j hij hj, e2.mp c2 i j hij hj⟩, rfl⟩
    · rw [if_neg c2]
      exact Or.inr ⟨fun z => c2 (e2.mpr (fun i j hij hj => (z i j hij hj).2)), rfl⟩
  · rw [if_neg c1]
    exact Or.inr ⟨fun z => c1 (e1.mpr (fun i j hij hj => (z i j hij hj).1)), rfl⟩
