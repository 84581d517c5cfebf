/-! improve: the nearest open city -/
theorem pigeon : ∀ k n (f : Nat → Nat), (∀ c, c < n → ∃ p, p < k ∧ f p = c) → n ≤ k
  | 0, n, f, h => by
    rcases Nat.eq_zero_or_pos n with z | z
    · omega
    · obtain ⟨p, hp, _⟩ := h 0 z
      omega
  | k + 1, 0, f, h => by omega
  | k + 1, n + 1, f, h => by
    have := pigeon k n (fun p => if f p = n then f k else f p) (fun c hc => by
      obtain ⟨p, hp, e⟩ := h c (by omega)
      by_cases z : p = k
      · subst z
        obtain ⟨q, hq, e2⟩ := h n (by omega)
        have hqk : q ≠ p := fun z => by subst z; omega
        exact ⟨q, by omega, by rw [if_pos e2]; exact e⟩
      · exact ⟨p, by omega, by rw [if_neg (by omega)]; exact e⟩)
    omega
theorem p_gain {A B : Nat} (hA : A < 2 ^ 30) (hB : B < 2 ^ 30) : nI A - nI B ≤ 0 ↔ A ≤ B := by
  rw [Int32.le_iff_toInt_le, Int32.toInt_sub, nI_toInt (by omega), nI_toInt (by omega), Int.bmod_eq_of_le (by omega) (by omega)]
  show (A : Int) - B ≤ 0 ↔ _
  omega
theorem pc_btw {n : Nat} {d : Nat → Nat → Nat} {σ : ox_S} (h8 : n ≤ 8) (hd : ∀ i j, i < n → j < n → σ.2 6 (8 * i + j) = nI (d i j)) {a b : Nat} (ha : a < n) (hb : b < n) : oc_Land_between (nI a) (nI b) σ = some (nI (d a b)) := by
  unfold oc_Land_between
  rw [p_8', ox_ix_nI (show 8 * a + b < 64 by omega) (by omega), hd a b ha hb]
section NR
variable {n : Nat} {f : Nat → Nat} {d : Nat → Nat → Nat}
/-- the reference asks whether a city is met -/
theorem pm_nr35 (h8 : n ≤ 8) {k j : Nat} (hk : k < n) (hj : j < n) (hfk : ∀ p, p < k → f p < n) {x2 : Int32} {σ : ox_S} (h : ∀ p, p < k → σ.2 13 p = nI (f p)) : ∀ r p, p + r = k → ∀ w, (w = true ↔ ∃ q, q < p ∧ f q = j) → ∃ W, (W = true ↔ ∃ q, q < k ∧ f q = j) ∧ om_Mo_nearest_h35 (nI k) x2 (nI j) (b01 w) (nI p) σ = om_Mo_nearest_h35 (nI k) x2 (nI j) (b01 W) (nI k) σ := by
  intro r
  induction r with
  | zero =>
    intro p hp w hw
    have e : p = k := by omega
    subst e
    exact ⟨w, hw, rfl⟩
  | succ r ih =>
    intro p hp w hw
    obtain ⟨W, a1, a2⟩ := ih (p + 1) (by omega) (w || decide (f p = j)) (by
      rw [Bool.or_eq_true, hw, decide_eq_true_eq]
      constructor
      · rintro (⟨q, z1, z2⟩ | z)
        · exact ⟨q, by omega, z2⟩
        · exact ⟨p, by omega, z⟩
      · rintro ⟨q, z1, z2⟩
        by_cases z : q = p
        · subst z; exact Or.inr z2
        · exact Or.inl ⟨q, by omega, z2⟩)
    refine ⟨W, a1, ?_⟩
    rw [← a2]
    unfold om_Mo_nearest_h35
    refine ox_w_inl ?_
    show om_Mo_nearest_b35 (nI k) x2 (nI j) (b01 w) (nI p) σ = _
    have hfp := hfk p (by omega)
    have q1 : (nI (f p) = nI j) ↔ f p = j := nI_eq (by omega) (by omega)
    unfold om_Mo_nearest_b35
    rw [if_neg (nI_ge (show p < k by omega) (by omega))]
    simp only [ox_let, nI_1, ox_ix_nI (show p < 8 by omega) (show 8 < 2 ^ 31 by omega), h p (by omega), q1]
    cases w
    · by_cases z : f p = j <;> simp [b01, z]
    · simp [b01]
/-- both look for the nearest -/
theorem pk_near (h8 : n ≤ 8) {k : Nat} (hk1 : 1 ≤ k) (hk : k < n) (hfk : ∀ p, p < k → f p < n) (hf0 : f 0 = 0) {c σ : ox_S} (hdc : ∀ i j, i < n → j < n → c.2 6 (8 * i + j) = nI (d i j)) (hdm : ∀ i j, i < n → j < n → σ.2 1 (8 * i + j) = nI (d i j)) (hd9 : ∀ i j, i < n → j < n → d i j ≤ 9999) (hnc : c.1 10 = nI n) (hnm : σ.1 1 = nI n) {met : Int32} (hm : metk f n k met) (h : ∀ p, p < k → σ.2 13 p = nI (f p)) :
    ∀ r j, j + r = n → 1 ≤ j → ∀ b, ((b = 0 ∧ ∀ q, q < j → ∃ p, p < k ∧ f p = q) ∨ (1 ≤ b ∧ b < n ∧ ∀ p, p < k → f p ≠ b)) → ∃ b', 1 ≤ b' ∧ b' < n ∧ (∀ p, p < k → f p ≠ b') ∧ oc_Round_nearest_h5 (nI (f (k - 1))) met (nI b) (nI j) c = some (nI b') ∧ om_Mo_nearest_h21 (nI k) (if b = 0 then -1 else nI b) (nI j) σ = some (.inl (nI (k + 1), ox_s2 σ 13 k (nI b'))) := by
  intro r
  induction r with
  | zero =>
    intro j hj hj1 b hb
    have e : j = n := by omega
    subst e
    rcases hb with ⟨_, b2⟩ | ⟨b1, b2, b3⟩
    · have := pigeon k j f b2
      omega
    · refine ⟨b, b1, b2, b3, ?_, ?_⟩
      · unfold oc_Round_nearest_h5
        refine ox_w_inr ?_
        show oc_Round_nearest_b5 _ met (nI b) (nI j) c = _
        unfold oc_Round_nearest_b5
        rw [hnc, if_pos (nI_le (Nat.le_refl _) (by omega))]
      · rw [if_neg (by omega)]
        unfold om_Mo_nearest_h21
        refine ox_w_inr ?_
        show om_Mo_nearest_b21 (nI k) (nI b) (nI j) σ = _
        unfold om_Mo_nearest_b21
        rw [hnm, if_pos (nI_le (Nat.le_refl _) (by omega)), ox_ix_nI (show k < 8 by omega) (by omega)]
        simp only [ox_let, nI_1]
  | succ r ih =>
    intro j hj hj1 b hb
    have hj2 : j < n := by omega
    have hfa := hfk (k - 1) (by omega)
    obtain ⟨W, w1, w2⟩ := pm_nr35 (x2 := if b = 0 then -1 else nI b) h8 hk hj2 hfk h k 0 (by omega) false ⟨(fun z => by cases z), fun ⟨q, z, _⟩ => by omega⟩
    have hmj := hm j hj2
    have hbit := b_ask met j (by omega)
    have fin : om_Mo_nearest_b21 (nI k) (if b = 0 then -1 else nI b) (nI j) σ = om_Mo_nearest_h35 (nI k) (if b = 0 then -1 else nI b) (nI j) (b01 W) (nI k) σ := by
      unfold om_Mo_nearest_b21
      rw [hnm, if_neg (nI_ge hj2 (by omega))]
      exact w2
    have go : ∀ b2 : Nat, oc_Round_nearest_b5 (nI (f (k - 1))) met (nI b) (nI j) c = some (.inl (nI b2, nI (j + 1))) → om_Mo_nearest_h35 (nI k) (if b = 0 then -1 else nI b) (nI j) (b01 W) (nI k) σ = some (.inl (if b2 = 0 then -1 else nI b2, nI (j + 1))) → ((b2 = 0 ∧ ∀ q, q < j + 1 → ∃ p, p < k ∧ f p = q) ∨ (1 ≤ b2 ∧ b2 < n ∧ ∀ p, p < k → f p ≠ b2)) → ∃ b', 1 ≤ b' ∧ b' < n ∧ (∀ p, p < k → f p ≠ b') ∧ oc_Round_nearest_h5 (nI (f (k - 1))) met (nI b) (nI j) c = some (nI b') ∧ om_Mo_nearest_h21 (nI k) (if b = 0 then -1 else nI b) (nI j) σ = some (.inl (nI (k + 1), ox_s2 σ 13 k (nI b'))) := by
      intro b2 e1 e2 e3
      obtain ⟨b', t1, t2, t3, t4, t5⟩ := ih (j + 1) (by omega) (by omega) b2 e3
      refine ⟨b', t1, t2, t3, ?_, ?_⟩
      · rw [← t4]
        unfold oc_Round_nearest_h5
        exact ox_w_inl e1
      · rw [← t5]
        unfold om_Mo_nearest_h21
        refine ox_w_inl ?_
        show om_Mo_nearest_b21 (nI k) (if b = 0 then -1 else nI b) (nI j) σ = _
        rw [fin, e2]
    have hk1' : nI k - (1 : Int32) = nI (k - 1) := p_sub1 hk1
    have fin2 : ∀ t, om_Mo_nearest_b35 (nI k) (if b = 0 then -1 else nI b) (nI j) (b01 W) (nI k) σ = some (.inr t) → om_Mo_nearest_h35 (nI k) (if b = 0 then -1 else nI b) (nI j) (b01 W) (nI k) σ = some t := by
      intro t ht
      unfold om_Mo_nearest_h35
      exact ox_w_inr ht
    cases hW : W with
    | true =>
      -- met
      have hmet : ∃ q, q < k ∧ f q = j := w1.mp hW
      have hbt : bt met j = true := hmj.mpr hmet
      rw [hW] at go fin2
      refine go b ?_ (fin2 _ ?_) ?_
      · unfold oc_Round_nearest_b5 oc_Round_nearest_j31
        rw [hnc, if_neg (nI_ge hj2 (by omega)), if_neg (fun z => by rw [hbit.mp z] at hbt; cases hbt), if_pos rfl]
        simp only [ox_let, nI_1]
      · unfold om_Mo_nearest_b35
        rw [if_pos (nI_le (Nat.le_refl _) (by omega)), hk1', ox_ix_nI (show k - 1 < 8 by omega) (by omega)]
        simp only [ox_let, nI_1]
        rw [if_neg (by decide)]
      · rcases hb with ⟨b1, b2⟩ | z
        · refine Or.inl ⟨b1, fun q hq => ?_⟩
          by_cases e : q = j
          · subst e; exact hmet
          · exact b2 q (by omega)
        · exact Or.inr z
    | false =>
      have hmet : ¬ ∃ q, q < k ∧ f q = j := fun z => by rw [w1.mpr z] at hW; cases hW
      have hbt : bt met j = false := by
        cases z : bt met j with
        | false => rfl
        | true => exact absurd (hmj.mp z) hmet
      rw [hW] at go fin2
      have hopen : 1 ≤ j ∧ j < n ∧ ∀ p, p < k → f p ≠ j := ⟨hj1, hj2, fun p hp e => hmet ⟨p, hp, e⟩⟩
      have hcls : oc_Round_nearest_b5 (nI (f (k - 1))) met (nI b) (nI j) c = oc_Round_nearest_j31 (nI (f (k - 1))) met (nI b) (nI j) 1 c := by
        unfold oc_Round_nearest_b5
        rw [hnc, if_neg (nI_ge hj2 (by omega)), if_pos (hbit.mpr hbt)]
      have href : ∀ x2 : Int32, om_Mo_nearest_b35 (nI k) x2 (nI j) (b01 false) (nI k) σ = (if x2 < 0 then some (.inr (.inl (nI j, nI (j + 1)))) else ox_ix (((8 : Int32) * nI (f (k - 1))) + nI j) 64 fun j10 => ox_ix (((8 : Int32) * nI (f (k - 1))) + x2) 64 fun j11 => if (σ.2 1 j11) ≤ (σ.2 1 j10) then some (.inr (.inl (x2, nI (j + 1)))) else some (.inr (.inl (nI j, nI (j + 1))))) := by
        intro x2
        unfold om_Mo_nearest_b35
        rw [if_pos (nI_le (Nat.le_refl _) (by omega)), hk1', ox_ix_nI (show k - 1 < 8 by omega) (by omega)]
        simp only [ox_let, nI_1]
        rw [if_pos (by decide), h (k - 1) (by omega)]
      by_cases hb0 : b = 0
      · -- the first that is open
        refine go j ?_ (fin2 _ ?_) (Or.inr hopen)
        · rw [hcls]
          unfold oc_Round_nearest_j31
          rw [if_neg (by decide), hb0, if_pos (show nI 0 = 0 from rfl)]
          simp only [ox_let, nI_1]
        · rw [href, if_pos hb0, if_pos (by decide), if_neg (by omega)]
      · obtain ⟨b1, b2, b3⟩ := hb.resolve_left (fun z => hb0 z.1)
        have da := hd9 (f (k - 1)) b hfa b2
        have dj := hd9 (f (k - 1)) j hfa hj2
        have hcls2 : oc_Round_nearest_j31 (nI (f (k - 1))) met (nI b) (nI j) 1 c = if nI (d (f (k - 1)) b) ≤ nI (d (f (k - 1)) j) then some (.inl (nI b, nI (j + 1))) else some (.inl (nI j, nI (j + 1))) := by
          unfold oc_Round_nearest_j31
          rw [if_neg (by decide), if_neg (nI_ne0 (by omega) (by omega)), pc_btw h8 hdc hfa hj2, pc_btw h8 hdc hfa b2]
          simp only [Option.bind_some, ox_let, nI_1]
        have href2 : om_Mo_nearest_b35 (nI k) (if b = 0 then -1 else nI b) (nI j) (b01 false) (nI k) σ = if nI (d (f (k - 1)) b) ≤ nI (d (f (k - 1)) j) then some (.inr (.inl (nI b, nI (j + 1)))) else some (.inr (.inl (nI j, nI (j + 1)))) := by
          rw [href, if_neg hb0, if_neg (nI_pos (by omega)), p_8, p_8, ox_ix_nI (show 8 * f (k - 1) + j < 64 by omega) (by omega), ox_ix_nI (show 8 * f (k - 1) + b < 64 by omega) (by omega), hdm _ _ hfa b2, hdm _ _ hfa hj2]
        by_cases hle : d (f (k - 1)) b ≤ d (f (k - 1)) j
        · refine go b ?_ (fin2 _ ?_) (Or.inr ⟨b1, b2, b3⟩)
          · rw [hcls, hcls2, if_pos (nI_le hle (by omega))]
          · rw [href2, if_pos (nI_le hle (by omega)), if_neg hb0]
        · refine go j ?_ (fin2 _ ?_) (Or.inr hopen)
          · rw [hcls, hcls2, if_neg (nI_ge (by omega) (by omega))]
          · rw [href2, if_neg (nI_ge (by omega) (by omega)), if_neg (by omega)]
theorem metk_eq {g : Nat → Nat} {k : Nat} {x : Int32} (h : metk f n k x) (e : ∀ p, p < k → f p = g p) : metk g n k x := by
  intro c hc
  rw [h c hc]
  constructor
  · rintro ⟨p, h1, h2⟩
    exact ⟨p, h1, by rw [← e p h1]; exact h2⟩
  · rintro ⟨p, h1, h2⟩
    exact ⟨p, h1, by rw [e p h1]; exact h2⟩
theorem pk_nearL (h8 : n ≤ 8) {c0 m0 : ox_S} (hdc : ∀ i j, i < n → j < n → c0.2 6 (8 * i + j) = nI (d i j)) (hdm : ∀ i j, i < n → j < n → m0.2 1 (8 * i + j) = nI (d i j)) (hd9 : ∀ i j, i < n → j < n → d i j ≤ 9999) (hnc : c0.1 10 = nI n) (hnm : m0.1 1 = nI n) : ∀ r k, k + r = n → 1 ≤ k → ∀ (f : Nat → Nat) met c m, (∀ p, p < k → f p < n) → (∀ p q, p < k → q < k → f p = f q → p = q) → f 0 = 0 → metk f n k met → fr [18] [16] c0 c → fr [] [13] m0 m → (∀ p, p < k → c.2 16 p = nI (f p)) → (∀ p, p < k → m.2 13 p = nI (f p)) → ∃ f' c' m', fok n f' ∧ oc_Round_goToNearest_h11 met (nI k) c = some c' ∧ om_Mo_nearest_h9 (nI k) m = some m' ∧ fr [18] [16] c0 c' ∧ fr [] [13] m0 m' ∧ c'.1 18 = 1 ∧ ro 16 n f' c' ∧ ro 13 n f' m' := by
  intro r
  induction r with
  | zero =>
    intro k hk hk1 f met c m hf1 hf2 hf0 hmk hc hm hrc hrm
    have e : k = n := by omega
    subst e
    refine ⟨f, ox_s1 c 18 1, m, ⟨hf1, hf2, hf0⟩, ?_, ?_, fr_tr hc (fr_s1 (by decide)), hm, rfl, hrc, hrm⟩
    · unfold oc_Round_goToNearest_h11
      refine ox_w_inr ?_
      show oc_Round_goToNearest_b11 met (nI k) c = _
      unfold oc_Round_goToNearest_b11
      rw [hc.1 10 (by decide), hnc, if_pos (nI_le (Nat.le_refl _) (by omega))]
      rfl
    · unfold om_Mo_nearest_h9
      refine ox_w_inr ?_
      show om_Mo_nearest_b9 (nI k) m = _
      unfold om_Mo_nearest_b9
      rw [hm.1 1 (by decide), hnm, if_pos (nI_le (Nat.le_refl _) (by omega))]
  | succ r ih =>
    intro k hk hk1 f met c m hf1 hf2 hf0 hmk hc hm hrc hrm
    have hk2 : k < n := by omega
    have hncc : c.1 10 = nI n := by rw [hc.1 10 (by decide)]; exact hnc
    have hnmm : m.1 1 = nI n := by rw [hm.1 1 (by decide)]; exact hnm
    obtain ⟨b, b1, b2, b3, b4, b5⟩ := pk_near h8 hk1 hk2 hf1 hf0 (c := c) (σ := m) (fun i j hi hj => by rw [hc.2 6 (by decide)]; exact hdc i j hi hj) (fun i j hi hj => by rw [hm.2 1 (by decide)]; exact hdm i j hi hj) hd9 hncc hnmm hmk hrm (n - 1) 1 (by omega) (Nat.le_refl _) 0 (Or.inl ⟨rfl, fun q hq => ⟨0, by omega, by omega⟩⟩)
    have hup : ∀ p, p < k → f p = (if p = k then b else f p) := fun p hp => (if_neg (by omega)).symm
    have hmk2 := metk_up (f := fun p => if p = k then b else f p) h8 (metk_eq hmk hup) (show (if k = k then b else f k) < n by rw [if_pos rfl]; exact b2)
    simp only [if_true] at hmk2
    obtain ⟨f', c', m', t1, t2, t3, t4⟩ := ih (k + 1) (by omega) (by omega) (fun p => if p = k then b else f p) (met ||| ((1 : Int32) <<< (nI b &&& 31))) (ox_s2 c 16 k (nI b)) (ox_s2 m 13 k (nI b)) (fun p hp => by
        by_cases e : p = k
        · rw [if_pos e]; exact b2
        · rw [if_neg e]; exact hf1 p (by omega)) (fun p q hp hq e => by
        by_cases e1 : p = k
        · by_cases e2 : q = k
          · omega
          · rw [if_pos e1, if_neg e2] at e
            exact absurd e.symm (b3 q (by omega))
        · by_cases e2 : q = k
          · rw [if_neg e1, if_pos e2] at e
            exact absurd e (b3 p (by omega))
          · rw [if_neg e1, if_neg e2] at e
            exact hf2 p q (by omega) (by omega) e) (by rw [if_neg (by omega)]; exact hf0) hmk2 (fr_tr hc (fr_s2 (by decide))) (fr_tr hm (fr_s2 (by decide))) (fun p hp => by
        rw [s2_at]
        by_cases e : p = k
        · rw [if_pos ⟨rfl, e⟩, if_pos e]
        · rw [if_neg (fun z => e z.2), if_neg e]; exact hrc p (by omega)) (fun p hp => by
        rw [s2_at]
        by_cases e : p = k
        · rw [if_pos ⟨rfl, e⟩, if_pos e]
        · rw [if_neg (fun z => e z.2), if_neg e]; exact hrm p (by omega))
    refine ⟨f', c', m', t1, ?_, ?_, t4⟩
    · rw [← t2]
      unfold oc_Round_goToNearest_h11
      refine ox_w_inl ?_
      show oc_Round_goToNearest_b11 met (nI k) c = _
      unfold oc_Round_goToNearest_b11 oc_Round_nearest
      rw [hncc, if_neg (nI_ge hk2 (by omega)), p_sub1 hk1, ox_ix_nI (show k - 1 < 8 by omega) (by omega), hrc (k - 1) (by omega)]
      rw [show oc_Round_nearest_h5 (nI (f (k - 1))) met (0 : Int32) (1 : Int32) c = some (nI b) from b4]
      simp only [Option.bind_some, ox_let, nI_1, ox_ix_nI (show k < 8 by omega) (show 8 < 2 ^ 31 by omega)]
      rw [s2_at, if_pos ⟨rfl, rfl⟩]
    · rw [← t3]
      unfold om_Mo_nearest_h9
      refine ox_w_inl ?_
      show om_Mo_nearest_b9 (nI k) m = _
      unfold om_Mo_nearest_b9
      rw [hnmm, if_neg (nI_ge hk2 (by omega))]
      exact b5
/-- both start with the same row -/
theorem pk_nearest (h3 : 3 ≤ n) (h8 : n ≤ 8) {c0 m0 : ox_S} (hdc : ∀ i j, i < n → j < n → c0.2 6 (8 * i + j) = nI (d i j)) (hdm : ∀ i j, i < n → j < n → m0.2 1 (8 * i + j) = nI (d i j)) (hd9 : ∀ i j, i < n → j < n → d i j ≤ 9999) (hnc : c0.1 10 = nI n) (hnm : m0.1 1 = nI n) : ∃ f' c' m', fok n f' ∧ oc_Round_goToNearest c0 = some c' ∧ om_Mo_nearest m0 = some m' ∧ fr [18] [16] c0 c' ∧ fr [] [13] m0 m' ∧ c'.1 18 = 1 ∧ ro 16 n f' c' ∧ ro 13 n f' m' := by
  obtain ⟨f', c', m', t1, t2, t3, t4⟩ := pk_nearL h8 hdc hdm hd9 hnc hnm (n - 1) 1 (by omega) (Nat.le_refl _) (fun _ => 0) 1 (ox_s2 c0 16 0 0) (ox_s2 m0 13 0 0) (fun p hp => by omega) (fun p q hp hq _ => by omega) rfl (fun c hc2 => by
    rw [(by decide +kernel : ∀ c, c < 8 → bt 1 c = decide (c = 0)) c (by omega), decide_eq_true_eq]
    constructor
    · intro e
      exact ⟨0, by omega, e.symm⟩
    · rintro ⟨p, h1, h2⟩
      exact h2.symm) (fr_s2 (by decide)) (fr_s2 (by decide)) (fun p hp => by
    have : p = 0 := by omega
    subst this
    rw [s2_at, if_pos ⟨rfl, rfl⟩]
    rfl) (fun p hp => by
    have : p = 0 := by omega
    subst this
    rw [s2_at, if_pos ⟨rfl, rfl⟩]
    rfl)
  refine ⟨f', c', m', t1, ?_, ?_, t4⟩
  · unfold oc_Round_goToNearest
    rw [show ox_ix (0 : Int32) 8 = ox_ix (nI 0) 8 from rfl, ox_ix_nI (by omega) (by omega)]
    exact t2
  · unfold om_Mo_nearest
    rw [show ox_ix (0 : Int32) 8 = ox_ix (nI 0) 8 from rfl, ox_ix_nI (by omega) (by omega)]
    exact t3
end NR
