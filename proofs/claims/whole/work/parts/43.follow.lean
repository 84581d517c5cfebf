/-! follow, keep, firstTour -/
theorem p_sub1 {k : Nat} (h : 1 ≤ k) : nI k - (1 : Int32) = nI (k - 1) := pk_sub (b := 1) h
theorem b_test (x : Int32) (e : Nat) (he : e < 32) : x &&& ((1 : Int32) <<< (nI e &&& 31)) = 0 ↔ bt x e = false := by
  constructor
  · intro h
    have h1 : bt (x &&& ((1 : Int32) <<< (nI e &&& 31))) e = false := by rw [h]; exact b_0 _
    rw [b_and, b_one e he he] at h1
    simpa using h1
  · intro h
    apply b_ext
    intro i hi
    rw [b_and, b_one e he hi, b_0]
    by_cases z : i = e
    · subst z; rw [h]; simp
    · simp [z]
theorem thb_sym (f : Nat → Nat) (n i j k : Nat) : thb f n i j k = thb f n j i k := by
  have key : thb f n i j k = true ↔ thb f n j i k = true := by
    rw [thb_iff, thb_iff]
    constructor <;> (rintro ⟨p, h1, h2⟩; exact ⟨p, h1, h2.symm⟩)
  cases h1 : thb f n i j k <;> cases h2 : thb f n j i k <;> simp_all
theorem es_has2 {n : Nat} {f : Nat → Nat} (h3 : 3 ≤ n) (h8 : n ≤ 8) (hf : fok n f) {i j : Nat} (hi : i < n) (hj : j < n) (hij : i ≠ j) : bt (tr_es n f n) (es2 n i j) = thb f n i j n := by
  unfold es2
  by_cases h : i < j
  · rw [if_pos h]; exact es_has h3 h8 hf h hj
  · rw [if_neg h, es_has h3 h8 hf (by omega) hi, thb_sym]
/-- the cities met are those of the first k places -/
def metk (f : Nat → Nat) (n k : Nat) (x : Int32) : Prop := ∀ c, c < n → (bt x c = true ↔ ∃ p, p < k ∧ f p = c)
theorem metk_up {f : Nat → Nat} {n k : Nat} {x : Int32} (h8 : n ≤ 8) (h : metk f n k x) (hk : f k < n) : metk f n (k + 1) (x ||| ((1 : Int32) <<< (nI (f k) &&& 31))) := by
  intro c hc
  rw [b_set _ _ (by omega) (by omega), Bool.or_eq_true, decide_eq_true_eq, h c hc]
  constructor
  · rintro (⟨p, h1, h2⟩ | h1)
    · exact ⟨p, by omega, h2⟩
    · exact ⟨k, by omega, h1.symm⟩
  · rintro ⟨p, h1, h2⟩
    by_cases z : p = k
    · subst z; exact Or.inr h2.symm
    · exact Or.inl ⟨p, by omega, h2⟩
section FW
variable {n : Nat} {f : Nat → Nat}
/-- which open cities are joined to the one before -/
theorem fw_cand (h3 : 3 ≤ n) (hf : fok n f) (hc : f 1 < f (n - 1)) {k : Nat} (hk1 : 1 ≤ k) (hk : k < n) : (∀ q, q < k → f q ≠ f k) ∧ thb f n (f (k - 1)) (f k) n = true ∧ ∀ c, c < f k → 1 ≤ c → (∀ q, q < k → f q ≠ c) → thb f n (f (k - 1)) c n = false := by
  refine ⟨fun q hq e => ?_, ?_, fun c hc1 hc2 hm => ?_⟩
  · have := hf.2.1 _ _ (by omega) hk e
    omega
  · rw [thb_iff]
    refine ⟨k - 1, by omega, Or.inl ⟨rfl, ?_⟩⟩
    unfold nxp
    rw [if_neg (by omega)]
    congr 1
    omega
  · cases ht : thb f n (f (k - 1)) c n with
    | false => rfl
    | true =>
      exfalso
      obtain ⟨p, hp, h | h⟩ := (thb_iff n).mp ht
      · have e := hf.2.1 _ _ hp (by omega) h.1
        subst e
        have h2 := h.2
        unfold nxp at h2
        rw [if_neg (by omega)] at h2
        rw [show k - 1 + 1 = k by omega] at h2
        omega
      · have h2 := h.2
        unfold nxp at h2
        by_cases z : p + 1 = n
        · rw [if_pos z] at h2
          have e := hf.2.1 _ _ (by omega) (by omega) h2
          have hk1 : k = 1 := by omega
          subst hk1
          have : p = n - 1 := by omega
          subst this
          omega
        · rw [if_neg z] at h2
          have e := hf.2.1 _ _ (by omega) (by omega) h2
          exact hm p (by omega) h.1
theorem pc_fwI (h3 : 3 ≤ n) (h8 : n ≤ 8) (hf : fok n f) (hc : f 1 < f (n - 1)) {k : Nat} (hk1 : 1 ≤ k) (hk : k < n) {met : Int32} (hm : metk f n k met) : ∀ x σ, x < n → σ.1 10 = nI n → rl_num n σ → (∀ p, p < k → σ.2 16 p = nI (f p)) → (x < f k → σ.2 16 k = nI (f k)) → ∃ σ', oc_Round_follow_h33 (tr_es n f n) met (nI k) (nI x) σ = some (.inl (met ||| ((1 : Int32) <<< (nI (f k) &&& 31)), nI (k + 1), σ')) ∧ fr [] [16] σ σ' ∧ (∀ p, p < k + 1 → σ'.2 16 p = nI (f p)) := by
  obtain ⟨g1, g2, g3⟩ := fw_cand h3 hf hc hk1 hk
  have hfk := hf.1 k hk
  have hf1 : 1 ≤ f k := by
    rcases Nat.eq_zero_or_pos (f k) with z | z
    · have := hf.2.1 k 0 hk (by omega) (z.trans hf.2.2.symm)
      omega
    · exact z
  intro x
  induction x with
  | zero =>
    intro σ hx hn hnum hp hrow
    have hr := hrow (by omega)
    refine ⟨σ, ?_, fr_rf, fun p h1 => ?_⟩
    · unfold oc_Round_follow_h33
      refine ox_w_inr ?_
      show oc_Round_follow_b33 (tr_es n f n) met (nI k) (nI 0) σ = _
      unfold oc_Round_follow_b33
      rw [if_pos (by decide), ox_ix_nI (show k < 8 by omega) (by omega), hr]
      simp only [ox_let, nI_1]
    · by_cases z : p = k
      · subst z; exact hr
      · exact hp p (by omega)
  | succ x ih =>
    intro σ hx hn hnum hp hrow
    have hkm : σ.2 16 (k - 1) = nI (f (k - 1)) := hp (k - 1) (by omega)
    have hfk1 := hf.1 (k - 1) (by omega)
    have hmx := hm (x + 1) hx
    -- one step down
    by_cases hopen : bt met (x + 1) = true
    · -- met already
      obtain ⟨σ', a1, a2, a3⟩ := ih σ (by omega) hn hnum hp (fun hlt => by
        rcases Nat.lt_or_ge (x + 1) (f k) with z | z
        · exact hrow z
        · have e : f k = x + 1 := by omega
          obtain ⟨p, hp1, hp2⟩ := hmx.mp hopen
          exact absurd (hp2.trans e.symm) (g1 p hp1))
      refine ⟨σ', ?_, a2, a3⟩
      rw [← a1]
      unfold oc_Round_follow_h33
      refine ox_w_inl ?_
      show oc_Round_follow_b33 (tr_es n f n) met (nI k) (nI (x + 1)) σ = _
      unfold oc_Round_follow_b33 oc_Round_follow_j65
      rw [if_neg (nI_nle (by omega) (by omega)), p_sub1 hk1, ox_ix_nI (show k - 1 < 8 by omega) (by omega), hkm]
      have he : ∃ r, oc_Land_edgeBit (nI (f (k - 1))) (nI (x + 1)) σ = some r := by
        unfold oc_Land_edgeBit
        rw [p_8', ox_ix_nI (show 8 * f (k - 1) + (x + 1) < 64 by omega) (by omega)]
        exact ⟨_, rfl⟩
      obtain ⟨r, hr⟩ := he
      rw [hr]
      simp only [Option.bind_some, ox_let]
      have hno : ¬ ((met >>> (nI (x + 1) &&& 31)) &&& (1 : Int32)) = 0 := fun z => by
        have := (b_ask met (x + 1) (by omega)).mp z
        rw [hopen] at this
        cases this
      rw [if_neg hno, pk_m1]
      split <;> rfl
    · have hclosed : bt met (x + 1) = false := by
        cases z : bt met (x + 1) with
        | false => rfl
        | true => exact absurd z hopen
      have hnotmet : ∀ q, q < k → f q ≠ x + 1 := fun q hq e => hopen (hmx.mpr ⟨q, hq, e⟩)
      have hne : f (k - 1) ≠ x + 1 := hnotmet (k - 1) (by omega)
      have hlt28 := es2_28 h8 hfk1 hx hne
      have hask : ((met >>> (nI (x + 1) &&& 31)) &&& (1 : Int32)) = 0 := (b_ask met (x + 1) (by omega)).mpr hclosed
      have hb : oc_Round_follow_b33 (tr_es n f n) met (nI k) (nI (x + 1)) σ = if thb f n (f (k - 1)) (x + 1) n = false then some (.inl (nI x, σ)) else some (.inl (nI x, ox_s2 σ 16 k (nI (x + 1)))) := by
        unfold oc_Round_follow_b33 oc_Round_follow_j65
        rw [if_neg (nI_nle (by omega) (by omega)), p_sub1 hk1, ox_ix_nI (show k - 1 < 8 by omega) (by omega), hkm, pc_edge h8 hnum hfk1 hx hne]
        simp only [Option.bind_some, ox_let]
        rw [if_pos hask, if_pos hask, pk_m1, ox_ix_nI (show k < 8 by omega) (by omega)]
        cases ht : thb f n (f (k - 1)) (x + 1) n with
        | false =>
          rw [if_pos ((b_test _ _ (by omega)).mpr (by rw [es_has2 h3 h8 hf hfk1 hx hne]; exact ht)), if_pos rfl, if_true]
        | true =>
          have hno : ¬ tr_es n f n &&& ((1 : Int32) <<< (nI (es2 n (f (k - 1)) (x + 1)) &&& 31)) = 0 := fun z => by
            have := (b_test _ _ (by omega)).mp z
            rw [es_has2 h3 h8 hf hfk1 hx hne, ht] at this
            cases this
          rw [if_neg (by exact hno), if_neg (by decide), if_neg (by decide)]
      cases ht : thb f n (f (k - 1)) (x + 1) n with
      | false =>
        obtain ⟨σ', a1, a2, a3⟩ := ih σ (by omega) hn hnum hp (fun hlt => by
          rcases Nat.lt_or_ge (x + 1) (f k) with z | z
          · exact hrow z
          · have e : f k = x + 1 := by omega
            rw [← e, g2] at ht
            cases ht)
        refine ⟨σ', ?_, a2, a3⟩
        rw [← a1]
        unfold oc_Round_follow_h33
        refine ox_w_inl ?_
        show oc_Round_follow_b33 (tr_es n f n) met (nI k) (nI (x + 1)) σ = _
        rw [hb, if_pos ht]
      | true =>
        have hge : f k ≤ x + 1 := by
          rcases Nat.lt_or_ge (x + 1) (f k) with z | z
          · have := g3 (x + 1) z (by omega) hnotmet
            rw [ht] at this
            cases this
          · exact z
        obtain ⟨σ', a1, a2, a3⟩ := ih (ox_s2 σ 16 k (nI (x + 1))) (by omega) hn hnum (fun p hp1 => by rw [s2_at, if_neg (by omega)]; exact hp p hp1) (fun hlt => by
          have e : f k = x + 1 := by omega
          rw [s2_at, if_pos ⟨rfl, rfl⟩, e])
        refine ⟨σ', ?_, fr_tr (fr_s2 (by decide)) a2, a3⟩
        rw [← a1]
        unfold oc_Round_follow_h33
        refine ox_w_inl ?_
        show oc_Round_follow_b33 (tr_es n f n) met (nI k) (nI (x + 1)) σ = _
        rw [hb, if_neg (by rw [ht]; decide)]
theorem rl_num_fr {S T : List Nat} {c c' : ox_S} (h : fr S T c c') (hS : 11 ∉ S) (h7 : 7 ∉ T) (h8 : 8 ∉ T) (h9 : 9 ∉ T) (hr : rl_num n c) : rl_num n c' := by
  unfold rl_num
  rw [h.1 11 hS, h.2 7 h7, h.2 8 h8, h.2 9 h9]
  exact hr
theorem pc_fwO (h3 : 3 ≤ n) (h8 : n ≤ 8) (hf : fok n f) (hc : f 1 < f (n - 1)) : ∀ r k, k + r = n → 1 ≤ k → ∀ met σ, metk f n k met → σ.1 10 = nI n → rl_num n σ → (∀ p, p < k → σ.2 16 p = nI (f p)) → ∃ σ', oc_Round_follow_h11 (tr_es n f n) met (nI k) σ = some σ' ∧ fr [18] [16] σ σ' ∧ σ'.1 18 = 1 ∧ ro 16 n f σ' := by
  intro r
  induction r with
  | zero =>
    intro k hk hk1 met σ hm hn hnum hp
    have e : k = n := by omega
    subst e
    refine ⟨ox_s1 σ 18 1, ?_, fr_s1 (by decide), rfl, hp⟩
    unfold oc_Round_follow_h11
    refine ox_w_inr ?_
    show oc_Round_follow_b11 (tr_es k f k) met (nI k) σ = _
    unfold oc_Round_follow_b11
    rw [hn, if_pos (nI_le (Nat.le_refl _) (by omega))]
    rfl
  | succ r ih =>
    intro k hk hk1 met σ hm hn hnum hp
    have hk2 : k < n := by omega
    obtain ⟨σ1, a1, a2, a3⟩ := pc_fwI h3 h8 hf hc hk1 hk2 hm (n - 1) σ (by omega) hn hnum hp (fun z => by have := hf.1 k hk2; omega)
    obtain ⟨σ', b1, b2, b3, b4⟩ := ih (k + 1) (by omega) (by omega) _ σ1 (metk_up h8 hm (hf.1 k hk2)) (by rw [a2.1 10 (by decide)]; exact hn) (rl_num_fr a2 (by decide) (by decide) (by decide) (by decide) hnum) a3
    refine ⟨σ', ?_, fr_tr (fr_up a2 (fun _ h => by cases h) (fun _ h => h)) b2, b3, b4⟩
    rw [← b1]
    unfold oc_Round_follow_h11
    refine ox_w_inl ?_
    show oc_Round_follow_b11 (tr_es n f n) met (nI k) σ = _
    unfold oc_Round_follow_b11
    rw [hn, if_neg (nI_ge hk2 (by omega))]
    simp only [ox_let]
    rw [show (1 : Int32) = nI 1 from rfl, pk_sub (by omega)]
    exact a1
theorem pc_follow (h3 : 3 ≤ n) (h8 : n ≤ 8) (hf : fok n f) (hc : f 1 < f (n - 1)) {σ : ox_S} (hn : σ.1 10 = nI n) (hnum : rl_num n σ) : ∃ σ', oc_Round_follow (tr_es n f n) σ = some σ' ∧ fr [18] [16] σ σ' ∧ σ'.1 18 = 1 ∧ ro 16 n f σ' := by
  obtain ⟨σ', a1, a2, a3, a4⟩ := pc_fwO h3 h8 hf hc (n - 1) 1 (by omega) (Nat.le_refl _) (1 : Int32) (ox_s2 σ 16 0 0) (fun c hc2 => by
    rw [(by decide +kernel : ∀ c, c < 8 → bt 1 c = decide (c = 0)) c (by omega), decide_eq_true_eq]
    constructor
    · intro e
      exact ⟨0, by omega, by rw [hf.2.2, e]⟩
    · rintro ⟨p, h1, h2⟩
      have : p = 0 := by omega
      subst this
      rw [hf.2.2] at h2
      exact h2.symm) hn hnum (fun p hp => by
    have : p = 0 := by omega
    subst this
    rw [s2_at, if_pos ⟨rfl, rfl⟩, hf.2.2]
    rfl)
  refine ⟨σ', ?_, fr_tr (fr_s2 (by decide)) a2, a3, a4⟩
  unfold oc_Round_follow
  rw [show (0 : Int32) = nI 0 from rfl, ox_ix_nI (by omega) (by omega)]
  exact a1
/-- keep -/
theorem pm_keepL (h3 : 3 ≤ n) (h8 : n ≤ 8) : ∀ r k, k + r = n → ∀ σ : ox_S, σ.1 1 = nI n → ro 13 n f σ → (∀ p, p < k → σ.2 4 p = nI (f p)) → ∃ σ', om_Mo_keep_h2 (nI k) σ = some σ' ∧ fr [2] [4] σ σ' ∧ σ'.1 2 = 1 ∧ ro 4 n f σ' := by
  intro r
  induction r with
  | zero =>
    intro k hk σ hn h hp
    have e : k = n := by omega
    subst e
    refine ⟨ox_s1 σ 2 1, ?_, fr_s1 (by decide), rfl, hp⟩
    unfold om_Mo_keep_h2
    refine ox_w_inr ?_
    show om_Mo_keep_b2 (nI k) σ = _
    unfold om_Mo_keep_b2
    rw [hn, if_pos (nI_le (Nat.le_refl _) (by omega))]
    rfl
  | succ r ih =>
    intro k hk σ hn h hp
    have hk2 : k < n := by omega
    obtain ⟨σ', b1, b2, b3, b4⟩ := ih (k + 1) (by omega) (ox_s2 σ 4 k (nI (f k))) hn (fun p hp1 => by rw [s2_at, if_neg (by omega)]; exact h p hp1) (fun p hp1 => by
      rw [s2_at]
      by_cases z : p = k
      · rw [if_pos ⟨rfl, z⟩, z]
      · rw [if_neg (fun q => z q.2)]
        exact hp p (by omega))
    refine ⟨σ', ?_, fr_tr (fr_s2 (by decide)) b2, b3, b4⟩
    rw [← b1]
    unfold om_Mo_keep_h2
    refine ox_w_inl ?_
    show om_Mo_keep_b2 (nI k) σ = _
    unfold om_Mo_keep_b2
    rw [hn, if_neg (nI_ge hk2 (by omega)), ox_ix_nI (show k < 8 by omega) (by omega), ox_ix_nI (show k < 8 by omega) (by omega), h k hk2]
    simp only [ox_let, nI_1]
theorem pm_keep (h3 : 3 ≤ n) (h8 : n ≤ 8) {σ : ox_S} (hn : σ.1 1 = nI n) (h : ro 13 n f σ) : ∃ σ', om_Mo_keep σ = some σ' ∧ fr [2] [4] σ σ' ∧ σ'.1 2 = 1 ∧ ro 4 n f σ' := pm_keepL h3 h8 n 0 (by omega) σ hn h (fun p hp => by omega)
/-- the first row -/
theorem pm_firstL (h8 : n ≤ 8) : ∀ r k, k + r = n → ∀ σ : ox_S, σ.1 1 = nI n → (∀ p, p < k → σ.2 13 p = nI p) → ∃ σ', om_Mo_firstTour_h2 (nI k) σ = some σ' ∧ fr [] [13] σ σ' ∧ ro 13 n (fun k => k) σ' := by
  intro r
  induction r with
  | zero =>
    intro k hk σ hn hp
    have e : k = n := by omega
    subst e
    refine ⟨σ, ?_, fr_rf, hp⟩
    unfold om_Mo_firstTour_h2
    refine ox_w_inr ?_
    show om_Mo_firstTour_b2 (nI k) σ = _
    unfold om_Mo_firstTour_b2
    rw [hn, if_pos (nI_le (Nat.le_refl _) (by omega))]
  | succ r ih =>
    intro k hk σ hn hp
    have hk2 : k < n := by omega
    obtain ⟨σ', b1, b2, b3⟩ := ih (k + 1) (by omega) (ox_s2 σ 13 k (nI k)) hn (fun p hp1 => by
      rw [s2_at]
      by_cases z : p = k
      · rw [if_pos ⟨rfl, z⟩, z]
      · rw [if_neg (fun q => z q.2)]
        exact hp p (by omega))
    refine ⟨σ', ?_, fr_tr (fr_s2 (by decide)) b2, b3⟩
    rw [← b1]
    unfold om_Mo_firstTour_h2
    refine ox_w_inl ?_
    show om_Mo_firstTour_b2 (nI k) σ = _
    unfold om_Mo_firstTour_b2
    rw [hn, if_neg (nI_ge hk2 (by omega)), ox_ix_nI (show k < 8 by omega) (by omega)]
    simp only [ox_let, nI_1]
theorem pm_first (h8 : n ≤ 8) {σ : ox_S} (hn : σ.1 1 = nI n) : ∃ σ', om_Mo_firstTour σ = some σ' ∧ fr [] [13] σ σ' ∧ ro 13 n (fun k => k) σ' := pm_firstL h8 n 0 (by omega) σ hn (fun p hp => by omega)
end FW
