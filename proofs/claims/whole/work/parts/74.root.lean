/-! load: how far places are apart -/
theorem rt_one {D r r' : Nat} (h1 : r * r ≤ D) (h2 : D < (r + 1) * (r + 1)) (h3 : r' * r' ≤ D) (h4 : D < (r' + 1) * (r' + 1)) : r = r' := by
  rcases Nat.lt_trichotomy r r' with z | z | z
  · have := Nat.mul_le_mul (show r + 1 ≤ r' by omega) (show r + 1 ≤ r' by omega)
    omega
  · exact z
  · have := Nat.mul_le_mul (show r' + 1 ≤ r by omega) (show r' + 1 ≤ r by omega)
    omega
theorem rt_le {D r : Nat} (hD : D ≤ 8000000) (h1 : r * r ≤ D) : r ≤ 2828 := by
  refine Nat.le_of_not_lt fun z => ?_
  have := Nat.mul_le_mul (show 2829 ≤ r by omega) (show 2829 ≤ r by omega)
  omega
theorem rt_ex : ∀ D, ∃ r, r * r ≤ D ∧ D < (r + 1) * (r + 1)
  | 0 => ⟨0, by omega, by omega⟩
  | D + 1 => by
    obtain ⟨r, h1, h2⟩ := rt_ex D
    by_cases z : D + 1 < (r + 1) * (r + 1)
    · exact ⟨r, by omega, z⟩
    · refine ⟨r + 1, by omega, ?_⟩
      have : (r + 1) * (r + 1) + 2 * r + 3 = (r + 1 + 1) * (r + 1 + 1) := by
        simp only [Nat.add_mul, Nat.mul_add]
        omega
      omega
/-- rounded: to the nearest, or up -/
def rnd (near : Bool) (D r : Nat) : Nat := if near then (if D ≤ r * r + r then r else r + 1) else (if D ≤ r * r then r else r + 1)
theorem p_shr : ∀ k, k < 12 → nI (2 ^ (k + 1)) >>> ((1 : Int32) &&& 31) = nI (2 ^ k) := by decide +kernel
theorem p_shr0 : nI 1 >>> ((1 : Int32) &&& 31) = nI 0 := by decide +kernel
theorem p_sq (a : Nat) : nI a * nI a = nI (a * a) := pk_mul a a
theorem pc_rootL {D : Nat} (hD : D ≤ 8000000) (σ : ox_S) : ∀ k, k ≤ 11 → ∀ r, r * r ≤ D → D < (r + 2 ^ (k + 1)) * (r + 2 ^ (k + 1)) → ∃ r', oc_Reader_wholeRoot_h6 (nI D) (nI r) (nI (2 ^ k)) σ = some (nI r') ∧ r' * r' ≤ D ∧ D < (r' + 1) * (r' + 1) := by
  intro k
  induction k with
  | zero =>
    intro hk r h1 h2
    have hr := rt_le hD h1
    have fin : ∀ x : Nat, oc_Reader_wholeRoot_h6 (nI D) (nI x) (nI 0) σ = some (nI x) := by
      intro x
      unfold oc_Reader_wholeRoot_h6
      refine ox_w_inr ?_
      show oc_Reader_wholeRoot_b6 (nI D) (nI x) (nI 0) σ = _
      unfold oc_Reader_wholeRoot_b6
      rw [if_pos (by decide)]
    have hb : oc_Reader_wholeRoot_b6 (nI D) (nI r) (nI 1) σ = if nI D < nI ((r + 1) * (r + 1)) then some (.inl (nI r, nI 0)) else some (.inl (nI (r + 1), nI 0)) := by
      unfold oc_Reader_wholeRoot_b6
      rw [if_neg (by decide), nI_add]
      simp only [ox_let, p_sq, p_shr0]
    have hsq : (r + 1) * (r + 1) ≤ 2829 * 2829 := Nat.mul_le_mul (by omega) (by omega)
    by_cases z : D < (r + 1) * (r + 1)
    · refine ⟨r, ?_, h1, z⟩
      rw [← fin r]
      unfold oc_Reader_wholeRoot_h6
      refine ox_w_inl ?_
      show oc_Reader_wholeRoot_b6 (nI D) (nI r) (nI 1) σ = _
      rw [hb, if_pos (nI_lt z (by omega))]
    · refine ⟨r + 1, ?_, by omega, h2⟩
      rw [← fin (r + 1)]
      unfold oc_Reader_wholeRoot_h6
      refine ox_w_inl ?_
      show oc_Reader_wholeRoot_b6 (nI D) (nI r) (nI 1) σ = _
      rw [hb, if_neg (nI_nlt (by omega) (by omega))]
  | succ k ih =>
    intro hk r h1 h2
    have hr := rt_le hD h1
    have hp : 2 ^ (k + 1) ≤ 2048 := Nat.pow_le_pow_right (n := 2) (by omega) (show k + 1 ≤ 11 by omega)
    have hp0 : 1 ≤ 2 ^ (k + 1) := Nat.one_le_two_pow
    have hsq : (r + 2 ^ (k + 1)) * (r + 2 ^ (k + 1)) ≤ 4876 * 4876 := Nat.mul_le_mul (by omega) (by omega)
    have hb : oc_Reader_wholeRoot_b6 (nI D) (nI r) (nI (2 ^ (k + 1))) σ = if nI D < nI ((r + 2 ^ (k + 1)) * (r + 2 ^ (k + 1))) then some (.inl (nI r, nI (2 ^ k))) else some (.inl (nI (r + 2 ^ (k + 1)), nI (2 ^ k))) := by
      unfold oc_Reader_wholeRoot_b6
      rw [if_neg (nI_nle (by omega) (by omega)), nI_add]
      simp only [ox_let, p_sq, p_shr k (by omega)]
    by_cases z : D < (r + 2 ^ (k + 1)) * (r + 2 ^ (k + 1))
    · obtain ⟨r', a1, a2⟩ := ih (by omega) r h1 z
      refine ⟨r', ?_, a2⟩
      rw [← a1]
      unfold oc_Reader_wholeRoot_h6
      refine ox_w_inl ?_
      show oc_Reader_wholeRoot_b6 (nI D) (nI r) (nI (2 ^ (k + 1))) σ = _
      rw [hb, if_pos (nI_lt z (by omega))]
    · obtain ⟨r', a1, a2⟩ := ih (by omega) (r + 2 ^ (k + 1)) (by omega) (by
        have : r + 2 ^ (k + 1) + 2 ^ (k + 1) = r + 2 ^ (k + 1 + 1) := by rw [Nat.pow_succ 2 (k + 1)]; omega
        rw [this]
        exact h2)
      refine ⟨r', ?_, a2⟩
      rw [← a1]
      unfold oc_Reader_wholeRoot_h6
      refine ox_w_inl ?_
      show oc_Reader_wholeRoot_b6 (nI D) (nI r) (nI (2 ^ (k + 1))) σ = _
      rw [hb, if_neg (nI_nlt (by omega) (by omega))]
theorem pc_root {D : Nat} (hD : D ≤ 8000000) (σ : ox_S) : ∃ r, oc_Reader_wholeRoot (nI D) σ = some (nI r) ∧ r * r ≤ D ∧ D < (r + 1) * (r + 1) := by
  have := pc_rootL hD σ 11 (by omega) 0 (by omega) (by show D < (0 + 4096) * (0 + 4096); omega)
  exact this
/-- far: places' distances, by type -/
def far (t dx dy r : Nat) : Nat := if t = 4 then dx + dy else rnd (decide (t = 2)) (dx * dx + dy * dy) r
theorem pc_apart {t dx dy : Nat} (ht : t ≤ 4) (hx : dx ≤ 1998) (hy : dy ≤ 1998) {σ : ox_S} (h5 : σ.1 5 = nI t) {r : Nat} (r1 : r * r ≤ dx * dx + dy * dy) (r2 : dx * dx + dy * dy < (r + 1) * (r + 1)) : oc_Reader_apart (nI dx) (nI dy) σ = some (nI (far t dx dy r)) := by
  have hD : dx * dx + dy * dy ≤ 8000000 := by
    have a := Nat.mul_le_mul hx hx
    have b := Nat.mul_le_mul hy hy
    omega
  obtain ⟨r', a1, a2, a3⟩ := pc_root hD σ
  have e := rt_one a2 a3 r1 r2
  subst e
  have hr := rt_le hD r1
  have hrr : r' * r' ≤ 2828 * 2828 := Nat.mul_le_mul hr hr
  unfold oc_Reader_apart far
  rw [h5]
  by_cases z : t = 4
  · rw [if_pos (show nI t = 4 by rw [z]; rfl), if_pos z, nI_add]
  · rw [if_neg (show ¬ nI t = 4 from nI_ne (b := 4) z (by omega) (by omega)), if_neg z]
    simp only [ox_let, p_sq, nI_add]
    rw [a1]
    simp only [Option.bind_some, p_sq, nI_add, nI_1]
    unfold rnd
    by_cases y : t = 2
    · rw [if_pos (show nI t = 2 by rw [y]; rfl), decide_eq_true y, if_pos rfl]
      by_cases w : dx * dx + dy * dy ≤ r' * r' + r'
      · rw [if_pos (nI_le w (by omega)), if_pos w]
      · rw [if_neg (nI_ge (by omega) (by omega)), if_neg w]
    · rw [if_neg (show ¬ nI t = 2 from nI_ne (b := 2) y (by omega) (by omega)), decide_eq_false y, if_neg (show ¬ false = true by decide)]
      by_cases w : dx * dx + dy * dy ≤ r' * r'
      · rw [if_pos (nI_le w (by omega)), if_pos w]
      · rw [if_neg (nI_ge (by omega) (by omega)), if_neg w]
theorem far_le {t dx dy r : Nat} (hx : dx ≤ 1998) (hy : dy ≤ 1998) (r1 : r * r ≤ dx * dx + dy * dy) : far t dx dy r ≤ 9999 := by
  have hD : dx * dx + dy * dy ≤ 8000000 := by
    have a := Nat.mul_le_mul hx hx
    have b := Nat.mul_le_mul hy hy
    omega
  have hr := rt_le hD r1
  unfold far rnd
  split
  · omega
  · split <;> split <;> omega
/-- the reference counts up -/
theorem pm_rootL {t D r : Nat} (ht : t ≤ 4) (ht4 : t ≠ 4) (hD : D ≤ 8000000) (r1 : r * r ≤ D) (r2 : D < (r + 1) * (r + 1)) {σ : ox_S} (h8 : σ.1 8 = nI (t + 3)) : ∀ k q, q + k = r → om_Mo_apart_h77 (nI D) (nI q) σ = some (nI (rnd (decide (t = 2)) D r)) := by
  have hr := rt_le hD r1
  have hrr : (r + 1) * (r + 1) ≤ 2829 * 2829 := Nat.mul_le_mul (by omega) (by omega)
  intro k
  induction k with
  | zero =>
    intro q hq
    have e : q = r := by omega
    subst e
    unfold om_Mo_apart_h77
    refine ox_w_inr ?_
    show om_Mo_apart_b77 (nI D) (nI q) σ = _
    unfold om_Mo_apart_b77
    rw [nI_1, p_sq, if_pos (nI_lt r2 (by omega)), h8, p_sq, nI_add]
    unfold rnd
    by_cases y : t = 2
    · rw [if_pos (show nI (t + 3) = 5 by rw [y]; rfl), decide_eq_true y, if_pos rfl]
      by_cases w : D ≤ q * q + q
      · rw [if_pos (nI_le w (by omega)), if_pos w]
      · rw [if_neg (nI_ge (by omega) (by omega)), if_neg w]
    · rw [if_neg (show ¬ nI (t + 3) = 5 from nI_ne (b := 5) (by omega) (by omega) (by omega)), decide_eq_false y, if_neg (show ¬ false = true by decide)]
      by_cases w : D ≤ q * q
      · rw [if_pos (nI_le w (by omega)), if_pos w]
      · rw [if_neg (nI_ge (by omega) (by omega)), if_neg w]
  | succ k ih =>
    intro q hq
    have hqq : (q + 1) * (q + 1) ≤ r * r := Nat.mul_le_mul (by omega) (by omega)
    rw [← ih (q + 1) (by omega)]
    unfold om_Mo_apart_h77
    refine ox_w_inl ?_
    show om_Mo_apart_b77 (nI D) (nI q) σ = _
    unfold om_Mo_apart_b77
    rw [nI_1, p_sq, if_neg (nI_nlt (by omega) (by omega))]
    rfl
