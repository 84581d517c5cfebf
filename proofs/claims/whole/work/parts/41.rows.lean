/-! rows as numbers; what the reference reads off a row -/
theorem enc_lt {f : Nat → Nat} : ∀ n, (∀ k, k < n → f k < 8) → enc f n < 8 ^ n
  | 0, _ => by simp [enc]
  | n + 1, h => by
    have ih := enc_lt n (fun k hk => h k (by omega))
    have hn := h n (by omega)
    show enc f n + f n * 8 ^ n < 8 ^ (n + 1)
    rw [Nat.pow_succ]
    have : f n * 8 ^ n ≤ 7 * 8 ^ n := Nat.mul_le_mul_right _ (by omega)
    omega
theorem fc_enc {f : Nat → Nat} : ∀ n, (∀ k, k < n → f k < 8) → ∀ k, k < n → fc (enc f n) k = f k
  | 0, _, k, hk => by omega
  | n + 1, h, k, hk => by
    have hlt := enc_lt n (fun k hk => h k (by omega))
    have hn := h n (by omega)
    have hp : 0 < 8 ^ n := Nat.pow_pos (by omega)
    show (enc f n + f n * 8 ^ n) / 8 ^ k % 8 = f k
    by_cases e : k = n
    · subst e
      rw [Nat.add_mul_div_right _ _ hp, Nat.div_eq_of_lt hlt]
      omega
    · have ih := fc_enc n (fun k hk => h k (by omega)) k (by omega)
      have e2 : f n * 8 ^ n = (f n * 8 ^ (n - k - 1) * 8) * 8 ^ k := by
        rw [Nat.mul_assoc, Nat.mul_assoc, ← Nat.pow_succ', ← Nat.pow_add]
        congr 2
        omega
      have hk0 : 0 < 8 ^ k := Nat.pow_pos (by omega)
      rw [e2, Nat.add_mul_div_right _ _ hk0, Nat.add_mul_mod_self_right]
      exact ih
/-- what one step of the rows says -/
theorem tr_next_none {n x : Nat} (h : tr_next n x = none) : tr_nx n (fc x) = none := by
  unfold tr_next at h
  cases hx : tr_nx n (fc x) with
  | none => rfl
  | some g => rw [hx] at h; cases h
theorem tr_next_some {n x y : Nat} (h : tr_next n x = some y) : ∃ g, tr_nx n (fc x) = some g ∧ y = enc g n := by
  unfold tr_next at h
  cases hx : tr_nx n (fc x) with
  | none => rw [hx] at h; cases h
  | some g => rw [hx] at h; exact ⟨g, rfl, (Option.some.inj h).symm⟩
theorem fok_8 {n : Nat} {f : Nat → Nat} (h8 : n ≤ 8) (h : fok n f) : ∀ k, k < n → f k < 8 := fun k hk => Nat.lt_of_lt_of_le (h.1 k hk) h8
theorem fok_enc {n : Nat} {f : Nat → Nat} (h3 : 3 ≤ n) (h8 : n ≤ 8) (h : fok n f) : fok n (fc (enc f n)) := by
  have e := fc_enc n (fok_8 h8 h)
  refine ⟨fun k hk => by rw [e k hk]; exact h.1 k hk, fun a b ha hb z => ?_, ?_⟩
  · rw [e a ha, e b hb] at z
    exact h.2.1 a b ha hb z
  · rw [e 0 (by omega)]; exact h.2.2
theorem fok_0 {n : Nat} : fok n (fun k => k) := ⟨fun _ h => h, fun _ _ _ _ h => h, rfl⟩
/-- every row of a chain is good -/
theorem chain_ok {n : Nat} (h3 : 3 ≤ n) (h8 : n ≤ 8) : ∀ l, chain n l → (∀ x, l.head? = some x → fok n (fc x)) → ∀ x ∈ l, fok n (fc x) := by
  intro l
  induction l with
  | nil => intro h; exact absurd h id
  | cons x l ih =>
    intro h hx y hy
    have h0 := hx x rfl
    rcases List.mem_cons.mp hy with rfl | hy
    · exact h0
    · cases l with
      | nil => cases hy
      | cons z l =>
        obtain ⟨h1, h2⟩ := h
        refine ih h2 (fun w hw => ?_) y hy
        have e : z = w := Option.some.inj hw
        subst e
        obtain ⟨g, hg, e2⟩ := tr_next_some h1
        rw [e2]
        exact fok_enc h3 h8 (fok_nx h3 h0 hg)
theorem rows_ok {n : Nat} (h3 : 3 ≤ n) (h8 : n ≤ 8) : ∀ x ∈ tr_rows n, fok n (fc x) := by
  obtain ⟨a1, _, _, a4⟩ := tr_ok h3 h8
  exact chain_ok h3 h8 _ a1 (fun x hx => by
    rw [a4] at hx
    rw [← Option.some.inj hx]
    exact fok_enc h3 h8 fok_0)
/-- the reference's row: the next place's city -/
def nxp (f : Nat → Nat) (n k : Nat) : Nat := if k + 1 = n then f 0 else f (k + 1)
theorem pm_nextAt {n : Nat} {f : Nat → Nat} {σ : ox_S} (h3 : 3 ≤ n) (h8 : n ≤ 8) (hn : σ.1 1 = nI n) (h : ro 13 n f σ) {k : Nat} (hk : k < n) : om_Mo_next (nI k) σ = some (nI (nxp f n k)) := by
  unfold om_Mo_next nxp
  rw [nI_1, hn]
  by_cases e : k + 1 = n
  · rw [if_pos (by rw [e]), if_pos e, show (0 : Int32) = nI 0 from rfl, ox_ix_nI (by omega) (by omega), h 0 (by omega)]
  · rw [if_neg (nI_ne e (by omega) (by omega)), if_neg e, ox_ix_nI (by omega) (by omega), h (k + 1) (by omega)]
/-- its length -/
def tr_lm (d : Nat → Nat → Nat) (n : Nat) (f : Nat → Nat) : Nat → Nat
  | 0 => 0
  | k + 1 => tr_lm d n f k + d (f k) (nxp f n k)
theorem pm_lenL {n : Nat} {f : Nat → Nat} {d : Nat → Nat → Nat} {σ : ox_S} (h3 : 3 ≤ n) (h8 : n ≤ 8) (hn : σ.1 1 = nI n) (hf : fok n f) (h : ro 13 n f σ) (hd : ∀ i j, i < n → j < n → σ.2 1 (8 * i + j) = nI (d i j)) : ∀ r k, k + r = n → om_Mo_length_h4 (nI (tr_lm d n f k)) (nI k) σ = some (nI (tr_lm d n f n)) := by
  intro r
  induction r with
  | zero =>
    intro k hk
    have e : k = n := by omega
    subst e
    unfold om_Mo_length_h4
    refine ox_w_inr ?_
    show om_Mo_length_b4 (nI (tr_lm d k f k)) (nI k) σ = _
    unfold om_Mo_length_b4
    rw [hn, if_pos (nI_le (Nat.le_refl _) (by omega))]
  | succ r ih =>
    intro k hk
    have hk2 : k < n := by omega
    rw [← ih (k + 1) (by omega)]
    unfold om_Mo_length_h4
    refine ox_w_inl ?_
    show om_Mo_length_b4 (nI (tr_lm d n f k)) (nI k) σ = _
    unfold om_Mo_length_b4
    have hnx : nxp f n k < n := by
      unfold nxp
      split
      · exact hf.1 0 (by omega)
      · exact hf.1 (k + 1) (by omega)
    have hfk := hf.1 k hk2
    rw [hn, if_neg (nI_ge hk2 (by omega)), pm_nextAt h3 h8 hn h hk2]
    simp only [Option.bind_some, ox_let]
    rw [ox_ix_nI (show k < 8 by omega) (by omega), h k hk2, p_8, ox_ix_nI (show 8 * f k + nxp f n k < 64 by omega) (by omega), hd _ _ hfk hnx, nI_add, nI_1]
    rfl
theorem pm_len {n : Nat} {f : Nat → Nat} {d : Nat → Nat → Nat} {σ : ox_S} (h3 : 3 ≤ n) (h8 : n ≤ 8) (hn : σ.1 1 = nI n) (hf : fok n f) (h : ro 13 n f σ) (hd : ∀ i j, i < n → j < n → σ.2 1 (8 * i + j) = nI (d i j)) : om_Mo_length σ = some (nI (tr_lm d n f n)) := pm_lenL h3 h8 hn hf h hd n 0 (by omega)
theorem lm_shift (d : Nat → Nat → Nat) (n : Nat) (f : Nat → Nat) : ∀ k, k < n → tr_ln d n f (k + 1) = d (f (n - 1)) (f 0) + tr_lm d n f k
  | 0, _ => by
    show 0 + d (pv f n 0) (f 0) = _ + 0
    unfold pv
    rw [if_pos rfl]
    omega
  | k + 1, h => by
    have ih := lm_shift d n f k (by omega)
    show tr_ln d n f (k + 1) + d (pv f n (k + 1)) (f (k + 1)) = d (f (n - 1)) (f 0) + (tr_lm d n f k + d (f k) (nxp f n k))
    rw [ih]
    unfold pv nxp
    rw [if_neg (by omega), if_neg (by omega)]
    show _ + d (f k) (f (k + 1)) = _
    omega
theorem ln_lm (d : Nat → Nat → Nat) {n : Nat} (h : 1 ≤ n) (f : Nat → Nat) : tr_ln d n f n = tr_lm d n f n := by
  obtain ⟨k, rfl⟩ : ∃ k, n = k + 1 := ⟨n - 1, by omega⟩
  rw [lm_shift d (k + 1) f k (by omega)]
  show _ = tr_lm d (k + 1) f k + d (f k) (nxp f (k + 1) k)
  unfold nxp
  rw [if_pos rfl]
  show d (f k) (f 0) + _ = _
  omega
theorem lm_le {d : Nat → Nat → Nat} {n : Nat} {f : Nat → Nat} (hd : ∀ i j, i < n → j < n → d i j ≤ 9999) (hf : fok n f) (h1 : 1 ≤ n) : ∀ k, k ≤ n → tr_lm d n f k ≤ k * 9999
  | 0, _ => by simp [tr_lm]
  | k + 1, h => by
    have ih := lm_le hd hf h1 k (by omega)
    have hnx : nxp f n k < n := by
      unfold nxp
      split
      · exact hf.1 0 (by omega)
      · exact hf.1 (k + 1) (by omega)
    have := hd (f k) (nxp f n k) (hf.1 k (by omega)) hnx
    show tr_lm d n f k + _ ≤ _
    omega
