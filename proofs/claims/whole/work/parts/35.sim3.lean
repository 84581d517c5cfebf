/-! add -/
theorem u_hi (x : Int32) (E : Nat) (hE : E < 32) : (x.toUInt32 >>> ((nI E).toUInt32 &&& Int32.toUInt32 31)).toInt32 = 0 ↔ ∀ e, E ≤ e → bt x e = false := by
  constructor
  · intro h e he
    have h1 : bt ((x.toUInt32 >>> ((nI E).toUInt32 &&& Int32.toUInt32 31)).toInt32) (e - E) = false := by rw [h]; exact b_0 _
    rw [b_ushr E hE x, show E + (e - E) = e by omega] at h1
    exact h1
  · intro h
    apply b_ext
    intro i hi
    rw [b_ushr E hE x, b_0]
    exact h _ (by omega)
theorem s_hi (x : Int32) (E : Nat) (hE : E < 32) : x >>> (nI E &&& 31) = 0 ↔ ∀ e, E ≤ e → bt x e = false := by
  constructor
  · intro h e he
    rcases Nat.lt_or_ge e 32 with h32 | h32
    · have h1 : bt (x >>> (nI E &&& 31)) (e - E) = false := by rw [h]; exact b_0 _
      rw [b_sshr E hE x (by omega), if_pos (by omega), show E + (e - E) = e by omega] at h1
      exact h1
    · exact b_big h32
  · intro h
    apply b_ext
    intro i hi
    rw [b_sshr E hE x hi, b_0]
    by_cases h1 : E + i < 32
    · rw [if_pos h1]; exact h _ (by omega)
    · rw [if_neg h1]; exact h _ (by omega)
theorem p_E {n : Nat} (h1 : 1 ≤ n) (hn : n ≤ 8) : (nI n * (nI n - (1 : Int32))) / (2 : Int32) = nI (n * (n - 1) / 2) := by
  rw [show (1 : Int32) = nI 1 from rfl, show (2 : Int32) = nI 2 from rfl, pk_sub h1, pk_mul, pk_div _ (by omega) (by omega)]
  have := (by decide +kernel : ∀ n, n ≤ 8 → n * (n - 1) ≤ 56) n hn
  omega
theorem E_28 {n : Nat} (hn : n ≤ 8) : n * (n - 1) / 2 ≤ 28 := (by decide +kernel : ∀ n, n ≤ 8 → n * (n - 1) / 2 ≤ 28) n hn
theorem os_add : ol_s_add Rl := by
  intro c m x1 x2 hR
  obtain ⟨ht, n, d, hl, hd, hp, h4, h5, h6, h7, k, hk, k1, k2, k3, k4⟩ := id hR
  have hn := rl_n8 hl
  unfold oc_T_add om_Mo_add
  simp only [ox_let, hl.2.1, hl.2.2]
  rcases hl.1 with hn0 | hn3
  · subst hn0
    exact ⟨-1, c, m, by rw [if_pos nI_0], by rw [if_pos nI_0], hR⟩
  have hn1 : ¬ nI n = 0 := nI_ne0 (by omega) (by omega)
  have hE := E_28 hn
  rw [if_neg hn1, if_neg hn1, p_E (by omega) hn]
  unfold oc_Land_areEdges
  rw [h4.1]
  by_cases g1 : ∀ e, n * (n - 1) / 2 ≤ e → bt x1 e = false
  · by_cases g2 : ∀ e, n * (n - 1) / 2 ≤ e → bt x2 e = false
    · have g3 : ∀ e, n * (n - 1) / 2 ≤ e → bt (x1 ||| x2) e = false := fun e he => by rw [b_or, g1 e he, g2 e he]; rfl
      rw [if_pos ((u_hi _ _ (by omega)).mpr g3), if_pos ((s_hi _ _ (by omega)).mpr g1), if_pos ((s_hi _ _ (by omega)).mpr g2)]
      by_cases g4 : x1 &&& x2 = 0
      · simp only [Option.bind_some]
        rw [if_neg (by decide), if_pos g4, if_pos g4, k2]
        unfold oc_Cases_append
        rw [k1]
        rcases Nat.lt_or_ge k 10 with hk10 | hk10
        · rw [if_pos (show nI k < (10 : Int32) from nI_lt (b := 10) hk10 (by omega)), if_neg (show ¬ nI k = (10 : Int32) from nI_ne (b := 10) (by omega) (by omega) (by omega))]
          refine ⟨nI (k + 1), ox_s1 (ox_s2 (ox_s2 c 17 k x1) 18 k x2) 19 (nI (k + 1)), ox_s1 (ox_s2 (ox_s2 m 5 k x1) 6 k x2) 3 (nI (k + 1)), ?_, ?_, ht, n, d, hl, hd, hp, h4, h5, h6, h7, k + 1, by omega, rfl, rfl, fun z => by omega, fun j hj => ?_⟩
          · simp only [ox_let, ox_ix_nI hk10 (by omega), s2_1, k1, s1_1, ox_b2, Option.bind_some]
            rw [if_neg (by decide), if_true, nI_1]
          · simp only [ox_ix_nI hk10 (by omega), s2_1, k2, s1_1]
            rw [if_true, nI_1]
          · show (ox_s2 c 17 k x1).2 17 j = (ox_s2 m 5 k x1).2 5 j ∧ (ox_s2 (ox_s2 c 17 k x1) 18 k x2).2 18 j = (ox_s2 (ox_s2 m 5 k x1) 6 k x2).2 6 j ∧ (ox_s2 c 17 k x1).2 17 j &&& (ox_s2 (ox_s2 c 17 k x1) 18 k x2).2 18 j = 0 ∧ ∀ e, n * (n - 1) / 2 ≤ e → bt ((ox_s2 c 17 k x1).2 17 j) e = false ∧ bt ((ox_s2 (ox_s2 c 17 k x1) 18 k x2).2 18 j) e = false
            simp only [s2_at]
            by_cases e : j = k
            · simp [e, g4]
              exact fun f hf => ⟨g1 f hf, g2 f hf⟩
            · simp [e]
              have := k4 j (by omega)
              exact this
        · have hk' : k = 10 := by omega
          subst hk'
          exact ⟨-2000000, c, m, by rw [if_neg (by decide)]; rfl, by rw [if_pos (by decide)], hR⟩
      · refine ⟨-1, c, m, ?_, ?_, hR⟩
        · simp only [Option.bind_some]
          rw [if_neg (by decide), if_neg g4]
        · rw [if_neg g4]
    · have g3 : ¬ ∀ e, n * (n - 1) / 2 ≤ e → bt (x1 ||| x2) e = false := fun z => g2 (fun e he => by
        have := z e he
        rw [b_or] at this
        simp at this
        exact this.2)
      refine ⟨-1, c, m, ?_, ?_, hR⟩
      · rw [if_neg (fun z => g3 ((u_hi _ _ (by omega)).mp z))]
        rfl
      · rw [if_pos ((s_hi _ _ (by omega)).mpr g1), if_neg (fun z => g2 ((s_hi _ _ (by omega)).mp z))]
  · have g3 : ¬ ∀ e, n * (n - 1) / 2 ≤ e → bt (x1 ||| x2) e = false := fun z => g1 (fun e he => by
      have := z e he
      rw [b_or] at this
      simp at this
      exact this.1)
    refine ⟨-1, c, m, ?_, ?_, hR⟩
    · rw [if_neg (fun z => g3 ((u_hi _ _ (by omega)).mp z))]
      rfl
    · rw [if_neg (fun z => g1 ((s_hi _ _ (by omega)).mp z))]
