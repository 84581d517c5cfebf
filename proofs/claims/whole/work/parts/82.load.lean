/-! load: the new land -/
theorem pm_apart {t i j : Nat} {X Y : Nat → Nat} (ht : t ≤ 4) (ht2 : 2 ≤ t) (hi : i < 8) (hj : j < 8) (h1 : X i ≤ 1998) (h2 : X j ≤ 1998) (h3 : Y i ≤ 1998) (h4 : Y j ≤ 1998) {σ : ox_S} (h8 : σ.1 8 = mT t) (a1 : σ.2 8 i = nI (X i) - 999) (a2 : σ.2 8 j = nI (X j) - 999) (a3 : σ.2 9 i = nI (Y i) - 999) (a4 : σ.2 9 j = nI (Y j) - 999) : om_Mo_apart (nI i) (nI j) σ = some (nI (pd t X Y i j)) := by
  unfold om_Mo_apart
  rw [ox_ix_nI hi (by omega), ox_ix_nI hj (by omega), a1, a2]
  simp only [ox_let]
  rw [ox_ix_nI hi (by omega), ox_ix_nI hj (by omega), a3, a4, df_s, df_s, h8, show mT t = nI (t + 3) from if_neg (by omega)]
  unfold pd far
  by_cases z : t = 4
  · rw [if_pos (show nI (t + 3) = 7 by rw [z]; rfl), if_pos z]
    rcases df_x h1 h2 with ⟨x1, x2⟩ | ⟨x1, x2⟩
    · rw [if_pos x1, x2]
      rcases df_x h3 h4 with ⟨y1, y2⟩ | ⟨y1, y2⟩
      · rw [if_pos y1, y2, nI_add]
      · rw [if_neg y1, y2, ← nI_add]
        congr 1
        grind
    · rw [if_neg x1, x2]
      rcases df_x h3 h4 with ⟨y1, y2⟩ | ⟨y1, y2⟩
      · rw [if_pos y1, y2, ← nI_add]
        congr 1
        grind
      · rw [if_neg y1, y2, ← nI_add]
        congr 1
        grind
  · rw [if_neg (show ¬ nI (t + 3) = 7 from nI_ne (b := 7) (by omega) (by omega) (by omega)), if_neg z, df_sq h1 h2, df_sq h3 h4, nI_add]
    have hx := dif_le h1 h2
    have hy := dif_le h3 h4
    have qx := Nat.mul_le_mul hx hx
    have qy := Nat.mul_le_mul hy hy
    obtain ⟨r1, r2⟩ := rt_s (dif (X i) (X j) * dif (X i) (X j) + dif (Y i) (Y j) * dif (Y i) (Y j))
    exact pm_rootL ht z (by omega) r1 r2 (by rw [h8]; exact if_neg (by omega)) _ 0 (Nat.zero_add _)
/-- the reference's new land -/
def adK (D : Nat) (g : Nat → Nat → Nat) (K : Nat) (σ : ox_S) : Prop := ∀ i j, i < D → j < D → 8 * i + j < K → σ.2 1 (8 * i + j) = nI (g i j) ∧ σ.2 2 (8 * i + j) = 0
theorem pm_adJ {D i : Nat} {g : Nat → Nat → Nat} (hD : D ≤ 8) (hi : i < D) (gz : ∀ i, g i i = 0) {m : ox_S} (hval : ∀ σ i j, fr [1] [1, 2, 3] m σ → i < D → j < D → i ≠ j → (σ.1 8 = 4 ∧ σ.2 7 (8 * i + j) = nI (g i j)) ∨ (¬ σ.1 8 = 4 ∧ om_Mo_apart (nI i) (nI j) σ = some (nI (g i j)))) : ∀ e j, j + e = D → ∀ σ, fr [1] [1, 2, 3] m σ → σ.1 1 = nI D → adK D g (8 * i + j) σ → (∀ x, x ≤ i → σ.2 3 x = 0) → ∃ σ', om_Mo_adopt_h27 (nI i) (nI j) σ = some (.inl (nI (i + 1), σ')) ∧ fr [1] [1, 2, 3] m σ' ∧ σ'.1 1 = nI D ∧ adK D g (8 * (i + 1)) σ' ∧ ∀ x, x ≤ i → σ'.2 3 x = 0 := by
  intro e
  induction e with
  | zero =>
    intro j hj σ hf h1 hk h3
    have ej : j = D := by omega
    subst ej
    refine ⟨σ, ?_, hf, h1, fun i' j' hi' hj' hlt => hk i' j' hi' hj' (by omega), h3⟩
    unfold om_Mo_adopt_h27
    refine ox_w_inr ?_
    show om_Mo_adopt_b27 (nI i) (nI j) σ = _
    unfold om_Mo_adopt_b27
    rw [h1, if_pos (Int32.le_refl _), nI_1]
    rfl
  | succ e ih =>
    intro j hj σ hf h1 hk h3
    have hb : om_Mo_adopt_b27 (nI i) (nI j) σ = some (.inl (nI (j + 1), ox_s2 (ox_s2 σ 1 (8 * i + j) (nI (g i j))) 2 (8 * i + j) 0)) := by
      unfold om_Mo_adopt_b27
      rw [h1, if_neg (nI_ge (by omega) (by omega)), p_8, nI_1]
      have hx : ∀ k : Nat → Option ((Int32 × ox_S) ⊕ ((Int32 × ox_S) ⊕ ox_S)), ox_ix (nI (8 * i + j)) 64 k = k (8 * i + j) := fun k => ox_ix_nI (by omega) (by omega)
      simp only [hx, ox_let]
      by_cases z : i = j
      · rw [if_pos (by rw [z]), ← z, gz]
        rfl
      · rw [if_neg (nI_ne z (by omega) (by omega))]
        rcases hval σ i j hf hi (by omega) z with ⟨v1, v2⟩ | ⟨v1, v2⟩
        · rw [if_pos v1, v2]
        · rw [if_neg v1, v2]
          rfl
    obtain ⟨σ', a1, a2⟩ := ih (j + 1) (by omega) (ox_s2 (ox_s2 σ 1 (8 * i + j) (nI (g i j))) 2 (8 * i + j) 0) (fr_tr hf (fr_tr (fr_s2 (by decide)) (fr_s2 (by decide)))) h1 (by
      intro i' j' hi' hj' hlt
      rw [s2_at, s2_at, s2_at, s2_at, if_neg (show ¬ ((1 : Nat) = 2 ∧ 8 * i' + j' = 8 * i + j) by omega), if_neg (show ¬ ((2 : Nat) = 1 ∧ 8 * i' + j' = 8 * i + j) by omega)]
      by_cases z : 8 * i' + j' = 8 * i + j
      · rw [if_pos ⟨rfl, z⟩, if_pos ⟨rfl, z⟩, show i' = i by omega, show j' = j by omega]
        exact ⟨rfl, rfl⟩
      · rw [if_neg (by omega), if_neg (by omega)]
        exact hk i' j' hi' hj' (by omega)) (by
      intro x hx
      rw [s2_at, s2_at, if_neg (by omega), if_neg (by omega)]
      exact h3 x hx)
    refine ⟨σ', ?_, a2⟩
    rw [← a1]
    unfold om_Mo_adopt_h27
    exact ox_w_inl hb
theorem pm_adI {D : Nat} {g : Nat → Nat → Nat} (hD : D ≤ 8) (gz : ∀ i, g i i = 0) {m : ox_S} (hval : ∀ σ i j, fr [1] [1, 2, 3] m σ → i < D → j < D → i ≠ j → (σ.1 8 = 4 ∧ σ.2 7 (8 * i + j) = nI (g i j)) ∨ (¬ σ.1 8 = 4 ∧ om_Mo_apart (nI i) (nI j) σ = some (nI (g i j)))) : ∀ e i, i + e = D → ∀ σ, fr [1] [1, 2, 3] m σ → σ.1 1 = nI D → adK D g (8 * i) σ → (∀ x, x < i → σ.2 3 x = 0) → ∃ σ', om_Mo_adopt_h10 (nI i) σ = some σ' ∧ fr [1, 2, 3] [1, 2, 3] m σ' ∧ σ'.1 1 = nI D ∧ σ'.1 2 = 0 ∧ σ'.1 3 = 0 ∧ adK D g (8 * D) σ' ∧ ∀ x, x < D → σ'.2 3 x = 0 := by
  intro e
  induction e with
  | zero =>
    intro i hi σ hf h1 hk h3
    have ei : i = D := by omega
    subst ei
    refine ⟨ox_s1 (ox_s1 σ 2 0) 3 0, ?_, fr_tr (fr_up hf (by decide) (by decide)) (fr_tr (fr_s1 (by decide)) (fr_s1 (by decide))), h1, rfl, rfl, hk, h3⟩
    unfold om_Mo_adopt_h10
    refine ox_w_inr ?_
    show om_Mo_adopt_b10 (nI i) σ = _
    unfold om_Mo_adopt_b10
    rw [h1, if_pos (Int32.le_refl _)]
    rfl
  | succ e ih =>
    intro i hi σ hf h1 hk h3
    obtain ⟨σ1, a1, a2, a3, a4, a5⟩ := pm_adJ hD (show i < D by omega) gz hval D 0 (by omega) (ox_s2 σ 3 i 0) (fr_tr hf (fr_s2 (by decide))) h1 (by
      intro i' j' hi' hj' hlt
      rw [s2_at, s2_at, if_neg (by omega), if_neg (by omega)]
      exact hk i' j' hi' hj' (by omega)) (by
      intro x hx
      rw [s2_at]
      by_cases z : x = i
      · rw [if_pos ⟨rfl, z⟩]
      · rw [if_neg (by omega)]
        exact h3 x (by omega))
    obtain ⟨σ', b1, b2⟩ := ih (i + 1) (by omega) σ1 a2 a3 a4 (fun x hx => a5 x (by omega))
    refine ⟨σ', ?_, b2⟩
    rw [← b1]
    unfold om_Mo_adopt_h10
    refine ox_w_inl ?_
    show om_Mo_adopt_b10 (nI i) σ = _
    unfold om_Mo_adopt_b10
    rw [h1, if_neg (nI_ge (by omega) (by omega)), ox_ix_nI (show i < 8 by omega) (by omega)]
    simp only [ox_let]
    exact a1
theorem pm_adopt {D : Nat} {g : Nat → Nat → Nat} (hD : D ≤ 8) (gz : ∀ i, g i i = 0) {m : ox_S} (h7 : m.1 7 = nI D) (hval : ∀ σ i j, fr [1] [1, 2, 3] m σ → i < D → j < D → i ≠ j → (σ.1 8 = 4 ∧ σ.2 7 (8 * i + j) = nI (g i j)) ∨ (¬ σ.1 8 = 4 ∧ om_Mo_apart (nI i) (nI j) σ = some (nI (g i j)))) : ∃ m', om_Mo_adopt m = some m' ∧ fr [1, 2, 3] [1, 2, 3] m m' ∧ m'.1 1 = nI D ∧ m'.1 2 = 0 ∧ m'.1 3 = 0 ∧ adK D g (8 * D) m' ∧ ∀ x, x < D → m'.2 3 x = 0 := by
  unfold om_Mo_adopt
  simp only [ox_let]
  rw [h7]
  exact pm_adI hD gz hval D 0 (by omega) (ox_s1 m 1 (nI D)) (fr_s1 (by decide)) rfl (fun i j _ _ h => by omega) (fun x hx => by omega)
/-- all that was read -/
theorem rd_all {t f D : Nat} {c m : ox_S} (hr : rdh 2 t f D c m) (hd : rdD 2 t f D c m) : 3 ≤ D ∧ D ≤ 8 ∧ ∃ g : Nat → Nat → Nat, (∀ i, g i i = 0) ∧ (∀ i j, i < D → j < D → c.2 5 (8 * i + j) = nI (g i j) ∧ g i j = g j i ∧ g i j ≤ 9999) ∧ ∀ σ i j, fr [1] [1, 2, 3] m σ → i < D → j < D → i ≠ j → (σ.1 8 = 4 ∧ σ.2 7 (8 * i + j) = nI (g i j)) ∨ (¬ σ.1 8 = 4 ∧ om_Mo_apart (nI i) (nI j) σ = some (nI (g i j))) := by
  obtain ⟨_, ⟨hm7, hm8, hm9, _⟩, _, ht, hf, hD⟩ := hr
  obtain ⟨hD0, hdd⟩ := hd.2 (by decide)
  refine ⟨by omega, by omega, ?_⟩
  rcases hdd with ⟨rfl, hf0, r, k, ⟨v1, v2, v3, v4, v5, v6⟩, hr⟩ | ⟨ht2, r, ⟨v1, v2, v3, v4, X, Y, v5, v6⟩, hr⟩
  · have hr := hr rfl
    -- every pair is read
    have hp : ∀ i j, i < j → j < D → pos f i j < 8 * r + k := by
      intro i j hij hj
      have hk : k = fcl f r := by
        rcases v1 with q | q
        · omega
        · exact q.2
      rw [hk, hr]
      unfold pos fcl rws
      split <;> split <;> omega
    refine ⟨fun i j => if i = j then 0 else (c.2 5 (8 * i + j)).toNatClampNeg, fun i => if_pos rfl, fun i j hi hj => ?_, fun σ i j hσ hi hj hne => Or.inl ⟨?_, ?_⟩⟩
    · by_cases z : i = j
      · subst z
        simp only [if_true]
        exact ⟨v5 i hi, trivial, by omega⟩
      · simp only [if_neg z, if_neg (show ¬ j = i from fun q => z q.symm)]
        rcases Nat.lt_or_gt_of_ne z with y | y
        · obtain ⟨v, w1, w2, w3, _⟩ := v6 i j y hj
          rw [w2, w3, nI_clamp (by omega)]
          exact ⟨rfl, rfl, w1⟩
        · obtain ⟨v, w1, w2, w3, _⟩ := v6 j i y hi
          rw [w2, w3, nI_clamp (by omega)]
          exact ⟨rfl, rfl, w1⟩
    · rw [hσ.1 8 (by decide), hm8]
      decide
    · rw [hσ.2 7 (by decide)]
      simp only [if_neg hne]
      rcases Nat.lt_or_gt_of_ne hne with y | y
      · obtain ⟨v, w1, w2, w3, w4⟩ := v6 i j y hj
        rw [w2, nI_clamp (by omega)]
        exact (w4 (hp i j y hj)).1
      · obtain ⟨v, w1, w2, w3, w4⟩ := v6 j i y hi
        rw [w3, nI_clamp (by omega)]
        exact (w4 (hp j i y hi)).2
  · have hr := hr rfl
    subst hr
    refine ⟨fun i j => if i = j then 0 else pd t X Y i j, fun i => if_pos rfl, fun i j hi hj => ?_, fun σ i j hσ hi hj hne => Or.inr ⟨?_, ?_⟩⟩
    · by_cases z : i = j
      · subst z
        simp only [if_true]
        exact ⟨v4 i hi, trivial, by omega⟩
      · simp only [if_neg z, if_neg (show ¬ j = i from fun q => z q.symm)]
        have hle : pd t X Y i j ≤ 9999 := pd_le (v5 i hi).1 (v5 j hj).1 (v5 i hi).2.1 (v5 j hj).2.1
        rcases Nat.lt_or_gt_of_ne z with y | y
        · exact ⟨(v6 i j y hj).1, pd_c t X Y i j, hle⟩
        · rw [pd_c t X Y i j] at hle ⊢
          exact ⟨(v6 j i y hi).2, rfl, hle⟩
    · rw [hσ.1 8 (by decide), hm8]
      exact fun q => by
        have := (mT_lt ht).2.2.1.mp q
        omega
    · simp only [if_neg hne]
      obtain ⟨x1, x2, _, _, x5, x6⟩ := v5 i hi
      obtain ⟨y1, y2, _, _, y5, y6⟩ := v5 j hj
      exact pm_apart ht ht2 (by omega) (by omega) x1 y1 x2 y2 ((hσ.1 8 (by decide)).trans hm8) (by rw [hσ.2 8 (by decide), x5]) (by rw [hσ.2 8 (by decide), y5]) (by rw [hσ.2 9 (by decide), x6]) (by rw [hσ.2 9 (by decide), y6])
theorem os_load : ol_s_load Rl := by
  intro c m hR
  obtain ⟨N, hN, hc0, hm0, hch⟩ := hR.1
  -- the start
  have B : oc_Reader_begin c = some (ox_sA (ox_s1 (ox_s1 (ox_s1 (ox_s1 c 4 0) 9 0) 5 0) 6 0) 5 (fun j => if j < 64 then (0 : Int32) else c.2 5 j)) := rfl
  have fB : fr [4, 5, 6, 9] [5] c (ox_sA (ox_s1 (ox_s1 (ox_s1 (ox_s1 c 4 0) 9 0) 5 0) 6 0) 5 (fun j => if j < 64 then (0 : Int32) else c.2 5 j)) := fr_tr (fr_tr (fr_tr (fr_tr (fr_s1 (by decide)) (fr_s1 (by decide))) (fr_s1 (by decide))) (fr_s1 (by decide))) (fr_sA (by decide))
  have fL : fr [7, 8, 9, 10, 11, 12] [] m (ox_s1 (ox_s1 (ox_s1 (ox_s1 (ox_s1 (ox_s1 m 7 0) 8 (-1)) 9 (-1)) 10 0) 11 0) 12 0) := fr_tr (fr_tr (fr_tr (fr_tr (fr_tr (fr_s1 (by decide)) (fr_s1 (by decide))) (fr_s1 (by decide))) (fr_s1 (by decide))) (fr_s1 (by decide))) (fr_s1 (by decide))
  have h0 : rd (ox_sA (ox_s1 (ox_s1 (ox_s1 (ox_s1 c 4 0) 9 0) 5 0) 6 0) 5 (fun j => if j < 64 then (0 : Int32) else c.2 5 j)) (ox_s1 (ox_s1 (ox_s1 (ox_s1 (ox_s1 (ox_s1 m 7 0) 8 (-1)) 9 (-1)) 10 0) 11 0) 12 0) := by
    refine ⟨0, 0, 0, 0, ⟨⟨rfl, rfl, rfl, rfl⟩, ⟨rfl, rfl, rfl, rfl, rfl⟩, by omega, by omega, by omega, Or.inl rfl⟩, fun _ => ⟨rfl, fun x hx => ?_⟩, fun z => absurd rfl z⟩
    show (if x < 64 then (0 : Int32) else c.2 5 x) = 0
    rw [if_pos hx]
  have key := ln_text hN (tx := c.2 0) N 0 (by omega) (by omega) 1 _ _ (by omega) (by omega) ((fB.1 0 (by decide)).trans hc0) ((fL.1 0 (by decide)).trans hm0) (fun j hj => by rw [fB.2 0 (by decide)]) (fun j hj => by rw [fL.2 0 (by decide)]; exact (hch j hj).1.symm) h0
  obtain ⟨c1, m1, F1, F2, F3⟩ := key
  have G1 : fr [1, 2, 3, 4, 5, 6, 7, 8, 9] [1, 2, 3, 4, 5] c c1 := fr_tr (fr_up fB (by decide) (by decide)) F1
  have G2 : fr [4, 5, 6, 7, 8, 9, 10, 11, 12] [7, 8, 9] m m1 := fr_tr (fr_up fL (by decide) (by decide)) F2
  have R1 : Rl c1 m1 := Rl_m G2 (by decide) (by decide) (Rl_c G1 (by decide) (by decide) hR)
  rcases F3 with ⟨r, a1, a2, a3⟩ | ⟨a1, a2, t, f, D, a3, a4⟩
  · refine ⟨r, c1, m1, ?_, a2, R1⟩
    unfold oc_T_load oc_Reader_read
    rw [B]
    simp only [Option.bind_some]
    rw [show oc_Reader_read_h10 (1 : Int32) (0 : Int32) (0 : Int32) _ = some (r, c1) from a1]
    simp only [ox_b2_s]
    rw [if_neg a3]
  · obtain ⟨h3, h8, g, gz, g1, g2⟩ := rd_all a3 a4
    obtain ⟨m2, b1, b2, b3, b4, b5, b6, b7⟩ := pm_adopt h8 gz a3.2.1.1 g2
    -- the class settles
    have hs9 : c1.1 9 = nI D := a3.1.2.2.2
    have fS : fr [10, 12, 13] [6, 10] c1 (ox_s1 (ox_s1 (ox_sA (ox_sA (ox_s1 c1 10 (nI D)) 6 (va_cpy (c1.2 5) (c1.2 6) 0 0 64)) 10 (fun j => if j < 8 then (0 : Int32) else c1.2 10 j)) 12 0) 13 0) := fr_tr (fr_tr (fr_tr (fr_tr (fr_s1 (by decide)) (fr_sA (by decide))) (fr_sA (by decide))) (fr_s1 (by decide))) (fr_s1 (by decide))
    have d6 : ∀ i j, i < D → j < D → (ox_s1 (ox_s1 (ox_sA (ox_sA (ox_s1 c1 10 (nI D)) 6 (va_cpy (c1.2 5) (c1.2 6) 0 0 64)) 10 (fun j => if j < 8 then (0 : Int32) else c1.2 10 j)) 12 0) 13 0).2 6 (8 * i + j) = nI (g i j) := by
      intro i j hi hj
      show va_cpy (c1.2 5) (c1.2 6) 0 0 64 (8 * i + j) = _
      unfold va_cpy
      rw [if_pos (by omega), show 0 + (8 * i + j - 0) = 8 * i + j by omega]
      exact (g1 i j hi hj).1
    obtain ⟨c2, e1, e2, e3⟩ := pc_number h8 (σ := ox_s1 (ox_s1 (ox_sA (ox_sA (ox_s1 c1 10 (nI D)) 6 (va_cpy (c1.2 5) (c1.2 6) 0 0 64)) 10 (fun j => if j < 8 then (0 : Int32) else c1.2 10 j)) 12 0) 13 0) rfl
    have d6' : ∀ i j, i < D → j < D → c2.2 6 (8 * i + j) = nI (g i j) := fun i j hi hj => by rw [e2.2 6 (by decide)]; exact d6 i j hi hj
    obtain ⟨c3, k1, k2, k3⟩ := pc_listAll (d := g) h3 h8 (σ := c2) ((e2.1 10 (by decide)).trans rfl) e3 d6'
    have hset : oc_Land_settle_a14 (c1.1 9) c1 = some c2 := by
      unfold oc_Land_settle_a14
      rw [hs9]
      simp only [ox_let]
      exact congrArg (fun o => Option.bind o (fun s6 => some s6)) e1
    refine ⟨0, ox_s1 (ox_s1 c3 18 0) 19 0, m2, ?_, ?_, ?_⟩
    · unfold oc_T_load oc_Reader_read
      rw [B]
      simp only [Option.bind_some]
      rw [show oc_Reader_read_h10 (1 : Int32) (0 : Int32) (0 : Int32) _ = some (0, c1) from a1]
      simp only [ox_b2_s]
      rw [if_pos trivial, hset]
      simp only [Option.bind_some]
      rw [k1]
      rfl
    · have : om_Mo_load m = om_Mo_load_h34 (nI 1) (nI 0) (ox_s1 (ox_s1 (ox_s1 (ox_s1 (ox_s1 (ox_s1 m 7 0) 8 (-1)) 9 (-1)) 10 0) 11 0) 12 0) := rfl
      rw [this, a2, b1]
      rfl
    · have hfc : fr [10, 11, 12, 13, 17] [6, 7, 8, 9, 10, 13, 14, 15] c1 c3 := fr_tr (fr_tr (fr_up fS (by decide) (by decide)) (fr_up e2 (by decide) (by decide))) (fr_up k2 (by decide) (by decide))
      obtain ⟨N1, x1, x2, x3, x4⟩ := R1.1
      refine ⟨⟨N1, x1, (hfc.1 0 (by decide)).trans x2, (b2.1 0 (by decide)).trans x3, fun j hj => ?_⟩, D, g, ⟨Or.inr ⟨h3, h8⟩, ?_, b3⟩, ?_, ?_, ?_, ?_, ?_, Or.inl ⟨rfl, b4⟩, 0, by omega, rfl, b5, fun z => by omega, fun j hj => by omega⟩
      · show c3.2 0 j = m2.2 0 j ∧ (10 : Int32) ≤ c3.2 0 j ∧ c3.2 0 j ≤ 126
        rw [hfc.2 0 (by decide), b2.2 0 (by decide)]
        exact x4 j hj
      · show c3.1 10 = nI D
        rw [k2.1 10 (by decide), e2.1 10 (by decide)]
        rfl
      · intro i j hi hj
        refine ⟨?_, (b6 i j hi hj (by omega)).1, (g1 i j hi hj).2.1, (g1 i j hi hj).2.2, gz i⟩
        show c3.2 6 (8 * i + j) = _
        rw [k2.2 6 (by decide)]
        exact d6' i j hi hj
      · intro i hi
        have z : c3.2 10 i = 0 := by
          rw [k2.2 10 (by decide), e2.2 10 (by decide)]
          show (if i < 8 then (0 : Int32) else c1.2 10 i) = 0
          rw [if_pos (by omega)]
        show c3.2 10 i = m2.2 3 i ∧ (-100000 : Int32) ≤ c3.2 10 i ∧ c3.2 10 i ≤ 100000
        rw [z, b7 i hi]
        exact ⟨rfl, by decide, by decide⟩
      · show rl_num D c3
        unfold rl_num
        rw [k2.1 11 (by decide), k2.2 7 (by decide), k2.2 8 (by decide), k2.2 9 (by decide)]
        exact e3
      · have z12 : (ox_s1 (ox_s1 c3 18 0) 19 0).1 12 = 0 := by
          show c3.1 12 = 0
          rw [k2.1 12 (by decide), e2.1 12 (by decide)]
          rfl
        have z13 : (ox_s1 (ox_s1 c3 18 0) 19 0).1 13 = 0 := by
          show c3.1 13 = 0
          rw [k2.1 13 (by decide), e2.1 13 (by decide)]
          rfl
        unfold rl_mark
        rw [z12, z13]
        refine ⟨fun i j hij hj => ?_, fun e _ => ⟨b_0 e, b_0 e⟩⟩
        have w1 := (b6 i j (by omega) hj (by omega)).2
        have w2 := (b6 j i hj (by omega) (by omega)).2
        rw [w1, w2, b_0]
        exact ⟨Or.inl rfl, rfl, ⟨fun z => Bool.noConfusion z, fun z => absurd z (by decide)⟩, ⟨fun z => Bool.noConfusion z, fun z => absurd z (by decide)⟩⟩
      · exact k3
