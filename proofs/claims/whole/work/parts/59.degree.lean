/-! bound and degree -/
theorem pm_ownL : ∀ r k, k + r = 64 → ∀ (m σ : ox_S), fr [] [11] m σ → (∀ x, x < k → σ.2 11 x = m.2 2 x) → ∃ σ', om_Mo_ownRules_h2 (nI k) σ = some σ' ∧ fr [] [11] m σ' ∧ ∀ x, x < 64 → σ'.2 11 x = m.2 2 x := by
  intro r
  induction r with
  | zero =>
    intro k hk m σ hf h
    refine ⟨σ, ?_, hf, fun x hx => h x (by omega)⟩
    unfold om_Mo_ownRules_h2
    refine ox_w_inr ?_
    show om_Mo_ownRules_b2 (nI k) σ = _
    unfold om_Mo_ownRules_b2
    rw [show (64 : Int32) = nI 64 from rfl, if_pos (nI_le (by omega) (by omega))]
  | succ r ih =>
    intro k hk m σ hf h
    obtain ⟨σ', a1, a2, a3⟩ := ih (k + 1) (by omega) m (ox_s2 σ 11 k (σ.2 2 k)) (fr_tr hf (fr_s2 (by decide))) (fun x hx => by
      rw [s2_at]
      by_cases z : x = k
      · subst z; rw [if_pos ⟨rfl, rfl⟩, hf.2 2 (by decide)]
      · rw [if_neg (fun q => z q.2)]; exact h x (by omega))
    refine ⟨σ', ?_, a2, a3⟩
    rw [← a1]
    unfold om_Mo_ownRules_h2
    refine ox_w_inl ?_
    show om_Mo_ownRules_b2 (nI k) σ = _
    unfold om_Mo_ownRules_b2
    rw [show (64 : Int32) = nI 64 from rfl, if_neg (nI_ge (by omega) (by omega))]
    simp only [ox_let, nI_1, ox_ix_nI (show k < 64 by omega) (show 64 < 2 ^ 31 by omega)]
theorem pm_own (m : ox_S) : ∃ σ', om_Mo_ownRules m = some σ' ∧ fr [] [11] m σ' ∧ ∀ x, x < 64 → σ'.2 11 x = m.2 2 x := pm_ownL 64 0 (by omega) m m fr_rf (fun x hx => by omega)
theorem lnd_of {n : Nat} {d : Nat → Nat → Nat} {c m : ox_S} (h : rl_all n d c m) : lnd n c m := by
  obtain ⟨hl, hd, hp, h4, _⟩ := h
  refine ⟨hl.2.1, hl.2.2, h4, fun k hk => ?_, fun i hi => (hp i hi).1⟩
  obtain ⟨a, b, _⟩ := hd (k / 8) (k % 8) (by have := hk.1; have := hk.2; omega) hk.2
  rw [show 8 * (k / 8) + k % 8 = k by omega] at a b
  rw [a, b]
theorem lnd_m {n : Nat} {c m m' : ox_S} {T : List Nat} (hf : fr [] T m m') (h1 : 1 ∉ T) (h3 : 3 ∉ T) (h : lnd n c m) : lnd n c m' := by
  unfold lnd
  rw [hf.1 1 (by simp), hf.2 1 h1, hf.2 3 h3]
  exact h
theorem rul_own {n : Nat} {c m m' : ox_S} (h8 : n ≤ 8) (hm : rl_mark n c m) (h : ∀ x, x < 64 → m'.2 11 x = m.2 2 x) : rul n (c.1 12) (c.1 13) m' := by
  intro k hk
  rw [h k (ed_64 h8 hk)]
  obtain ⟨_, _, q3, q4⟩ := hm.1 (k / 8) (k % 8) hk.1 hk.2
  rw [show 8 * (k / 8) + k % 8 = k by omega] at q3 q4
  exact ⟨q3.symm, q4.symm⟩
/-- no city -/
theorem pk_none {c m : ox_S} (hc : c.1 10 = nI 0) (hm : m.1 1 = nI 0) (hnum : rl_num 0 c) (x1 x2 : Int32) : ∃ c', oc_OneTree_grow x1 x2 c = some (0, c') ∧ fr [14, 15, 16] [11, 12] c c' ∧ om_Mo_tree m = some (0, m) := by
  obtain ⟨c1, a1, a2⟩ := pc_clear (c0 := c) (n := 0) (by omega)
  refine ⟨c1, ?_, a2.1, ?_⟩
  · unfold oc_OneTree_grow
    rw [a1]
    simp only [Option.bind_some]
    unfold oc_OneTree_grow_h6
    refine ox_w_inr ?_
    show oc_OneTree_grow_b6 x1 x2 (0 : Int32) c1 = _
    unfold oc_OneTree_grow_b6
    rw [(KI_num a2 hnum).1, if_pos (by decide)]
    simp only [ox_let]
    have h15 : oc_OneTree_grow_h51 x2 (c1.1 15) c1 = some (0, c1) := by
      unfold oc_OneTree_grow_h51
      refine ox_w_inr ?_
      show oc_OneTree_grow_b51 x2 (c1.1 15) c1 = _
      unfold oc_OneTree_grow_b51
      have : zc (fun _ => false) + tc (fun _ => false) = 0 := by
        unfold zc tc
        rw [cn_k_no 8 (fun _ _ => rfl), cn_k_no 64 (fun _ _ => by simp)]
      rw [a2.2.2.2.1, this, a2.1.1 10 (by decide), hc, if_pos (by decide), if_pos (by decide)]
    rw [h15]
    rfl
  · unfold om_Mo_tree
    rw [hm, if_pos (show nI 0 = 0 from rfl)]
theorem Rl_tree {c m c' m' : ox_S} (hR : Rl c m) (h1 : fr [14, 15, 16] [11, 12] c c') (h2 : fr [] [10, 11, 12] m m') : Rl c' m' := Rl_m h2 (by decide) (by decide) (Rl_c h1 (by decide) (by decide) hR)
theorem fr_m1 {m m1 m2 : ox_S} (h1 : fr [] [11] m m1) (h2 : fr [] [10, 12] m1 m2) : fr [] [10, 11, 12] m m2 := fr_tr (fr_up h1 (fun _ h => by cases h) (fun k hk => by simp at hk ⊢; exact Or.inr (Or.inl hk))) (fr_up h2 (fun _ h => by cases h) (fun k hk => by simp at hk ⊢; rcases hk with h | h; exact Or.inl h; exact Or.inr (Or.inr h)))
theorem os_bound : ol_s_bound Rl := by
  intro c m hR
  obtain ⟨ht, n, d, hall⟩ := id hR
  obtain ⟨hl, hd, hp, h4, h5, h6, h7, h8⟩ := id hall
  have hn := rl_n8 hl
  obtain ⟨m1, o1, o2, o3⟩ := pm_own m
  rcases hl.1 with hn0 | ⟨hn3, hn8⟩
  · subst hn0
    obtain ⟨c', g1, g2, g3⟩ := pk_none (m := m1) hl.2.1 (by rw [o2.1 1 (by decide)]; exact hl.2.2) h4 (c.1 12) (c.1 13)
    refine ⟨-2000000, c', m1, ?_, ?_, Rl_tree hR g2 (fr_m1 o2 fr_rf)⟩
    · unfold oc_T_bound oc_OneTree_boundUnder
      rw [g1]
      rfl
    · unfold om_Mo_bound om_Mo_boundNow
      rw [o1]
      simp only [Option.bind_some]
      rw [g3]
      rfl
  · obtain ⟨c', m', f1, f2, hb⟩ := pk_bound hn3 hn8 (lnd_m o2 (by decide) (by decide) (lnd_of hall)) (rul_own hn8 h5 o3)
    have fin : ∀ r, oc_OneTree_boundUnder (c.1 12) (c.1 13) c = some (r, c') → om_Mo_boundNow m1 = some (r, m') → ∃ (r : Int32) (c' m' : ox_S), oc_T_bound c = some (r, c') ∧ om_Mo_bound m = some (r, m') ∧ Rl c' m' := by
      intro r h1 h2
      refine ⟨r, c', m', ?_, ?_, Rl_tree hR f1 (fr_m1 o2 f2)⟩
      · unfold oc_T_bound
        rw [h1]
        rfl
      · unfold om_Mo_bound
        rw [o1]
        simp only [Option.bind_some]
        rw [h2]
        rfl
    rcases hb with ⟨T, pf, _, _, _, _, _, _, b1, b2⟩ | ⟨_, b1, b2⟩
    · exact fin _ b1 b2
    · exact fin _ b1 b2
/-! degrees -/
def ky (x y : Nat) : Nat := if y < x then 8 * y + x else 8 * x + y
def dgm (T : Nat → Bool) (x : Nat) (M : Nat) : Nat := cn_k (fun y => !(y == x) && T (ky x y)) M
theorem dgm_add {n : Nat} {T : Nat → Bool} {k x : Nat} (h8 : n ≤ 8) (hk : ed n k) (hT : T k = false) (hx : x < 8) : dgm (upT T k) x 8 = dgm T x 8 + if k / 8 = x ∨ k % 8 = x then 1 else 0 := by
  have b1 := hk.1
  have b2 := hk.2
  unfold dgm
  by_cases h : k / 8 = x ∨ k % 8 = x
  · rw [if_pos h]
    -- the other end
    obtain ⟨y, y1, y2, y3⟩ : ∃ y, y < 8 ∧ y ≠ x ∧ ky x y = k := by
      rcases h with h | h
      · refine ⟨k % 8, by omega, by omega, ?_⟩
        unfold ky
        rw [if_neg (by omega)]
        omega
      · refine ⟨k / 8, by omega, by omega, ?_⟩
        unfold ky
        rw [if_pos (by omega)]
        omega
    refine cn_k_add (k := y) y1 (by rw [y3, hT]; simp) (fun z hz => ?_)
    by_cases e : z = y
    · rw [e, y3, show upT T k k = true from upT_iff.mpr (Or.inr rfl), beq_eq_false_iff_ne.mpr y2]
      simp
    · rw [beq_eq_false_iff_ne.mpr e]
      by_cases q : z = x
      · rw [q]; simp
      · have : ky x z ≠ k := fun w => by
          unfold ky at w y3
          split at w <;> split at y3 <;> omega
        rw [show upT T k (ky x z) = T (ky x z) by unfold upT; rw [beq_eq_false_iff_ne.mpr this]; simp]
        simp
  · rw [if_neg h, Nat.add_zero]
    refine cn_k_same 8 (fun z hz => ?_)
    by_cases q : z = x
    · rw [q]; simp
    · have : ky x z ≠ k := fun w => by
        unfold ky at w
        split at w <;> omega
      rw [show upT T k (ky x z) = T (ky x z) by unfold upT; rw [beq_eq_false_iff_ne.mpr this]; simp]
theorem dgm_dg {n : Nat} {T : Nat → Bool} (h8 : n ≤ 8) (hT : ∀ k, T k = true → ed n k) {x : Nat} (hx : x < 8) : dgm T x 8 = dg T x := by
  have key : ∀ M, dgm (fun k => T k && decide (k < M)) x 8 = dg (fun k => T k && decide (k < M)) x := by
    intro M
    induction M with
    | zero =>
      unfold dgm dg
      rw [cn_k_no 8 (fun _ _ => by simp), cn_k_no 64 (fun _ _ => by simp)]
    | succ M ih =>
      cases q : T M with
      | false =>
        have : (fun k => T k && decide (k < M + 1)) = (fun k => T k && decide (k < M)) := by
          funext k
          by_cases e : k = M
          · subst e; simp [q]
          · have : decide (k < M + 1) = decide (k < M) := by
              by_cases z : k < M
              · rw [decide_eq_true z, decide_eq_true (by omega)]
              · rw [decide_eq_false z, decide_eq_false (by omega)]
            rw [this]
        rw [this]
        exact ih
      | true =>
        have : (fun k => T k && decide (k < M + 1)) = upT (fun k => T k && decide (k < M)) M := by
          funext k
          unfold upT
          by_cases e : k = M
          · subst e; simp [q]
          · have : decide (k < M + 1) = decide (k < M) := by
              by_cases z : k < M
              · rw [decide_eq_true z, decide_eq_true (by omega)]
              · rw [decide_eq_false z, decide_eq_false (by omega)]
            rw [this, beq_eq_false_iff_ne.mpr e]
            simp
        rw [this, dgm_add h8 (hT M q) (by simp) hx, dg_add (ed_64 h8 (hT M q)) (by simp), ih]
  have := key 64
  have e : (fun k => T k && decide (k < 64)) = T := by
    funext k
    cases q : T k with
    | false => rfl
    | true => rw [decide_eq_true (ed_64 h8 (hT k q))]; rfl
  rw [e] at this
  exact this
theorem pm_meetL {n : Nat} {m m' : ox_S} {T : Nat → Bool} (h8 : n ≤ 8) (hM : MI n m m' T) (hnm : m.1 1 = nI n) {x : Nat} (hx : x < n) : ∀ r y, y + r = n → om_Mo_meeting_h4 (nI x) (nI (dgm T x y)) (nI y) m' = some (nI (dgm T x n)) := by
  have hnm' : m'.1 1 = nI n := by rw [hM.1.1 1 (by decide)]; exact hnm
  intro r
  induction r with
  | zero =>
    intro y hy
    have e : y = n := by omega
    subst e
    unfold om_Mo_meeting_h4
    refine ox_w_inr ?_
    show om_Mo_meeting_b4 (nI x) _ (nI y) m' = _
    unfold om_Mo_meeting_b4
    rw [hnm', if_pos (nI_le (Nat.le_refl _) (by omega))]
  | succ r ih =>
    intro y hy
    rw [← ih (y + 1) (by omega)]
    unfold om_Mo_meeting_h4
    refine ox_w_inl ?_
    show om_Mo_meeting_b4 (nI x) (nI (dgm T x y)) (nI y) m' = _
    have hs : dgm T x (y + 1) = dgm T x y + if (!(y == x) && T (ky x y)) then 1 else 0 := rfl
    unfold om_Mo_meeting_b4 om_Mo_meeting_j32
    rw [hnm', if_neg (nI_ge (show y < n by omega) (by omega)), hs, p_8, p_8]
    simp only [ox_let, nI_1]
    rcases Nat.lt_trichotomy y x with z | z | z
    · have hk : ed n (8 * y + x) := ⟨by omega, by omega⟩
      have hin := hM.2.2 _ hk
      have hky : ky x y = 8 * y + x := if_pos z
      rw [if_neg (nI_ge z (by omega)), ox_ix_nI (show 8 * y + x < 64 by omega) (by omega), hky, beq_eq_false_iff_ne.mpr (show y ≠ x by omega), if_pos (nI_le (show y ≤ x by omega) (by omega))]
      cases q : T (8 * y + x) with
      | false => rw [if_pos (hin.mpr q)]; simp
      | true => rw [if_neg (fun w => by rw [hin.mp w] at q; cases q)]; simp
    · subst z
      rw [if_pos (nI_le (Nat.le_refl _) (by omega)), if_pos (nI_le (Nat.le_refl _) (by omega))]
      simp
    · have hk : ed n (8 * x + y) := ⟨by omega, by omega⟩
      have hin := hM.2.2 _ hk
      have hky : ky x y = 8 * x + y := if_neg (by omega)
      rw [if_pos (nI_le (show x ≤ y by omega) (by omega)), if_neg (nI_ge z (by omega)), ox_ix_nI (show 8 * x + y < 64 by omega) (by omega), hky, beq_eq_false_iff_ne.mpr (show y ≠ x by omega)]
      cases q : T (8 * x + y) with
      | false => rw [if_pos (hin.mpr q)]; simp
      | true => rw [if_neg (fun w => by rw [hin.mp w] at q; cases q)]; simp
theorem pm_meet {n : Nat} {m m' : ox_S} {T : Nat → Bool} (h8 : n ≤ 8) (hM : MI n m m' T) (hnm : m.1 1 = nI n) {x : Nat} (hx : x < n) : om_Mo_meeting (nI x) m' = some (nI (dg T x)) := by
  have h := pm_meetL h8 hM hnm hx n 0 (by omega)
  have e : dgm T x n = dgm T x 8 := by
    refine (cn_k_gap2 h8 (fun y h1 h2 => ?_)).symm
    cases q : T (ky x y) with
    | false => simp
    | true =>
      have := hM.2.1 _ q
      unfold ed ky at this
      split at this <;> omega
  rw [e, dgm_dg h8 hM.2.1 (by omega)] at h
  exact h
theorem os_degree : ol_s_degree Rl := by
  intro c m x hR
  obtain ⟨ht, n, d, hall⟩ := id hR
  obtain ⟨hl, hd, hp, h4, h5, h6, h7, h8⟩ := id hall
  have hn := rl_n8 hl
  obtain ⟨m1, o1, o2, o3⟩ := pm_own m
  have hnm1 : m1.1 1 = nI n := by rw [o2.1 1 (by decide)]; exact hl.2.2
  obtain ⟨q1, q2⟩ := pm_city hnm1 (by omega) x
  rcases pc_city hl.2.1 (by omega) x with ⟨r1, r2⟩ | ⟨i, hi, rfl, r2⟩
  · refine ⟨-1, c, m1, ?_, ?_, Rl_m o2 (by decide) (by decide) hR⟩
    · unfold oc_T_degree
      rw [r2]
      rfl
    · unfold om_Mo_degree
      rw [o1]
      simp only [Option.bind_some]
      rw [q1 r1]
      rfl
  · have hn3 : 3 ≤ n ∧ n ≤ 8 := hl.1.resolve_left (by omega)
    have hcl : oc_T_degree (nI i) c = ox_b2 (oc_OneTree_grow (c.1 12) (c.1 13) c) fun r2 s3 => if r2 = 0 then some ((-1 : Int32), s3) else ox_ix (nI i) 8 fun j4 => some (s3.2 12 j4, s3) := by
      unfold oc_T_degree
      rw [r2]
      rfl
    have hrf : om_Mo_degree (nI i) m = ox_b2 (om_Mo_tree m1) fun r3 s4 => if r3 = 0 then some ((-1 : Int32), s4) else (om_Mo_meeting (nI i) s4).bind fun r5 => some (r5, s4) := by
      unfold om_Mo_degree
      rw [o1]
      simp only [Option.bind_some]
      rw [q2 i hi rfl]
      rfl
    rw [hcl, hrf]
    rcases pk_tree hn3.1 hn3.2 (lnd_m o2 (by decide) (by decide) (lnd_of hall)) (rul_own hn3.2 h5 o3) with ⟨c', m', T, pf, g1, g2, g3, g4, g5, g6, g7⟩ | ⟨c', m', g1, g2, g3, g4⟩
    · refine ⟨nI (dg T i), c', m', ?_, ?_, Rl_tree hR g3.1 (fr_m1 o2 g4.1)⟩
      · rw [g1]
        show (if (1 : Int32) = 0 then some ((-1 : Int32), c') else ox_ix (nI i) 8 fun j4 => some (c'.2 12 j4, c')) = _
        rw [if_neg (by decide), ox_ix_nI (by omega) (by omega), g3.2.2.2.2.2.2.1 i (by omega)]
      · rw [g2]
        show (if (1 : Int32) = 0 then some ((-1 : Int32), m') else (om_Mo_meeting (nI i) m').bind fun r5 => some (r5, m')) = _
        rw [if_neg (by decide), pm_meet hn3.2 g4 hnm1 hi]
        rfl
    · refine ⟨-1, c', m', ?_, ?_, Rl_tree hR g3 (fr_m1 o2 g4)⟩
      · rw [g1]; rfl
      · rw [g2]; rfl
