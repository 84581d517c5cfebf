/-! caseBound -/
theorem p_and1 (y : Int32) : y &&& 1 = 0 ∨ y &&& 1 = 1 := by
  have h1 : ∀ i, i < 32 → bt 1 i = decide (i = 0) := by decide +kernel
  cases q : bt y 0 with
  | false =>
    left
    apply b_ext
    intro i hi
    rw [b_and, h1 i hi, b_0]
    by_cases z : i = 0
    · subst z; rw [q]; rfl
    · rw [decide_eq_false z]; simp
  | true =>
    right
    apply b_ext
    intro i hi
    rw [b_and, h1 i hi]
    by_cases z : i = 0
    · subst z; rw [q]; rfl
    · rw [decide_eq_false z]; simp
theorem pm_bit1 {x : Int32} {e : Nat} (he : e < 32) (σ : ox_S) : ∃ r, om_Mo_bit x (nI e) σ = some r ∧ (r = 1 ↔ bt x e = true) := by
  refine ⟨_, rfl, ?_⟩
  have h := b_ask x e he
  rcases p_and1 (x >>> (nI e &&& 31)) with z | z
  · have := h.mp z
    rw [z, this]
    exact ⟨(fun q => absurd q (by decide)), (fun q => by cases q)⟩
  · rw [z]
    refine ⟨fun _ => ?_, fun _ => rfl⟩
    cases q : bt x e with
    | true => rfl
    | false => rw [h.mpr q] at z; exact absurd z (by decide)
def rv2 (X1 X2 : Int32) (e : Nat) : Int32 := if bt X1 e = true then 1 else if bt X2 e = true then 2 else 0
theorem pm_ruJ {n : Nat} {m : ox_S} (h8 : n ≤ 8) (hnm : m.1 1 = nI n) {k : Nat} (hk : k < 10) {i : Nat} : ∀ r j, j + r = n → i < j → ∀ σ, fr [] [11] m σ → (∀ x, ed n x → x < 8 * i + j → σ.2 11 x = rv2 (m.2 5 k) (m.2 6 k) (eN n x)) → ∃ σ', om_Mo_caseBound_h31 (nI k) (nI (en n i j)) (nI i) (nI j) σ = some (.inl (nI (en n i n), nI (i + 1), σ')) ∧ fr [] [11] m σ' ∧ (∀ x, ed n x → x < 8 * i + n → σ'.2 11 x = rv2 (m.2 5 k) (m.2 6 k) (eN n x)) := by
  intro r
  induction r with
  | zero =>
    intro j hj hij σ hf h
    have e : j = n := by omega
    subst e
    refine ⟨σ, ?_, hf, h⟩
    unfold om_Mo_caseBound_h31
    refine ox_w_inr ?_
    show om_Mo_caseBound_b31 (nI k) (nI (en j i j)) (nI i) (nI j) σ = _
    unfold om_Mo_caseBound_b31
    rw [hf.1 1 (by decide), hnm, if_pos (nI_le (Nat.le_refl _) (by omega))]
    simp only [ox_let, nI_1]
  | succ r ih =>
    intro j hj hij σ hf h
    have hj2 : j < n := by omega
    have he := en_28 h8 hj2 hij
    have heN : eN n (8 * i + j) = en n i j := by unfold eN; rw [show (8 * i + j) / 8 = i by omega, show (8 * i + j) % 8 = j by omega]
    obtain ⟨σ', a1, a2, a3⟩ := ih (j + 1) (by omega) (by omega) (ox_s2 σ 11 (8 * i + j) (rv2 (m.2 5 k) (m.2 6 k) (en n i j))) (fr_tr hf (fr_s2 (by decide))) (fun x x1 x2 => by
      rw [s2_at]
      by_cases z : x = 8 * i + j
      · rw [if_pos ⟨rfl, z⟩, z, heN]
      · rw [if_neg (fun q => z q.2)]; exact h x x1 (by omega))
    refine ⟨σ', ?_, a2, a3⟩
    rw [← a1]
    unfold om_Mo_caseBound_h31
    refine ox_w_inl ?_
    show om_Mo_caseBound_b31 (nI k) (nI (en n i j)) (nI i) (nI j) σ = _
    obtain ⟨r5, t1, t2⟩ := pm_bit1 (x := σ.2 5 k) (e := en n i j) (by omega) σ
    obtain ⟨r6, u1, u2⟩ := pm_bit1 (x := σ.2 6 k) (e := en n i j) (by omega) σ
    unfold om_Mo_caseBound_b31
    rw [hf.1 1 (by decide), hnm, if_neg (nI_ge hj2 (by omega)), p_8]
    simp only [ox_ix_nI hk (show 10 < 2 ^ 31 by omega), t1, u1, Option.bind_some, ox_let, nI_1, ox_ix_nI (show 8 * i + j < 64 by omega) (show 64 < 2 ^ 31 by omega), en_sx hij]
    rw [hf.2 5 (by decide)] at t2
    rw [hf.2 6 (by decide)] at u2
    unfold rv2
    by_cases z1 : bt (m.2 5 k) (en n i j) = true
    · rw [if_pos (t2.mpr z1), if_pos z1]
    · rw [if_neg (fun q => z1 (t2.mp q)), if_neg z1]
      by_cases z2 : bt (m.2 6 k) (en n i j) = true
      · rw [if_pos (u2.mpr z2), if_pos z2]
      · rw [if_neg (fun q => z2 (u2.mp q)), if_neg z2]
theorem pm_ruI {n : Nat} {m : ox_S} (h8 : n ≤ 8) (hnm : m.1 1 = nI n) {k : Nat} (hk : k < 10) : ∀ r i, i + r = n → ∀ σ, fr [] [11] m σ → (∀ x, ed n x → x < 8 * i + (i + 1) → σ.2 11 x = rv2 (m.2 5 k) (m.2 6 k) (eN n x)) → ∃ σ', om_Mo_caseBound_h18 (nI k) (nI (en n i (i + 1))) (nI i) σ = om_Mo_boundNow σ' ∧ fr [] [11] m σ' ∧ (∀ x, ed n x → σ'.2 11 x = rv2 (m.2 5 k) (m.2 6 k) (eN n x)) := by
  intro r
  induction r with
  | zero =>
    intro i hi σ hf h
    refine ⟨σ, ?_, hf, fun x hx => h x hx (by unfold ed at hx; omega)⟩
    unfold om_Mo_caseBound_h18
    refine ox_w_map ?_
    show om_Mo_caseBound_b18 (nI k) (nI (en n i (i + 1))) (nI i) σ = _
    unfold om_Mo_caseBound_b18
    rw [hf.1 1 (by decide), hnm, if_pos (nI_le (by omega) (by omega))]
    cases om_Mo_boundNow σ <;> rfl
  | succ r ih =>
    intro i hi σ hf h
    have hi2 : i < n := by omega
    obtain ⟨σ1, a1, a2, a3⟩ := pm_ruJ h8 hnm hk (n - (i + 1)) (i + 1) (by omega) (by omega) σ hf h
    obtain ⟨σ2, b1, b2⟩ := ih (i + 1) (by omega) σ1 a2 (fun x x1 x2 => a3 x x1 (by unfold ed at x1; omega))
    refine ⟨σ2, ?_, b2⟩
    rw [← b1]
    unfold om_Mo_caseBound_h18
    refine ox_w_inl ?_
    show om_Mo_caseBound_b18 (nI k) (nI (en n i (i + 1))) (nI i) σ = _
    unfold om_Mo_caseBound_b18
    rw [hf.1 1 (by decide), hnm, if_neg (nI_ge hi2 (by omega))]
    simp only [ox_let, nI_1]
    rw [a1, en_up n h8 i hi2]
/-- a case's rules -/
theorem pm_rules {n : Nat} {c m : ox_S} (h8 : n ≤ 8) (hnm : m.1 1 = nI n) {k : Nat} (hk : k < 10) (e5 : c.2 17 k = m.2 5 k) (e6 : c.2 18 k = m.2 6 k) (hdis : c.2 17 k &&& c.2 18 k = 0) : ∃ σ', om_Mo_caseBound_h18 (nI k) (0 : Int32) (0 : Int32) m = om_Mo_boundNow σ' ∧ fr [] [11] m σ' ∧ rul n (c.2 17 k) (c.2 18 k) σ' := by
  have e0 : en n 0 (0 + 1) = 0 := by unfold en; simp
  obtain ⟨σ', a1, a2, a3⟩ := pm_ruI h8 hnm hk n 0 (by omega) m fr_rf (fun x hx hl => by unfold ed at hx; omega)
  rw [e0] at a1
  refine ⟨σ', a1, a2, fun x hx => ?_⟩
  rw [a3 x hx, e5, e6]
  rw [e5, e6] at hdis
  have hb : (bt (m.2 5 k) (eN n x) && bt (m.2 6 k) (eN n x)) = false := by rw [← b_and, hdis]; exact b_0 _
  unfold rv2
  cases q1 : bt (m.2 5 k) (eN n x) <;> cases q2 : bt (m.2 6 k) (eN n x) <;> rw [q1, q2] at hb <;> first | (cases hb; done) | (constructor <;> decide)
/-- one case, on both sides -/
theorem pk_case {n : Nat} {d : Nat → Nat → Nat} {c m : ox_S} (h3 : 3 ≤ n) (h8 : n ≤ 8) (hall : rl_all n d c m) {K k : Nat} (hK : K ≤ 10) (h19 : c.1 19 = nI K) (hm3 : m.1 3 = nI K) (hk : k < K) (e5 : c.2 17 k = m.2 5 k) (e6 : c.2 18 k = m.2 6 k) (hdis : c.2 17 k &&& c.2 18 k = 0) : ∃ c' m0 m', lnd n c m0 ∧ rul n (c.2 17 k) (c.2 18 k) m0 ∧ fr [14, 15, 16] [11, 12] c c' ∧ fr [] [10, 11, 12] m m' ∧ fr [] [10, 12] m0 m' ∧ ((∃ T pf, KI n c c' T pf ∧ zc T = 2 ∧ tc T = n - 2 ∧ jn n (fun x => T x = true) ∧ om_Mo_tree m0 = some (1, m') ∧ oc_T_caseBound (nI k) c = some (ws (wI c) T 64 - 2 * ps (c.2 10) n, c') ∧ om_Mo_caseBound (nI k) m = some (ws (wI c) T 64 - 2 * ps (c.2 10) n, m')) ∨ (om_Mo_tree m0 = some (0, m') ∧ oc_T_caseBound (nI k) c = some (-2000000, c') ∧ om_Mo_caseBound (nI k) m = some (-2000000, m'))) := by
  have hl := lnd_of hall
  obtain ⟨m0, r1, r2, r3⟩ := pm_rules h8 hl.2.1 (show k < 10 by omega) e5 e6 hdis
  have hlnd := lnd_m r2 (by decide) (by decide) hl
  obtain ⟨c', m', f1, f2, hb⟩ := pk_bound h3 h8 hlnd r3
  have hc : ∀ r, oc_OneTree_boundUnder (c.2 17 k) (c.2 18 k) c = some (r, c') → oc_T_caseBound (nI k) c = some (r, c') := by
    intro r h
    unfold oc_T_caseBound
    rw [if_neg (nI_pos (by omega)), h19, if_pos (nI_lt hk (by omega)), ox_ix_nI (show k < 10 by omega) (by omega), ox_ix_nI (show k < 10 by omega) (by omega), h]
    rfl
  have hmm : ∀ r, om_Mo_boundNow m0 = some (r, m') → om_Mo_caseBound (nI k) m = some (r, m') := by
    intro r h
    unfold om_Mo_caseBound
    rw [if_neg (nI_pos (by omega)), hm3, if_pos (nI_lt hk (by omega)), r1, h]
  refine ⟨c', m0, m', hlnd, r3, f1, fr_m1 r2 f2, f2, ?_⟩
  rcases hb with ⟨T, pf, g1, g2, g3, g4, g5, g6, b1, b2⟩ | ⟨g6, b1, b2⟩
  · exact Or.inl ⟨T, pf, g1, g3, g4, g5, g6, hc _ b1, hmm _ b2⟩
  · exact Or.inr ⟨g6, hc _ b1, hmm _ b2⟩
theorem os_caseBound : ol_s_caseBound Rl := by
  intro c m x1 hR
  obtain ⟨ht, n, d, hall⟩ := id hR
  obtain ⟨hl, hd, hp, h4, h5, h6, h7, K, k1, k2, k3, k4, k5⟩ := id hall
  rcases pk_ix x1 (show K < 2 ^ 31 by omega) with h1 | h1 | ⟨k, hk, rfl⟩
  · refine ⟨-1, c, m, ?_, ?_, hR⟩
    · unfold oc_T_caseBound; rw [if_pos h1]
    · unfold om_Mo_caseBound; rw [if_pos h1]
  · have h2 : ¬ x1 < nI K := Int32.not_lt.mpr h1
    refine ⟨-1, c, m, ?_, ?_, hR⟩
    · unfold oc_T_caseBound
      rw [k2, if_neg h2]
      split <;> rfl
    · unfold om_Mo_caseBound
      rw [k3, if_neg h2]
      split <;> rfl
  · have hn3 : 3 ≤ n ∧ n ≤ 8 := hl.1.resolve_left (fun z => by have := k4 z; omega)
    obtain ⟨q1, q2, q3, q4⟩ := k5 k hk
    obtain ⟨c', m0, m', _, _, f1, f2, _, hb⟩ := pk_case hn3.1 hn3.2 hall k1 k2 k3 hk q1 q2 q3
    rcases hb with ⟨T, pf, _, _, _, _, _, b1, b2⟩ | ⟨_, b1, b2⟩
    · exact ⟨_, c', m', b1, b2, Rl_tree hR f1 f2⟩
    · exact ⟨_, c', m', b1, b2, Rl_tree hR f1 f2⟩
