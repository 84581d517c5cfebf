/-! improve: turning pieces while the row gets shorter -/
section IM
variable {n : Nat} {f : Nat → Nat} {d : Nat → Nat → Nat}
theorem rv_rv {i j : Nat} (k : Nat) : rv (rv f i j) i j k = f k := by
  unfold rv
  by_cases h : i ≤ k ∧ k ≤ j
  · rw [if_pos h, if_pos (by omega)]
    congr 1
    omega
  · rw [if_neg h, if_neg h]
theorem rv_in {i j k : Nat} (h1 : i ≤ k) (h2 : k ≤ j) : rv f i j k = f (i + j - k) := if_pos ⟨h1, h2⟩
theorem rv_lo {i j k : Nat} (h1 : k < i) : rv f i j k = f k := if_neg (by omega)
theorem rv_hi {i j k : Nat} (h1 : j < k) : rv f i j k = f k := if_neg (by omega)
theorem lm_s (d : Nat → Nat → Nat) (n : Nat) (f : Nat → Nat) (k : Nat) : tr_lm d n f (k + 1) = tr_lm d n f k + d (f k) (nxp f n k) := rfl
theorem nxp_i {k : Nat} (h : k + 1 < n) : nxp f n k = f (k + 1) := if_neg (by omega)
theorem nxp_l {k : Nat} (h : k + 1 = n) : nxp f n k = f 0 := if_pos h
theorem len_rv (hf : fok n f) (hs : ∀ a b, a < n → b < n → d a b = d b a) {i j : Nat} (hi : 1 ≤ i) (hij : i < j) (hj : j < n) : tr_lm d n (rv f i j) n + (d (f (i - 1)) (f i) + d (f j) (nxp f n j)) = tr_lm d n f n + (d (f (i - 1)) (f j) + d (f i) (nxp f n j)) := by
  have A1 : ∀ k, k ≤ i - 1 → tr_lm d n (rv f i j) k = tr_lm d n f k := by
    intro k
    induction k with
    | zero => intro _; rfl
    | succ k ih =>
      intro hk
      rw [lm_s, lm_s, ih (by omega), nxp_i (by omega), nxp_i (by omega), rv_lo (by omega), rv_lo (by omega)]
  obtain ⟨i', rfl⟩ : ∃ i', i = i' + 1 := ⟨i - 1, by omega⟩
  have A2 : tr_lm d n (rv f (i' + 1) j) (i' + 1) = tr_lm d n f i' + d (f i') (f j) := by
    rw [lm_s, A1 i' (by omega), nxp_i (by omega), rv_lo (by omega), rv_in (by omega) (by omega)]
    congr 3
    omega
  have A2' : tr_lm d n f (i' + 1) = tr_lm d n f i' + d (f i') (f (i' + 1)) := by
    rw [lm_s, nxp_i (by omega)]
  have A3 : ∀ m, m ≤ j - (i' + 1) → tr_lm d n (rv f (i' + 1) j) (i' + 1 + m) + tr_lm d n f (j - m) = tr_lm d n (rv f (i' + 1) j) (i' + 1) + tr_lm d n f j := by
    intro m
    induction m with
    | zero => intro _; rfl
    | succ m ih =>
      intro hm
      have e1 : tr_lm d n (rv f (i' + 1) j) (i' + 1 + (m + 1)) = tr_lm d n (rv f (i' + 1) j) (i' + 1 + m) + d (f (j - m)) (f (j - m - 1)) := by
        rw [show i' + 1 + (m + 1) = (i' + 1 + m) + 1 by omega, lm_s, nxp_i (by omega), rv_in (by omega) (by omega), rv_in (by omega) (by omega)]
        rw [show i' + 1 + j - (i' + 1 + m) = j - m by omega, show i' + 1 + j - (i' + 1 + m + 1) = j - m - 1 by omega]
      have e2 : tr_lm d n f (j - m) = tr_lm d n f (j - (m + 1)) + d (f (j - m - 1)) (f (j - m)) := by
        rw [show j - m = (j - (m + 1)) + 1 by omega, lm_s, nxp_i (by omega)]
        rfl
      have := ih (by omega)
      rw [e1]
      rw [e2, hs (f (j - m - 1)) (f (j - m)) (hf.1 _ (by omega)) (hf.1 _ (by omega))] at this
      omega
  have A3' := A3 (j - (i' + 1)) (Nat.le_refl _)
  rw [show i' + 1 + (j - (i' + 1)) = j by omega, show j - (j - (i' + 1)) = i' + 1 by omega] at A3'
  have hnx : nxp (rv f (i' + 1) j) n j = nxp f n j := by
    by_cases z : j + 1 = n
    · rw [nxp_l z, nxp_l z, rv_lo (by omega)]
    · rw [nxp_i (by omega), nxp_i (by omega), rv_hi (by omega)]
  have A4 : tr_lm d n (rv f (i' + 1) j) (j + 1) = tr_lm d n (rv f (i' + 1) j) j + d (f (i' + 1)) (nxp f n j) := by
    rw [lm_s, hnx, rv_in (by omega) (by omega)]
    congr 3
    omega
  have A4' := lm_s d n f j
  have A5 : ∀ m, j + 1 + m ≤ n → tr_lm d n (rv f (i' + 1) j) (j + 1 + m) + tr_lm d n f (j + 1) = tr_lm d n f (j + 1 + m) + tr_lm d n (rv f (i' + 1) j) (j + 1) := by
    intro m
    induction m with
    | zero => intro _; show tr_lm d n (rv f (i' + 1) j) (j + 1) + _ = tr_lm d n f (j + 1) + _; omega
    | succ m ih =>
      intro hm
      have := ih (by omega)
      have e : nxp (rv f (i' + 1) j) n (j + 1 + m) = nxp f n (j + 1 + m) := by
        by_cases z : j + 1 + m + 1 = n
        · rw [nxp_l z, nxp_l z, rv_lo (by omega)]
        · rw [nxp_i (by omega), nxp_i (by omega), rv_hi (by omega)]
      rw [show j + 1 + (m + 1) = (j + 1 + m) + 1 by omega, lm_s d n (rv f (i' + 1) j) (j + 1 + m), lm_s d n f (j + 1 + m), e, rv_hi (by omega)]
      omega
  have A5' := A5 (n - (j + 1)) (by omega)
  rw [show j + 1 + (n - (j + 1)) = n by omega] at A5'
  show tr_lm d n (rv f (i' + 1) j) n + (d (f i') (f (i' + 1)) + d (f j) (nxp f n j)) = tr_lm d n f n + (d (f i') (f j) + d (f (i' + 1)) (nxp f n j))
  omega
/-- what the class gains -/
theorem pc_gain (h8 : n ≤ 8) (hf : fok n f) {c : ox_S} (hnc : c.1 10 = nI n) (hdc : ∀ i j, i < n → j < n → c.2 6 (8 * i + j) = nI (d i j)) (h : ro 16 n f c) {i j : Nat} (hi : 1 ≤ i) (hij : i < j) (hj : j < n) : oc_Round_gain (nI i) (nI j) c = some (nI (d (f (i - 1)) (f i) + d (f j) (nxp f n j)) - nI (d (f (i - 1)) (f j) + d (f i) (nxp f n j))) := by
  have hnx := nxp_lt (by omega) hf hj
  have hj39 : oc_Round_gain_j39 (nI i) (nI j) (nI (f (i - 1))) (nI (nxp f n j)) c = some (nI (d (f (i - 1)) (f i) + d (f j) (nxp f n j)) - nI (d (f (i - 1)) (f j) + d (f i) (nxp f n j))) := by
    unfold oc_Round_gain_j39
    simp only [ox_ix_nI (show i < 8 by omega) (show 8 < 2 ^ 31 by omega), ox_ix_nI (show j < 8 by omega) (show 8 < 2 ^ 31 by omega), h i (by omega), h j hj, pc_btw h8 hdc (hf.1 (i - 1) (by omega)) (hf.1 i (by omega)), pc_btw h8 hdc (hf.1 j hj) hnx, pc_btw h8 hdc (hf.1 (i - 1) (by omega)) (hf.1 j hj), pc_btw h8 hdc (hf.1 i (by omega)) hnx, Option.bind_some, ox_let, nI_add]
  unfold oc_Round_gain
  rw [p_sub1 hi, ox_ix_nI (show i - 1 < 8 by omega) (by omega), h (i - 1) (by omega), nI_1, hnc]
  simp only [ox_let]
  by_cases z : j + 1 = n
  · rw [if_pos (nI_le (by omega) (by omega)), show ox_ix (0 : Int32) 8 = ox_ix (nI 0) 8 from rfl, ox_ix_nI (by omega) (by omega), h 0 (by omega), ← nxp_l (f := f) z]
    exact hj39
  · rw [if_neg (nI_ge (by omega) (by omega)), ox_ix_nI (by omega) (by omega), h (j + 1) (by omega), ← nxp_i (f := f) (show j + 1 < n by omega)]
    exact hj39
/-- a shorter row was found, the same on both sides -/
def fnd (n : Nat) (d : Nat → Nat → Nat) (f : Nat → Nat) (c m c' m' : ox_S) : Prop := ∃ g, fok n g ∧ tr_lm d n g n < tr_lm d n f n ∧ ro 16 n g c' ∧ ro 13 n g m' ∧ fr [] [16] c c' ∧ fr [] [13] m m'
theorem pk_turnJ (h3 : 3 ≤ n) (h8 : n ≤ 8) (hf : fok n f) (hs : ∀ a b, a < n → b < n → d a b = d b a) (hd9 : ∀ i j, i < n → j < n → d i j ≤ 9999) {c m0 : ox_S} (hnc : c.1 10 = nI n) (hnm : m0.1 1 = nI n) (hdc : ∀ i j, i < n → j < n → c.2 6 (8 * i + j) = nI (d i j)) (hdm : ∀ i j, i < n → j < n → m0.2 1 (8 * i + j) = nI (d i j)) (hc : ro 16 n f c) {i : Nat} (hi : 1 ≤ i) (hin : i < n) :
    ∀ r j, j + r = n → i < j → ∀ m, ro 13 n f m → fr [] [13] m0 m → (∃ m', oc_Round_turnOnce_h17 (nI i) (nI j) c = some (.inl (nI (i + 1))) ∧ om_Mo_better_h19 (nI (tr_lm d n f n)) (nI i) (nI j) m = some (.inl (nI (i + 1), m')) ∧ ro 13 n f m' ∧ fr [] [13] m0 m') ∨ (∃ c' m', oc_Round_turnOnce_h17 (nI i) (nI j) c = some (.inr (1, c')) ∧ om_Mo_better_h19 (nI (tr_lm d n f n)) (nI i) (nI j) m = some (.inr (1, m')) ∧ fnd n d f c m0 c' m') := by
  intro r
  induction r with
  | zero =>
    intro j hj hij m hm hfr
    have e : j = n := by omega
    subst e
    refine Or.inl ⟨m, ?_, ?_, hm, hfr⟩
    · unfold oc_Round_turnOnce_h17
      refine ox_w_inr ?_
      show oc_Round_turnOnce_b17 (nI i) (nI j) c = _
      unfold oc_Round_turnOnce_b17
      rw [hnc, if_pos (nI_le (Nat.le_refl _) (by omega))]
      simp only [ox_let, nI_1]
    · unfold om_Mo_better_h19
      refine ox_w_inr ?_
      show om_Mo_better_b19 _ (nI i) (nI j) m = _
      unfold om_Mo_better_b19
      rw [hfr.1 1 (by decide), hnm, if_pos (nI_le (Nat.le_refl _) (by omega))]
      simp only [ox_let, nI_1]
  | succ r ih =>
    intro j hj hij m hm hfr
    have hj2 : j < n := by omega
    have hnx := nxp_lt (by omega) hf hj2
    have hg := fok_rv hf hi hj2
    have hlen := len_rv hf hs hi hij hj2
    have b1 := hd9 _ _ (hf.1 (i - 1) (by omega)) (hf.1 i (by omega))
    have b2 := hd9 _ _ (hf.1 j (by omega)) hnx
    have b3 := hd9 _ _ (hf.1 (i - 1) (by omega)) (hf.1 j (by omega))
    have b4 := hd9 _ _ (hf.1 i (by omega)) hnx
    have l1 := lm_le hd9 hf (by omega) n (Nat.le_refl _)
    have l2 := lm_le hd9 hg (by omega) n (Nat.le_refl _)
    have hgain := p_gain (A := d (f (i - 1)) (f i) + d (f j) (nxp f n j)) (B := d (f (i - 1)) (f j) + d (f i) (nxp f n j)) (by omega) (by omega)
    have hcb : oc_Round_turnOnce_b17 (nI i) (nI j) c = if nI (d (f (i - 1)) (f i) + d (f j) (nxp f n j)) - nI (d (f (i - 1)) (f j) + d (f i) (nxp f n j)) ≤ 0 then some (.inl (nI (j + 1))) else (oc_T_turnRound_a25 (nI i) (nI j) c).bind fun s5 => some (.inr (.inr ((1 : Int32), s5))) := by
      unfold oc_Round_turnOnce_b17
      rw [hnc, if_neg (nI_ge hj2 (by omega)), pc_gain h8 hf hnc hdc hc hi hij hj2]
      simp only [Option.bind_some, ox_let, nI_1]
    obtain ⟨m1, t1, t2, t3⟩ := pm_turn h8 hj2 hi (by omega) hm
    have hfr1 := fr_tr hfr t2
    have hnm1 : m1.1 1 = nI n := by rw [hfr1.1 1 (by decide)]; exact hnm
    have hdm1 : ∀ i j, i < n → j < n → m1.2 1 (8 * i + j) = nI (d i j) := fun i j hi hj => by rw [hfr1.2 1 (by decide)]; exact hdm i j hi hj
    have hml := pm_len h3 h8 hnm1 hg t3 hdm1
    have hmb : om_Mo_better_b19 (nI (tr_lm d n f n)) (nI i) (nI j) m = if nI (tr_lm d n f n) ≤ nI (tr_lm d n (rv f i j) n) then ((om_Mo_turn (nI i) (nI j) m1).bind fun s6 => some (.inl (nI (j + 1), s6))) else some (.inr (.inr ((1 : Int32), m1))) := by
      unfold om_Mo_better_b19
      rw [hfr.1 1 (by decide), hnm, if_neg (nI_ge hj2 (by omega)), t1]
      simp only [Option.bind_some, ox_let, nI_1]
      rw [hml]
      simp only [Option.bind_some]
    by_cases hle : d (f (i - 1)) (f i) + d (f j) (nxp f n j) ≤ d (f (i - 1)) (f j) + d (f i) (nxp f n j)
    · obtain ⟨m2, u1, u2, u3⟩ := pm_turn h8 hj2 hi (by omega) t3
      have hm2 : ro 13 n f m2 := ro_eq u3 (fun k _ => rv_rv k)
      have e1 : oc_Round_turnOnce_h17 (nI i) (nI j) c = oc_Round_turnOnce_h17 (nI i) (nI (j + 1)) c := by
        unfold oc_Round_turnOnce_h17
        refine ox_w_inl ?_
        show oc_Round_turnOnce_b17 (nI i) (nI j) c = _
        rw [hcb, if_pos (hgain.mpr hle)]
      have e2 : om_Mo_better_h19 (nI (tr_lm d n f n)) (nI i) (nI j) m = om_Mo_better_h19 (nI (tr_lm d n f n)) (nI i) (nI (j + 1)) m2 := by
        unfold om_Mo_better_h19
        refine ox_w_inl ?_
        show om_Mo_better_b19 (nI (tr_lm d n f n)) (nI i) (nI j) m = _
        rw [hmb, if_pos (nI_le (by omega) (by omega)), u1]
        rfl
      rw [e1, e2]
      exact ih (j + 1) (by omega) (by omega) m2 hm2 (fr_tr hfr1 u2)
    · obtain ⟨c1, v1, v2, v3⟩ := pt25_turn h8 hj2 hi (by omega) hc
      refine Or.inr ⟨c1, m1, ?_, ?_, rv f i j, hg, by omega, v3, t3, v2, hfr1⟩
      · unfold oc_Round_turnOnce_h17
        refine ox_w_inr ?_
        show oc_Round_turnOnce_b17 (nI i) (nI j) c = _
        rw [hcb, if_neg (fun z => hle (hgain.mp z)), v1]
        rfl
      · unfold om_Mo_better_h19
        refine ox_w_inr ?_
        show om_Mo_better_b19 (nI (tr_lm d n f n)) (nI i) (nI j) m = _
        rw [hmb, if_neg (nI_ge (by omega) (by omega))]
theorem pk_turnI (h3 : 3 ≤ n) (h8 : n ≤ 8) (hf : fok n f) (hs : ∀ a b, a < n → b < n → d a b = d b a) (hd9 : ∀ i j, i < n → j < n → d i j ≤ 9999) {c m0 : ox_S} (hnc : c.1 10 = nI n) (hnm : m0.1 1 = nI n) (hdc : ∀ i j, i < n → j < n → c.2 6 (8 * i + j) = nI (d i j)) (hdm : ∀ i j, i < n → j < n → m0.2 1 (8 * i + j) = nI (d i j)) (hc : ro 16 n f c) :
    ∀ r i, i + r = n → 1 ≤ i → ∀ m, ro 13 n f m → fr [] [13] m0 m → (∃ m', oc_Round_turnOnce_h2 (nI i) c = some (0, c) ∧ om_Mo_better_h7 (nI (tr_lm d n f n)) (nI i) m = some (0, m') ∧ ro 13 n f m' ∧ fr [] [13] m0 m') ∨ (∃ c' m', oc_Round_turnOnce_h2 (nI i) c = some (1, c') ∧ om_Mo_better_h7 (nI (tr_lm d n f n)) (nI i) m = some (1, m') ∧ fnd n d f c m0 c' m') := by
  intro r
  induction r with
  | zero =>
    intro i hi hi1 m hm hfr
    refine Or.inl ⟨m, ?_, ?_, hm, hfr⟩
    · unfold oc_Round_turnOnce_h2
      refine ox_w_inr ?_
      show oc_Round_turnOnce_b2 (nI i) c = _
      unfold oc_Round_turnOnce_b2
      rw [hnc, if_pos (nI_le (by omega) (by omega))]
    · unfold om_Mo_better_h7
      refine ox_w_inr ?_
      show om_Mo_better_b7 _ (nI i) m = _
      unfold om_Mo_better_b7
      rw [hfr.1 1 (by decide), hnm, if_pos (nI_le (by omega) (by omega))]
  | succ r ih =>
    intro i hi hi1 m hm hfr
    have hi2 : i < n := by omega
    have hcb : oc_Round_turnOnce_b2 (nI i) c = oc_Round_turnOnce_h17 (nI i) (nI (i + 1)) c := by
      unfold oc_Round_turnOnce_b2
      rw [hnc, if_neg (nI_ge hi2 (by omega))]
      simp only [ox_let, nI_1]
    have hmb : om_Mo_better_b7 (nI (tr_lm d n f n)) (nI i) m = om_Mo_better_h19 (nI (tr_lm d n f n)) (nI i) (nI (i + 1)) m := by
      unfold om_Mo_better_b7
      rw [hfr.1 1 (by decide), hnm, if_neg (nI_ge hi2 (by omega))]
      simp only [ox_let, nI_1]
    rcases pk_turnJ h3 h8 hf hs hd9 hnc hnm hdc hdm hc hi1 hi2 (n - (i + 1)) (i + 1) (by omega) (by omega) m hm hfr with ⟨m', a1, a2, a3, a4⟩ | ⟨c', m', a1, a2, a3⟩
    · have e1 : oc_Round_turnOnce_h2 (nI i) c = oc_Round_turnOnce_h2 (nI (i + 1)) c := by
        unfold oc_Round_turnOnce_h2
        refine ox_w_inl ?_
        show oc_Round_turnOnce_b2 (nI i) c = _
        rw [hcb, a1]
      have e2 : om_Mo_better_h7 (nI (tr_lm d n f n)) (nI i) m = om_Mo_better_h7 (nI (tr_lm d n f n)) (nI (i + 1)) m' := by
        unfold om_Mo_better_h7
        refine ox_w_inl ?_
        show om_Mo_better_b7 (nI (tr_lm d n f n)) (nI i) m = _
        rw [hmb, a2]
      rw [e1, e2]
      exact ih (i + 1) (by omega) (by omega) m' a3 a4
    · refine Or.inr ⟨c', m', ?_, ?_, a3⟩
      · unfold oc_Round_turnOnce_h2
        refine ox_w_inr ?_
        show oc_Round_turnOnce_b2 (nI i) c = _
        rw [hcb, a1]
      · unfold om_Mo_better_h7
        refine ox_w_inr ?_
        show om_Mo_better_b7 (nI (tr_lm d n f n)) (nI i) m = _
        rw [hmb, a2]
theorem pk_shorten (h3 : 3 ≤ n) (h8 : n ≤ 8) (hs : ∀ a b, a < n → b < n → d a b = d b a) (hd9 : ∀ i j, i < n → j < n → d i j ≤ 9999) {c0 m0 : ox_S} (hnc : c0.1 10 = nI n) (hnm : m0.1 1 = nI n) (hdc : ∀ i j, i < n → j < n → c0.2 6 (8 * i + j) = nI (d i j)) (hdm : ∀ i j, i < n → j < n → m0.2 1 (8 * i + j) = nI (d i j)) :
    ∀ L t (f : Nat → Nat) c m, tr_lm d n f n ≤ L → t + L < 1000000 → fok n f → ro 16 n f c → ro 13 n f m → fr [] [16] c0 c → fr [] [13] m0 m → ∃ f' c' m', fok n f' ∧ oc_Round_shorten_h4 (1 : Int32) (nI t) c = some c' ∧ om_Mo_improve_h16 (1 : Int32) m = om_Mo_improve_h16 (0 : Int32) m' ∧ ro 16 n f' c' ∧ ro 13 n f' m' ∧ fr [] [16] c0 c' ∧ fr [] [13] m0 m' := by
  intro L
  induction L using Nat.strongRecOn with
  | _ L ih =>
    intro t f c m hL ht hf hc hm hfc hfm
    have hncc : c.1 10 = nI n := by rw [hfc.1 10 (by decide)]; exact hnc
    have hnmm : m.1 1 = nI n := by rw [hfm.1 1 (by decide)]; exact hnm
    have hdcc : ∀ i j, i < n → j < n → c.2 6 (8 * i + j) = nI (d i j) := fun i j hi hj => by rw [hfc.2 6 (by decide)]; exact hdc i j hi hj
    have hdmm : ∀ i j, i < n → j < n → m.2 1 (8 * i + j) = nI (d i j) := fun i j hi hj => by rw [hfm.2 1 (by decide)]; exact hdm i j hi hj
    have hcb : oc_Round_shorten_b4 (1 : Int32) (nI t) c = ox_b2 (oc_Round_turnOnce c) fun r1 s2 => some (.inl (r1, nI (t + 1), s2)) := by
      unfold oc_Round_shorten_b4
      rw [show (1000000 : Int32) = nI 1000000 from rfl, if_neg (nI_ge (by omega) (by omega)), if_neg (by decide)]
      simp only [ox_let, nI_1]
    have hmb : om_Mo_improve_b16 (1 : Int32) m = ox_b2 (om_Mo_better_h7 (nI (tr_lm d n f n)) (1 : Int32) m) fun r9 s10 => some (.inl (r9, s10)) := by
      unfold om_Mo_improve_b16 om_Mo_better
      rw [if_neg (by decide), pm_len h3 h8 hnmm hf hm hdmm]
      rfl
    rcases pk_turnI h3 h8 hf hs hd9 hncc hnmm hdcc hdmm hc (n - 1) 1 (by omega) (Nat.le_refl _) m hm fr_rf with ⟨m', a1, a2, a3, a4⟩ | ⟨c', m', a1, a2, g, g1, g2, g3, g4, g5, g6⟩
    · refine ⟨f, c, m', hf, ?_, ?_, hc, a3, hfc, fr_tr hfm a4⟩
      · have e1 : oc_Round_shorten_h4 (1 : Int32) (nI t) c = oc_Round_shorten_h4 (0 : Int32) (nI (t + 1)) c := by
          unfold oc_Round_shorten_h4
          refine ox_w_inl ?_
          show oc_Round_shorten_b4 (1 : Int32) (nI t) c = _
          rw [hcb]
          unfold oc_Round_turnOnce
          rw [show oc_Round_turnOnce_h2 (1 : Int32) c = some (0, c) from a1]
          rfl
        rw [e1]
        unfold oc_Round_shorten_h4
        refine ox_w_inr ?_
        show oc_Round_shorten_b4 (0 : Int32) (nI (t + 1)) c = _
        unfold oc_Round_shorten_b4
        by_cases z : (1000000 : Int32) ≤ nI (t + 1)
        · rw [if_pos z]
        · rw [if_neg z, if_pos rfl]
      · unfold om_Mo_improve_h16
        refine ox_w_inl ?_
        show om_Mo_improve_b16 (1 : Int32) m = _
        rw [hmb, show om_Mo_better_h7 (nI (tr_lm d n f n)) (1 : Int32) m = some (0, m') from a2]
        rfl
    · obtain ⟨f', c2, m2, b1, b2, b3, b4⟩ := ih (tr_lm d n g n) (by omega) (t + 1) g c' m' (Nat.le_refl _) (by omega) g1 g3 g4 (fr_tr hfc g5) (fr_tr hfm g6)
      refine ⟨f', c2, m2, b1, ?_, ?_, b4⟩
      · rw [← b2]
        unfold oc_Round_shorten_h4
        refine ox_w_inl ?_
        show oc_Round_shorten_b4 (1 : Int32) (nI t) c = _
        rw [hcb]
        unfold oc_Round_turnOnce
        rw [show oc_Round_turnOnce_h2 (1 : Int32) c = some (1, c') from a1]
        rfl
      · rw [← b3]
        unfold om_Mo_improve_h16
        refine ox_w_inl ?_
        show om_Mo_improve_b16 (1 : Int32) m = _
        rw [hmb, show om_Mo_better_h7 (nI (tr_lm d n f n)) (1 : Int32) m = some (1, m') from a2]
        rfl
/-- the class measures its row -/
theorem pc_measL (h8 : n ≤ 8) (hf : fok n f) {c : ox_S} (hnc : c.1 10 = nI n) (hdc : ∀ i j, i < n → j < n → c.2 6 (8 * i + j) = nI (d i j)) (h : ro 16 n f c) : ∀ r k, k + r = n → oc_Round_measure_h4 (nI (tr_lm d n f k)) (nI k) c = some (nI (tr_lm d n f n)) := by
  intro r
  induction r with
  | zero =>
    intro k hk
    have e : k = n := by omega
    subst e
    unfold oc_Round_measure_h4
    refine ox_w_inr ?_
    show oc_Round_measure_b4 (nI (tr_lm d k f k)) (nI k) c = _
    unfold oc_Round_measure_b4
    rw [hnc, if_pos (nI_le (Nat.le_refl _) (by omega))]
  | succ r ih =>
    intro k hk
    have hk2 : k < n := by omega
    have hnx := nxp_lt (by omega) hf hk2
    have hj : oc_Round_measure_j45 (nI (tr_lm d n f k)) (nI k) (nI (nxp f n k)) c = some (.inl (nI (tr_lm d n f (k + 1)), nI (k + 1))) := by
      unfold oc_Round_measure_j45
      rw [ox_ix_nI (show k < 8 by omega) (by omega), h k hk2, pc_btw h8 hdc (hf.1 k hk2) hnx]
      simp only [Option.bind_some, ox_let, nI_1, nI_add]
      rfl
    rw [← ih (k + 1) (by omega)]
    unfold oc_Round_measure_h4
    refine ox_w_inl ?_
    show oc_Round_measure_b4 (nI (tr_lm d n f k)) (nI k) c = _
    unfold oc_Round_measure_b4
    rw [hnc, if_neg (nI_ge hk2 (by omega)), nI_1]
    by_cases z : k + 1 = n
    · rw [if_pos (nI_le (by omega) (by omega)), show ox_ix (0 : Int32) 8 = ox_ix (nI 0) 8 from rfl, ox_ix_nI (by omega) (by omega), h 0 (by omega), ← nxp_l (f := f) z]
      exact hj
    · rw [if_neg (nI_ge (by omega) (by omega)), ox_ix_nI (by omega) (by omega), h (k + 1) (by omega), ← nxp_i (f := f) (show k + 1 < n by omega)]
      exact hj
theorem pc_meas (h8 : n ≤ 8) (hf : fok n f) {c : ox_S} (hnc : c.1 10 = nI n) (hdc : ∀ i j, i < n → j < n → c.2 6 (8 * i + j) = nI (d i j)) (h : ro 16 n f c) : oc_Round_measure c = some (nI (tr_lm d n f n)) := pc_measL h8 hf hnc hdc h n 0 (by omega)
/-- a tour that is kept on both sides -/
theorem Rl_tour {c m c' σ' : ox_S} (hR : rl_text c m ∧ rl_all n d c m) (w2 : fr [18] [16] c c') (s3 : fr [2] [4, 13] m σ') (w3 : c'.1 18 = 1) (t5 : σ'.1 2 = 1) (w4 : ro 16 n f c') (t4 : ro 4 n f σ') : Rl c' σ' := by
  obtain ⟨ht, hl, hd, hp, h4, h5, h6, h7, h8⟩ := hR
  have e0 := w2.1 0 (by decide)
  have e10 := w2.1 10 (by decide)
  have e11 := w2.1 11 (by decide)
  have e12 := w2.1 12 (by decide)
  have e13 := w2.1 13 (by decide)
  have e17 := w2.1 17 (by decide)
  have e19 := w2.1 19 (by decide)
  have r0 := w2.2 0 (by decide)
  have r6 := w2.2 6 (by decide)
  have r7 := w2.2 7 (by decide)
  have r8 := w2.2 8 (by decide)
  have r9 := w2.2 9 (by decide)
  have r10 := w2.2 10 (by decide)
  have r14 := w2.2 14 (by decide)
  have r15 := w2.2 15 (by decide)
  have r17 := w2.2 17 (by decide)
  have r18 := w2.2 18 (by decide)
  have k0 := s3.1 0 (by decide)
  have k1 := s3.1 1 (by decide)
  have k3 := s3.1 3 (by decide)
  have v0 := s3.2 0 (by decide)
  have v1 := s3.2 1 (by decide)
  have v2 := s3.2 2 (by decide)
  have v3 := s3.2 3 (by decide)
  have v5 := s3.2 5 (by decide)
  have v6 := s3.2 6 (by decide)
  refine ⟨?_, n, d, ?_⟩
  · unfold rl_text
    rw [e0, r0, k0, v0]
    exact ht
  · refine ⟨?_, ?_, ?_, ?_, ?_, ?_, Or.inr ⟨w3, t5, fun k hk => ?_⟩, ?_⟩
    · unfold rl_land; rw [e10, k1]; exact hl
    · unfold rl_dist; rw [r6, v1]; exact hd
    · unfold rl_pot; rw [r10, v3]; exact hp
    · unfold rl_num; rw [e11, r7, r8, r9]; exact h4
    · unfold rl_mark; rw [e12, e13, v2]; exact h5
    · unfold rl_tours; rw [e17, r14, r15]; exact h6
    · rw [w4 k hk, t4 k hk]
    · unfold rl_cases; rw [e19, k3, r17, r18, v5, v6]; exact h8
end IM
theorem os_improve : ol_s_improve Rl := by
  intro c m hR
  obtain ⟨ht, n, d, hall⟩ := id hR
  obtain ⟨hl, hd, hp, h4, h5, h6, h7, h8⟩ := id hall
  have hn := rl_n8 hl
  rcases hl.1 with hn0 | ⟨hn3, hn8⟩
  · subst hn0
    refine ⟨-2000000, c, m, ?_, ?_, hR⟩
    · unfold oc_T_improve
      rw [hl.2.1, if_pos (show nI 0 = 0 from rfl)]
    · unfold om_Mo_improve
      rw [hl.2.2, if_pos (show nI 0 = 0 from rfl)]
  · have hd9 : ∀ i j, i < n → j < n → d i j ≤ 9999 := fun i j hi hj => (hd i j hi hj).2.2.2.1
    have hs : ∀ i j, i < n → j < n → d i j = d j i := fun i j hi hj => (hd i j hi hj).2.2.1
    have hdm : ∀ i j, i < n → j < n → m.2 1 (8 * i + j) = nI (d i j) := fun i j hi hj => (hd i j hi hj).2.1
    have hdc : ∀ i j, i < n → j < n → c.2 6 (8 * i + j) = nI (d i j) := fun i j hi hj => (hd i j hi hj).1
    obtain ⟨f, c1, m1, a1, a2, a3, a4, a5, a6, a7, a8⟩ := pk_nearest hn3 hn8 hdc hdm hd9 hl.2.1 hl.2.2
    have l1 := lm_le hd9 a1 (by omega) n (Nat.le_refl _)
    obtain ⟨f2, c2, m2, b1, b2, b3, b4, b5, b6, b7⟩ := pk_shorten (c0 := c1) (m0 := m1) hn3 hn8 hs hd9 (by rw [a4.1 10 (by decide)]; exact hl.2.1) (by rw [a5.1 1 (by decide)]; exact hl.2.2) (fun i j hi hj => by rw [a4.2 6 (by decide)]; exact hdc i j hi hj) (fun i j hi hj => by rw [a5.2 1 (by decide)]; exact hdm i j hi hj) 80000 0 f c1 m1 (by omega) (by omega) a1 a7 a8 fr_rf fr_rf
    have fc2 : fr [18] [16] c c2 := fr_tr a4 (fr_up b6 (fun _ h => by cases h) (fun _ h => h))
    have fm2 : fr [] [13] m m2 := fr_tr a5 b7
    have e18 : c2.1 18 = 1 := by rw [b6.1 18 (by decide)]; exact a6
    have hnc2 : c2.1 10 = nI n := by rw [fc2.1 10 (by decide)]; exact hl.2.1
    have hnm2 : m2.1 1 = nI n := by rw [fm2.1 1 (by decide)]; exact hl.2.2
    have hcls : oc_T_improve c = (oc_Round_turnToOrder c2).bind fun s3 => (oc_Round_measure s3).bind fun r4 => some (r4, s3) := by
      unfold oc_T_improve
      rw [hl.2.1, if_neg (nI_ne0 (by omega) (by omega)), a2]
      simp only [Option.bind_some]
      unfold oc_Round_shorten
      rw [show oc_Round_shorten_h4 (1 : Int32) (0 : Int32) c1 = some c2 from b2]
      rfl
    have href : om_Mo_improve m = om_Mo_improve_h16 (0 : Int32) m2 := by
      unfold om_Mo_improve
      rw [hl.2.2, if_neg (nI_ne0 (by omega) (by omega)), a3]
      exact b3
    have q1 := b1.1 1 (by omega)
    have q2 := b1.1 (n - 1) (by omega)
    have i1 : ∀ {ρ : Type} (k : Nat → Option ρ), ox_ix (1 : Int32) 8 k = k 1 := fun k => ox_ix_nI (j := 1) (by omega) (by omega)
    -- turned or not, the same
    have fin : ∀ (g : Nat → Nat) c3 m3, fok n g → fr [18] [16] c c3 → fr [] [13] m m3 → c3.1 18 = 1 → ro 16 n g c3 → ro 13 n g m3 → oc_Round_turnToOrder c2 = some c3 → om_Mo_improve_b16 (0 : Int32) m2 = ((om_Mo_keep m3).bind fun s4 => (om_Mo_length s4).bind fun r5 => some (.inr (r5, s4))) → ∃ (r : Int32) (c' m' : ox_S), oc_T_improve c = some (r, c') ∧ om_Mo_improve m = some (r, m') ∧ Rl c' m' := by
      intro g c3 m3 g1 g2 g3 g4 g5 g6 g7 g8
      have hnm3 : m3.1 1 = nI n := by rw [g3.1 1 (by decide)]; exact hl.2.2
      obtain ⟨m4, k1, k2, k3, k4⟩ := pm_keep hn3 hn8 hnm3 g6
      have fm4 : fr [2] [4, 13] m m4 := fr_tr (fr_up g3 (fun _ h => by cases h) (fun k hk => by simp at hk ⊢; exact Or.inr hk)) (fr_up k2 (fun _ h => h) (fun k hk => by simp at hk ⊢; exact Or.inl hk))
      refine ⟨nI (tr_lm d n g n), c3, m4, ?_, ?_, Rl_tour ⟨ht, hall⟩ g2 fm4 g4 k3 g5 k4⟩
      · rw [hcls, g7]
        simp only [Option.bind_some]
        rw [pc_meas hn8 g1 (by rw [g2.1 10 (by decide)]; exact hl.2.1) (fun i j hi hj => by rw [g2.2 6 (by decide)]; exact hdc i j hi hj) g5]
        rfl
      · rw [href]
        unfold om_Mo_improve_h16
        refine ox_w_inr ?_
        show om_Mo_improve_b16 (0 : Int32) m2 = _
        rw [g8, k1]
        simp only [Option.bind_some]
        rw [pm_len hn3 hn8 (by rw [fm4.1 1 (by decide)]; exact hl.2.2) g1 (ro_fr g6 k2 (by decide)) (fun i j hi hj => by rw [fm4.2 1 (by decide)]; exact hdm i j hi hj)]
        rfl
    have hct : oc_Round_turnToOrder c2 = if nI (f2 1) ≤ nI (f2 (n - 1)) then some c2 else (oc_T_turnRound_a25 (nI 1) (nI (n - 1)) c2).bind fun s4 => some s4 := by
      unfold oc_Round_turnToOrder
      rw [hnc2, p_sub1 (by omega)]
      simp only [ox_let]
      rw [if_neg (show ¬ nI (n - 1) ≤ (1 : Int32) from nI_ge (a := 1) (by omega) (by omega)), i1, ox_ix_nI (show n - 1 < 8 by omega) (by omega), b4 1 (by omega), b4 (n - 1) (by omega)]
      rfl
    have hmt : om_Mo_improve_b16 (0 : Int32) m2 = if nI (f2 1) ≤ nI (f2 (n - 1)) then ((om_Mo_keep m2).bind fun s4 => (om_Mo_length s4).bind fun r5 => some (.inr (r5, s4))) else ((om_Mo_turn (nI 1) (nI (n - 1)) m2).bind fun s6 => (om_Mo_keep s6).bind fun s7 => (om_Mo_length s7).bind fun r8 => some (.inr (r8, s7))) := by
      unfold om_Mo_improve_b16
      rw [if_pos rfl, hnm2, p_sub1 (by omega), i1, ox_ix_nI (show n - 1 < 8 by omega) (by omega), b5 1 (by omega), b5 (n - 1) (by omega)]
      rfl
    by_cases hle : f2 1 ≤ f2 (n - 1)
    · rw [if_pos (nI_le hle (by omega))] at hct hmt
      exact fin f2 c2 m2 b1 fc2 fm2 e18 b4 b5 hct hmt
    · rw [if_neg (nI_ge (by omega) (by omega))] at hct hmt
      obtain ⟨c3, u1, u2, u3⟩ := pt25_turn hn8 (show n - 1 < n by omega) (Nat.le_refl 1) (by omega) b4
      obtain ⟨m3, v1, v2, v3⟩ := pm_turn hn8 (show n - 1 < n by omega) (Nat.le_refl 1) (by omega) b5
      rw [u1] at hct
      rw [v1] at hmt
      exact fin (rv f2 1 (n - 1)) c3 m3 (fok_rv b1 (by omega) (by omega)) (fr_tr fc2 (fr_up u2 (fun _ h => by cases h) (fun _ h => h))) (fr_tr fm2 v2) (by rw [u2.1 18 (by decide)]; exact e18) u3 v3 hct hmt
