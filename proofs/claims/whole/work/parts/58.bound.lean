/-! both trees are one; the bound -/
theorem kcert_W {n : Nat} {A R T : Nat → Bool} {W W' : Nat → Int} (hW : ∀ k, ed n k → W k = W' k) (h : kcert n A R T W) : kcert n A R T W' := by
  obtain ⟨a0, a1, a2, a3, a4, a5, a6, a7⟩ := h
  have he : ∀ x y, ed n x → ed n y → elt W x y → elt W' x y := fun x y hx hy z => by
    unfold elt at *
    rw [← hW x hx, ← hW y hy]
    exact z
  refine ⟨a0, a1, a2, a3, a4, a5, fun k h b1 b2 b3 b4 b5 b6 => he h k (a0 h (a1 h b5)) (a0 k b3) (a6 k h b1 b2 b3 b4 b5 b6), fun k b1 b2 b3 => cn_up (js_up (fun g _ hg => ⟨hg.1, ?_⟩)) (a7 k b1 b2 b3)⟩
  rcases hg.2 with z | z
  · exact Or.inl z
  · exact Or.inr (he g k (a0 g (a1 g hg.1)) (a0 k b2) z)
def Ab (n : Nat) (x2 : Int32) (k : Nat) : Bool := decide (k / 8 < k % 8 ∧ k % 8 < n) && !bt x2 (eN n k)
def Rb (n : Nat) (x1 : Int32) (k : Nat) : Bool := decide (k / 8 < k % 8 ∧ k % 8 < n) && bt x1 (eN n k)
theorem Ab_iff {n : Nat} {x2 : Int32} {k : Nat} : Ab n x2 k = true ↔ ed n k ∧ bt x2 (eN n k) = false := by
  unfold Ab ed
  rw [Bool.and_eq_true, decide_eq_true_eq]
  simp
theorem Rb_iff {n : Nat} {x1 : Int32} {k : Nat} : Rb n x1 k = true ↔ ed n k ∧ bt x1 (eN n k) = true := by
  unfold Rb ed
  rw [Bool.and_eq_true, decide_eq_true_eq]
/-- the words of the class and the rules of the reference -/
def rul (n : Nat) (x1 x2 : Int32) (m : ox_S) : Prop := ∀ k, ed n k → (m.2 11 k = 1 ↔ bt x1 (eN n k) = true) ∧ (m.2 11 k = 2 ↔ bt x2 (eN n k) = true)
/-- the same land -/
def lnd (n : Nat) (c m : ox_S) : Prop := c.1 10 = nI n ∧ m.1 1 = nI n ∧ rl_num n c ∧ (∀ k, ed n k → c.2 6 k = m.2 1 k) ∧ ∀ i, i < n → c.2 10 i = m.2 3 i
section BD
variable {n : Nat} {c m : ox_S} {x1 x2 : Int32}
theorem lnd_w (h : lnd n c m) {k : Nat} (hk : ed n k) : wI c k = wM m k := by
  obtain ⟨h1, h2, h3, h4, h5⟩ := h
  unfold wI wM
  have := hk.1
  have := hk.2
  rw [h4 k hk, h5 (k / 8) (by omega), h5 (k % 8) (by omega)]
theorem pk_tree (h3 : 3 ≤ n) (h8 : n ≤ 8) (hl : lnd n c m) (hr : rul n x1 x2 m) : (∃ c' m' T pf, oc_OneTree_grow x1 x2 c = some (1, c') ∧ om_Mo_tree m = some (1, m') ∧ KI n c c' T pf ∧ MI n m m' T ∧ zc T = 2 ∧ tc T = n - 2 ∧ jn n (fun k => T k = true)) ∨ (∃ c' m', oc_OneTree_grow x1 x2 c = some (0, c') ∧ om_Mo_tree m = some (0, m') ∧ fr [14, 15, 16] [11, 12] c c' ∧ fr [] [10, 12] m m') := by
  have hA : ∀ k, Ab n x2 k = true ↔ ed n k ∧ ¬ m.2 11 k = 2 := by
    intro k
    rw [Ab_iff]
    constructor
    · rintro ⟨z1, z2⟩
      exact ⟨z1, fun q => by rw [(hr k z1).2.mp q] at z2; cases z2⟩
    · rintro ⟨z1, z2⟩
      refine ⟨z1, ?_⟩
      cases q : bt x2 (eN n k) with
      | false => rfl
      | true => exact absurd ((hr k z1).2.mpr q) z2
  have hR : ∀ k, Rb n x1 k = true ↔ ed n k ∧ m.2 11 k = 1 := by
    intro k
    rw [Rb_iff]
    exact ⟨fun z => ⟨z.1, (hr k z.1).1.mpr z.2⟩, fun z => ⟨z.1, (hr k z.1).1.mp z.2⟩⟩
  have hRA : ∀ k, Rb n x1 k = true → Ab n x2 k = true := fun k hk => (hA k).mpr ⟨((hR k).mp hk).1, by rw [((hR k).mp hk).2]; decide⟩
  have hW : ∀ k, ed n k → Wz c k = Wm m k := fun k hk => by unfold Wz Wm; rw [lnd_w hl hk]
  rcases pc_grow (A := Ab n x2) (R := Rb n x1) h3 h8 hl.1 hl.2.2.1 (fun k => Ab_iff) (fun k => Rb_iff) hRA with ⟨c', T, pf, g1, g2, g3⟩ | ⟨c', g1, g2, g3⟩
  · have g3' := kcert_W hW g3
    rcases pm_tree h3 h8 hl.2.1 hA hR with ⟨m', S, t1, t2, t3, t4⟩ | ⟨m', t1, t2, t3⟩
    · have e : S = T := funext (cert_eq h3 h8 g3' t3).1
      subst e
      exact Or.inl ⟨c', m', S, pf, g1, t1, g2, t2, t3.2.2.1, t4, t3.2.2.2.2.2⟩
    · exact absurd g3' (t3 T)
  · rcases pm_tree h3 h8 hl.2.1 hA hR with ⟨m', S, t1, t2, t3, t4⟩ | ⟨m', t1, t2, t3⟩
    · exact absurd g3 (nogo_no h3 h8 (fun k hk => (Ab_iff.mp hk).1) t3.1 t3.2.1 t3.2.2.1 t4 t3.2.2.2.2.2)
    · exact Or.inr ⟨c', m', g1, t1, g2, t2⟩
def ps (p : Nat → Int32) : Nat → Int32
  | 0 => 0
  | k + 1 => ps p k + p k
theorem ps_same {p q : Nat → Int32} : ∀ M, (∀ x, x < M → p x = q x) → ps p M = ps q M
  | 0, _ => rfl
  | k + 1, h => by
    show ps p k + p k = ps q k + q k
    rw [ps_same k (fun x hx => h x (by omega)), h k (by omega)]
theorem ws_gap {w : Nat → Int32} {T : Nat → Bool} {K : Nat} : ∀ d, (∀ x, K ≤ x → x < K + d → T x = false) → ws w T (K + d) = ws w T K
  | 0, _ => rfl
  | d + 1, h => by
    rw [show K + (d + 1) = (K + d) + 1 by omega]
    simp only [ws]
    rw [ws_gap d (fun x h1 h2 => h x h1 (by omega)), h (K + d) (by omega) (by omega)]
    simp
theorem ws_gap2 {w : Nat → Int32} {T : Nat → Bool} {K K' : Nat} (hK : K ≤ K') (h : ∀ x, K ≤ x → x < K' → T x = false) : ws w T K' = ws w T K := by
  obtain ⟨d, rfl⟩ : ∃ d, K' = K + d := ⟨K' - K, by omega⟩
  exact ws_gap d h
theorem ws_w {w w' : Nat → Int32} {T : Nat → Bool} (h : ∀ k, T k = true → w k = w' k) : ∀ M, ws w T M = ws w' T M
  | 0 => rfl
  | k + 1 => by
    simp only [ws]
    rw [ws_w h k]
    cases q : T k with
    | false => rfl
    | true => rw [h k q]
theorem i_ring (a b p : Int32) : a - 2 * b - 2 * p = a - 2 * (b + p) := by grind
theorem i_ring2 (a b p : Int32) : a - b + p = a + p - b := by grind
theorem pc_sumL (h8 : n ≤ 8) {σ : ox_S} (hn : σ.1 10 = nI n) : ∀ r k, k + r = n → oc_Land_sumOfPotentials_h4 (ps (σ.2 10) k) (nI k) σ = some (ps (σ.2 10) n) := by
  intro r
  induction r with
  | zero =>
    intro k hk
    have e : k = n := by omega
    subst e
    unfold oc_Land_sumOfPotentials_h4
    refine ox_w_inr ?_
    show oc_Land_sumOfPotentials_b4 _ (nI k) σ = _
    unfold oc_Land_sumOfPotentials_b4
    rw [hn, if_pos (nI_le (Nat.le_refl _) (by omega))]
  | succ r ih =>
    intro k hk
    rw [← ih (k + 1) (by omega)]
    unfold oc_Land_sumOfPotentials_h4
    refine ox_w_inl ?_
    show oc_Land_sumOfPotentials_b4 (ps (σ.2 10) k) (nI k) σ = _
    unfold oc_Land_sumOfPotentials_b4
    rw [hn, if_neg (nI_ge (show k < n by omega) (by omega)), ox_ix_nI (show k < 8 by omega) (by omega)]
    simp only [ox_let, nI_1]
    rfl
theorem pm_bnJ (h8 : n ≤ 8) {m' : ox_S} {T : Nat → Bool} (hM : MI n m m' T) (hnm : m.1 1 = nI n) {i : Nat} {P : Int32} : ∀ r j, j + r = n → i < j → om_Mo_boundNow_h37 (ws (wM m) T (8 * i + j) - P) (nI i) (nI j) m' = some (.inl (ws (wM m) T (8 * i + n) - P, nI (i + 1))) := by
  have hnm' : m'.1 1 = nI n := by rw [hM.1.1 1 (by decide)]; exact hnm
  intro r
  induction r with
  | zero =>
    intro j hj hij
    have e : j = n := by omega
    subst e
    unfold om_Mo_boundNow_h37
    refine ox_w_inr ?_
    show om_Mo_boundNow_b37 _ (nI i) (nI j) m' = _
    unfold om_Mo_boundNow_b37
    rw [hnm', if_pos (nI_le (Nat.le_refl _) (by omega))]
    simp only [ox_let, nI_1]
  | succ r ih =>
    intro j hj hij
    have hk : ed n (8 * i + j) := ⟨by omega, by omega⟩
    have hin := hM.2.2 _ hk
    rw [← ih (j + 1) (by omega) (by omega)]
    unfold om_Mo_boundNow_h37
    refine ox_w_inl ?_
    show om_Mo_boundNow_b37 (ws (wM m) T (8 * i + j) - P) (nI i) (nI j) m' = _
    have hs : ws (wM m) T (8 * i + (j + 1)) = ws (wM m) T (8 * i + j) + if T (8 * i + j) then wM m (8 * i + j) else 0 := rfl
    unfold om_Mo_boundNow_b37
    rw [hnm', if_neg (nI_ge (show j < n by omega) (by omega)), p_8, ox_ix_nI (show 8 * i + j < 64 by omega) (by omega), hs]
    have hw : om_Mo_weight (nI i) (nI j) m' = some (wM m (8 * i + j)) := by
      have := pm_weightK h8 (show 8 * i + j < 64 by omega) m'
      rw [show (8 * i + j) / 8 = i by omega, show (8 * i + j) % 8 = j by omega, MI_w hM] at this
      exact this
    cases q : T (8 * i + j) with
    | false =>
      rw [if_pos (hin.mpr q)]
      simp only [ox_let, nI_1]
      simp
    | true =>
      rw [if_neg (fun y => by rw [hin.mp y] at q; cases q), hw]
      simp only [Option.bind_some, ox_let, nI_1]
      rw [i_ring2]
      simp
theorem pm_bnI (h8 : n ≤ 8) {m' : ox_S} {T : Nat → Bool} (hM : MI n m m' T) (hnm : m.1 1 = nI n) : ∀ r i, i + r = n → om_Mo_boundNow_h14 (ws (wM m) T (8 * i + (i + 1)) - 2 * ps (m.2 3) i) (nI i) m' = some (ws (wM m) T (8 * n + (n + 1)) - 2 * ps (m.2 3) n, m') := by
  have hnm' : m'.1 1 = nI n := by rw [hM.1.1 1 (by decide)]; exact hnm
  intro r
  induction r with
  | zero =>
    intro i hi
    have e : i = n := by omega
    subst e
    unfold om_Mo_boundNow_h14
    refine ox_w_inr ?_
    show om_Mo_boundNow_b14 _ (nI i) m' = _
    unfold om_Mo_boundNow_b14
    rw [hnm', if_pos (nI_le (Nat.le_refl _) (by omega))]
  | succ r ih =>
    intro i hi
    rw [← ih (i + 1) (by omega)]
    have hgap : ws (wM m) T (8 * (i + 1) + (i + 1 + 1)) = ws (wM m) T (8 * i + n) := ws_gap2 (by omega) (fun x h1 h2 => by
      cases q : T x with
      | false => rfl
      | true =>
        have := hM.2.1 x q
        unfold ed at this
        omega)
    unfold om_Mo_boundNow_h14
    refine ox_w_inl ?_
    show om_Mo_boundNow_b14 (ws (wM m) T (8 * i + (i + 1)) - 2 * ps (m.2 3) i) (nI i) m' = _
    unfold om_Mo_boundNow_b14
    rw [hnm', if_neg (nI_ge (show i < n by omega) (by omega)), ox_ix_nI (show i < 8 by omega) (by omega), hM.1.2 3 (by decide), hgap]
    simp only [ox_let, nI_1]
    rw [i_ring]
    exact pm_bnJ h8 hM hnm (P := 2 * (ps (m.2 3) i + m.2 3 i)) (n - (i + 1)) (i + 1) (by omega) (by omega)
/-- the bound of both -/
theorem pk_bound (h3 : 3 ≤ n) (h8 : n ≤ 8) (hl : lnd n c m) (hr : rul n x1 x2 m) : ∃ c' m', fr [14, 15, 16] [11, 12] c c' ∧ fr [] [10, 12] m m' ∧ ((∃ T pf, KI n c c' T pf ∧ MI n m m' T ∧ zc T = 2 ∧ tc T = n - 2 ∧ jn n (fun k => T k = true) ∧ om_Mo_tree m = some (1, m') ∧ oc_OneTree_boundUnder x1 x2 c = some (ws (wI c) T 64 - 2 * ps (c.2 10) n, c') ∧ om_Mo_boundNow m = some (ws (wI c) T 64 - 2 * ps (c.2 10) n, m')) ∨ (om_Mo_tree m = some (0, m') ∧ oc_OneTree_boundUnder x1 x2 c = some (-2000000, c') ∧ om_Mo_boundNow m = some (-2000000, m'))) := by
  rcases pk_tree h3 h8 hl hr with ⟨c', m', T, pf, g1, g2, g3, g4, g5, g6, g7⟩ | ⟨c', m', g1, g2, g3, g4⟩
  · refine ⟨c', m', g3.1, g4.1, Or.inl ⟨T, pf, g3, g4, g5, g6, g7, g2, ?_, ?_⟩⟩
    · unfold oc_OneTree_boundUnder
      rw [g1]
      show (if (1 : Int32) = 0 then some ((-2000000 : Int32), c') else (oc_Land_sumOfPotentials c').bind fun r3 => some ((c'.1 16) - ((2 : Int32) * r3), c')) = _
      have hs := pc_sumL h8 (σ := c') (by rw [g3.1.1 10 (by decide)]; exact hl.1) n 0 (by omega)
      rw [if_neg (by decide), show oc_Land_sumOfPotentials c' = _ from hs]
      simp only [Option.bind_some]
      rw [g3.2.2.2.2.1, g3.1.2 10 (by decide)]
    · unfold om_Mo_boundNow
      rw [g2]
      show (if (1 : Int32) = 0 then some ((-2000000 : Int32), m') else om_Mo_boundNow_h14 (0 : Int32) (0 : Int32) m') = _
      rw [if_neg (by decide)]
      have hb := pm_bnI h8 g4 hl.2.1 n 0 (by omega)
      have h0 : ws (wM m) T (8 * 0 + (0 + 1)) - 2 * ps (m.2 3) 0 = 0 := by
        have : T 0 = false := by
          cases q : T 0 with
          | false => rfl
          | true => have := g3.2.1 0 q; unfold ed at this; omega
        simp only [ws, ps]
        rw [this]
        simp
      have hno : ∀ x, 8 * n + (n + 1) ≤ x ∨ 64 ≤ x → T x = false := fun x hx => by
        cases q : T x with
        | false => rfl
        | true => have := g3.2.1 x q; unfold ed at this; omega
      have h2 : ws (wM m) T (8 * n + (n + 1)) = ws (wM m) T 64 := by
        rcases Nat.le_total (8 * n + (n + 1)) 64 with z | z
        · exact (ws_gap2 z (fun x h1 _ => hno x (Or.inl h1))).symm
        · exact ws_gap2 z (fun x h1 _ => hno x (Or.inr h1))
      rw [h0, h2] at hb
      rw [show om_Mo_boundNow_h14 (0 : Int32) (0 : Int32) m' = _ from hb, ws_w (w := wI c) (w' := wM m) (fun k hk => lnd_w hl (g3.2.1 k hk)) 64, ps_same n hl.2.2.2.2]
  · refine ⟨c', m', g3, g4, Or.inr ⟨g2, ?_, ?_⟩⟩
    · unfold oc_OneTree_boundUnder
      rw [g1]
      rfl
    · unfold om_Mo_boundNow
      rw [g2]
      rfl
end BD
