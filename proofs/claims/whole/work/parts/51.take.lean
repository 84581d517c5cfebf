/-! the class's growing tree -/
def eN (n k : Nat) : Nat := en n (k / 8) (k % 8)
theorem eN_28 {n k : Nat} (h8 : n ≤ 8) (h : ed n k) : eN n k < 28 := en_28 h8 h.2 h.1
theorem eN_E {n k : Nat} (h8 : n ≤ 8) (h : ed n k) : eN n k < n * (n - 1) / 2 := en_lt n h8 _ h.2 _ h.1
theorem eN_inj {n k k' : Nat} (h8 : n ≤ 8) (h : ed n k) (h' : ed n k') (e : eN n k = eN n k') : k = k' := by
  have := en_inj h8 h.2 h.1 h'.2 h'.1 e
  omega
theorem eN_ex {n e : Nat} (h8 : n ≤ 8) (he : e < n * (n - 1) / 2) : ∃ k, ed n k ∧ eN n k = e := by
  obtain ⟨i, j, h1, h2, h3⟩ := en_ex h8 he
  refine ⟨8 * i + j, ⟨by omega, by omega⟩, ?_⟩
  unfold eN
  rw [show (8 * i + j) / 8 = i by omega, show (8 * i + j) % 8 = j by omega]
  exact h3
theorem eN_mono1 : ∀ n, n ≤ 8 → ∀ i, i < n → ∀ i', i' < i → en n i' (n - 1) < en n i (i + 1) := by decide +kernel
theorem eN_mono0 (n : Nat) (h8 : n ≤ 8) (j : Nat) (hj : j < n) (i : Nat) (hi : i < j) (j' : Nat) (hj' : j' < n) (i' : Nat) (hi' : i' < j') (h : 8 * i' + j' < 8 * i + j) : en n i' j' < en n i j := by
  have a1 : en n i' j' ≤ en n i' (n - 1) := by unfold en; omega
  have a2 : en n i (i + 1) ≤ en n i j := by unfold en; omega
  by_cases e : i' = i
  · subst e
    unfold en
    omega
  · have := eN_mono1 n h8 i (by omega) i' (by omega)
    omega
theorem eN_mono {n k k' : Nat} (h8 : n ≤ 8) (h : ed n k) (h' : ed n k') : eN n k' < eN n k ↔ k' < k := by
  have b1 := h.1
  have b2 := h.2
  have b3 := h'.1
  have b4 := h'.2
  constructor
  · intro hl
    rcases Nat.lt_trichotomy k' k with z | z | z
    · exact z
    · subst z; omega
    · have := eN_mono0 n h8 (k' % 8) b4 (k' / 8) b3 (k % 8) b2 (k / 8) b1 (by omega)
      unfold eN at hl
      omega
  · intro hl
    exact eN_mono0 n h8 (k % 8) b2 (k / 8) b1 (k' % 8) b4 (k' / 8) b3 (by omega)
def wI (c : ox_S) (k : Nat) : Int32 := c.2 6 k + c.2 10 (k / 8) + c.2 10 (k % 8)
def upT (T : Nat → Bool) (k : Nat) : Nat → Bool := fun x => T x || x == k
theorem upT_iff {T : Nat → Bool} {k x : Nat} : upT T k x = true ↔ T x = true ∨ x = k := by unfold upT; simp
theorem upT_no {T : Nat → Bool} {k x : Nat} : upT T k x = false ↔ T x = false ∧ x ≠ k := by unfold upT; simp
theorem cn_k_add {p q : Nat → Bool} {k M : Nat} (hk : k < M) (hp : p k = false) (hq : ∀ x, x < M → q x = (p x || x == k)) : cn_k q M = cn_k p M + 1 := by
  refine cn_k_cut (b := k) M hk (by rw [hq k hk]; simp) (fun v hv => ?_)
  rw [hq v hv]
  by_cases e : v = k
  · subst e; simp [hp]
  · simp [beq_eq_false_iff_ne.mpr e]
theorem cn_k_same {p q : Nat → Bool} : ∀ M, (∀ x, x < M → q x = p x) → cn_k q M = cn_k p M
  | 0, _ => rfl
  | m + 1, h => by
    simp only [cn_k]
    rw [cn_k_same m (fun x hx => h x (by omega)), h m (by omega)]
def ws (w : Nat → Int32) (T : Nat → Bool) : Nat → Int32
  | 0 => 0
  | m + 1 => ws w T m + (if T m then w m else 0)
theorem ws_same {w : Nat → Int32} {T T' : Nat → Bool} : ∀ M, (∀ x, x < M → T' x = T x) → ws w T' M = ws w T M
  | 0, _ => rfl
  | m + 1, h => by
    simp only [ws]
    rw [ws_same m (fun x hx => h x (by omega)), h m (by omega)]
theorem ws_add {w : Nat → Int32} {T : Nat → Bool} {k : Nat} (hk : T k = false) : ∀ M, k < M → ws w (upT T k) M = ws w T M + w k
  | 0, h => by omega
  | m + 1, h => by
    simp only [ws]
    by_cases e : m = k
    · subst e
      rw [ws_same (T := T) m (fun x hx => by unfold upT; simp; omega), hk, show upT T m m = true by unfold upT; simp]
      simp
    · rw [ws_add hk m (by omega), show upT T k m = T m by unfold upT; simp [e]]
      rw [Int32.add_assoc, Int32.add_assoc, Int32.add_comm (w k)]
def dg (T : Nat → Bool) (i : Nat) : Nat := cn_k (fun k => T k && (k / 8 == i || k % 8 == i)) 64
theorem tc_add {T : Nat → Bool} {k : Nat} (h8 : 8 ≤ k) (hk : k < 64) (hT : T k = false) : tc (upT T k) = tc T + 1 ∧ zc (upT T k) = zc T := by
  refine ⟨cn_k_add hk (by simp [hT]) (fun x _ => ?_), cn_k_same 8 (fun x hx => ?_)⟩
  · unfold upT
    by_cases e : x = k
    · subst e; simp [h8]
    · simp [beq_eq_false_iff_ne.mpr e]
  · unfold upT
    simp
    omega
theorem zc_add {T : Nat → Bool} {k : Nat} (hk : k < 8) (hT : T k = false) : zc (upT T k) = zc T + 1 ∧ tc (upT T k) = tc T := by
  refine ⟨cn_k_add hk hT (fun x _ => rfl), cn_k_same 64 (fun x hx => ?_)⟩
  unfold upT
  by_cases e : x = k
  · subst e; simp; omega
  · simp [beq_eq_false_iff_ne.mpr e]
theorem dg_add {T : Nat → Bool} {k i : Nat} (hk : k < 64) (hT : T k = false) : dg (upT T k) i = dg T i + if k / 8 = i ∨ k % 8 = i then 1 else 0 := by
  unfold dg
  by_cases h : k / 8 = i ∨ k % 8 = i
  · rw [if_pos h]
    refine cn_k_add hk (by simp [hT]) (fun x _ => ?_)
    unfold upT
    by_cases e : x = k
    · subst e
      rcases h with h | h <;> simp [h]
    · simp [beq_eq_false_iff_ne.mpr e]
  · rw [if_neg h, Nat.add_zero]
    refine cn_k_same 64 (fun x _ => ?_)
    unfold upT
    by_cases e : x = k
    · subst e
      have h1 : ¬ x / 8 = i := fun z => h (Or.inl z)
      have h2 : ¬ x % 8 = i := fun z => h (Or.inr z)
      simp [hT, h1, h2]
    · simp [beq_eq_false_iff_ne.mpr e]
theorem dg_zc {n : Nat} {T : Nat → Bool} (hT : ∀ k, T k = true → ed n k) : dg T 0 = zc T := by
  have key : ∀ M, cn_k (fun k => T k && (k / 8 == 0 || k % 8 == 0)) (8 + M) = zc T := by
    intro M
    induction M with
    | zero =>
      refine cn_k_same 8 (fun x hx => ?_)
      have : x / 8 = 0 := by omega
      simp [this]
    | succ M ih =>
      rw [show 8 + (M + 1) = (8 + M) + 1 by omega]
      simp only [cn_k, ih]
      rw [if_neg]
      · rfl
      · intro z
        simp at z
        have := hT _ z.1
        unfold ed at this
        have := z.2
        omega
  exact key 56
/-- the state of a growing tree -/
def KI (n : Nat) (c0 c : ox_S) (T : Nat → Bool) (pf : Nat → Nat) : Prop := fr [14, 15, 16] [11, 12] c0 c ∧ (∀ k, T k = true → ed n k) ∧ (∀ k, ed n k → bt (c.1 14) (eN n k) = T k) ∧ c.1 15 = nI (zc T + tc T) ∧ c.1 16 = ws (wI c0) T 64 ∧ (∀ i, i < 8 → c.2 11 i = nI (pf i) ∧ pf i < 8) ∧ (∀ i, i < 8 → c.2 12 i = nI (dg T i)) ∧ (∀ k, 8 ≤ k → T k = true → pf (k / 8) = pf (k % 8)) ∧ (∀ u v, u < 8 → v < 8 → pf u = pf v → cn_c (js (fun k => T k = true)) u v) ∧ cn_n 1 n 8 pf + tc T = n - 1
/-- an edge may be taken -/
def ft (T : Nat → Bool) (pf : Nat → Nat) (k : Nat) : Prop := if k < 8 then zc T < 2 else pf (k / 8) ≠ pf (k % 8)
theorem ft_z {T : Nat → Bool} {pf : Nat → Nat} {k : Nat} (h : k < 8) : ft T pf k ↔ zc T < 2 := by unfold ft; rw [if_pos h]
theorem ft_t {T : Nat → Bool} {pf : Nat → Nat} {k : Nat} (h : 8 ≤ k) : ft T pf k ↔ pf (k / 8) ≠ pf (k % 8) := by unfold ft; rw [if_neg (by omega)]
section TK
variable {n : Nat} {c0 c : ox_S} {T : Nat → Bool} {pf : Nat → Nat}
theorem pc_weigh (h8 : n ≤ 8) (hnum : rl_num n c) {k : Nat} (hk : ed n k) : oc_OneTree_weigh (nI (eN n k)) c = some (wI c k) := by
  obtain ⟨q1, q2, _, _⟩ := hnum.2 (k / 8) (k % 8) hk.1 hk.2
  have b1 := hk.1
  have b2 := hk.2
  unfold oc_OneTree_weigh oc_Land_between
  simp only [ox_ix_nI (eN_28 h8 hk) (show 28 < 2 ^ 31 by omega), ox_let]
  rw [show c.2 8 (eN n k) = nI (k / 8) from q1, show c.2 9 (eN n k) = nI (k % 8) from q2, p_8', ox_ix_nI (show 8 * (k / 8) + k % 8 < 64 by omega) (by omega)]
  simp only [Option.bind_some]
  rw [ox_ix_nI (show k / 8 < 8 by omega) (by omega), ox_ix_nI (show k % 8 < 8 by omega) (by omega), show 8 * (k / 8) + k % 8 = k by omega]
  rfl
theorem KI_num (h : KI n c0 c T pf) (hnum : rl_num n c0) : rl_num n c := rl_num_fr h.1 (by decide) (by decide) (by decide) (by decide) hnum
theorem KI_w (h : KI n c0 c T pf) (k : Nat) : wI c k = wI c0 k := by
  unfold wI
  rw [h.1.2 6 (by decide), h.1.2 10 (by decide)]
theorem zc_le8 (T : Nat → Bool) : zc T ≤ 8 := by
  have : ∀ M, cn_k T M ≤ M := fun M => by
    induction M with
    | zero => simp [cn_k]
    | succ m ih => simp only [cn_k]; split <;> omega
  exact this 8
theorem pc_fits (h8 : n ≤ 8) (hnum : rl_num n c0) (h : KI n c0 c T pf) {k : Nat} (hk : ed n k) : (ft T pf k ∧ oc_OneTree_fits (nI (eN n k)) c = some 1) ∨ (¬ ft T pf k ∧ oc_OneTree_fits (nI (eN n k)) c = some 0) := by
  obtain ⟨q1, q2, _, _⟩ := (KI_num h hnum).2 (k / 8) (k % 8) hk.1 hk.2
  obtain ⟨g1, g2, g3, g4, g5, g6, g7, g8, g9, g10⟩ := h
  have b1 := hk.1
  have b2 := hk.2
  unfold oc_OneTree_fits
  simp only [ox_ix_nI (eN_28 h8 hk) (show 28 < 2 ^ 31 by omega), ox_let]
  rw [show c.2 8 (eN n k) = nI (k / 8) from q1, show c.2 9 (eN n k) = nI (k % 8) from q2]
  by_cases z : k < 8
  · rw [if_pos (show nI (k / 8) = 0 by rw [show k / 8 = 0 by omega]; rfl), show ox_ix (0 : Int32) 8 = ox_ix (nI 0) 8 from rfl, ox_ix_nI (by omega) (by omega), g7 0 (by omega), dg_zc g2, ft_z z]
    have := zc_le8 T
    by_cases y : zc T < 2
    · exact Or.inl ⟨y, if_neg (show ¬ nI 2 ≤ nI (zc T) from nI_ge y (by omega))⟩
    · exact Or.inr ⟨y, if_pos (show nI 2 ≤ nI (zc T) from nI_le (by omega) (by omega))⟩
  · rw [if_neg (nI_ne0 (by omega) (by omega)), ox_ix_nI (show k / 8 < 8 by omega) (by omega), ox_ix_nI (show k % 8 < 8 by omega) (by omega), (g6 _ (by omega)).1, (g6 _ (by omega)).1, ft_t (by omega)]
    have l1 := (g6 (k / 8) (by omega)).2
    have l2 := (g6 (k % 8) (by omega)).2
    by_cases y : pf (k / 8) = pf (k % 8)
    · exact Or.inr ⟨fun q => q y, if_pos (by rw [y])⟩
    · exact Or.inl ⟨y, if_neg (nI_ne y (by omega) (by omega))⟩
theorem pc_joinL {a b : Nat} (hb : b < 8) : ∀ r i, i + r = 8 → ∀ σ : ox_S, (∀ x, x < 8 → pf x < 8) → (∀ x, x < i → σ.2 11 x = nI (cn_j pf a b x)) → (∀ x, i ≤ x → x < 8 → σ.2 11 x = nI (pf x)) → ∃ σ', oc_OneTree_join_h2 (nI a) (nI b) (nI i) σ = some σ' ∧ fr [] [11] σ σ' ∧ ∀ x, x < 8 → σ'.2 11 x = nI (cn_j pf a b x) := by
  intro r
  induction r with
  | zero =>
    intro i hi σ hp h1 h2
    refine ⟨σ, ?_, fr_rf, fun x hx => h1 x (by omega)⟩
    unfold oc_OneTree_join_h2
    refine ox_w_inr ?_
    show oc_OneTree_join_b2 (nI a) (nI b) (nI i) σ = _
    unfold oc_OneTree_join_b2
    rw [show (8 : Int32) = nI 8 from rfl, if_pos (nI_le (by omega) (by omega))]
  | succ r ih =>
    intro i hi σ hp h1 h2
    have hpi := hp i (by omega)
    by_cases e : pf i = b
    · obtain ⟨σ', a1, a2, a3⟩ := ih (i + 1) (by omega) (ox_s2 σ 11 i (nI a)) hp (fun x hx => by
        rw [s2_at]
        by_cases z : x = i
        · subst z
          rw [if_pos ⟨rfl, rfl⟩]
          unfold cn_j
          rw [if_pos e]
        · rw [if_neg (fun q => z q.2)]
          exact h1 x (by omega)) (fun x hx1 hx2 => by
        rw [s2_at, if_neg (fun q => by omega)]
        exact h2 x (by omega) hx2)
      refine ⟨σ', ?_, fr_tr (fr_s2 (by decide)) a2, a3⟩
      rw [← a1]
      unfold oc_OneTree_join_h2
      refine ox_w_inl ?_
      show oc_OneTree_join_b2 (nI a) (nI b) (nI i) σ = _
      unfold oc_OneTree_join_b2
      rw [show (8 : Int32) = nI 8 from rfl, if_neg (nI_ge (by omega) (by omega)), ox_ix_nI (show i < 8 by omega) (by omega), h2 i (Nat.le_refl _) (by omega), if_pos (by rw [e]), ox_ix_nI (show i < 8 by omega) (by omega)]
      simp only [ox_let, nI_1]
    · obtain ⟨σ', a1, a2, a3⟩ := ih (i + 1) (by omega) σ hp (fun x hx => by
        by_cases z : x = i
        · subst z
          unfold cn_j
          rw [if_neg e]
          exact h2 x (Nat.le_refl _) (by omega)
        · exact h1 x (by omega)) (fun x hx1 hx2 => h2 x (by omega) hx2)
      refine ⟨σ', ?_, a2, a3⟩
      rw [← a1]
      unfold oc_OneTree_join_h2
      refine ox_w_inl ?_
      show oc_OneTree_join_b2 (nI a) (nI b) (nI i) σ = _
      unfold oc_OneTree_join_b2
      rw [show (8 : Int32) = nI 8 from rfl, if_neg (nI_ge (by omega) (by omega)), ox_ix_nI (show i < 8 by omega) (by omega), h2 i (Nat.le_refl _) (by omega), if_neg (nI_ne e (by omega) (by omega))]
      simp only [ox_let, nI_1]
theorem pc_join {a b : Nat} (hb : b < 8) {σ : ox_S} (hp : ∀ x, x < 8 → pf x < 8) (h : ∀ x, x < 8 → σ.2 11 x = nI (pf x)) : ∃ σ', oc_OneTree_join (nI a) (nI b) σ = some σ' ∧ fr [] [11] σ σ' ∧ ∀ x, x < 8 → σ'.2 11 x = nI (cn_j pf a b x) := pc_joinL hb 8 0 (by omega) σ hp (fun x hx => by omega) (fun x _ hx => h x hx)
end TK
