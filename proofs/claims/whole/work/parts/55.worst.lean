/-! the reference's shrinking tree: worse, worst, count -/
def wM (m : ox_S) (k : Nat) : Int32 := m.2 1 k + m.2 3 (k / 8) + m.2 3 (k % 8)
def Wm (m : ox_S) (k : Nat) : Int := (wM m k).toInt
theorem p_div8 : ∀ k, k < 64 → nI k / (8 : Int32) = nI (k / 8) ∧ nI k - nI k / (8 : Int32) * (8 : Int32) = nI (k % 8) := by decide +kernel
def eltb (W : Nat → Int) (h k : Nat) : Bool := decide (W h < W k ∨ (W h = W k ∧ h < k))
theorem eltb_t {W : Nat → Int} {h k : Nat} (z : elt W h k) : eltb W h k = true := decide_eq_true z
theorem eltb_f {W : Nat → Int} {h k : Nat} (z : ¬ elt W h k) : eltb W h k = false := decide_eq_false z
theorem eltb_e {W : Nat → Int} {h k : Nat} (z : eltb W h k = true) : elt W h k := by unfold eltb at z; unfold elt; exact of_decide_eq_true z
/-- the state of a shrinking tree -/
def MI (n : Nat) (m0 m : ox_S) (S : Nat → Bool) : Prop := fr [] [10, 12] m0 m ∧ (∀ k, S k = true → ed n k) ∧ (∀ k, ed n k → (m.2 10 k = 0 ↔ S k = false))
theorem ed_64 {n k : Nat} (h8 : n ≤ 8) (h : ed n k) : k < 64 := by unfold ed at h; omega
/-- the greatest of C below K -/
def bst (W : Nat → Int) (C : Nat → Prop) (K : Nat) (x : Int32) : Prop := (x = -1 ∧ ∀ k, C k → ¬ k < K) ∨ ∃ k, x = nI k ∧ C k ∧ k < K ∧ ∀ k', C k' → k' < K → k' ≠ k → elt W k' k
theorem bst_up {W : Nat → Int} {C : Nat → Prop} {K K' : Nat} {x : Int32} (hK : K ≤ K') (hC : ∀ k, C k → k < K' → k < K) (h : bst W C K x) : bst W C K' x := by
  rcases h with ⟨h1, h2⟩ | ⟨k, h1, h2, h3, h4⟩
  · exact Or.inl ⟨h1, fun k hk hl => h2 k hk (hC k hk hl)⟩
  · exact Or.inr ⟨k, h1, h2, by omega, fun k' hk' hl hne => h4 k' hk' (hC k' hk' hl) hne⟩
section WS
variable {n : Nat} {m0 m : ox_S} {S : Nat → Bool}
theorem MI_w (h : MI n m0 m S) (k : Nat) : wM m k = wM m0 k := by
  unfold wM
  rw [h.1.2 1 (by decide), h.1.2 3 (by decide)]
theorem pm_weight (h8 : n ≤ 8) {i j : Nat} (hi : i < 8) (hj : j < 8) (m : ox_S) : om_Mo_weight (nI i) (nI j) m = some (m.2 1 (8 * i + j) + m.2 3 i + m.2 3 j) := by
  unfold om_Mo_weight
  rw [p_8, ox_ix_nI (show 8 * i + j < 64 by omega) (by omega), ox_ix_nI hi (by omega), ox_ix_nI hj (by omega)]
theorem pm_weightK (h8 : n ≤ 8) {k : Nat} (hk : k < 64) (m : ox_S) : om_Mo_weight (nI (k / 8)) (nI (k % 8)) m = some (wM m k) := by
  rw [pm_weight h8 (by omega) (by omega), show 8 * (k / 8) + k % 8 = k by omega]
  rfl
theorem pm_worse (h8 : n ≤ 8) (h : MI n m0 m S) {k1 k2 : Nat} (h1 : k1 < 64) (h2 : k2 < 64) : om_Mo_worse (nI k1) (nI k2) m = some (b01 (eltb (Wm m0) k2 k1)) := by
  unfold om_Mo_worse
  rw [(p_div8 k1 h1).2, (p_div8 k1 h1).1, (p_div8 k2 h2).2, (p_div8 k2 h2).1, pm_weightK h8 h1, pm_weightK h8 h2, MI_w h, MI_w h]
  simp only [Option.bind_some]
  by_cases e : wM m0 k1 = wM m0 k2
  · rw [if_pos e]
    by_cases z : k1 ≤ k2
    · rw [if_pos (nI_le z (by omega)), eltb_f]
      · rfl
      · unfold elt Wm
        rw [e]
        omega
    · rw [if_neg (nI_ge (by omega) (by omega)), eltb_t]
      · rfl
      · unfold elt Wm
        rw [e]
        omega
  · rw [if_neg e]
    have e2 : (wM m0 k1).toInt ≠ (wM m0 k2).toInt := fun q => e (Int32.toInt_inj.mp q)
    by_cases z : wM m0 k1 ≤ wM m0 k2
    · have := Int32.le_iff_toInt_le.mp z
      rw [if_pos z, eltb_f]
      · rfl
      · unfold elt Wm
        omega
    · have : ¬ (wM m0 k1).toInt ≤ (wM m0 k2).toInt := fun q => z (Int32.le_iff_toInt_le.mpr q)
      rw [if_neg z, eltb_t]
      · rfl
      · unfold elt Wm
        omega
/-- what may go: zero edges or the others, below a bound or any -/
def cnd (m0 : ox_S) (S : Nat → Bool) (zero : Bool) (B : Option Nat) (k : Nat) : Prop := S k = true ∧ ¬ m0.2 11 k = 1 ∧ decide (k < 8) = zero ∧ ∀ b, B = some b → elt (Wm m0) k b
def oI : Option Nat → Int32
  | none => -1
  | some k => nI k
theorem pm_worst1 (h8 : n ≤ 8) (hnm : m0.1 1 = nI n) (h : MI n m0 m S) {zero : Bool} {B : Option Nat} (hB : ∀ b, B = some b → b < 64) {i j : Nat} (hij : i < j) (hj : j < n) {x3 : Int32} (hx : bst (Wm m0) (cnd m0 S zero B) (8 * i + j) x3) : ∃ x3', om_Mo_worst_b20 (b01 zero) (oI B) x3 (nI i) (nI j) m = some (.inl (x3', nI (j + 1))) ∧ bst (Wm m0) (cnd m0 S zero B) (8 * i + (j + 1)) x3' := by
  have hk : ed n (8 * i + j) := ⟨by omega, by omega⟩
  have hin := h.2.2 _ hk
  have hnm' : m.1 1 = nI n := by rw [h.1.1 1 (by decide)]; exact hnm
  have hrule : m.2 11 (8 * i + j) = m0.2 11 (8 * i + j) := by rw [h.1.2 11 (by decide)]
  have skip : om_Mo_worst_j93 (b01 zero) (oI B) x3 (nI i) (nI j) (nI (8 * i + j)) 0 m = some (.inl (x3, nI (j + 1))) := by
    unfold om_Mo_worst_j93
    rw [if_pos rfl]
    simp only [ox_let, nI_1]
  have keep : ¬ cnd m0 S zero B (8 * i + j) → bst (Wm m0) (cnd m0 S zero B) (8 * i + (j + 1)) x3 := fun hn => bst_up (by omega) (fun k hc hl => by
    by_cases e : k = 8 * i + j
    · subst e; exact absurd hc hn
    · omega) hx
  have hb : om_Mo_worst_b20 (b01 zero) (oI B) x3 (nI i) (nI j) m = if m.2 10 (8 * i + j) = 0 then om_Mo_worst_j93 (b01 zero) (oI B) x3 (nI i) (nI j) (nI (8 * i + j)) 0 m else if m0.2 11 (8 * i + j) = 1 then om_Mo_worst_j93 (b01 zero) (oI B) x3 (nI i) (nI j) (nI (8 * i + j)) 0 m else om_Mo_worst_j70 (b01 zero) (oI B) x3 (nI i) (nI j) (nI (8 * i + j)) (b01 (decide (8 * i + j < 8))) m := by
    unfold om_Mo_worst_b20
    rw [hnm', if_neg (nI_ge hj (by omega)), p_8]
    simp only [ox_let]
    rw [ox_ix_nI (show 8 * i + j < 64 by omega) (by omega), ox_ix_nI (show 8 * i + j < 64 by omega) (by omega), hrule]
    by_cases z : i = 0
    · subst z
      rw [if_pos (show nI 0 = 0 from rfl), decide_eq_true (by omega)]
      rfl
    · rw [if_neg (show ¬ nI i = 0 from nI_ne0 (by omega) (by omega)), decide_eq_false (by omega)]
      rfl
  rw [hb]
  by_cases c1 : m.2 10 (8 * i + j) = 0
  · rw [if_pos c1]
    exact ⟨x3, skip, keep (fun q => by have := hin.mp c1; rw [q.1] at this; cases this)⟩
  · have hS : S (8 * i + j) = true := by
      cases q : S (8 * i + j) with
      | true => rfl
      | false => exact absurd (hin.mpr q) c1
    rw [if_neg c1]
    by_cases c2 : m0.2 11 (8 * i + j) = 1
    · rw [if_pos c2]
      exact ⟨x3, skip, keep (fun q => q.2.1 c2)⟩
    · rw [if_neg c2]
      have hj70 : ((decide (8 * i + j < 8) = zero ∧ (∀ b, B = some b → elt (Wm m0) (8 * i + j) b)) → om_Mo_worst_j70 (b01 zero) (oI B) x3 (nI i) (nI j) (nI (8 * i + j)) (b01 (decide (8 * i + j < 8))) m = om_Mo_worst_j93 (b01 zero) (oI B) x3 (nI i) (nI j) (nI (8 * i + j)) 1 m) ∧ ((¬ (decide (8 * i + j < 8) = zero ∧ (∀ b, B = some b → elt (Wm m0) (8 * i + j) b))) → om_Mo_worst_j70 (b01 zero) (oI B) x3 (nI i) (nI j) (nI (8 * i + j)) (b01 (decide (8 * i + j < 8))) m = om_Mo_worst_j93 (b01 zero) (oI B) x3 (nI i) (nI j) (nI (8 * i + j)) 0 m) := by
        unfold om_Mo_worst_j70
        by_cases y : decide (8 * i + j < 8) = zero
        · rw [if_pos (by rw [y])]
          cases B with
          | none => exact ⟨fun _ => if_pos (show oI none < 0 by decide), fun q => absurd ⟨y, fun b hb => by cases hb⟩ q⟩
          | some b =>
            have hb64 := hB b rfl
            rw [if_neg (show ¬ oI (some b) < 0 from nI_pos (by omega)), show oI (some b) = nI b from rfl, pm_worse h8 h hb64 (show 8 * i + j < 64 by omega)]
            simp only [Option.bind_some]
            by_cases w : elt (Wm m0) (8 * i + j) b
            · rw [eltb_t w, if_neg (by decide)]
              exact ⟨fun _ => rfl, fun q => absurd ⟨y, fun b' hb' => by cases hb'; exact w⟩ q⟩
            · rw [eltb_f w, if_pos (by decide)]
              exact ⟨fun q => absurd (q.2 b rfl) w, fun _ => rfl⟩
        · have : ¬ b01 (decide (8 * i + j < 8)) = b01 zero := by
            revert y
            cases decide (8 * i + j < 8) <;> cases zero <;> simp [b01]
          rw [if_neg this]
          exact ⟨fun q => absurd q.1 y, fun _ => rfl⟩
      by_cases c3 : decide (8 * i + j < 8) = zero ∧ (∀ b, B = some b → elt (Wm m0) (8 * i + j) b)
      · rw [hj70.1 c3]
        have hc : cnd m0 S zero B (8 * i + j) := ⟨hS, c2, c3.1, c3.2⟩
        unfold om_Mo_worst_j93
        rw [if_neg (by decide)]
        rcases hx with ⟨z1, z2⟩ | ⟨k, z1, z2, z3, z4⟩
        · refine ⟨nI (8 * i + j), ?_, Or.inr ⟨_, rfl, hc, by omega, fun k' hk' hl hne => ?_⟩⟩
          · rw [z1, if_pos (by decide)]
            simp only [ox_let, nI_1]
          · exact absurd (by omega) (z2 k' hk')
        · have hk64 : k < 64 := by omega
          rw [z1, if_neg (nI_pos (by omega)), pm_worse h8 h (show 8 * i + j < 64 by omega) hk64]
          simp only [Option.bind_some, ox_let, nI_1]
          by_cases w : elt (Wm m0) k (8 * i + j)
          · refine ⟨nI (8 * i + j), by rw [eltb_t w, if_neg (by decide)], Or.inr ⟨_, rfl, hc, by omega, fun k' hk' hl hne => ?_⟩⟩
            by_cases y : k' = k
            · rw [y]; exact w
            · exact elt_tr (z4 k' hk' (by omega) y) w
          · refine ⟨nI k, by rw [eltb_f w, if_pos (by decide)], Or.inr ⟨k, rfl, z2, by omega, fun k' hk' hl hne => ?_⟩⟩
            by_cases y : k' = 8 * i + j
            · subst y
              exact (elt_to hne).resolve_right w
            · exact z4 k' hk' (by omega) hne
      · rw [hj70.2 c3]
        exact ⟨x3, skip, keep (fun q => c3 ⟨q.2.2.1, q.2.2.2⟩)⟩
theorem pm_worstJ (h8 : n ≤ 8) (hnm : m0.1 1 = nI n) (h : MI n m0 m S) {zero : Bool} {B : Option Nat} (hB : ∀ b, B = some b → b < 64) {i : Nat} : ∀ r j, j + r = n → i < j → ∀ x3, bst (Wm m0) (cnd m0 S zero B) (8 * i + j) x3 → ∃ x3', om_Mo_worst_h20 (b01 zero) (oI B) x3 (nI i) (nI j) m = some (.inl (x3', nI (i + 1))) ∧ bst (Wm m0) (cnd m0 S zero B) (8 * i + n) x3' := by
  have hnm' : m.1 1 = nI n := by rw [h.1.1 1 (by decide)]; exact hnm
  intro r
  induction r with
  | zero =>
    intro j hj hij x3 hx
    have e : j = n := by omega
    subst e
    refine ⟨x3, ?_, hx⟩
    unfold om_Mo_worst_h20
    refine ox_w_inr ?_
    show om_Mo_worst_b20 (b01 zero) (oI B) x3 (nI i) (nI j) m = _
    unfold om_Mo_worst_b20
    rw [hnm', if_pos (nI_le (Nat.le_refl _) (by omega))]
    simp only [ox_let, nI_1]
  | succ r ih =>
    intro j hj hij x3 hx
    obtain ⟨x4, a1, a2⟩ := pm_worst1 h8 hnm h hB hij (show j < n by omega) hx
    obtain ⟨x5, b1, b2⟩ := ih (j + 1) (by omega) (by omega) x4 a2
    refine ⟨x5, ?_, b2⟩
    rw [← b1]
    unfold om_Mo_worst_h20
    exact ox_w_inl a1
theorem pm_worstI (h8 : n ≤ 8) (hnm : m0.1 1 = nI n) (h : MI n m0 m S) {zero : Bool} {B : Option Nat} (hB : ∀ b, B = some b → b < 64) : ∀ r i, i + r = n → ∀ x3, bst (Wm m0) (cnd m0 S zero B) (8 * i + (i + 1)) x3 → ∃ x3', om_Mo_worst_h5 (b01 zero) (oI B) x3 (nI i) m = some x3' ∧ bst (Wm m0) (cnd m0 S zero B) 64 x3' := by
  have hnm' : m.1 1 = nI n := by rw [h.1.1 1 (by decide)]; exact hnm
  intro r
  induction r with
  | zero =>
    intro i hi x3 hx
    refine ⟨x3, ?_, ?_⟩
    · unfold om_Mo_worst_h5
      refine ox_w_inr ?_
      show om_Mo_worst_b5 (b01 zero) (oI B) x3 (nI i) m = _
      unfold om_Mo_worst_b5
      rw [hnm', if_pos (nI_le (by omega) (by omega))]
    · rcases hx with ⟨z1, z2⟩ | ⟨k, z1, z2, z3, z4⟩
      · exact Or.inl ⟨z1, fun k hk _ => z2 k hk (by have := h.2.1 k hk.1; unfold ed at this; omega)⟩
      · exact Or.inr ⟨k, z1, z2, by have := h.2.1 k z2.1; unfold ed at this; omega, fun k' hk' _ hne => z4 k' hk' (by have := h.2.1 k' hk'.1; unfold ed at this; omega) hne⟩
  | succ r ih =>
    intro i hi x3 hx
    obtain ⟨x4, a1, a2⟩ := pm_worstJ h8 hnm h hB (n - (i + 1)) (i + 1) (by omega) (by omega) x3 hx
    obtain ⟨x5, b1, b2⟩ := ih (i + 1) (by omega) x4 (bst_up (by omega) (fun k hk hl => by
      have := h.2.1 k hk.1
      unfold ed at this
      omega) a2)
    refine ⟨x5, ?_, b2⟩
    rw [← b1]
    unfold om_Mo_worst_h5
    refine ox_w_inl ?_
    show om_Mo_worst_b5 (b01 zero) (oI B) x3 (nI i) m = _
    unfold om_Mo_worst_b5
    rw [hnm', if_neg (nI_ge (show i < n by omega) (by omega))]
    simp only [ox_let, nI_1]
    exact a1
theorem pm_worst (h8 : n ≤ 8) (hnm : m0.1 1 = nI n) (h : MI n m0 m S) (zero : Bool) {B : Option Nat} (hB : ∀ b, B = some b → b < 64) : ∃ x, om_Mo_worst (b01 zero) (oI B) m = some x ∧ bst (Wm m0) (cnd m0 S zero B) 64 x := pm_worstI h8 hnm h hB n 0 (by omega) (-1) (Or.inl ⟨rfl, fun k hk hl => by
  have := h.2.1 k hk.1
  unfold ed at this
  omega⟩)
/-- how many -/
theorem cn_k_gap {p : Nat → Bool} {K : Nat} : ∀ d, (∀ x, K ≤ x → x < K + d → p x = false) → cn_k p (K + d) = cn_k p K
  | 0, _ => rfl
  | d + 1, h => by
    rw [show K + (d + 1) = (K + d) + 1 by omega]
    simp only [cn_k]
    rw [cn_k_gap d (fun x h1 h2 => h x h1 (by omega)), h (K + d) (by omega) (by omega)]
    rfl
theorem cn_k_gap2 {p : Nat → Bool} {K K' : Nat} (hK : K ≤ K') (h : ∀ x, K ≤ x → x < K' → p x = false) : cn_k p K' = cn_k p K := by
  obtain ⟨d, rfl⟩ : ∃ d, K' = K + d := ⟨K' - K, by omega⟩
  exact cn_k_gap d h
def czp (S : Nat → Bool) (zero : Bool) (k : Nat) : Bool := S k && (decide (k < 8) == zero)
theorem pm_countJ (h8 : n ≤ 8) (hnm : m0.1 1 = nI n) (h : MI n m0 m S) {zero : Bool} {i : Nat} : ∀ r j, j + r = n → i < j → om_Mo_count_h17 (b01 zero) (nI (cn_k (czp S zero) (8 * i + j))) (nI i) (nI j) m = some (.inl (nI (cn_k (czp S zero) (8 * i + n)), nI (i + 1))) := by
  have hnm' : m.1 1 = nI n := by rw [h.1.1 1 (by decide)]; exact hnm
  intro r
  induction r with
  | zero =>
    intro j hj hij
    have e : j = n := by omega
    subst e
    unfold om_Mo_count_h17
    refine ox_w_inr ?_
    show om_Mo_count_b17 (b01 zero) _ (nI i) (nI j) m = _
    unfold om_Mo_count_b17
    rw [hnm', if_pos (nI_le (Nat.le_refl _) (by omega))]
    simp only [ox_let, nI_1]
  | succ r ih =>
    intro j hj hij
    have hk : ed n (8 * i + j) := ⟨by omega, by omega⟩
    have hin := h.2.2 _ hk
    rw [← ih (j + 1) (by omega) (by omega)]
    unfold om_Mo_count_h17
    refine ox_w_inl ?_
    show om_Mo_count_b17 (b01 zero) (nI (cn_k (czp S zero) (8 * i + j))) (nI i) (nI j) m = _
    have hs : cn_k (czp S zero) (8 * i + (j + 1)) = cn_k (czp S zero) (8 * i + j) + if czp S zero (8 * i + j) then 1 else 0 := rfl
    unfold om_Mo_count_b17 om_Mo_count_j51
    rw [hnm', if_neg (nI_ge (show j < n by omega) (by omega)), p_8, ox_ix_nI (show 8 * i + j < 64 by omega) (by omega), hs]
    simp only [ox_let, nI_1]
    have hcz : czp S zero (8 * i + j) = (S (8 * i + j) && (decide (8 * i + j < 8) == zero)) := rfl
    cases q : S (8 * i + j) with
    | false =>
      rw [if_pos (hin.mpr q), hcz, q]
      simp
    | true =>
      rw [if_neg (fun y => by rw [hin.mp y] at q; cases q), hcz, q]
      by_cases z : i = 0
      · subst z
        rw [if_pos (show nI 0 = 0 from rfl), decide_eq_true (show 8 * 0 + j < 8 by omega)]
        cases zero
        · rw [if_neg (by decide)]
          simp
        · rw [if_pos (by decide)]
          simp
      · rw [if_neg (show ¬ nI i = 0 from nI_ne0 (by omega) (by omega)), decide_eq_false (show ¬ 8 * i + j < 8 by omega)]
        cases zero
        · rw [if_pos (by decide)]
          simp
        · rw [if_neg (by decide)]
          simp
theorem pm_countI (h8 : n ≤ 8) (hnm : m0.1 1 = nI n) (h : MI n m0 m S) {zero : Bool} : ∀ r i, i + r = n → om_Mo_count_h4 (b01 zero) (nI (cn_k (czp S zero) (8 * i + (i + 1)))) (nI i) m = some (nI (cn_k (czp S zero) (8 * n + (n + 1)))) := by
  have hnm' : m.1 1 = nI n := by rw [h.1.1 1 (by decide)]; exact hnm
  intro r
  induction r with
  | zero =>
    intro i hi
    have e : i = n := by omega
    subst e
    unfold om_Mo_count_h4
    refine ox_w_inr ?_
    show om_Mo_count_b4 (b01 zero) _ (nI i) m = _
    unfold om_Mo_count_b4
    rw [hnm', if_pos (nI_le (Nat.le_refl _) (by omega))]
  | succ r ih =>
    intro i hi
    rw [← ih (i + 1) (by omega)]
    have hgap : cn_k (czp S zero) (8 * (i + 1) + (i + 1 + 1)) = cn_k (czp S zero) (8 * i + n) := cn_k_gap2 (by omega) (fun x h1 h2 => by
      cases q : czp S zero x with
      | false => rfl
      | true =>
        unfold czp at q
        rw [Bool.and_eq_true] at q
        have := h.2.1 x q.1
        unfold ed at this
        omega)
    unfold om_Mo_count_h4
    refine ox_w_inl ?_
    show om_Mo_count_b4 (b01 zero) (nI (cn_k (czp S zero) (8 * i + (i + 1)))) (nI i) m = _
    unfold om_Mo_count_b4
    rw [hnm', if_neg (nI_ge (show i < n by omega) (by omega)), hgap]
    simp only [ox_let, nI_1]
    exact pm_countJ h8 hnm h (n - (i + 1)) (i + 1) (by omega) (by omega)
theorem pm_count (h8 : n ≤ 8) (hnm : m0.1 1 = nI n) (h : MI n m0 m S) : om_Mo_count (1 : Int32) m = some (nI (zc S)) ∧ om_Mo_count (0 : Int32) m = some (nI (tc S)) := by
  have hgen : ∀ zero, om_Mo_count (b01 zero) m = some (nI (cn_k (czp S zero) 64)) := by
    intro zero
    have h1 := pm_countI h8 hnm h (zero := zero) n 0 (by omega)
    have h0 : cn_k (czp S zero) (8 * 0 + (0 + 1)) = 0 := cn_k_no _ (fun v hv => by
      cases q : czp S zero v with
      | false => rfl
      | true =>
        unfold czp at q
        rw [Bool.and_eq_true] at q
        have := h.2.1 v q.1
        unfold ed at this
        omega)
    have hno : ∀ x, 8 * n + (n + 1) ≤ x ∨ 64 ≤ x → czp S zero x = false := fun x hx => by
      cases q : czp S zero x with
      | false => rfl
      | true =>
        unfold czp at q
        rw [Bool.and_eq_true] at q
        have := h.2.1 x q.1
        unfold ed at this
        omega
    have h2 : cn_k (czp S zero) (8 * n + (n + 1)) = cn_k (czp S zero) 64 := by
      rcases Nat.le_total (8 * n + (n + 1)) 64 with z | z
      · exact (cn_k_gap2 z (fun x h1 _ => hno x (Or.inl h1))).symm
      · exact cn_k_gap2 z (fun x h1 _ => hno x (Or.inr h1))
    rw [h0, h2] at h1
    exact h1
  constructor
  · have := hgen true
    rw [show cn_k (czp S true) 64 = zc S from by
      rw [show cn_k (czp S true) 64 = cn_k (czp S true) 8 from cn_k_gap2 (by omega) (fun x h1 _ => by unfold czp; rw [decide_eq_false (by omega)]; simp)]
      exact cn_k_same 8 (fun x hx => by unfold czp; rw [decide_eq_true hx]; simp)] at this
    exact this
  · have := hgen false
    rw [show cn_k (czp S false) 64 = tc S from cn_k_same 64 (fun x hx => by
      unfold czp
      by_cases z : 8 ≤ x
      · rw [decide_eq_true z, decide_eq_false (by omega)]; simp
      · rw [decide_eq_false z, decide_eq_true (by omega)]; simp)] at this
    exact this
end WS
