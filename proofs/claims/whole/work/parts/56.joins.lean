/-! the reference asks whether the cities but 0 hang together -/
/-- the edges without one -/
def wo (S : Nat → Bool) (X : Option Nat) (k : Nat) : Prop := S k = true ∧ X ≠ some k
def xa : Option Nat → Int32
  | none => -1
  | some k => nI (k / 8)
def xb : Option Nat → Int32
  | none => -1
  | some k => nI (k % 8)
def rp (rc : Nat → Nat) (i : Nat) : Bool := decide (1 ≤ i) && (rc i == 1)
def JI (n : Nat) (m σ : ox_S) (S : Nat → Bool) (X : Option Nat) (rc : Nat → Nat) : Prop := fr [] [12] m σ ∧ (∀ i, i < n → σ.2 12 i = nI (rc i) ∧ rc i ≤ 1) ∧ rc 1 = 1 ∧ ∀ i, 1 ≤ i → i < n → rc i = 1 → cn_c (js (wo S X)) 1 i
def PI (n : Nat) (m σ : ox_S) (S : Nat → Bool) (X : Option Nat) (q : Nat) (K : Nat) (ch : Int32) : Prop := ∃ rc, JI n m σ S X rc ∧ ((ch = 0 ∧ cn_k (rp rc) n = q ∧ ∀ k, k < K → 8 ≤ k → wo S X k → rc (k / 8) = rc (k % 8)) ∨ (ch = 1 ∧ q < cn_k (rp rc) n))
theorem PI_up {n : Nat} {m σ : ox_S} {S : Nat → Bool} {X : Option Nat} {q K K' : Nat} {ch : Int32} (hK : ∀ k, k < K' → 8 ≤ k → wo S X k → k < K) (h : PI n m σ S X q K ch) : PI n m σ S X q K' ch := by
  obtain ⟨rc, h1, h2⟩ := h
  refine ⟨rc, h1, ?_⟩
  rcases h2 with ⟨a, b, c⟩ | z
  · exact Or.inl ⟨a, b, fun k k1 k2 k3 => c k (hK k k1 k2 k3) k2 k3⟩
  · exact Or.inr z
def rc2 (rc : Nat → Nat) (i j : Nat) : Nat → Nat := fun x => if x = i ∨ x = j then 1 else rc x
theorem rc2_in {rc : Nat → Nat} {i j x : Nat} (h : x = i ∨ x = j) : rc2 rc i j x = 1 := if_pos h
theorem rc2_no {rc : Nat → Nat} {i j x : Nat} (h1 : ¬ x = i) (h2 : ¬ x = j) : rc2 rc i j x = rc x := if_neg (fun z => Or.elim z h1 h2)
section JN
variable {n : Nat} {m : ox_S} {S : Nat → Bool} {X : Option Nat}
theorem xab {i j : Nat} (hX : ∀ k, X = some k → k < 64) (hi : i < 8) (hj : j < 8) : (nI i = xa X ∧ nI j = xb X) ↔ X = some (8 * i + j) := by
  cases X with
  | none =>
    constructor
    · rintro ⟨h, _⟩
      exact absurd h ((by decide +kernel : ∀ i, i < 8 → ¬ nI i = -1) i hi)
    · intro h; cases h
  | some k =>
    have hk := hX k rfl
    show (nI i = nI (k / 8) ∧ nI j = nI (k % 8)) ↔ _
    rw [nI_eq (by omega) (by omega), nI_eq (by omega) (by omega)]
    constructor
    · rintro ⟨h1, h2⟩
      congr 1
      omega
    · intro h
      have := Option.some.inj h
      omega
theorem pm_jn1 (h8 : n ≤ 8) (hnm : m.1 1 = nI n) (hS1 : ∀ k, S k = true → ed n k) (hS : ∀ k, ed n k → (m.2 10 k = 0 ↔ S k = false)) (hX : ∀ k, X = some k → k < 64) {i j q : Nat} (hi1 : 1 ≤ i) (hij : i < j) (hj : j < n) {σ : ox_S} {ch : Int32} (h : PI n m σ S X q (8 * i + j) ch) : ∃ ch' σ', om_Mo_joins_b58 (xa X) (xb X) ch (nI i) (nI j) σ = some (.inl (ch', nI (j + 1), σ')) ∧ PI n m σ' S X q (8 * i + (j + 1)) ch' := by
  obtain ⟨rc, hJ, hch⟩ := id h
  obtain ⟨hfr, hr, hr1, hrc⟩ := id hJ
  have hk : ed n (8 * i + j) := ⟨by omega, by omega⟩
  have hin := hS _ hk
  have hnm' : σ.1 1 = nI n := by rw [hfr.1 1 (by decide)]; exact hnm
  have hin' : σ.2 10 (8 * i + j) = m.2 10 (8 * i + j) := by rw [hfr.2 10 (by decide)]
  have hx := xab (X := X) hX (show i < 8 by omega) (show j < 8 by omega)
  have skip : ¬ wo S X (8 * i + j) → PI n m σ S X q (8 * i + (j + 1)) ch := fun hn => PI_up (fun k k1 k2 k3 => by
    by_cases e : k = 8 * i + j
    · subst e; exact absurd k3 hn
    · omega) h
  have hskip : om_Mo_joins_j100 (xa X) (xb X) ch (nI i) (nI j) 0 σ = some (.inl (ch, nI (j + 1), σ)) := by
    unfold om_Mo_joins_j100
    rw [if_pos rfl]
    simp only [ox_let, nI_1]
  have hb1 : ¬ wo S X (8 * i + j) → om_Mo_joins_b58 (xa X) (xb X) ch (nI i) (nI j) σ = om_Mo_joins_j100 (xa X) (xb X) ch (nI i) (nI j) 0 σ := by
    intro hn
    unfold om_Mo_joins_b58
    rw [hnm', if_neg (nI_ge hj (by omega)), p_8, ox_ix_nI (show 8 * i + j < 64 by omega) (by omega), hin']
    by_cases z : m.2 10 (8 * i + j) = 0
    · rw [if_pos z]
    · have hs : S (8 * i + j) = true := by
        cases y : S (8 * i + j) with
        | true => rfl
        | false => exact absurd (hin.mpr y) z
      have hxx : X = some (8 * i + j) := Classical.byContradiction fun y => hn ⟨hs, y⟩
      have := hx.mpr hxx
      rw [if_neg z, if_pos this.1, if_pos this.2]
  have hb2 : wo S X (8 * i + j) → om_Mo_joins_b58 (xa X) (xb X) ch (nI i) (nI j) σ = om_Mo_joins_j100 (xa X) (xb X) ch (nI i) (nI j) 1 σ := by
    intro hw
    unfold om_Mo_joins_b58
    rw [hnm', if_neg (nI_ge hj (by omega)), p_8, ox_ix_nI (show 8 * i + j < 64 by omega) (by omega), hin', if_neg (fun z => by have := hin.mp z; rw [hw.1] at this; cases this)]
    by_cases z1 : nI i = xa X
    · rw [if_pos z1, if_neg (fun z2 => hw.2 (hx.mp ⟨z1, z2⟩))]
    · rw [if_neg z1]
  by_cases hw : wo S X (8 * i + j)
  · rw [hb2 hw]
    obtain ⟨ri, li⟩ := hr i (by omega)
    obtain ⟨rj, lj⟩ := hr j hj
    unfold om_Mo_joins_j100
    rw [if_neg (by decide), ox_ix_nI (show i < 8 by omega) (by omega), ox_ix_nI (show j < 8 by omega) (by omega), ri, rj]
    by_cases e : rc i = rc j
    · rw [if_pos (by rw [e])]
      refine ⟨ch, σ, by simp only [ox_let, nI_1], rc, hJ, ?_⟩
      rcases hch with ⟨a, b, c⟩ | z
      · refine Or.inl ⟨a, b, fun k k1 k2 k3 => ?_⟩
        by_cases y : k = 8 * i + j
        · subst y
          rw [show (8 * i + j) / 8 = i by omega, show (8 * i + j) % 8 = j by omega]
          exact e
        · exact c k (by omega) k2 k3
      · exact Or.inr z
    · rw [if_neg (nI_ne e (by omega) (by omega)), ox_ix_nI (show i < 8 by omega) (by omega)]
      simp only [ox_let, nI_1]
      rw [ox_ix_nI (show j < 8 by omega) (by omega)]
      have hedge : cn_c (js (wo S X)) i j := cn_e ⟨8 * i + j, by omega, hw, by omega, by omega⟩
      refine ⟨1, _, rfl, rc2 rc i j, ⟨fr_tr (fr_tr hfr (fr_s2 (by decide))) (fr_s2 (by decide)), fun x hx => ?_, ?_, fun x x1 x2 x3 => ?_⟩, Or.inr ⟨rfl, ?_⟩⟩
      · rw [s2_at, s2_at]
        by_cases y1 : x = j
        · rw [if_pos ⟨rfl, y1⟩, rc2_in (Or.inr y1)]
          exact ⟨rfl, Nat.le_refl _⟩
        · rw [if_neg (fun z => y1 z.2)]
          by_cases y2 : x = i
          · rw [if_pos ⟨rfl, y2⟩, rc2_in (Or.inl y2)]
            exact ⟨rfl, Nat.le_refl _⟩
          · rw [if_neg (fun z => y2 z.2), rc2_no y2 y1]
            exact hr x hx
      · by_cases y : 1 = i ∨ 1 = j
        · exact rc2_in y
        · rw [rc2_no (fun z => y (Or.inl z)) (fun z => y (Or.inr z))]
          exact hr1
      · by_cases y : x = i ∨ x = j
        · -- one of the two was reached
          have hor : rc i = 1 ∨ rc j = 1 := by omega
          rcases hor with z | z
          · have hi := hrc i hi1 (by omega) z
            rcases y with y | y
            · rw [y]; exact hi
            · rw [y]; exact cn_tr hi hedge
          · have hj' := hrc j (by omega) hj z
            rcases y with y | y
            · rw [y]; exact cn_tr hj' (cn_sy hedge)
            · rw [y]; exact hj'
        · rw [rc2_no (fun z => y (Or.inl z)) (fun z => y (Or.inr z))] at x3
          exact hrc x x1 x2 x3
      · -- one more
        have hadd : cn_k (rp (rc2 rc i j)) n = cn_k (rp rc) n + 1 := by
          by_cases z : rc i = 0
          · have zj : rc j = 1 := by omega
            refine cn_k_add (k := i) (by omega) (by unfold rp; rw [z]; simp) (fun x _ => ?_)
            unfold rp
            by_cases y : x = i
            · rw [rc2_in (Or.inl y), decide_eq_true (show 1 ≤ x by omega), y]
              simp
            · rw [beq_eq_false_iff_ne.mpr y]
              by_cases y2 : x = j
              · rw [rc2_in (Or.inr y2), y2, zj]
                simp
              · rw [rc2_no y y2]
                simp
          · have zj : rc j = 0 := by omega
            have zi : rc i = 1 := by omega
            refine cn_k_add (k := j) (by omega) (by unfold rp; rw [zj]; simp) (fun x _ => ?_)
            unfold rp
            by_cases y : x = j
            · rw [rc2_in (Or.inr y), decide_eq_true (show 1 ≤ x by omega), y]
              simp
            · rw [beq_eq_false_iff_ne.mpr y]
              by_cases y2 : x = i
              · rw [rc2_in (Or.inl y2), y2, zi]
                simp
              · rw [rc2_no y2 y]
                simp
        rw [hadd]
        rcases hch with ⟨_, b, _⟩ | ⟨_, b⟩ <;> omega
  · exact ⟨ch, σ, by rw [hb1 hw, hskip], skip hw⟩
theorem pm_jnJ (h8 : n ≤ 8) (hnm : m.1 1 = nI n) (hS1 : ∀ k, S k = true → ed n k) (hS : ∀ k, ed n k → (m.2 10 k = 0 ↔ S k = false)) (hX : ∀ k, X = some k → k < 64) {i q : Nat} (hi1 : 1 ≤ i) : ∀ r j, j + r = n → i < j → ∀ σ ch, PI n m σ S X q (8 * i + j) ch → ∃ ch' σ', om_Mo_joins_h58 (xa X) (xb X) ch (nI i) (nI j) σ = some (.inl (ch', nI (i + 1), σ')) ∧ PI n m σ' S X q (8 * i + n) ch' := by
  intro r
  induction r with
  | zero =>
    intro j hj hij σ ch h
    have e : j = n := by omega
    subst e
    obtain ⟨rc, hJ, _⟩ := id h
    have hnm' : σ.1 1 = nI j := by rw [hJ.1.1 1 (by decide)]; exact hnm
    refine ⟨ch, σ, ?_, h⟩
    unfold om_Mo_joins_h58
    refine ox_w_inr ?_
    show om_Mo_joins_b58 (xa X) (xb X) ch (nI i) (nI j) σ = _
    unfold om_Mo_joins_b58
    rw [hnm', if_pos (nI_le (Nat.le_refl _) (by omega))]
    simp only [ox_let, nI_1]
  | succ r ih =>
    intro j hj hij σ ch h
    obtain ⟨ch1, σ1, a1, a2⟩ := pm_jn1 h8 hnm hS1 hS hX hi1 hij (show j < n by omega) h
    obtain ⟨ch2, σ2, b1, b2⟩ := ih (j + 1) (by omega) (by omega) σ1 ch1 a2
    refine ⟨ch2, σ2, ?_, b2⟩
    rw [← b1]
    unfold om_Mo_joins_h58
    exact ox_w_inl a1
theorem pm_jnI (h8 : n ≤ 8) (hnm : m.1 1 = nI n) (hS1 : ∀ k, S k = true → ed n k) (hS : ∀ k, ed n k → (m.2 10 k = 0 ↔ S k = false)) (hX : ∀ k, X = some k → k < 64) {q : Nat} : ∀ r i, i + r = n → 1 ≤ i → ∀ σ ch, PI n m σ S X q (8 * i + (i + 1)) ch → ∃ ch' σ', om_Mo_joins_h43 (xa X) (xb X) ch (nI i) σ = some (.inl (ch', σ')) ∧ PI n m σ' S X q 64 ch' := by
  intro r
  induction r with
  | zero =>
    intro i hi hi1 σ ch h
    obtain ⟨rc, hJ, _⟩ := id h
    have hnm' : σ.1 1 = nI n := by rw [hJ.1.1 1 (by decide)]; exact hnm
    refine ⟨ch, σ, ?_, PI_up (fun k _ _ hw => by have := hS1 k hw.1; unfold ed at this; omega) h⟩
    unfold om_Mo_joins_h43
    refine ox_w_inr ?_
    show om_Mo_joins_b43 (xa X) (xb X) ch (nI i) σ = _
    unfold om_Mo_joins_b43
    rw [hnm', if_pos (nI_le (by omega) (by omega))]
  | succ r ih =>
    intro i hi hi1 σ ch h
    obtain ⟨rc, hJ, _⟩ := id h
    have hnm' : σ.1 1 = nI n := by rw [hJ.1.1 1 (by decide)]; exact hnm
    obtain ⟨ch1, σ1, a1, a2⟩ := pm_jnJ h8 hnm hS1 hS hX hi1 (n - (i + 1)) (i + 1) (by omega) (by omega) σ ch h
    obtain ⟨ch2, σ2, b1, b2⟩ := ih (i + 1) (by omega) (by omega) σ1 ch1 (PI_up (fun k _ _ hw => by have := hS1 k hw.1; unfold ed at this; omega) a2)
    refine ⟨ch2, σ2, ?_, b2⟩
    rw [← b1]
    unfold om_Mo_joins_h43
    refine ox_w_inl ?_
    show om_Mo_joins_b43 (xa X) (xb X) ch (nI i) σ = _
    unfold om_Mo_joins_b43
    rw [hnm', if_neg (nI_ge (show i < n by omega) (by omega))]
    simp only [ox_let, nI_1]
    exact a1
/-- the sum of what is reached -/
theorem pm_jnS (h8 : n ≤ 8) {σ : ox_S} {rc : Nat → Nat} (hnm : σ.1 1 = nI n) (h1 : 1 ≤ n) (hr : ∀ i, i < n → σ.2 12 i = nI (rc i) ∧ rc i ≤ 1) : ∀ r i, i + r = n → 1 ≤ i → om_Mo_joins_h163 (nI (cn_k (rp rc) i)) (nI i) σ = some (b01 (decide (cn_k (rp rc) n = n - 1)), σ) := by
  have hle : ∀ M, cn_k (rp rc) M ≤ M := fun M => by
    induction M with
    | zero => simp [cn_k]
    | succ m ih => simp only [cn_k]; split <;> omega
  intro r
  induction r with
  | zero =>
    intro i hi hi1
    have e : i = n := by omega
    subst e
    have := hle i
    unfold om_Mo_joins_h163
    refine ox_w_inr ?_
    show om_Mo_joins_b163 (nI (cn_k (rp rc) i)) (nI i) σ = _
    unfold om_Mo_joins_b163
    rw [hnm, if_pos (nI_le (Nat.le_refl _) (by omega)), p_sub1 h1]
    by_cases z : cn_k (rp rc) i = i - 1
    · rw [if_pos (by rw [z]), decide_eq_true z]
      rfl
    · rw [if_neg (nI_ne z (by omega) (by omega)), decide_eq_false z]
      rfl
  | succ r ih =>
    intro i hi hi1
    obtain ⟨a1, a2⟩ := hr i (by omega)
    rw [← ih (i + 1) (by omega) (by omega)]
    unfold om_Mo_joins_h163
    refine ox_w_inl ?_
    show om_Mo_joins_b163 (nI (cn_k (rp rc) i)) (nI i) σ = _
    unfold om_Mo_joins_b163
    rw [hnm, if_neg (nI_ge (show i < n by omega) (by omega)), ox_ix_nI (show i < 8 by omega) (by omega), a1]
    simp only [ox_let, nI_1, nI_add]
    have : cn_k (rp rc) (i + 1) = cn_k (rp rc) i + rc i := by
      simp only [cn_k]
      unfold rp
      have hd : decide (1 ≤ i) = true := decide_eq_true hi1
      rw [hd]
      rcases (show rc i = 0 ∨ rc i = 1 by omega) with z | z <;> rw [z] <;> rfl
    rw [this]
theorem cn_k_id : ∀ n, n ≤ 8 → cn_k (fun i => decide (1 ≤ i)) n = n - 1 := by decide +kernel
theorem pm_jnW (h3 : 3 ≤ n) (h8 : n ≤ 8) (hnm : m.1 1 = nI n) (hS1 : ∀ k, S k = true → ed n k) (hS : ∀ k, ed n k → (m.2 10 k = 0 ↔ S k = false)) (hX : ∀ k, X = some k → k < 64) : ∀ r σ rc, n ≤ cn_k (rp rc) n + r → JI n m σ S X rc → ∃ b σ', om_Mo_joins_h34 (xa X) (xb X) (1 : Int32) σ = some (b01 b, σ') ∧ fr [] [12] m σ' ∧ ((b = true ∧ jn n (wo S X)) ∨ (b = false ∧ ∃ f : Nat → Nat, (∀ k, 8 ≤ k → wo S X k → f (k / 8) = f (k % 8)) ∧ ∃ u, 1 ≤ u ∧ u < n ∧ f u ≠ f 1)) := by
  intro r
  induction r with
  | zero =>
    intro σ rc hr hJ
    exfalso
    have : cn_k (rp rc) n ≤ cn_k (fun i => decide (1 ≤ i)) n := cn_k_mono n (fun v _ hv => by unfold rp at hv; rw [Bool.and_eq_true] at hv; exact hv.1)
    rw [cn_k_id n h8] at this
    omega
  | succ r ih =>
    intro σ rc hr hJ
    obtain ⟨ch, σ1, a1, rc1, hJ1, hch⟩ := pm_jnI h8 hnm hS1 hS hX (q := cn_k (rp rc) n) (n - 1) 1 (by omega) (Nat.le_refl _) σ 0 ⟨rc, hJ, Or.inl ⟨rfl, rfl, fun k k1 k2 hw => by have := hS1 k hw.1; unfold ed at this; omega⟩⟩
    have hs : om_Mo_joins_h34 (xa X) (xb X) (1 : Int32) σ = om_Mo_joins_h34 (xa X) (xb X) ch σ1 := by
      unfold om_Mo_joins_h34
      refine ox_w_inl ?_
      show om_Mo_joins_b34 (xa X) (xb X) (1 : Int32) σ = _
      unfold om_Mo_joins_b34
      rw [if_neg (by decide)]
      exact a1
    rw [hs]
    rcases hch with ⟨c1, c2, c3⟩ | ⟨c1, c2⟩
    · subst c1
      have hnm1 : σ1.1 1 = nI n := by rw [hJ1.1.1 1 (by decide)]; exact hnm
      have hsum := pm_jnS h8 hnm1 (by omega) hJ1.2.1 (n - 1) 1 (by omega) (Nat.le_refl _)
      have h0 : cn_k (rp rc1) 1 = 0 := by simp [cn_k, rp]
      rw [h0] at hsum
      have hfin : om_Mo_joins_h34 (xa X) (xb X) (0 : Int32) σ1 = some (b01 (decide (cn_k (rp rc1) n = n - 1)), σ1) := by
        unfold om_Mo_joins_h34
        refine ox_w_map ?_
        show om_Mo_joins_b34 (xa X) (xb X) (0 : Int32) σ1 = _
        unfold om_Mo_joins_b34
        rw [if_pos rfl, show om_Mo_joins_h163 (0 : Int32) (1 : Int32) σ1 = _ from hsum]
      refine ⟨_, σ1, hfin, hJ1.1, ?_⟩
      by_cases z : cn_k (rp rc1) n = n - 1
      · refine Or.inl ⟨decide_eq_true z, fun u v u1 u2 v1 v2 => ?_⟩
        have hall := cn_k_eq (p := rp rc1) (q := fun i => decide (1 ≤ i)) (M := n) (fun v _ hv => by unfold rp at hv; rw [Bool.and_eq_true] at hv; exact hv.1) (by rw [cn_k_id n h8]; omega)
        have hu := hall u u2 (decide_eq_true u1)
        have hv := hall v v2 (decide_eq_true v1)
        unfold rp at hu hv
        rw [Bool.and_eq_true, beq_iff_eq] at hu hv
        exact cn_tr (cn_sy (hJ1.2.2.2 u u1 u2 hu.2)) (hJ1.2.2.2 v v1 v2 hv.2)
      · refine Or.inr ⟨decide_eq_false z, rc1, fun k k1 hw => c3 k (ed_64 h8 (hS1 k hw.1)) k1 hw, ?_⟩
        refine Classical.byContradiction fun hn => z ?_
        rw [← cn_k_id n h8]
        refine cn_k_same n (fun x hx => ?_)
        unfold rp
        by_cases y : 1 ≤ x
        · have : rc1 x = rc1 1 := Classical.byContradiction fun w => hn ⟨x, y, hx, w⟩
          rw [this, hJ1.2.2.1]
          simp
        · rw [decide_eq_false y]
          rfl
    · subst c1
      exact ih σ1 rc1 (by omega) hJ1
theorem pm_jn0 (h8 : n ≤ 8) (hnm : m.1 1 = nI n) : ∀ r i, i + r = n → ∀ σ : ox_S, fr [] [12] m σ → (∀ x, x < i → σ.2 12 x = nI (if x = 1 then 1 else 0)) → ∃ σ', om_Mo_joins_h2 (xa X) (xb X) (nI i) σ = om_Mo_joins_h34 (xa X) (xb X) (1 : Int32) σ' ∧ fr [] [12] m σ' ∧ ∀ x, x < n → σ'.2 12 x = nI (if x = 1 then 1 else 0) := by
  intro r
  induction r with
  | zero =>
    intro i hi σ hf h
    refine ⟨σ, ?_, hf, fun x hx => h x (by omega)⟩
    unfold om_Mo_joins_h2
    refine ox_w_map ?_
    show om_Mo_joins_b2 (xa X) (xb X) (nI i) σ = _
    unfold om_Mo_joins_b2
    rw [hf.1 1 (by decide), hnm, if_pos (nI_le (by omega) (by omega))]
  | succ r ih =>
    intro i hi σ hf h
    obtain ⟨σ', a1, a2, a3⟩ := ih (i + 1) (by omega) (ox_s2 σ 12 i (nI (if i = 1 then 1 else 0))) (fr_tr hf (fr_s2 (by decide))) (fun x hx => by
      rw [s2_at]
      by_cases z : x = i
      · subst z; rw [if_pos ⟨rfl, rfl⟩]
      · rw [if_neg (fun q => z q.2)]; exact h x (by omega))
    refine ⟨σ', ?_, a2, a3⟩
    rw [← a1]
    unfold om_Mo_joins_h2
    refine ox_w_inl ?_
    show om_Mo_joins_b2 (xa X) (xb X) (nI i) σ = _
    unfold om_Mo_joins_b2
    rw [hf.1 1 (by decide), hnm, if_neg (nI_ge (show i < n by omega) (by omega)), ox_ix_nI (show i < 8 by omega) (by omega), ox_ix_nI (show i < 8 by omega) (by omega)]
    simp only [ox_let, nI_1]
    by_cases z : i = 1
    · subst z
      rw [if_pos (show nI 1 = 1 from rfl), if_pos rfl]
      rfl
    · rw [if_neg (show ¬ nI i = 1 from nI_ne (b := 1) z (by omega) (by omega)), if_neg z]
      rfl
/-- the question and its answer -/
theorem pm_joins (h3 : 3 ≤ n) (h8 : n ≤ 8) (hnm : m.1 1 = nI n) (hS1 : ∀ k, S k = true → ed n k) (hS : ∀ k, ed n k → (m.2 10 k = 0 ↔ S k = false)) (hX : ∀ k, X = some k → k < 64) : ∃ b σ', om_Mo_joins (xa X) (xb X) m = some (b01 b, σ') ∧ fr [] [12] m σ' ∧ ((b = true ∧ jn n (wo S X)) ∨ (b = false ∧ ∃ f : Nat → Nat, (∀ k, 8 ≤ k → wo S X k → f (k / 8) = f (k % 8)) ∧ ∃ u, 1 ≤ u ∧ u < n ∧ f u ≠ f 1)) := by
  obtain ⟨σ, a1, a2, a3⟩ := pm_jn0 (X := X) h8 hnm n 0 (by omega) m fr_rf (fun x hx => by omega)
  obtain ⟨b, σ', b1, b2⟩ := pm_jnW h3 h8 hnm hS1 hS hX n σ (fun x => if x = 1 then 1 else 0) (by omega) ⟨a2, fun i hi => ⟨a3 i hi, by show (if i = 1 then 1 else 0) ≤ 1; split <;> omega⟩, rfl, fun i i1 i2 i3 => by
    have : i = 1 := Classical.byContradiction fun z => by
      change (if i = 1 then 1 else 0) = 1 at i3
      rw [if_neg z] at i3
      omega
    rw [this]
    exact cn_rf⟩
  refine ⟨b, σ', ?_, b2⟩
  rw [← b1]
  exact a1
end JN
