/-! turning a part of a row round -/
/-- the row in array a is f -/
def ro (a n : Nat) (f : Nat → Nat) (σ : ox_S) : Prop := ∀ k, k < n → σ.2 a k = nI (f k)
def mx (f : Nat → Nat) (i j i' j' : Nat) : Nat → Nat := fun k => if (i ≤ k ∧ k < i') ∨ (j' < k ∧ k ≤ j) then f (i + j - k) else f k
theorem ro_eq {a n : Nat} {f g : Nat → Nat} {σ : ox_S} (h : ro a n f σ) (e : ∀ k, k < n → f k = g k) : ro a n g σ := fun k hk => by rw [h k hk, e k hk]
theorem ro_fr {S T : List Nat} {a n : Nat} {f : Nat → Nat} {σ σ' : ox_S} (h : ro a n f σ) (hf : fr S T σ σ') (ha : a ∉ T) : ro a n f σ' := fun k hk => by rw [hf.2 a ha]; exact h k hk
theorem pt22_turnL {n i j : Nat} {f : Nat → Nat} (hn : n ≤ 8) (hj : j < n) (hi : 1 ≤ i) : ∀ r i' j', j' + 1 - i' ≤ r → i' + j' = i + j → i ≤ i' → i' ≤ j' + 1 → ∀ σ : ox_S, ro 13 n (mx f i j i' j') σ → ∃ σ', oc_T_turnRound_a22_h5 (nI i') (nI j') σ = some σ' ∧ fr [] [13] σ σ' ∧ ro 13 n (rv f i j) σ' := by
  intro r
  induction r with
  | zero =>
    intro i' j' hr hs h1 h2 σ h
    refine ⟨σ, ?_, fr_rf, fun k hk => ?_⟩
    · unfold oc_T_turnRound_a22_h5
      refine ox_w_inr ?_
      show oc_T_turnRound_a22_b5 (nI i') (nI j') σ = _
      unfold oc_T_turnRound_a22_b5
      rw [if_pos (nI_le (by omega) (by omega))]
    · rw [h k hk]
      congr 1
      unfold rv mx
      by_cases hk2 : i ≤ k ∧ k ≤ j
      · rw [if_pos (by omega), if_pos hk2]
      · rw [if_neg (by omega), if_neg hk2]
  | succ r ih =>
    intro i' j' hr hs h1 h2 σ h
    by_cases hlt : i' < j'
    · have hi8 : i' < 8 := by omega
      have hj8 : j' < 8 := by omega
      have hvi := h i' (by omega)
      have hvj := h j' (by omega)
      unfold mx at hvi hvj
      rw [if_neg (by omega)] at hvi
      rw [if_neg (by omega)] at hvj
      obtain ⟨σ', a1, a2, a3⟩ := ih (i' + 1) (j' - 1) (by omega) (by omega) (by omega) (by omega) (ox_s2 (ox_s2 σ 13 i' (nI (f j'))) 13 j' (nI (f i'))) (fun k hk => by
        rw [s2_at, s2_at]
        have hh := h k hk
        unfold mx at hh ⊢
        by_cases e1 : k = j'
        · rw [if_pos ⟨rfl, e1⟩, if_pos (by omega)]
          congr 2
          omega
        · rw [if_neg (fun z => e1 z.2)]
          by_cases e2 : k = i'
          · rw [if_pos ⟨rfl, e2⟩, if_pos (by omega)]
            congr 2
            omega
          · rw [if_neg (fun z => e2 z.2), hh]
            congr 1
            by_cases e3 : (i ≤ k ∧ k < i') ∨ (j' < k ∧ k ≤ j)
            · rw [if_pos e3, if_pos (by omega)]
            · rw [if_neg e3, if_neg (by omega)])
      refine ⟨σ', ?_, fr_tr (fr_tr (fr_s2 (by decide)) (fr_s2 (by decide))) a2, a3⟩
      rw [← a1]
      unfold oc_T_turnRound_a22_h5
      refine ox_w_inl ?_
      show oc_T_turnRound_a22_b5 (nI i') (nI j') σ = _
      unfold oc_T_turnRound_a22_b5
      rw [if_neg (nI_ge hlt (by omega))]
      simp only [ox_let, ox_ix_nI hi8 (by omega), ox_ix_nI hj8 (by omega), hvi, hvj, nI_1]
      rw [sb_m1 (by omega)]
    · refine ⟨σ, ?_, fr_rf, fun k hk => ?_⟩
      · unfold oc_T_turnRound_a22_h5
        refine ox_w_inr ?_
        show oc_T_turnRound_a22_b5 (nI i') (nI j') σ = _
        unfold oc_T_turnRound_a22_b5
        rw [if_pos (nI_le (by omega) (by omega))]
      · rw [h k hk]
        congr 1
        unfold rv mx
        by_cases hk2 : i ≤ k ∧ k ≤ j
        · rw [if_pos hk2]
          by_cases e : (i ≤ k ∧ k < i') ∨ (j' < k ∧ k ≤ j)
          · rw [if_pos e]
          · rw [if_neg e]
            congr 1
            omega
        · rw [if_neg (by omega), if_neg hk2]
theorem pt22_turn {n i j : Nat} {f : Nat → Nat} (hn : n ≤ 8) (hj : j < n) (hi : 1 ≤ i) (hij : i ≤ j + 1) {σ : ox_S} (h : ro 13 n f σ) : ∃ σ', oc_T_turnRound_a22 (nI i) (nI j) σ = some σ' ∧ fr [] [13] σ σ' ∧ ro 13 n (rv f i j) σ' := by
  unfold oc_T_turnRound_a22
  exact pt22_turnL hn hj hi _ i j (Nat.le_refl _) rfl (Nat.le_refl _) hij σ (fun k hk => by rw [h k hk]; unfold mx; rw [if_neg (by omega)])
theorem pt25_turnL {n i j : Nat} {f : Nat → Nat} (hn : n ≤ 8) (hj : j < n) (hi : 1 ≤ i) : ∀ r i' j', j' + 1 - i' ≤ r → i' + j' = i + j → i ≤ i' → i' ≤ j' + 1 → ∀ σ : ox_S, ro 16 n (mx f i j i' j') σ → ∃ σ', oc_T_turnRound_a25_h5 (nI i') (nI j') σ = some σ' ∧ fr [] [16] σ σ' ∧ ro 16 n (rv f i j) σ' := by
  intro r
  induction r with
  | zero =>
    intro i' j' hr hs h1 h2 σ h
    refine ⟨σ, ?_, fr_rf, fun k hk => ?_⟩
    · unfold oc_T_turnRound_a25_h5
      refine ox_w_inr ?_
      show oc_T_turnRound_a25_b5 (nI i') (nI j') σ = _
      unfold oc_T_turnRound_a25_b5
      rw [if_pos (nI_le (by omega) (by omega))]
    · rw [h k hk]
      congr 1
      unfold rv mx
      by_cases hk2 : i ≤ k ∧ k ≤ j
      · rw [if_pos (by omega), if_pos hk2]
      · rw [if_neg (by omega), if_neg hk2]
  | succ r ih =>
    intro i' j' hr hs h1 h2 σ h
    by_cases hlt : i' < j'
    · have hi8 : i' < 8 := by omega
      have hj8 : j' < 8 := by omega
      have hvi := h i' (by omega)
      have hvj := h j' (by omega)
      unfold mx at hvi hvj
      rw [if_neg (by omega)] at hvi
      rw [if_neg (by omega)] at hvj
      obtain ⟨σ', a1, a2, a3⟩ := ih (i' + 1) (j' - 1) (by omega) (by omega) (by omega) (by omega) (ox_s2 (ox_s2 σ 16 i' (nI (f j'))) 16 j' (nI (f i'))) (fun k hk => by
        rw [s2_at, s2_at]
        have hh := h k hk
        unfold mx at hh ⊢
        by_cases e1 : k = j'
        · rw [if_pos ⟨rfl, e1⟩, if_pos (by omega)]
          congr 2
          omega
        · rw [if_neg (fun z => e1 z.2)]
          by_cases e2 : k = i'
          · rw [if_pos ⟨rfl, e2⟩, if_pos (by omega)]
            congr 2
            omega
          · rw [if_neg (fun z => e2 z.2), hh]
            congr 1
            by_cases e3 : (i ≤ k ∧ k < i') ∨ (j' < k ∧ k ≤ j)
            · rw [if_pos e3, if_pos (by omega)]
            · rw [if_neg e3, if_neg (by omega)])
      refine ⟨σ', ?_, fr_tr (fr_tr (fr_s2 (by decide)) (fr_s2 (by decide))) a2, a3⟩
      rw [← a1]
      unfold oc_T_turnRound_a25_h5
      refine ox_w_inl ?_
      show oc_T_turnRound_a25_b5 (nI i') (nI j') σ = _
      unfold oc_T_turnRound_a25_b5
      rw [if_neg (nI_ge hlt (by omega))]
      simp only [ox_let, ox_ix_nI hi8 (by omega), ox_ix_nI hj8 (by omega), hvi, hvj, nI_1]
      rw [sb_m1 (by omega)]
    · refine ⟨σ, ?_, fr_rf, fun k hk => ?_⟩
      · unfold oc_T_turnRound_a25_h5
        refine ox_w_inr ?_
        show oc_T_turnRound_a25_b5 (nI i') (nI j') σ = _
        unfold oc_T_turnRound_a25_b5
        rw [if_pos (nI_le (by omega) (by omega))]
      · rw [h k hk]
        congr 1
        unfold rv mx
        by_cases hk2 : i ≤ k ∧ k ≤ j
        · rw [if_pos hk2]
          by_cases e : (i ≤ k ∧ k < i') ∨ (j' < k ∧ k ≤ j)
          · rw [if_pos e]
          · rw [if_neg e]
            congr 1
            omega
        · rw [if_neg (by omega), if_neg hk2]
theorem pt25_turn {n i j : Nat} {f : Nat → Nat} (hn : n ≤ 8) (hj : j < n) (hi : 1 ≤ i) (hij : i ≤ j + 1) {σ : ox_S} (h : ro 16 n f σ) : ∃ σ', oc_T_turnRound_a25 (nI i) (nI j) σ = some σ' ∧ fr [] [16] σ σ' ∧ ro 16 n (rv f i j) σ' := by
  unfold oc_T_turnRound_a25
  exact pt25_turnL hn hj hi _ i j (Nat.le_refl _) rfl (Nat.le_refl _) hij σ (fun k hk => by rw [h k hk]; unfold mx; rw [if_neg (by omega)])
theorem pm_turnL {n i j : Nat} {f : Nat → Nat} (hn : n ≤ 8) (hj : j < n) (hi : 1 ≤ i) : ∀ r i' j', j' + 1 - i' ≤ r → i' + j' = i + j → i ≤ i' → i' ≤ j' + 1 → ∀ σ : ox_S, ro 13 n (mx f i j i' j') σ → ∃ σ', om_Mo_turn_h2 (nI i) (nI j) (nI i') σ = some σ' ∧ fr [] [13] σ σ' ∧ ro 13 n (rv f i j) σ' := by
  intro r
  induction r with
  | zero =>
    intro i' j' hr hs h1 h2 σ h
    refine ⟨σ, ?_, fr_rf, fun k hk => ?_⟩
    · unfold om_Mo_turn_h2
      refine ox_w_inr ?_
      show om_Mo_turn_b2 (nI i) (nI j) (nI i') σ = _
      unfold om_Mo_turn_b2
      rw [nI_add, show (2 : Int32) = nI 2 from rfl, pk_mul, if_pos (nI_le (by omega) (by omega))]
    · rw [h k hk]
      congr 1
      unfold rv mx
      by_cases hk2 : i ≤ k ∧ k ≤ j
      · rw [if_pos (by omega), if_pos hk2]
      · rw [if_neg (by omega), if_neg hk2]
  | succ r ih =>
    intro i' j' hr hs h1 h2 σ h
    by_cases hlt : i' < j'
    · have hi8 : i' < 8 := by omega
      have hj8 : j' < 8 := by omega
      have hvi := h i' (by omega)
      have hvj := h j' (by omega)
      unfold mx at hvi hvj
      rw [if_neg (by omega)] at hvi
      rw [if_neg (by omega)] at hvj
      obtain ⟨σ', a1, a2, a3⟩ := ih (i' + 1) (j' - 1) (by omega) (by omega) (by omega) (by omega) (ox_s2 (ox_s2 σ 13 i' (nI (f j'))) 13 j' (nI (f i'))) (fun k hk => by
        rw [s2_at, s2_at]
        have hh := h k hk
        unfold mx at hh ⊢
        by_cases e1 : k = j'
        · rw [if_pos ⟨rfl, e1⟩, if_pos (by omega)]
          congr 2
          omega
        · rw [if_neg (fun z => e1 z.2)]
          by_cases e2 : k = i'
          · rw [if_pos ⟨rfl, e2⟩, if_pos (by omega)]
            congr 2
            omega
          · rw [if_neg (fun z => e2 z.2), hh]
            congr 1
            by_cases e3 : (i ≤ k ∧ k < i') ∨ (j' < k ∧ k ≤ j)
            · rw [if_pos e3, if_pos (by omega)]
            · rw [if_neg e3, if_neg (by omega)])
      refine ⟨σ', ?_, fr_tr (fr_tr (fr_s2 (by decide)) (fr_s2 (by decide))) a2, a3⟩
      rw [← a1]
      unfold om_Mo_turn_h2
      refine ox_w_inl ?_
      show om_Mo_turn_b2 (nI i) (nI j) (nI i') σ = _
      unfold om_Mo_turn_b2
      rw [nI_add, show (2 : Int32) = nI 2 from rfl, pk_mul, if_neg (nI_ge (by omega) (by omega)), pk_sub (by omega), show i + j - i' = j' by omega]
      simp only [ox_let, ox_ix_nI hi8 (by omega), ox_ix_nI hj8 (by omega), hvi, hvj, nI_1]
    · refine ⟨σ, ?_, fr_rf, fun k hk => ?_⟩
      · unfold om_Mo_turn_h2
        refine ox_w_inr ?_
        show om_Mo_turn_b2 (nI i) (nI j) (nI i') σ = _
        unfold om_Mo_turn_b2
        rw [nI_add, show (2 : Int32) = nI 2 from rfl, pk_mul, if_pos (nI_le (by omega) (by omega))]
      · rw [h k hk]
        congr 1
        unfold rv mx
        by_cases hk2 : i ≤ k ∧ k ≤ j
        · rw [if_pos hk2]
          by_cases e : (i ≤ k ∧ k < i') ∨ (j' < k ∧ k ≤ j)
          · rw [if_pos e]
          · rw [if_neg e]
            congr 1
            omega
        · rw [if_neg (by omega), if_neg hk2]
theorem pm_turn {n i j : Nat} {f : Nat → Nat} (hn : n ≤ 8) (hj : j < n) (hi : 1 ≤ i) (hij : i ≤ j + 1) {σ : ox_S} (h : ro 13 n f σ) : ∃ σ', om_Mo_turn (nI i) (nI j) σ = some σ' ∧ fr [] [13] σ σ' ∧ ro 13 n (rv f i j) σ' := by
  unfold om_Mo_turn
  exact pm_turnL hn hj hi _ i j (Nat.le_refl _) rfl (Nat.le_refl _) hij σ (fun k hk => by rw [h k hk]; unfold mx; rw [if_neg (by omega)])
