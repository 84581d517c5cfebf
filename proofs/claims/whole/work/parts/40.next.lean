/-! the next row -/
def fok (n : Nat) (f : Nat → Nat) : Prop := (∀ k, k < n → f k < n) ∧ (∀ a b, a < n → b < n → f a = f b → a = b) ∧ f 0 = 0
theorem tr_rise_le (f : Nat → Nat) : ∀ r, tr_rise f r ≤ r
  | 0 => Nat.le_refl _
  | r + 1 => by
    have := tr_rise_le f r
    unfold tr_rise
    split <;> omega
theorem tr_rise_up (f : Nat → Nat) : ∀ r, tr_rise f r ≠ 0 → f (tr_rise f r) ≤ f (tr_rise f r + 1)
  | 0, h => absurd rfl h
  | r + 1, h => by
    unfold tr_rise at h ⊢
    by_cases hc : f (r + 2) < f (r + 1)
    · rw [if_pos hc] at h ⊢
      exact tr_rise_up f r h
    · rw [if_neg hc]
      show f (r + 1) ≤ f (r + 2)
      omega
theorem tr_grt_in (f : Nat → Nat) (r : Nat) : ∀ j, r + 1 ≤ j → r + 1 ≤ tr_grt f r j ∧ tr_grt f r j ≤ j
  | 0, h => by omega
  | j + 1, h => by
    unfold tr_grt
    by_cases h1 : j + 1 ≤ r + 1
    · rw [if_pos h1]; omega
    · rw [if_neg h1]
      by_cases h2 : f (j + 1) < f r
      · rw [if_pos h2]
        have := tr_grt_in f r j (by omega)
        omega
      · rw [if_neg h2]; omega
theorem fok_sw {n : Nat} {f : Nat → Nat} (h : fok n f) {r j : Nat} (hr : 1 ≤ r) (hrn : r < n) (hj : 1 ≤ j) (hjn : j < n) (hne : r ≠ j) : fok n (sw f r j) := by
  obtain ⟨h1, h2, h3⟩ := h
  refine ⟨fun k hk => ?_, fun a b ha hb e => ?_, ?_⟩
  · unfold sw
    split
    · exact h1 j hjn
    · split
      · exact h1 r hrn
      · exact h1 k hk
  · unfold sw at e
    split at e <;> split at e <;> (try split at e) <;> (try split at e) <;> first | omega | (have := h2 _ _ (by omega) (by omega) e; omega)
  · unfold sw
    rw [if_neg (by omega), if_neg (by omega)]
    exact h3
theorem fok_rv {n : Nat} {f : Nat → Nat} (h : fok n f) {i j : Nat} (hi : 1 ≤ i) (hj : j < n) : fok n (rv f i j) := by
  obtain ⟨h1, h2, h3⟩ := h
  refine ⟨fun k hk => ?_, fun a b ha hb e => ?_, ?_⟩
  · unfold rv
    split
    · exact h1 _ (by omega)
    · exact h1 k hk
  · unfold rv at e
    split at e <;> split at e <;> (have := h2 _ _ (by omega) (by omega) e; omega)
  · unfold rv
    rw [if_neg (by omega)]
    exact h3
theorem fok_nx {n : Nat} {f g : Nat → Nat} (h3 : 3 ≤ n) (h : fok n f) (hg : tr_nx n f = some g) : fok n g := by
  unfold tr_nx at hg
  by_cases hz : tr_rise f (n - 2) = 0
  · rw [if_pos hz] at hg; cases hg
  · rw [if_neg hz] at hg
    have e := Option.some.inj hg
    rw [← e]
    have a1 := tr_rise_le f (n - 2)
    have a2 := tr_grt_in f (tr_rise f (n - 2)) (n - 1) (by omega)
    exact fok_rv (fok_sw h (by omega) (by omega) (by omega) (by omega) (by omega)) (by omega) (by omega)
/-- two places change their cities -/
theorem ro_sw {a n r j : Nat} {f : Nat → Nat} {σ : ox_S} (h : ro a n f σ) (hne : r ≠ j) : ro a n (sw f r j) (ox_s2 (ox_s2 σ a r (nI (f j))) a j (nI (f r))) := by
  intro k hk
  rw [s2_at, s2_at]
  unfold sw
  by_cases e1 : k = j
  · rw [if_pos ⟨rfl, e1⟩, if_neg (by omega), if_pos e1]
  · rw [if_neg (fun z => e1 z.2)]
    by_cases e2 : k = r
    · rw [if_pos ⟨rfl, e2⟩, if_pos e2]
    · rw [if_neg (fun z => e2 z.2), if_neg e2, if_neg e1]
      exact h k hk
section NX
variable {n : Nat} {f : Nat → Nat} {σ : ox_S}
theorem pc_nx3 (h3 : 3 ≤ n) (h8 : n ≤ 8) (hf : fok n f) (h : ro 13 n f σ) {r j : Nat} (hr : 1 ≤ r) (hrj : r < j) (hj : j < n) : ∃ σ', oc_TourList_goToNextRow_j79 (nI (n - 1)) (nI r) (nI j) σ = some (1, σ') ∧ fr [] [13] σ σ' ∧ ro 13 n (rv (sw f r j) (r + 1) (n - 1)) σ' := by
  obtain ⟨σ', a1, a2, a3⟩ := pt22_turn h8 (show n - 1 < n by omega) (show 1 ≤ r + 1 by omega) (by omega) (ro_sw h (show r ≠ j by omega))
  refine ⟨σ', ?_, fr_tr (fr_tr (fr_s2 (by decide)) (fr_s2 (by decide))) a2, a3⟩
  unfold oc_TourList_goToNextRow_j79
  simp only [ox_let, ox_ix_nI (show r < 8 by omega) (by omega), ox_ix_nI (show j < 8 by omega) (by omega), h r (by omega), h j hj, nI_1]
  rw [a1]
  rfl
theorem pc_nx2 (h3 : 3 ≤ n) (h8 : n ≤ 8) (hf : fok n f) (h : ro 13 n f σ) {r : Nat} (hr : 1 ≤ r) : ∀ j, r < j → j < n → ∃ σ', oc_TourList_goToNextRow_h51 (nI (n - 1)) (nI r) (nI j) σ = some (1, σ') ∧ fr [] [13] σ σ' ∧ ro 13 n (rv (sw f r (tr_grt f r j)) (r + 1) (n - 1)) σ' := by
  intro j
  induction j with
  | zero => intro h1 _; omega
  | succ j ih =>
    intro h1 h2
    have hv1 := h (j + 1) h2
    have hvr := h r (by omega)
    have l1 := hf.1 (j + 1) h2
    have l2 := hf.1 r (by omega)
    by_cases c1 : j + 1 ≤ r + 1
    · obtain ⟨σ', a1, a2, a3⟩ := pc_nx3 h3 h8 hf h hr h1 h2
      refine ⟨σ', ?_, a2, ?_⟩
      · rw [← a1]
        unfold oc_TourList_goToNextRow_h51
        refine ox_w_map ?_
        show oc_TourList_goToNextRow_b51 (nI (n - 1)) (nI r) (nI (j + 1)) σ = _
        unfold oc_TourList_goToNextRow_b51
        rw [nI_1, if_pos (nI_le c1 (by omega))]
      · unfold tr_grt
        rw [if_pos c1]
        exact a3
    · by_cases c2 : f (j + 1) < f r
      · obtain ⟨σ', a1, a2, a3⟩ := ih (by omega) (by omega)
        refine ⟨σ', ?_, a2, ?_⟩
        · rw [← a1]
          unfold oc_TourList_goToNextRow_h51
          refine ox_w_inl ?_
          show oc_TourList_goToNextRow_b51 (nI (n - 1)) (nI r) (nI (j + 1)) σ = _
          unfold oc_TourList_goToNextRow_b51
          rw [nI_1, if_neg (nI_ge (by omega) (by omega)), ox_ix_nI (show j + 1 < 8 by omega) (by omega), ox_ix_nI (show r < 8 by omega) (by omega), hv1, hvr, if_neg (nI_ge c2 (by omega))]
          simp only [ox_let]
          rw [pk_m1]
        · unfold tr_grt
          rw [if_neg c1, if_pos c2]
          exact a3
      · obtain ⟨σ', a1, a2, a3⟩ := pc_nx3 h3 h8 hf h hr h1 h2
        refine ⟨σ', ?_, a2, ?_⟩
        · rw [← a1]
          unfold oc_TourList_goToNextRow_h51
          refine ox_w_map ?_
          show oc_TourList_goToNextRow_b51 (nI (n - 1)) (nI r) (nI (j + 1)) σ = _
          unfold oc_TourList_goToNextRow_b51
          rw [nI_1, if_neg (nI_ge (by omega) (by omega)), ox_ix_nI (show j + 1 < 8 by omega) (by omega), ox_ix_nI (show r < 8 by omega) (by omega), hv1, hvr, if_pos (nI_le (by omega) (by omega))]
        · unfold tr_grt
          rw [if_neg c1, if_neg c2]
          exact a3
theorem pc_nx1 (h3 : 3 ≤ n) (h8 : n ≤ 8) (hf : fok n f) (h : ro 13 n f σ) : ∀ r, r + 2 ≤ n → (tr_rise f r = 0 → oc_TourList_goToNextRow_h14 (nI (n - 1)) (nI r) σ = some (0, σ)) ∧ (tr_rise f r ≠ 0 → ∃ σ', oc_TourList_goToNextRow_h14 (nI (n - 1)) (nI r) σ = some (1, σ') ∧ fr [] [13] σ σ' ∧ ro 13 n (rv (sw f (tr_rise f r) (tr_grt f (tr_rise f r) (n - 1))) (tr_rise f r + 1) (n - 1)) σ') := by
  intro r
  induction r with
  | zero =>
    intro _
    refine ⟨fun _ => ?_, fun z => absurd rfl z⟩
    unfold oc_TourList_goToNextRow_h14
    refine ox_w_inr ?_
    show oc_TourList_goToNextRow_b14 (nI (n - 1)) (nI 0) σ = _
    unfold oc_TourList_goToNextRow_b14
    rw [if_pos (by decide), if_neg (by decide)]
  | succ r ih =>
    intro hr
    have hv1 := h (r + 1) (by omega)
    have hv2 := h (r + 2) (by omega)
    have l1 := hf.1 (r + 1) (by omega)
    have l2 := hf.1 (r + 2) (by omega)
    have hb : oc_TourList_goToNextRow_b14 (nI (n - 1)) (nI (r + 1)) σ = if nI (f (r + 1)) ≤ nI (f (r + 2)) then (oc_TourList_goToNextRow_h51 (nI (n - 1)) (nI (r + 1)) (nI (n - 1)) σ).map (fun t => .inr t) else some (.inl (nI r)) := by
      unfold oc_TourList_goToNextRow_b14
      rw [if_neg (show ¬ nI (r + 1) < (1 : Int32) from nI_nlt (b := 1) (by omega) (by omega)), ox_ix_nI (show r + 1 < 8 by omega) (by omega), nI_1, ox_ix_nI (show r + 1 + 1 < 8 by omega) (by omega), hv1, hv2]
      by_cases c : nI (f (r + 1)) ≤ nI (f (r + 2))
      · rw [if_pos c, if_pos c, if_pos (show (1 : Int32) ≤ nI (r + 1) from nI_le (a := 1) (by omega) (by omega))]
      · rw [if_neg c, if_neg c]
        simp only [ox_let]
        rw [pk_m1]
    unfold tr_rise
    by_cases c : f (r + 2) < f (r + 1)
    · rw [if_pos c]
      have e : oc_TourList_goToNextRow_h14 (nI (n - 1)) (nI (r + 1)) σ = oc_TourList_goToNextRow_h14 (nI (n - 1)) (nI r) σ := by
        unfold oc_TourList_goToNextRow_h14
        refine ox_w_inl ?_
        show oc_TourList_goToNextRow_b14 (nI (n - 1)) (nI (r + 1)) σ = _
        rw [hb, if_neg (nI_ge c (by omega))]
      rw [e]
      exact ih (by omega)
    · rw [if_neg c]
      refine ⟨fun z => by omega, fun _ => ?_⟩
      have e : oc_TourList_goToNextRow_h14 (nI (n - 1)) (nI (r + 1)) σ = oc_TourList_goToNextRow_h51 (nI (n - 1)) (nI (r + 1)) (nI (n - 1)) σ := by
        unfold oc_TourList_goToNextRow_h14
        refine ox_w_map ?_
        show oc_TourList_goToNextRow_b14 (nI (n - 1)) (nI (r + 1)) σ = _
        rw [hb, if_pos (nI_le (by omega) (by omega))]
      rw [e]
      exact pc_nx2 h3 h8 hf h (by omega) (n - 1) (by omega) (by omega)
theorem pc_next (h3 : 3 ≤ n) (h8 : n ≤ 8) (hn : σ.1 10 = nI n) (hf : fok n f) (h : ro 13 n f σ) : (tr_nx n f = none → oc_TourList_goToNextRow σ = some (0, σ)) ∧ (∀ g, tr_nx n f = some g → ∃ σ', oc_TourList_goToNextRow σ = some (1, σ') ∧ fr [] [13] σ σ' ∧ ro 13 n g σ') := by
  have hx := pc_nx1 h3 h8 hf h (n - 2) (by omega)
  have e : oc_TourList_goToNextRow σ = oc_TourList_goToNextRow_h14 (nI (n - 1)) (nI (n - 2)) σ := by
    unfold oc_TourList_goToNextRow
    simp only [ox_let]
    rw [hn, show (1 : Int32) = nI 1 from rfl, pk_sub (by omega), pk_sub (by omega)]
    rfl
  rw [e]
  unfold tr_nx
  by_cases hz : tr_rise f (n - 2) = 0
  · rw [if_pos hz]
    exact ⟨fun _ => hx.1 hz, fun g hg => by cases hg⟩
  · rw [if_neg hz]
    refine ⟨fun z => (by cases z), fun g hg => ?_⟩
    have eg := Option.some.inj hg
    rw [← eg]
    exact hx.2 hz
theorem pm_nx2 (h3 : 3 ≤ n) (h8 : n ≤ 8) (hn : σ.1 1 = nI n) (hf : fok n f) (h : ro 13 n f σ) {r : Nat} (hr : 1 ≤ r) (hup : f r ≤ f (r + 1)) : ∀ j, r < j → j < n → ∃ σ', om_Mo_nextTour_h47 (nI r) (nI j) σ = some (1, σ') ∧ fr [] [13] σ σ' ∧ ro 13 n (rv (sw f r (tr_grt f r j)) (r + 1) (n - 1)) σ' := by
  intro j
  induction j with
  | zero => intro h1 _; omega
  | succ j ih =>
    intro h1 h2
    have hv1 := h (j + 1) h2
    have hvr := h r (by omega)
    have l1 := hf.1 (j + 1) h2
    have l2 := hf.1 r (by omega)
    by_cases c2 : f (j + 1) < f r
    · have c1 : ¬ j + 1 ≤ r + 1 := by
        intro z
        have : j = r := by omega
        subst this
        omega
      obtain ⟨σ', a1, a2, a3⟩ := ih (by omega) (by omega)
      refine ⟨σ', ?_, a2, ?_⟩
      · rw [← a1]
        unfold om_Mo_nextTour_h47
        refine ox_w_inl ?_
        show om_Mo_nextTour_b47 (nI r) (nI (j + 1)) σ = _
        unfold om_Mo_nextTour_b47
        rw [ox_ix_nI (show j + 1 < 8 by omega) (by omega), ox_ix_nI (show r < 8 by omega) (by omega), hv1, hvr, if_neg (nI_ge c2 (by omega))]
        simp only [ox_let]
        rw [pk_m1]
      · unfold tr_grt
        rw [if_neg c1, if_pos c2]
        exact a3
    · obtain ⟨σ', a1, a2, a3⟩ := pm_turn h8 (show n - 1 < n by omega) (show 1 ≤ r + 1 by omega) (by omega) (ro_sw h (show r ≠ j + 1 by omega))
      refine ⟨σ', ?_, fr_tr (fr_tr (fr_s2 (by decide)) (fr_s2 (by decide))) a2, ?_⟩
      · unfold om_Mo_nextTour_h47
        refine ox_w_inr ?_
        show om_Mo_nextTour_b47 (nI r) (nI (j + 1)) σ = _
        unfold om_Mo_nextTour_b47
        rw [ox_ix_nI (show j + 1 < 8 by omega) (by omega), ox_ix_nI (show r < 8 by omega) (by omega), hv1, hvr, if_pos (nI_le (by omega) (by omega))]
        simp only [ox_let, ox_ix_nI (show r < 8 by omega) (by omega), ox_ix_nI (show j + 1 < 8 by omega) (by omega), s2_1, hn, hvr, hv1, nI_1]
        rw [show (1 : Int32) = nI 1 from rfl, pk_sub (by omega), a1]
        rfl
      · have e : tr_grt f r (j + 1) = j + 1 := by
          unfold tr_grt
          by_cases c1 : j + 1 ≤ r + 1
          · rw [if_pos c1]
          · rw [if_neg c1, if_neg c2]
        rw [e]
        exact a3
theorem pm_nx1 (h3 : 3 ≤ n) (h8 : n ≤ 8) (hn : σ.1 1 = nI n) (hf : fok n f) (h : ro 13 n f σ) : ∀ r, r + 2 ≤ n → (tr_rise f r = 0 → om_Mo_nextTour_h7 (nI r) σ = some (0, σ)) ∧ (tr_rise f r ≠ 0 → ∃ σ', om_Mo_nextTour_h7 (nI r) σ = some (1, σ') ∧ fr [] [13] σ σ' ∧ ro 13 n (rv (sw f (tr_rise f r) (tr_grt f (tr_rise f r) (n - 1))) (tr_rise f r + 1) (n - 1)) σ') := by
  intro r
  induction r with
  | zero =>
    intro _
    refine ⟨fun _ => ?_, fun z => absurd rfl z⟩
    unfold om_Mo_nextTour_h7
    refine ox_w_inr ?_
    show om_Mo_nextTour_b7 (nI 0) σ = _
    unfold om_Mo_nextTour_b7
    rw [if_pos (by decide), if_neg (by decide)]
  | succ r ih =>
    intro hr
    have hv1 := h (r + 1) (by omega)
    have hv2 := h (r + 2) (by omega)
    have l1 := hf.1 (r + 1) (by omega)
    have l2 := hf.1 (r + 2) (by omega)
    have hb : om_Mo_nextTour_b7 (nI (r + 1)) σ = if nI (f (r + 1)) ≤ nI (f (r + 2)) then (om_Mo_nextTour_h47 (nI (r + 1)) (nI (n - 1)) σ).map (fun t => .inr t) else some (.inl (nI r)) := by
      unfold om_Mo_nextTour_b7
      rw [if_neg (nI_nle (by omega) (by omega)), ox_ix_nI (show r + 1 < 8 by omega) (by omega), nI_1, ox_ix_nI (show r + 1 + 1 < 8 by omega) (by omega), hv1, hv2]
      by_cases c : nI (f (r + 1)) ≤ nI (f (r + 2))
      · rw [if_pos c, if_pos c, if_pos (show (0 : Int32) < nI (r + 1) from nI_lt (a := 0) (by omega) (by omega))]
        simp only [ox_let]
        rw [hn, show (1 : Int32) = nI 1 from rfl, pk_sub (by omega)]
      · rw [if_neg c, if_neg c]
        simp only [ox_let]
        rw [pk_m1]
    unfold tr_rise
    by_cases c : f (r + 2) < f (r + 1)
    · rw [if_pos c]
      have e : om_Mo_nextTour_h7 (nI (r + 1)) σ = om_Mo_nextTour_h7 (nI r) σ := by
        unfold om_Mo_nextTour_h7
        refine ox_w_inl ?_
        show om_Mo_nextTour_b7 (nI (r + 1)) σ = _
        rw [hb, if_neg (nI_ge c (by omega))]
      rw [e]
      exact ih (by omega)
    · rw [if_neg c]
      refine ⟨fun z => by omega, fun _ => ?_⟩
      have e : om_Mo_nextTour_h7 (nI (r + 1)) σ = om_Mo_nextTour_h47 (nI (r + 1)) (nI (n - 1)) σ := by
        unfold om_Mo_nextTour_h7
        refine ox_w_map ?_
        show om_Mo_nextTour_b7 (nI (r + 1)) σ = _
        rw [hb, if_pos (nI_le (by omega) (by omega))]
      rw [e]
      exact pm_nx2 h3 h8 hn hf h (by omega) (show f (r + 1) ≤ f (r + 2) by omega) (n - 1) (by omega) (by omega)
theorem pm_next (h3 : 3 ≤ n) (h8 : n ≤ 8) (hn : σ.1 1 = nI n) (hf : fok n f) (h : ro 13 n f σ) : (tr_nx n f = none → om_Mo_nextTour σ = some (0, σ)) ∧ (∀ g, tr_nx n f = some g → ∃ σ', om_Mo_nextTour σ = some (1, σ') ∧ fr [] [13] σ σ' ∧ ro 13 n g σ') := by
  have hx := pm_nx1 h3 h8 hn hf h (n - 2) (by omega)
  have e : om_Mo_nextTour σ = om_Mo_nextTour_h7 (nI (n - 2)) σ := by
    unfold om_Mo_nextTour
    simp only [ox_let]
    rw [hn, show (2 : Int32) = nI 2 from rfl, pk_sub (by omega)]
  rw [e]
  unfold tr_nx
  by_cases hz : tr_rise f (n - 2) = 0
  · rw [if_pos hz]
    exact ⟨fun _ => hx.1 hz, fun g hg => by cases hg⟩
  · rw [if_neg hz]
    refine ⟨fun z => (by cases z), fun g hg => ?_⟩
    have eg := Option.some.inj hg
    rw [← eg]
    exact hx.2 hz
end NX
