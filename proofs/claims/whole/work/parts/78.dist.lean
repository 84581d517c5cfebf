/-! load: the lines of distances, and the end -/
theorem rdh_fr {st t f D : Nat} {c m c' m' : ox_S} {S T S' T' : List Nat} (h : rdh st t f D c m) (hc : fr S T c c') (hm : fr S' T' m m') (h1 : ∀ x ∈ [4, 5, 6, 9], x ∉ S) (h2 : ∀ x ∈ [7, 8, 9, 10, 11], x ∉ S') : rdh st t f D c' m' := by
  obtain ⟨⟨a1, a2, a3, a4⟩, ⟨b1, b2, b3, b4, b5⟩, r⟩ := h
  exact ⟨⟨(hc.1 4 (h1 4 (by decide))).trans a1, (hc.1 5 (h1 5 (by decide))).trans a2, (hc.1 6 (h1 6 (by decide))).trans a3, (hc.1 9 (h1 9 (by decide))).trans a4⟩, ⟨(hm.1 7 (h2 7 (by decide))).trans b1, (hm.1 8 (h2 8 (by decide))).trans b2, (hm.1 9 (h2 9 (by decide))).trans b3, (hm.1 10 (h2 10 (by decide))).trans b4, (hm.1 11 (h2 11 (by decide))).trans b5⟩, r⟩
theorem rdE_w {f D r k : Nat} {c m m' : ox_S} (h : rdE f D r k c m) {S : List Nat} (hm : fr S [] m m') (h12 : 12 ∉ S) : rdE f D r k c m' := by
  obtain ⟨a1, a2, a3, a4, a5, a6⟩ := h
  refine ⟨a1, a2, a3, (hm.1 12 h12).trans a4, a5, fun i j hij hj => ?_⟩
  rw [hm.2 7 (by decide)]
  exact a6 i j hij hj
theorem nv_dw {tx : Nat → Int32} {s e : Nat} (h : ¬ tx s = 45) : nv tx s e = (dw tx s e).map nI := if_neg h
theorem rdE_put {f D r k v : Nat} (h1 : 1 ≤ f) (hf : f ≤ 3) (h3 : 3 ≤ D) (hD : D ≤ 8) (hv : r < rws f D ∧ fcl f r ≤ k ∧ k ≤ lcl f D r) (hv9 : v ≤ 9999) (hz : r = k → v = 0) {c m c' m' : ox_S} (h : rdE f D r k c m) (hc5 : c'.2 5 = (ox_s2 (ox_s2 c 5 (8 * r + k) (nI v)) 5 (8 * k + r) (nI v)).2 5) (hm7 : m'.2 7 = (ox_s2 (ox_s2 m 7 (8 * r + k) (nI v)) 7 (8 * k + r) (nI v)).2 7) (h7 : c'.1 7 = nI (nxr f D r k)) (h8 : c'.1 8 = nI (nxk f D r k)) (h12 : m'.1 12 = nI (cix f D r k + 1)) : rdE f D (nxr f D r k) (nxk f D r k) c' m' := by
  obtain ⟨l1, l2, l3, l4⟩ := vps_lt hf hD hv h3
  obtain ⟨a1, a2, a3, a4, a5, a6⟩ := h
  have C : ∀ x, c'.2 5 x = if x = 8 * k + r then nI v else if x = 8 * r + k then nI v else c.2 5 x := by
    intro x
    rw [hc5, s2_at, s2_at]
    simp only [true_and]
  have M : ∀ x, m'.2 7 x = if x = 8 * k + r then nI v else if x = 8 * r + k then nI v else m.2 7 x := by
    intro x
    rw [hm7, s2_at, s2_at]
    simp only [true_and]
  refine ⟨nx_v h1 hf h3 hD hv, h7, h8, by rw [h12, nx_c h1 hf h3 hD hv], fun i hi => ?_, fun i j hij hj => ?_⟩
  · rw [C]
    by_cases z : i = r ∧ r = k
    · obtain ⟨z1, z2⟩ := z
      rw [if_pos (by omega), hz z2]
      rfl
    · rw [if_neg (by omega), if_neg (by omega)]
      exact a5 i hi
  · by_cases z : (i = r ∧ j = k) ∨ (i = k ∧ j = r)
    · refine ⟨v, hv9, ?_, ?_, fun _ => ⟨?_, ?_⟩⟩
      · rw [C]
        rcases z with ⟨z1, z2⟩ | ⟨z1, z2⟩
        · rw [if_neg (by omega), if_pos (by omega)]
        · rw [if_pos (by omega)]
      · rw [C]
        rcases z with ⟨z1, z2⟩ | ⟨z1, z2⟩
        · rw [if_pos (by omega)]
        · rw [if_neg (by omega), if_pos (by omega)]
      · rw [M]
        rcases z with ⟨z1, z2⟩ | ⟨z1, z2⟩
        · rw [if_neg (by omega), if_pos (by omega)]
        · rw [if_pos (by omega)]
      · rw [M]
        rcases z with ⟨z1, z2⟩ | ⟨z1, z2⟩
        · rw [if_pos (by omega)]
        · rw [if_neg (by omega), if_pos (by omega)]
    · obtain ⟨w, w1, w2, w3, w4⟩ := a6 i j hij hj
      refine ⟨w, w1, ?_, ?_, fun q => ?_⟩
      · rw [C, if_neg (by omega), if_neg (by omega)]
        exact w2
      · rw [C, if_neg (by omega), if_neg (by omega)]
        exact w3
      · have : pos f i j < 8 * r + k := (nx_p h1 hf h3 hD hv hij hj q).resolve_right z
        rw [M, M, if_neg (by omega), if_neg (by omega), if_neg (by omega), if_neg (by omega)]
        exact w4 this
theorem okv_eq {f D r k v : Nat} (h1 : 1 ≤ f) (hf : f ≤ 3) (h3 : 3 ≤ D) (hD : D ≤ 8) (hv : r < rws f D ∧ fcl f r ≤ k ∧ k ≤ lcl f D r) {c m : ox_S} (h : rdE f D r k c m) : okv f r k v (m.2 7 (8 * k + r)) = okv f r k v (c.2 5 (8 * r + k)) := by
  obtain ⟨l1, l2, l3, l4⟩ := vps_lt hf hD hv h3
  unfold okv
  by_cases z : r = k
  · rw [if_pos z, if_pos z]
  · rw [if_neg z, if_neg z]
    by_cases y : f = 1
    · rw [if_pos y, if_pos y]
      by_cases x : r < k
      · rw [if_pos x, if_pos x]
      · obtain ⟨w, w1, w2, w3, w4⟩ := h.2.2.2.2.2 k r (by omega) l3
        rw [w3, (w4 (by unfold pos; rw [if_neg (by omega)]; omega)).1]
    · rw [if_neg y, if_neg y]
/-- a refused word on the reference's side -/
theorem pm_n0 (m : ox_S) : om_Mo_numbers_h2 0 m = some (0, m) := by
  unfold om_Mo_numbers_h2
  refine ox_w_inr ?_
  show om_Mo_numbers_b2 0 m = _
  unfold om_Mo_numbers_b2
  rw [if_pos rfl]
  rfl
theorem ln_dist {tx : Nat → Int32} {a b f D : Nat} {L : List (Nat × Nat)} (h1 : 1 ≤ f) (hf : f ≤ 3) (h3 : 3 ≤ D) (hD : D ≤ 8) : ∀ (W : List (Nat × Nat)) (q : Nat) (c m : ox_S) (r k : Nat), L.drop q = W → q + W.length = L.length → cln tx a b L c → wat tx b W m → rdh 1 1 f D c m → rdE f D r k c m → lnO (oc_Reader_acceptsDistances_h28 (nI q) c) (om_Mo_numbers_h2 1 m) c m := by
  intro W
  induction W with
  | nil =>
    intro q c m r k hq hl hc hm hr he
    have hL := hc.2.2.2.2.2.1
    obtain ⟨m1, e1, e2⟩ := wat_nil hm
    have hl' : L.length = q := hl.symm
    refine lnO_1 (c' := c) (m' := m1) fr_rf (fM_w e2) ?_ ?_ ⟨1, 1, f, D, rdh_fr hr (fr_rf (S := []) (T := [])) e2 (by decide) (by decide), fun z => absurd z (by decide), fun _ => ⟨by omega, Or.inl ⟨rfl, by omega, r, k, rdE_w he e2 (by decide), fun z => absurd z (by decide)⟩⟩⟩
    · unfold oc_Reader_acceptsDistances_h28
      refine ox_w_inr ?_
      show oc_Reader_acceptsDistances_b28 (nI q) c = _
      unfold oc_Reader_acceptsDistances_b28
      rw [hc.2.2.2.2.1.1, if_pos (nI_le (by omega) (by omega))]
    · unfold om_Mo_numbers_h2
      refine ox_w_inr ?_
      show om_Mo_numbers_b2 1 m = _
      unfold om_Mo_numbers_b2
      rw [if_neg (show ¬ (1 : Int32) = 0 by decide), e1]
      rfl
  | cons w W ih =>
    intro q c m r k hq hl hc hm hr he
    obtain ⟨s, e⟩ := w
    have hr0 := hr
    obtain ⟨⟨hc4, hc5, hc6, hc9⟩, ⟨hm7, hm8, hm9, hm10, hm11⟩, _⟩ := hr
    have hL := hc.2.2.2.2.2.1
    have hql : q < L.length := by
      rw [← hl]
      show q < q + (W.length + 1)
      omega
    have hg : L.getD q (0, 0) = (s, e) := by
      have : (L.drop q)[0]? = L[q + 0]? := List.getElem?_drop
      rw [hq] at this
      rw [List.getD_eq_getElem?_getD, ← show L[q + 0]? = L[q]? from rfl, ← this]
      rfl
    have hq' : L.drop (q + 1) = W := by
      rw [← List.drop_drop, hq]
      rfl
    have hl' : (q + 1) + W.length = L.length := by
      rw [← hl]
      show q + 1 + W.length = q + (W.length + 1)
      omega
    obtain ⟨hse, heb⟩ := cln_mem hc hql hg
    obtain ⟨m1, e1, e2, e3⟩ := wat_cons hm
    have hun := pc_uns hc.1 hc.2.2.2.2.2.2.1 hL hc.2.2.2.2.1 hql hg hse heb
    have he1 : rdE f D r k c m1 := rdE_w he e2 (by decide)
    have hr1 : rdh 1 1 f D c m1 := rdh_fr hr0 (fr_rf (S := []) (T := [])) e2 (by decide) (by decide)
    obtain ⟨_, ⟨n7, n8, n9, n10, n11⟩, _⟩ := hr1
    obtain ⟨a1, a2, a3, a4, a5, a6⟩ := he1
    have hcl : ∀ X Y : Option ((Int32 × ox_S) ⊕ (Int32 × ox_S)), (if c.1 3 ≤ nI q then X else Y) = Y := fun X Y => if_neg (by rw [hc.2.2.2.2.1.1]; exact nI_ge hql (by omega))
    have htxs : m1.2 0 s = tx s := e3.1.2.2.1 s (by omega)
    -- the reference's body
    have mb : om_Mo_numbers_b2 1 m = (om_Mo_isNumber m1).bind fun r3 => if r3 = 0 then some (.inl ((0 : Int32), m1)) else if tx s = (45 : Int32) then some (.inl ((0 : Int32), m1)) else (om_Mo_number m1).bind fun r5 => ox_b2 (om_Mo_take r5 m1) fun r6 s7 => if r6 = 0 then some (.inl ((0 : Int32), s7)) else some (.inl ((1 : Int32), s7)) := by
      unfold om_Mo_numbers_b2
      rw [if_neg (show ¬ (1 : Int32) = 0 by decide), e1]
      simp only [ox_b2_s]
      rw [if_neg (show ¬ (1 : Int32) = 0 by decide), e3.2.1, ox_ix_nI (show s < 480 by have := e3.1.1; omega) (by omega), htxs]
    have m0 : ∀ m2, om_Mo_numbers_b2 1 m = some (.inl (0, m2)) → om_Mo_numbers_h2 1 m = some (0, m2) := by
      intro m2 h
      rw [← pm_n0 m2]
      unfold om_Mo_numbers_h2
      exact ox_w_inl h
    -- the class, refusing
    have c0 : oc_Reader_acceptsDistances_b28 (nI q) c = some (.inr (0, c)) → oc_Reader_acceptsDistances_h28 (nI q) c = some (0, c) := by
      intro h
      unfold oc_Reader_acceptsDistances_h28
      exact ox_w_inr h
    have hrw := pc_rows hf h3 hD hc6 hc9
    cases hdw : dw tx s e with
    | none =>
      rw [hdw] at hun
      refine lnO_0 (c' := c) (m' := m1) fr_rf (fM_w e2) (c0 ?_) (m0 m1 ?_)
      · unfold oc_Reader_acceptsDistances_b28
        rw [hcl, hun, hrw]
        simp only [Option.bind_some]
        rw [if_pos (show (-1 : Int32) < 0 by decide)]
        split <;> rfl
      · rw [mb, wcu_isn e3]
        simp only [Option.bind_some]
        by_cases y : tx s = 45
        · rw [if_pos y]
          split <;> rfl
        · rw [nv_dw y, hdw]
          rfl
    | some v =>
      rw [hdw] at hun
      have hv9 := dw_lt hdw
      have y : ¬ tx s = 45 := by
        intro y
        rw [dw_45 y] at hdw
        cases hdw
      have hnv : nv tx s e = some (nI v) := by
        rw [nv_dw y, hdw]
        rfl
      have mb2 : om_Mo_numbers_b2 1 m = ox_b2 (om_Mo_take (nI v) m1) fun r6 s7 => if r6 = 0 then some (.inl ((0 : Int32), s7)) else some (.inl ((1 : Int32), s7)) := by
        rw [mb, wcu_isn e3, hnv]
        simp only [Option.bind_some]
        rw [if_neg (show ¬ b01 (some (nI v)).isSome = 0 by show ¬ b01 true = 0; decide), if_neg y, wcu_num e3 hnv]
        rfl
      have cb : oc_Reader_acceptsDistances_b28 (nI q) c = if nI (rws f D) ≤ nI r then some (.inr (0, c)) else (oc_Reader_fits (nI v) c).bind fun r4 => if r4 = 0 then some (.inr ((0 : Int32), c)) else ox_ix (((c.1 7) * (8 : Int32)) + (c.1 8)) 64 fun j5 => ox_let (ox_s2 c 5 j5 (nI v)) fun s6 => ox_ix (((s6.1 8) * (8 : Int32)) + (s6.1 7)) 64 fun j7 => ox_let (ox_s2 s6 5 j7 (nI v)) fun s8 => (oc_Reader_goToNextCell s8).bind fun s9 => ox_let (nI q + (1 : Int32)) fun v10 => some (.inl (v10, s9)) := by
        unfold oc_Reader_acceptsDistances_b28
        rw [hcl, hun, hrw]
        simp only [Option.bind_some]
        rw [if_neg (show ¬ nI v < 0 from nI_pos (by omega)), a2]
      have hrws : rws f D ≤ 8 := by
        unfold rws
        split <;> omega
      rcases a1 with hv | ⟨z1, z2⟩
      · obtain ⟨l1, l2, l3, l4⟩ := vps_lt hf hD hv h3
        rw [if_neg (nI_ge hv.1 (by omega)), pc_fitc hf l1 l2 hv9 hc6 a2 a3] at cb
        rw [pm_take h1 hf h3 hD hv hv9 n7 n8 n9 a4] at mb2
        rw [okv_eq h1 hf h3 hD hv (rdE_w he e2 (by decide))] at mb2
        simp only [Option.bind_some] at cb
        simp only [ox_b2_s] at mb2
        have fm2 : fr [4, 6, 12] [7] m (ox_s1 (ox_s2 (ox_s2 m1 7 (8 * r + k) (nI v)) 7 (8 * k + r) (nI v)) 12 (nI (cix f D r k + 1))) := fr_tr (fr_up e2 (by decide) (by decide)) (fr_tr (fr_tr (fr_s2 (by decide)) (fr_s2 (by decide))) (fr_s1 (by decide)))
        have fM2 := fr_up (S' := [4, 6, 7, 8, 9, 10, 11, 12]) (T' := [7, 8, 9]) fm2 (by decide) (by decide)
        cases ok : okv f r k v (c.2 5 (8 * r + k)) with
        | false =>
          rw [ok] at cb mb2
          rw [if_pos (show b01 false = 0 by decide)] at cb mb2
          exact lnO_0 fr_rf fM2 (c0 cb) (m0 _ mb2)
        | true =>
          rw [ok] at cb mb2
          rw [if_neg (show ¬ b01 true = 0 by decide)] at cb mb2
          rw [a2, a3, p_8', ox_ix_nI (show 8 * r + k < 64 by omega) (by omega)] at cb
          simp only [ox_let] at cb
          rw [show (ox_s2 c 5 (8 * r + k) (nI v)).1 8 = nI k from a3, show (ox_s2 c 5 (8 * r + k) (nI v)).1 7 = nI r from a2, p_8', ox_ix_nI (show 8 * k + r < 64 by omega) (by omega)] at cb
          obtain ⟨c2, g1, g2, g3, g4⟩ := pc_cell hf h3 hD l1 l2 (σ := ox_s2 (ox_s2 c 5 (8 * r + k) (nI v)) 5 (8 * k + r) (nI v)) hc6 a2 a3 hc9
          rw [g1] at cb
          simp only [Option.bind_some] at cb
          rw [nI_1] at cb
          have fc2 : fr [7, 8] [5] c c2 := fr_tr (fr_tr (fr_s2 (by decide)) (fr_s2 (by decide))) (fr_up g2 (by decide) (by decide))
          have hz : r = k → v = 0 := by
            intro z
            unfold okv at ok
            rw [if_pos z] at ok
            exact of_decide_eq_true ok
          have key := ih (q + 1) c2 _ (nxr f D r k) (nxk f D r k) hq' hl' (cln_fr hc fc2 (by decide) (by decide) (by decide) (by decide) (by decide) (by decide)) (wat_fr e3.1 (fr_tr (fr_tr (fr_s2 (S := [12]) (T := [7]) (c := m1) (a := 7) (i := 8 * r + k) (v := nI v) (by decide)) (fr_s2 (a := 7) (i := 8 * k + r) (v := nI v) (by decide))) (fr_s1 (k := 12) (v := nI (cix f D r k + 1)) (by decide))) (by decide) (by decide) (by decide)) (rdh_fr hr0 fc2 fm2 (by decide) (by decide)) (rdE_put h1 hf h3 hD hv hv9 hz (rdE_w he e2 (by decide)) (by rw [g2.2 5 (by decide)]) rfl g3 g4 rfl)
          have oc : oc_Reader_acceptsDistances_h28 (nI q) c = oc_Reader_acceptsDistances_h28 (nI (q + 1)) c2 := by
            unfold oc_Reader_acceptsDistances_h28
            exact ox_w_inl cb
          have om : om_Mo_numbers_h2 1 m = om_Mo_numbers_h2 1 (ox_s1 (ox_s2 (ox_s2 m1 7 (8 * r + k) (nI v)) 7 (8 * k + r) (nI v)) 12 (nI (cix f D r k + 1))) := by
            unfold om_Mo_numbers_h2
            exact ox_w_inl mb2
          rw [oc, om]
          exact lnO_t2 (fr_up fc2 (by decide) (by decide)) fM2 key
      · subst z1
        rw [if_pos (nI_le (Nat.le_refl _) (by omega))] at cb
        have ht : om_Mo_take (nI v) m1 = some (0, m1) := by
          unfold om_Mo_take
          rw [pm_due1 h1 hf h3 hD n7 n8 n9]
          simp only [Option.bind_some]
          rw [a4, z2, if_pos (Int32.le_refl _)]
          rfl
        rw [ht] at mb2
        exact lnO_0 fr_rf (fM_w e2) (c0 cb) (m0 m1 mb2)
