/-! the simple calls -/
theorem os_size : ol_s_size Rl := by
  intro c m hR
  obtain ⟨_, n, d, ⟨_, h1, h2⟩, _⟩ := id hR
  exact ⟨nI n, by unfold oc_T_size; rw [h1], by unfold om_Mo_size; rw [h2], hR⟩
theorem os_wipe : ol_s_wipe Rl := by
  intro c m hR
  obtain ⟨_, n, d, h⟩ := hR
  refine ⟨_, _, rfl, rfl, ⟨0, by omega, rfl, rfl, fun j hj => by omega⟩, n, d, ?_⟩
  exact h
theorem os_drop : ol_s_drop Rl := by
  intro c m hR
  obtain ⟨ht, n, d, h1, h2, h3, h4, h5, h6, h7, h8⟩ := hR
  exact ⟨_, _, rfl, rfl, ht, n, d, h1, h2, h3, h4, h5, h6, h7, 0, by omega, rfl, rfl, fun _ => rfl, fun j hj => by omega⟩
theorem rl_n8 {n : Nat} {c m : ox_S} (h : rl_land n c m) : n ≤ 8 := by
  rcases h.1 with h | h <;> omega
theorem os_distance : ol_s_distance Rl := by
  intro c m x1 x2 hR
  obtain ⟨_, n, d, hl, hd, _⟩ := id hR
  have hn := rl_n8 hl
  unfold oc_T_distance om_Mo_distance
  rcases pc_city hl.2.1 (by omega) x1 with ⟨o1, e1⟩ | ⟨i, hi, rfl, e1⟩
  · rw [e1, (pm_city hl.2.2 (by omega) x1).1 o1]
    exact ⟨-1, rfl, rfl, hR⟩
  · rw [e1, (pm_city hl.2.2 (by omega) _).2 i hi rfl]
    rcases pc_city hl.2.1 (by omega) x2 with ⟨o2, e2⟩ | ⟨j, hj, rfl, e2⟩
    · refine ⟨-1, ?_, ?_, hR⟩
      · simp [e2]
      · simp [(pm_city hl.2.2 (by omega) x2).1 o2]
    · have hd1 := hd i j hi hj
      refine ⟨nI (d i j), ?_, ?_, hR⟩
      · simp [e2, oc_Land_between, p_8', ox_ix_nI (show 8 * i + j < 64 by omega) (by omega), hd1.1]
      · simp [(pm_city hl.2.2 (by omega) _).2 j hj rfl, p_8, ox_ix_nI (show 8 * i + j < 64 by omega) (by omega), hd1.2.1]
theorem os_potential : ol_s_potential Rl := by
  intro c m x1 hR
  obtain ⟨_, n, d, hl, hd, hp, _⟩ := id hR
  have hn := rl_n8 hl
  unfold oc_T_potential om_Mo_potential
  rcases pc_city hl.2.1 (by omega) x1 with ⟨o1, e1⟩ | ⟨i, hi, rfl, e1⟩
  · rw [e1, (pm_city hl.2.2 (by omega) x1).1 o1]
    exact ⟨0, rfl, rfl, hR⟩
  · refine ⟨c.2 10 i, ?_, ?_, hR⟩
    · simp [e1, ox_ix_nI (show i < 8 by omega) (by omega)]
    · simp [(pm_city hl.2.2 (by omega) _).2 i hi rfl, ox_ix_nI (show i < 8 by omega) (by omega), (hp i hi).1]
theorem os_lift : ol_s_lift Rl := by
  intro c m x1 x2 hR
  obtain ⟨ht, n, d, hl, hd, hp, h4, h5, h6, h7, h8⟩ := id hR
  have hn := rl_n8 hl
  unfold oc_T_lift om_Mo_lift
  rcases pc_city hl.2.1 (by omega) x1 with ⟨o1, e1⟩ | ⟨i, hi, rfl, e1⟩
  · rw [e1, (pm_city hl.2.2 (by omega) x1).1 o1]
    exact ⟨0, c, m, rfl, rfl, hR⟩
  · rw [e1, (pm_city hl.2.2 (by omega) _).2 i hi rfl]
    by_cases b1 : x2 < (-100000 : Int32)
    · refine ⟨0, c, m, ?_, ?_, hR⟩
      · simp [oc_T_isPotential, b1]
      · simp [b1]
    · by_cases b2 : (100000 : Int32) < x2
      · refine ⟨0, c, m, ?_, ?_, hR⟩
        · simp [oc_T_isPotential, b1, b2]
        · simp [b1, Int32.not_le.mpr b2]
      · have b3 : x2 ≤ 100000 := Int32.not_lt.mp b2
        refine ⟨1, ox_s2 c 10 i x2, ox_s2 m 3 i x2, ?_, ?_, ht, n, d, hl, hd, fun j hj => ?_, h4, h5, h6, h7, h8⟩
        · simp [oc_T_isPotential, b1, b2, ox_ix_nI (show i < 8 by omega) (by omega), ox_let]
        · simp [b1, b3, ox_ix_nI (show i < 8 by omega) (by omega), ox_let]
        · rw [s2_at, s2_at]
          by_cases e : j = i
          · rw [if_pos ⟨rfl, e⟩, if_pos ⟨rfl, e⟩]
            exact ⟨rfl, Int32.not_lt.mp b1, b3⟩
          · rw [if_neg (fun z => e z.2), if_neg (fun z => e z.2)]
            exact hp j hj
theorem os_tour : ol_s_tour Rl := by
  intro c m x1 hR
  obtain ⟨_, n, d, hl, _, _, _, _, _, hk, _⟩ := id hR
  have hn := rl_n8 hl
  unfold oc_T_tour om_Mo_tour
  rcases hk with ⟨k1, k2⟩ | ⟨k1, k2, k3⟩
  · exact ⟨-1, by rw [if_pos k1], by rw [if_pos k2], hR⟩
  · rw [k1, k2, if_neg (by decide), if_neg (by decide)]
    rcases pc_city hl.2.1 (by omega) x1 with ⟨o1, e1⟩ | ⟨i, hi, rfl, e1⟩
    · refine ⟨-1, by rw [e1]; rfl, ?_, hR⟩
      by_cases z : x1 < 0
      · rw [if_pos z]
      · rw [if_neg z, hl.2.2, if_pos (o1.resolve_left z)]
    · refine ⟨c.2 16 i, ?_, ?_, hR⟩
      · simp [e1, ox_ix_nI (show i < 8 by omega) (by omega)]
      · rw [if_neg (nI_pos (by omega)), hl.2.2, if_neg (nI_ge hi (by omega)), ox_ix_nI (show i < 8 by omega) (by omega), k3 i hi]
