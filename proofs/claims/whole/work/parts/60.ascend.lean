/-! ascend -/
theorem Rl_pot {c m c' m' : ox_S} {n : Nat} {d : Nat → Nat → Nat} (ht : rl_text c m) (h : rl_all n d c m) (w : fr [14, 15, 16] [10, 11, 12] c c') (s : fr [] [3, 10, 11, 12] m m') (hp : ∀ i, i < n → c'.2 10 i = m'.2 3 i ∧ (-100000 : Int32) ≤ c'.2 10 i ∧ c'.2 10 i ≤ 100000) : Rl c' m' := by
  obtain ⟨hl, hd, _, h4, h5, h6, h7, h8⟩ := h
  refine ⟨?_, n, d, ?_, ?_, hp, ?_, ?_, ?_, ?_, ?_⟩
  · unfold rl_text; rw [w.1 0 (by decide), w.2 0 (by decide), s.1 0 (by decide), s.2 0 (by decide)]; exact ht
  · unfold rl_land; rw [w.1 10 (by decide), s.1 1 (by decide)]; exact hl
  · unfold rl_dist; rw [w.2 6 (by decide), s.2 1 (by decide)]; exact hd
  · unfold rl_num; rw [w.1 11 (by decide), w.2 7 (by decide), w.2 8 (by decide), w.2 9 (by decide)]; exact h4
  · unfold rl_mark; rw [w.1 12 (by decide), w.1 13 (by decide), s.2 2 (by decide)]; exact h5
  · unfold rl_tours; rw [w.1 17 (by decide), w.2 14 (by decide), w.2 15 (by decide)]; exact h6
  · unfold rl_known; rw [w.1 18 (by decide), s.1 2 (by decide), w.2 16 (by decide), s.2 4 (by decide)]; exact h7
  · unfold rl_cases; rw [w.1 19 (by decide), s.1 3 (by decide), w.2 17 (by decide), w.2 18 (by decide), s.2 5 (by decide), s.2 6 (by decide)]; exact h8
section AS
variable {n : Nat} {c2 m1 m2 : ox_S} {T : Nat → Bool} {x1 : Int32}
def asc (x1 : Int32) (p : Nat → Int32) (T : Nat → Bool) (i : Nat) : Int32 := p i + x1 * (nI (dg T i) - 2)
theorem pk_asc1 (h8 : n ≤ 8) (hnc : c2.1 10 = nI n) (hdg : ∀ i, i < 8 → c2.2 12 i = nI (dg T i)) (hM : MI n m1 m2 T) (hnm : m1.1 1 = nI n) (hp : ∀ i, i < n → c2.2 10 i = m2.2 3 i) : ∀ r i, i + r = n → ((∀ x, i ≤ x → x < n → (-100000 : Int32) ≤ asc x1 (c2.2 10) T x ∧ asc x1 (c2.2 10) T x ≤ 100000) ∧ oc_T_ascend_h40 x1 (nI i) c2 = oc_T_ascend_h73 x1 0 c2 ∧ om_Mo_ascend_h27 x1 (nI i) m2 = om_Mo_ascend_h74 x1 0 m2) ∨ (oc_T_ascend_h40 x1 (nI i) c2 = some (-1, c2) ∧ om_Mo_ascend_h27 x1 (nI i) m2 = some (-1, m2)) := by
  have hnm' : m2.1 1 = nI n := by rw [hM.1.1 1 (by decide)]; exact hnm
  intro r
  induction r with
  | zero =>
    intro i hi
    refine Or.inl ⟨fun x h1 h2 => by omega, ?_, ?_⟩
    · unfold oc_T_ascend_h40
      refine ox_w_map ?_
      show oc_T_ascend_b40 x1 (nI i) c2 = _
      unfold oc_T_ascend_b40
      rw [hnc, if_pos (nI_le (by omega) (by omega))]
    · unfold om_Mo_ascend_h27
      refine ox_w_map ?_
      show om_Mo_ascend_b27 x1 (nI i) m2 = _
      unfold om_Mo_ascend_b27
      rw [hnm', if_pos (nI_le (by omega) (by omega))]
  | succ r ih =>
    intro i hi
    have hi2 : i < n := by omega
    have hcb : oc_T_ascend_b40 x1 (nI i) c2 = if asc x1 (c2.2 10) T i < (-100000 : Int32) then some (.inr ((-1 : Int32), c2)) else if (100000 : Int32) < asc x1 (c2.2 10) T i then some (.inr ((-1 : Int32), c2)) else some (.inl (nI (i + 1))) := by
      unfold oc_T_ascend_b40 oc_T_ascended
      rw [hnc, if_neg (nI_ge hi2 (by omega)), ox_ix_nI (show i < 8 by omega) (by omega), ox_ix_nI (show i < 8 by omega) (by omega), hdg i (by omega)]
      simp only [Option.bind_some, ox_let, nI_1]
      unfold oc_T_isPotential
      show (Option.bind (if asc x1 (c2.2 10) T i < (-100000 : Int32) then some (0 : Int32) else if (100000 : Int32) < asc x1 (c2.2 10) T i then some (0 : Int32) else some (1 : Int32)) _) = _
      by_cases z1 : asc x1 (c2.2 10) T i < (-100000 : Int32)
      · rw [if_pos z1, if_pos z1]; rfl
      · rw [if_neg z1, if_neg z1]
        by_cases z2 : (100000 : Int32) < asc x1 (c2.2 10) T i
        · rw [if_pos z2, if_pos z2]; rfl
        · rw [if_neg z2, if_neg z2]; rfl
    have hmb : om_Mo_ascend_b27 x1 (nI i) m2 = if asc x1 (c2.2 10) T i < (-100000 : Int32) then some (.inr ((-1 : Int32), m2)) else if asc x1 (c2.2 10) T i ≤ (100000 : Int32) then some (.inl (nI (i + 1))) else some (.inr ((-1 : Int32), m2)) := by
      unfold om_Mo_ascend_b27
      rw [hnm', if_neg (nI_ge hi2 (by omega)), ox_ix_nI (show i < 8 by omega) (by omega), pm_meet h8 hM hnm hi2, ← hp i hi2]
      simp only [Option.bind_some, ox_let, nI_1]
      rfl
    by_cases z1 : asc x1 (c2.2 10) T i < (-100000 : Int32)
    · refine Or.inr ⟨?_, ?_⟩
      · unfold oc_T_ascend_h40
        refine ox_w_inr ?_
        show oc_T_ascend_b40 x1 (nI i) c2 = _
        rw [hcb, if_pos z1]
      · unfold om_Mo_ascend_h27
        refine ox_w_inr ?_
        show om_Mo_ascend_b27 x1 (nI i) m2 = _
        rw [hmb, if_pos z1]
    · by_cases z2 : (100000 : Int32) < asc x1 (c2.2 10) T i
      · refine Or.inr ⟨?_, ?_⟩
        · unfold oc_T_ascend_h40
          refine ox_w_inr ?_
          show oc_T_ascend_b40 x1 (nI i) c2 = _
          rw [hcb, if_neg z1, if_pos z2]
        · unfold om_Mo_ascend_h27
          refine ox_w_inr ?_
          show om_Mo_ascend_b27 x1 (nI i) m2 = _
          rw [hmb, if_neg z1, if_neg (Int32.not_le.mpr z2)]
      · have z3 := Int32.not_lt.mp z2
        have e1 : oc_T_ascend_h40 x1 (nI i) c2 = oc_T_ascend_h40 x1 (nI (i + 1)) c2 := by
          unfold oc_T_ascend_h40
          refine ox_w_inl ?_
          show oc_T_ascend_b40 x1 (nI i) c2 = _
          rw [hcb, if_neg z1, if_neg z2]
        have e2 : om_Mo_ascend_h27 x1 (nI i) m2 = om_Mo_ascend_h27 x1 (nI (i + 1)) m2 := by
          unfold om_Mo_ascend_h27
          refine ox_w_inl ?_
          show om_Mo_ascend_b27 x1 (nI i) m2 = _
          rw [hmb, if_neg z1, if_pos z3]
        rw [e1, e2]
        rcases ih (i + 1) (by omega) with ⟨a, b⟩ | h
        · refine Or.inl ⟨fun x h1 h2 => ?_, b⟩
          by_cases e : x = i
          · rw [e]; exact ⟨Int32.not_lt.mp z1, z3⟩
          · exact a x (by omega) h2
        · exact Or.inr h
theorem MI_set {m3 : ox_S} (hM : MI n m1 m2 T) (hf : fr [] [3] m2 m3) : ∀ k, ed n k → (m3.2 10 k = 0 ↔ T k = false) := fun k hk => by
  rw [hf.2 10 (by decide)]
  exact hM.2.2 k hk
theorem pk_asc2 (h8 : n ≤ 8) (hnc : c2.1 10 = nI n) (hdg : ∀ i, i < 8 → c2.2 12 i = nI (dg T i)) (hM : MI n m1 m2 T) (hnm : m1.1 1 = nI n) (hp : ∀ i, i < n → c2.2 10 i = m2.2 3 i) : ∀ r i, i + r = n → ∀ c m, fr [] [10] c2 c → fr [] [3] m2 m → (∀ x, x < i → c.2 10 x = asc x1 (c2.2 10) T x ∧ m.2 3 x = asc x1 (c2.2 10) T x) → (∀ x, i ≤ x → x < n → c.2 10 x = c2.2 10 x ∧ m.2 3 x = m2.2 3 x) → ∃ c' m', oc_T_ascend_h73 x1 (nI i) c = oc_T_bound c' ∧ om_Mo_ascend_h74 x1 (nI i) m = om_Mo_boundNow m' ∧ fr [] [10] c2 c' ∧ fr [] [3] m2 m' ∧ ∀ x, x < n → c'.2 10 x = asc x1 (c2.2 10) T x ∧ m'.2 3 x = asc x1 (c2.2 10) T x := by
  have hnm' : m2.1 1 = nI n := by rw [hM.1.1 1 (by decide)]; exact hnm
  intro r
  induction r with
  | zero =>
    intro i hi c m hc hm h1 h2
    refine ⟨c, m, ?_, ?_, hc, hm, fun x hx => h1 x (by omega)⟩
    · unfold oc_T_ascend_h73
      refine ox_w_map ?_
      show oc_T_ascend_b73 x1 (nI i) c = _
      unfold oc_T_ascend_b73
      rw [hc.1 10 (by decide), hnc, if_pos (nI_le (by omega) (by omega))]
      cases oc_T_bound c <;> rfl
    · unfold om_Mo_ascend_h74
      refine ox_w_map ?_
      show om_Mo_ascend_b74 x1 (nI i) m = _
      unfold om_Mo_ascend_b74
      rw [hm.1 1 (by decide), hnm', if_pos (nI_le (by omega) (by omega))]
      cases om_Mo_boundNow m <;> rfl
  | succ r ih =>
    intro i hi c m hc hm h1 h2
    have hi2 : i < n := by omega
    have hMm : MI n m m T := ⟨fr_rf, hM.2.1, MI_set hM hm⟩
    have hnmm : m.1 1 = nI n := by rw [hm.1 1 (by decide)]; exact hnm'
    obtain ⟨c', m', a1, a2, a3⟩ := ih (i + 1) (by omega) (ox_s2 c 10 i (asc x1 (c2.2 10) T i)) (ox_s2 m 3 i (asc x1 (c2.2 10) T i)) (fr_tr hc (fr_s2 (by decide))) (fr_tr hm (fr_s2 (by decide))) (fun x hx => by
      rw [s2_at, s2_at]
      by_cases e : x = i
      · rw [if_pos ⟨rfl, e⟩, if_pos ⟨rfl, e⟩, e]; exact ⟨rfl, rfl⟩
      · rw [if_neg (fun q => e q.2), if_neg (fun q => e q.2)]; exact h1 x (by omega)) (fun x hx1 hx2 => by
      rw [s2_at, s2_at, if_neg (fun q => by omega), if_neg (fun q => by omega)]
      exact h2 x (by omega) hx2)
    refine ⟨c', m', ?_, ?_, a3⟩
    · rw [← a1]
      unfold oc_T_ascend_h73
      refine ox_w_inl ?_
      show oc_T_ascend_b73 x1 (nI i) c = _
      unfold oc_T_ascend_b73 oc_T_ascended
      rw [hc.1 10 (by decide), hnc, if_neg (nI_ge hi2 (by omega))]
      simp only [ox_ix_nI (show i < 8 by omega) (show 8 < 2 ^ 31 by omega), Option.bind_some, ox_let, nI_1]
      rw [hc.2 12 (by decide), hdg i (by omega), (h2 i (Nat.le_refl _) hi2).1]
      rfl
    · rw [← a2]
      unfold om_Mo_ascend_h74
      refine ox_w_inl ?_
      show om_Mo_ascend_b74 x1 (nI i) m = _
      unfold om_Mo_ascend_b74
      rw [hnmm, if_neg (nI_ge hi2 (by omega)), ox_ix_nI (show i < 8 by omega) (by omega), pm_meet h8 hMm hnmm hi2]
      simp only [ox_ix_nI (show i < 8 by omega) (show 8 < 2 ^ 31 by omega), Option.bind_some, ox_let, nI_1]
      rw [(h2 i (Nat.le_refl _) hi2).2, ← hp i hi2]
      rfl
end AS
theorem os_ascend : ol_s_ascend Rl := by
  intro c m x1 hR
  obtain ⟨ht, n, d, hall⟩ := id hR
  obtain ⟨hl, hd, hp, h4, h5, h6, h7, h8⟩ := id hall
  have hn := rl_n8 hl
  obtain ⟨m1, o1, o2, o3⟩ := pm_own m
  have hnm1 : m1.1 1 = nI n := by rw [o2.1 1 (by decide)]; exact hl.2.2
  by_cases z1 : x1 < (1 : Int32)
  · refine ⟨-1, c, m1, ?_, ?_, Rl_m o2 (by decide) (by decide) hR⟩
    · unfold oc_T_ascend
      rw [if_pos z1]
    · unfold om_Mo_ascend
      rw [o1]
      simp only [Option.bind_some]
      rw [if_pos z1]
  · by_cases z2 : (1000 : Int32) < x1
    · refine ⟨-1, c, m1, ?_, ?_, Rl_m o2 (by decide) (by decide) hR⟩
      · unfold oc_T_ascend
        rw [if_neg z1, if_pos z2]
      · unfold om_Mo_ascend
        rw [o1]
        simp only [Option.bind_some]
        rw [if_neg z1, if_pos z2]
    · have hcl : oc_T_ascend x1 c = ox_b2 (oc_OneTree_grow (c.1 12) (c.1 13) c) fun r1 s2 => if r1 = 0 then some ((-1 : Int32), s2) else oc_T_ascend_h40 x1 (0 : Int32) s2 := by
        unfold oc_T_ascend
        rw [if_neg z1, if_neg z2]
      have hrf : om_Mo_ascend x1 m = ox_b2 (om_Mo_tree m1) fun r2 s3 => if r2 = 0 then some ((-1 : Int32), s3) else om_Mo_ascend_h27 x1 (0 : Int32) s3 := by
        unfold om_Mo_ascend
        rw [o1]
        simp only [Option.bind_some]
        rw [if_neg z1, if_neg z2]
      rw [hcl, hrf]
      rcases hl.1 with hn0 | ⟨hn3, hn8⟩
      · subst hn0
        obtain ⟨c', g1, g2, g3⟩ := pk_none (m := m1) hl.2.1 hnm1 h4 (c.1 12) (c.1 13)
        refine ⟨-1, c', m1, ?_, ?_, Rl_tree hR g2 (fr_m1 o2 fr_rf)⟩
        · rw [g1]; rfl
        · rw [g3]; rfl
      · have hlnd1 := lnd_m o2 (by decide) (by decide) (lnd_of hall)
        have hrul := rul_own hn8 h5 o3
        rcases pk_tree hn3 hn8 hlnd1 hrul with ⟨c2, m2, T, pf, g1, g2, g3, g4, g5, g6, g7⟩ | ⟨c', m', g1, g2, g3, g4⟩
        · rw [g1, g2]
          show ∃ r c' m', (if (1 : Int32) = 0 then some ((-1 : Int32), c2) else oc_T_ascend_h40 x1 (0 : Int32) c2) = some (r, c') ∧ (if (1 : Int32) = 0 then some ((-1 : Int32), m2) else om_Mo_ascend_h27 x1 (0 : Int32) m2) = some (r, m') ∧ Rl c' m'
          rw [if_neg (by decide), if_neg (by decide)]
          have hnc2 : c2.1 10 = nI n := by rw [g3.1.1 10 (by decide)]; exact hl.2.1
          have hpp : ∀ i, i < n → c2.2 10 i = m2.2 3 i := fun i hi => by rw [g3.1.2 10 (by decide), g4.1.2 3 (by decide)]; exact hlnd1.2.2.2.2 i hi
          rcases pk_asc1 (x1 := x1) hn8 hnc2 g3.2.2.2.2.2.2.1 g4 hnm1 hpp n 0 (by omega) with ⟨a1, a2, a3⟩ | ⟨a2, a3⟩
          · obtain ⟨c3, m3, b1, b2, b3, b4, b5⟩ := pk_asc2 (x1 := x1) hn8 hnc2 g3.2.2.2.2.2.2.1 g4 hnm1 hpp n 0 (by omega) c2 m2 fr_rf fr_rf (fun x hx => by omega) (fun x _ _ => ⟨rfl, rfl⟩)
            have hlnd3 : lnd n c3 m3 := by
              refine ⟨by rw [b3.1 10 (by decide)]; exact hnc2, by rw [b4.1 1 (by decide), g4.1.1 1 (by decide)]; exact hnm1, ?_, fun k hk => ?_, fun i hi => by rw [(b5 i hi).1, (b5 i hi).2]⟩
              · exact rl_num_fr b3 (by decide) (by decide) (by decide) (by decide) (KI_num g3 h4)
              · rw [b3.2 6 (by decide), g3.1.2 6 (by decide), b4.2 1 (by decide), g4.1.2 1 (by decide)]
                exact hlnd1.2.2.2.1 k hk
            have hrul3 : rul n (c3.1 12) (c3.1 13) m3 := by
              intro k hk
              rw [b3.1 12 (by decide), b3.1 13 (by decide), g3.1.1 12 (by decide), g3.1.1 13 (by decide), b4.2 11 (by decide), g4.1.2 11 (by decide)]
              exact hrul k hk
            obtain ⟨c4, m4, f1, f2, hb⟩ := pk_bound hn3 hn8 hlnd3 hrul3
            have hRl : Rl c4 m4 := by
              refine Rl_pot ht hall (fr_tr (fr_tr (fr_up g3.1 (fun _ h => h) (fun k hk => List.mem_cons_of_mem _ hk)) (fr_up b3 (fun _ h => by cases h) (fun k hk => by simp at hk ⊢; exact Or.inl hk))) (fr_up f1 (fun _ h => h) (fun k hk => List.mem_cons_of_mem _ hk))) (fr_tr (fr_tr (fr_up (fr_m1 o2 g4.1) (fun _ h => h) (fun k hk => List.mem_cons_of_mem _ hk)) (fr_up b4 (fun _ h => h) (fun k hk => by simp at hk ⊢; exact Or.inl hk))) (fr_up f2 (fun _ h => h) (fun k hk => by simp at hk ⊢; rcases hk with h | h; exact Or.inr (Or.inl h); exact Or.inr (Or.inr (Or.inr h))))) (fun i hi => ?_)
              rw [f1.2 10 (by decide), f2.2 3 (by decide), (b5 i hi).1, (b5 i hi).2]
              exact ⟨rfl, a1 i (by omega) hi⟩
            have fin : ∀ r, oc_OneTree_boundUnder (c3.1 12) (c3.1 13) c3 = some (r, c4) → om_Mo_boundNow m3 = some (r, m4) → ∃ (r : Int32) (c' m' : ox_S), oc_T_ascend_h40 x1 (0 : Int32) c2 = some (r, c') ∧ om_Mo_ascend_h27 x1 (0 : Int32) m2 = some (r, m') ∧ Rl c' m' := by
              intro r q1 q2
              refine ⟨r, c4, m4, ?_, ?_, hRl⟩
              · rw [show oc_T_ascend_h40 x1 (0 : Int32) c2 = _ from a2, show oc_T_ascend_h73 x1 (0 : Int32) c2 = _ from b1]
                unfold oc_T_bound
                rw [q1]
                rfl
              · rw [show om_Mo_ascend_h27 x1 (0 : Int32) m2 = _ from a3, show om_Mo_ascend_h74 x1 (0 : Int32) m2 = _ from b2]
                exact q2
            rcases hb with ⟨_, _, _, _, _, _, _, _, q1, q2⟩ | ⟨_, q1, q2⟩
            · exact fin _ q1 q2
            · exact fin _ q1 q2
          · exact ⟨-1, c2, m2, a2, a3, Rl_tree hR g3.1 (fr_m1 o2 g4.1)⟩
        · refine ⟨-1, c', m', ?_, ?_, Rl_tree hR g3 (fr_m1 o2 g4)⟩
          · rw [g1]; rfl
          · rw [g2]; rfl
