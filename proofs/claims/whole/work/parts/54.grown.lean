/-! the class's tree, whole -/
section GW
variable {n : Nat} {c0 : ox_S} {A R : Nat → Bool}
theorem KI_tc (h3 : 3 ≤ n) {c : ox_S} {T : Nat → Bool} {pf : Nat → Nat} (h : KI n c0 c T pf) : 1 ≤ cn_n 1 n 8 pf ∧ tc T ≤ n - 2 := by
  have h1 : 1 ≤ cn_n 1 n 8 pf := cn_k_pos 8 (pf 1) (h.2.2.2.2.2.1 1 (by omega)).2 (cn_at_iff.mpr ⟨1, by omega, by omega, rfl⟩)
  have := h.2.2.2.2.2.2.2.2.2
  exact ⟨h1, by omega⟩
theorem pc_growL (h3 : 3 ≤ n) (h8 : n ≤ 8) (hnc : c0.1 10 = nI n) (hnum : rl_num n c0) {x2 : Int32} (hA : ∀ k, A k = true ↔ ed n k ∧ bt x2 (eN n k) = false) : ∀ r c T pf, zc T + tc T + r = n → KK n c0 A R c T pf → (∃ c' T' pf', oc_OneTree_grow_h51 x2 (nI (zc T + tc T)) c = some (1, c') ∧ KI n c0 c' T' pf' ∧ kcert n A R T' (Wz c0)) ∨ (∃ c', oc_OneTree_grow_h51 x2 (nI (zc T + tc T)) c = some (0, c') ∧ fr [14, 15, 16] [11, 12] c0 c' ∧ nogo n A R) := by
  intro r
  induction r with
  | zero =>
    intro c T pf hr h
    obtain ⟨h1, h2, h3', h4, h5, h6, h7⟩ := id h
    have hn10 : c.1 10 = nI n := by rw [h1.1.1 10 (by decide)]; exact hnc
    obtain ⟨t1, t2⟩ := KI_tc h3 h1
    have hz : zc T = 2 := by omega
    have ht : tc T = n - 2 := by omega
    have hcn := h1.2.2.2.2.2.2.2.2.2
    have hone : ∀ u v, 1 ≤ u → u < n → 1 ≤ v → v < n → pf u = pf v := by
      intro u v u1 u2 v1 v2
      have lu := (h1.2.2.2.2.2.1 u (by omega)).2
      have lv := (h1.2.2.2.2.2.1 v (by omega)).2
      have au : cn_at 1 n pf (pf u) = true := cn_at_iff.mpr ⟨u, u1, u2, rfl⟩
      have av : cn_at 1 n pf (pf v) = true := cn_at_iff.mpr ⟨v, v1, v2, rfl⟩
      rcases Nat.lt_trichotomy (pf u) (pf v) with z | z | z
      · have := cn_k_two 8 _ _ z lv au av
        unfold cn_n at hcn
        omega
      · exact z
      · have := cn_k_two 8 _ _ z lu av au
        unfold cn_n at hcn
        omega
    refine Or.inl ⟨c, T, pf, ?_, h1, fun k hk => ((hA k).mp hk).1, h3', h2, hz, ht, fun u v u1 u2 v1 v2 => h1.2.2.2.2.2.2.2.2.1 u v (by omega) (by omega) (hone u v u1 u2 v1 v2), fun k h a b c d e f => h7 k h a b c d e f, fun k hk ha htk => ?_⟩
    · unfold oc_OneTree_grow_h51
      refine ox_w_inr ?_
      show oc_OneTree_grow_b51 x2 (nI (zc T + tc T)) c = _
      unfold oc_OneTree_grow_b51
      rw [hn10, if_pos (nI_le (by omega) (by omega)), if_neg (nI_nle (by omega) (by omega))]
    · have he := ((hA k).mp ha).1
      unfold ed at he
      exact h6 k hk ha htk (hone _ _ (by omega) (by omega) (by omega) (by omega))
  | succ r ih =>
    intro c T pf hr h
    obtain ⟨h1, h2, h3', h4, h5, h6, h7⟩ := id h
    have hn10 : c.1 10 = nI n := by rw [h1.1.1 10 (by decide)]; exact hnc
    have hC : ∀ k, (A k = true ∧ T k = false ∧ ft T pf k) ↔ ed n k ∧ bt (c.1 14 ||| x2) (eN n k) = false ∧ ft T pf k := by
      intro k
      constructor
      · rintro ⟨z1, z2, z3⟩
        have := (hA k).mp z1
        exact ⟨this.1, by rw [b_or, h1.2.2.1 k this.1, z2, this.2]; rfl, z3⟩
      · rintro ⟨z1, z2, z3⟩
        rw [b_or, h1.2.2.1 k z1, Bool.or_eq_false_iff] at z2
        exact ⟨(hA k).mpr ⟨z1, z2.2⟩, z2.1, z3⟩
    have hb : ∀ v, oc_OneTree_lightest_h12 (c.1 14 ||| x2) (-1 : Int32) (nI 0) c = some v → oc_OneTree_grow_b51 x2 (nI (zc T + tc T)) c = if 0 ≤ v then ((oc_OneTree_take v c).bind fun s4 => some (.inl (nI (zc T + tc T + 1), s4))) else some (.inr ((0 : Int32), c)) := by
      intro v hv
      unfold oc_OneTree_grow_b51 oc_OneTree_lightest
      rw [hn10, if_neg (nI_ge (by omega) (by omega))]
      simp only [ox_let, nI_1]
      rw [show oc_OneTree_lightest_h12 (c.1 14 ||| x2) (-1 : Int32) (0 : Int32) c = some v from hv]
      rfl
    rcases pc_light h8 hnum h1 (x2 := c.1 14 ||| x2) hC (n * (n - 1) / 2) 0 (by omega) (-1) (Or.inl ⟨rfl, fun k _ q => by omega⟩) with ⟨l1, l2⟩ | ⟨k, l1, l2, l3⟩
    · refine Or.inr ⟨c, ?_, h1.1, ?_⟩
      · unfold oc_OneTree_grow_h51
        refine ox_w_inr ?_
        show oc_OneTree_grow_b51 x2 (nI (zc T + tc T)) c = _
        rw [hb _ l1, if_neg (by decide)]
      · -- nothing fits
        by_cases z : zc T < 2
        · refine Or.inr (Or.inr (Or.inl ?_))
          have : zc A ≤ zc T := cn_k_mono 8 (fun v hv ha => by
            cases q : T v with
            | true => rfl
            | false => exact absurd ⟨ha, q, (ft_z hv).mpr z⟩ (l2 v))
          omega
        · refine Or.inr (Or.inr (Or.inr fun hj => ?_))
          have hcn := h1.2.2.2.2.2.2.2.2.2
          have hall : ∀ u v, 1 ≤ u → u < n → 1 ≤ v → v < n → pf u = pf v := fun u v u1 u2 v1 v2 => hj u v u1 u2 v1 v2 pf (fun a b ⟨g, g1, g2, g3, g4⟩ => by
            rw [← g3, ← g4]
            cases q : T g with
            | true => exact h1.2.2.2.2.2.2.2.1 g g1 q
            | false => exact Classical.byContradiction fun y => l2 g ⟨g2, q, (ft_t g1).mpr y⟩)
          have : cn_n 1 n 8 pf ≤ 1 := cn_k_one 8 (fun v w _ _ hv hw => by
            obtain ⟨i, i1, i2, i3⟩ := cn_at_iff.mp hv
            obtain ⟨j, j1, j2, j3⟩ := cn_at_iff.mp hw
            rw [← i3, ← j3]
            exact hall i j i1 i2 j1 j2)
          omega
    · obtain ⟨m1, m2, m3⟩ := l2
      have hk := ((hA k).mp m1).1
      have he := eN_28 h8 hk
      obtain ⟨c', pf', t1, t2, t3, t4⟩ := pc_take h8 hnum h1 hk m2 m3
      have hKK := KK_up (fun k hk => ((hA k).mp hk).1) h8 h hk m1 m2 m3 (fun e a b c d => l3 e ⟨a, b, c⟩ d) t2 t3 t4
      have hcnt : zc (upT T k) + tc (upT T k) = zc T + tc T + 1 := by
        have b1 := hk.1
        have b2 := hk.2
        by_cases z : k < 8
        · rw [(zc_add z m2).1, (zc_add z m2).2]; omega
        · rw [(tc_add (by omega) (by omega) m2).1, (tc_add (by omega) (by omega) m2).2]; omega
      have e1 : oc_OneTree_grow_h51 x2 (nI (zc T + tc T)) c = oc_OneTree_grow_h51 x2 (nI (zc (upT T k) + tc (upT T k))) c' := by
        unfold oc_OneTree_grow_h51
        refine ox_w_inl ?_
        show oc_OneTree_grow_b51 x2 (nI (zc T + tc T)) c = _
        rw [hb _ l1, if_pos (nI_pos' (by omega)), t1, hcnt]
        rfl
      rw [e1]
      exact ih c' (upT T k) pf' (by omega) hKK
/-- the class's growing, as a whole -/
theorem pc_grow (h3 : 3 ≤ n) (h8 : n ≤ 8) (hnc : c0.1 10 = nI n) (hnum : rl_num n c0) {x1 x2 : Int32} (hA : ∀ k, A k = true ↔ ed n k ∧ bt x2 (eN n k) = false) (hR : ∀ k, R k = true ↔ ed n k ∧ bt x1 (eN n k) = true) (hRA : ∀ k, R k = true → A k = true) : (∃ c' T' pf', oc_OneTree_grow x1 x2 c0 = some (1, c') ∧ KI n c0 c' T' pf' ∧ kcert n A R T' (Wz c0)) ∨ (∃ c', oc_OneTree_grow x1 x2 c0 = some (0, c') ∧ fr [14, 15, 16] [11, 12] c0 c' ∧ nogo n A R) := by
  obtain ⟨c1, a1, a2⟩ := pc_clear (c0 := c0) h8
  have hg : oc_OneTree_grow x1 x2 c0 = oc_OneTree_grow_h6 x1 x2 (nI 0) c1 := by
    unfold oc_OneTree_grow
    rw [a1]
    rfl
  rw [hg]
  have hz0 : zc (fun _ => false) ≤ 2 := by
    unfold zc
    rw [cn_k_no 8 (fun _ _ => rfl)]
    omega
  rcases pc_req (A := A) h8 hnum (x1 := x1) (x2 := x2) (fun k hk => ((hR k).mp hk).1) (fun k hk => by
      cases z : R k with
      | true => exact ((hR k).mp z).2
      | false =>
        cases q : bt x1 (eN n k) with
        | false => rfl
        | true => rw [(hR k).mpr ⟨hk, q⟩] at z; cases z) (n * (n - 1) / 2) 0 (by omega) c1 (fun _ => false) (fun i => i) a2 (fun k => ⟨(fun z => by cases z), fun z => by omega⟩) hz0 with ⟨c2, pf2, b1, b2, b3⟩ | ⟨c2, b1, b2, b3⟩
  · rw [b1, b2.2.2.2.1]
    have hKK : KK n c0 A R c2 R pf2 := ⟨b2, fun _ h => h, hRA, b3, (fun h e p q _ _ _ => by rw [p] at q; cases q), fun e he ha ht hp => by
      have hed := ((hA e).mp ha).1
      unfold ed at hed
      refine cn_up (js_up (fun g _ hg => ⟨hg, Or.inl hg⟩)) (b2.2.2.2.2.2.2.2.2.1 (e / 8) (e % 8) (by omega) (by omega) hp), (fun e h _ _ _ _ p q => by rw [p] at q; cases q)⟩
    have ht := (KI_tc h3 b2).2
    exact pc_growL h3 h8 hnc hnum hA (n - (zc R + tc R)) c2 R pf2 (by omega) hKK
  · exact Or.inr ⟨c2, b1, b2, b3⟩
end GW
