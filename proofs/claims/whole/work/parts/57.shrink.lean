/-! the reference's tree, whole -/
def dnT (S : Nat → Bool) (k : Nat) : Nat → Bool := fun x => S x && !(x == k)
theorem dnT_iff {S : Nat → Bool} {k x : Nat} : dnT S k x = true ↔ S x = true ∧ x ≠ k := by unfold dnT; simp
theorem dnT_no {S : Nat → Bool} {k x : Nat} : dnT S k x = false ↔ S x = false ∨ x = k := by
  unfold dnT
  cases S x <;> simp
def v4 (A R : Nat → Bool) (W : Nat → Int) (k : Nat) : Prop := ∃ f : Nat → Nat, f (k / 8) ≠ f (k % 8) ∧ ∀ g, 8 ≤ g → A g = true → (R g = true ∨ elt W g k) → f (g / 8) = f (g % 8)
def v3 (A R S : Nat → Bool) (W : Nat → Int) : Prop := ∀ k h, k < 8 → h < 8 → A k = true → S k = false → S h = true → R h = false → elt W h k
theorem cn_k_le64 (p : Nat → Bool) : ∀ M, cn_k p M ≤ M := fun M => by
  induction M with
  | zero => simp [cn_k]
  | succ m ih => simp only [cn_k]; split <;> omega
section SH
variable {n : Nat} {m0 : ox_S} {A R : Nat → Bool}
theorem MI_dn {m : ox_S} {S : Nat → Bool} (h : MI n m0 m S) (k : Nat) : MI n m0 (ox_s2 m 10 k 0) (dnT S k) := by
  refine ⟨fr_tr h.1 (fr_s2 (by decide)), fun x hx => h.2.1 x (dnT_iff.mp hx).1, fun x hx => ?_⟩
  rw [s2_at, dnT_no]
  by_cases z : x = k
  · rw [if_pos ⟨rfl, z⟩]
    exact ⟨fun _ => Or.inr z, fun _ => rfl⟩
  · rw [if_neg (fun q => z q.2), h.2.2 x hx]
    exact ⟨fun q => Or.inl q, fun q => q.resolve_right z⟩
theorem MI_fr {m m' : ox_S} {S : Nat → Bool} (h : MI n m0 m S) (hf : fr [] [12] m m') : MI n m0 m' S := by
  refine ⟨fr_tr h.1 (fr_up hf (fun _ h => by cases h) (fun x hx => by simp at hx ⊢; exact Or.inr hx)), h.2.1, fun k hk => ?_⟩
  rw [hf.2 10 (by decide)]
  exact h.2.2 k hk
/-- the others: from the worst down -/
theorem pm_138 (h3 : 3 ≤ n) (h8 : n ≤ 8) (hnm : m0.1 1 = nI n) (hA : ∀ k, A k = true → ed n k) (hR : ∀ k, R k = true ↔ ed n k ∧ m0.2 11 k = 1) : ∀ N m S x2, MI n m0 m S → (∀ k, S k = true → A k = true) → (∀ k, R k = true → S k = true) → zc S = 2 → v3 A R S (Wm m0) → jn n (fun k => S k = true) → ((x2 = -1 ∧ ∀ e, S e = true → R e = false → 8 ≤ e → v4 A R (Wm m0) e) ∨ ∃ k, x2 = nI k ∧ S k = true ∧ R k = false ∧ 8 ≤ k ∧ (∀ e, S e = true → R e = false → 8 ≤ e → elt (Wm m0) k e → v4 A R (Wm m0) e) ∧ (∀ e, A e = true → 8 ≤ e → ¬ elt (Wm m0) k e → S e = true) ∧ cn_k (fun e => A e && eltb (Wm m0) e k) 64 < N) → ∃ b m' S', om_Mo_tree_h138 x2 m = some (b01 b, m') ∧ MI n m0 m' S' ∧ vcert n A R S' (Wm m0) ∧ (b = true ↔ tc S' = n - 2) := by
  intro N
  induction N with
  | zero =>
    intro m S x2 hM s1 s2 s3 s4 s5 ht
    rcases ht with ⟨t1, t2⟩ | ⟨k, _, _, _, _, _, _, t⟩
    · have hnm' : m.1 1 = nI n := by rw [hM.1.1 1 (by decide)]; exact hnm
      have hle := cn_k_le64 (fun k => decide (8 ≤ k) && S k) 64
      refine ⟨decide (tc S = n - 2), m, S, ?_, hM, ⟨s1, s2, s3, s4, fun k k1 k2 k3 => t2 k k2 k3 k1, s5⟩, decide_eq_true_iff⟩
      unfold om_Mo_tree_h138
      refine ox_w_inr ?_
      show om_Mo_tree_b138 x2 m = _
      unfold om_Mo_tree_b138
      rw [t1, if_pos (by decide), (pm_count h8 hnm hM).2]
      simp only [Option.bind_some]
      rw [hnm', show (2 : Int32) = nI 2 from rfl, pk_sub (by omega)]
      by_cases z : tc S = n - 2
      · rw [if_pos (by rw [z]), decide_eq_true z]
        rfl
      · rw [if_neg (nI_ne z (by unfold tc; omega) (by omega)), decide_eq_false z]
        rfl
    · omega
  | succ N ih =>
    intro m S x2 hM s1 s2 s3 s4 s5 ht
    rcases ht with ⟨t1, t2⟩ | ⟨k, k1, k2, k3, k4, k5, k6, k7⟩
    · exact ih m S x2 hM s1 s2 s3 s4 s5 (Or.inl ⟨t1, t2⟩)
    · have hked := hM.2.1 k k2
      have hk64 := ed_64 h8 hked
      have hnm' : m.1 1 = nI n := by rw [hM.1.1 1 (by decide)]; exact hnm
      obtain ⟨b, σ, j1, j2, j3⟩ := pm_joins (X := some k) h3 h8 hnm' hM.2.1 hM.2.2 (fun k' hk' => by cases hk'; exact hk64)
      have hMσ := MI_fr hM j2
      -- what comes next, whether the edge goes or stays
      have next : ∀ m2 S2, MI n m0 m2 S2 → (∀ x, S2 x = true → S x = true) → (∀ x, S x = true → x ≠ k → S2 x = true) → (S2 k = true → v4 A R (Wm m0) k) → jn n (fun x => S2 x = true) → (∀ x, om_Mo_worst (0 : Int32) (nI k) m2 = some x → om_Mo_tree_b138 x2 m = some (.inl (x, m2))) → ∃ b m' S', om_Mo_tree_h138 x2 m = some (b01 b, m') ∧ MI n m0 m' S' ∧ vcert n A R S' (Wm m0) ∧ (b = true ↔ tc S' = n - 2) := by
        intro m2 S2 hM2 q1 q2 q3 q4 q5
        obtain ⟨x, w1, w2⟩ := pm_worst h8 hnm hM2 false (B := some k) (fun b hb => by cases hb; exact hk64)
        have w1' : om_Mo_worst (0 : Int32) (nI k) m2 = some x := w1
        have hz : ∀ v, v < 8 → S2 v = S v := by
          intro v hv
          cases q : S v with
          | true => exact q2 v q (by omega)
          | false =>
            cases q' : S2 v with
            | false => rfl
            | true => rw [q1 v q'] at q; cases q
        have hR2 : ∀ x, R x = true → S2 x = true := fun x hx => q2 x (s2 x hx) (fun e => by rw [e] at hx; rw [k3] at hx; cases hx)
        have hst : om_Mo_tree_h138 x2 m = om_Mo_tree_h138 x m2 := by
          unfold om_Mo_tree_h138
          exact ox_w_inl (q5 x w1')
        rw [hst]
        refine ih m2 S2 x hM2 (fun x hx => s1 x (q1 x hx)) hR2 (by rw [← s3]; exact cn_k_same 8 hz) (fun a h a1 a2 a3 a4 a5 a6 => s4 a h a1 a2 a3 (by rw [← hz a a1]; exact a4) (q1 h a5) a6) q4 ?_
        have nR : ∀ e, S2 e = true → R e = false → ¬ m0.2 11 e = 1 := fun e e1 e2 e3 => by
          rw [(hR e).mpr ⟨hM2.2.1 e e1, e3⟩] at e2
          cases e2
        rcases w2 with ⟨z1, z2⟩ | ⟨k', z1, z2, z3, z4⟩
        · refine Or.inl ⟨z1, fun e e1 e2 e3 => ?_⟩
          have hn : ¬ elt (Wm m0) e k := fun q => z2 e ⟨e1, nR e e1 e2, decide_eq_false (by omega), fun b hb => by cases hb; exact q⟩ (ed_64 h8 (hM2.2.1 e e1))
          by_cases y : e = k
          · rw [y] at e1 ⊢; exact q3 e1
          · exact k5 e (q1 e e1) e2 e3 ((elt_to y).resolve_left hn)
        · obtain ⟨c1, c2, c3, c4⟩ := z2
          have hlt := c4 k rfl
          have hRk' : R k' = false := by
            cases q : R k' with
            | false => rfl
            | true => exact absurd ((hR k').mp q).2 c2
          have h8k : 8 ≤ k' := by
            have := of_decide_eq_false c3
            omega
          refine Or.inr ⟨k', z1, c1, hRk', h8k, fun e e1 e2 e3 e4 => ?_, fun e e1 e2 e3 => ?_, ?_⟩
          · by_cases y : e = k
            · rw [y] at e1 ⊢; exact q3 e1
            · rcases elt_to (W := Wm m0) y with q | q
              · have : e ≠ k' := fun z => by rw [z] at e4; exact elt_ir e4 e4
                exact absurd (z4 e ⟨e1, nR e e1 e2, decide_eq_false (by omega), fun b hb => by cases hb; exact q⟩ (ed_64 h8 (hM2.2.1 e e1)) this) (fun z => elt_ir z e4)
              · exact k5 e (q1 e e1) e2 e3 q
          · by_cases y : e = k'
            · rw [y]; exact c1
            · have : elt (Wm m0) e k' := (elt_to y).resolve_right e3
              have h2 := elt_tr this hlt
              exact q2 e (k6 e e1 e2 (fun z => elt_ir z h2)) (fun z => by rw [z] at h2; exact elt_ir h2 h2)
          · -- fewer are left
            have hk'64 := ed_64 h8 (hM2.2.1 k' c1)
            have hadd : cn_k (fun e => (A e && eltb (Wm m0) e k') || e == k') 64 = cn_k (fun e => A e && eltb (Wm m0) e k') 64 + 1 := cn_k_add hk'64 (by
              rw [eltb_f (fun z => elt_ir z z)]
              simp) (fun _ _ => rfl)
            have hmono : cn_k (fun e => (A e && eltb (Wm m0) e k') || e == k') 64 ≤ cn_k (fun e => A e && eltb (Wm m0) e k) 64 := cn_k_mono 64 (fun v _ hv => by
              rw [Bool.or_eq_true, Bool.and_eq_true, beq_iff_eq] at hv
              rw [Bool.and_eq_true]
              rcases hv with ⟨v1, v2⟩ | v1
              · exact ⟨v1, eltb_t (elt_tr (eltb_e v2) hlt)⟩
              · rw [v1]; exact ⟨s1 k' (q1 k' c1), eltb_t hlt⟩)
            omega
      have hb138 : om_Mo_tree_b138 x2 m = if b01 b = 0 then ((om_Mo_worst (0 : Int32) (nI k) σ).bind fun r10 => some (.inl (r10, σ))) else ((om_Mo_worst (0 : Int32) (nI k) (ox_s2 σ 10 k 0)).bind fun r13 => some (.inl (r13, ox_s2 σ 10 k 0))) := by
        unfold om_Mo_tree_b138
        rw [k1, if_neg (nI_pos (by omega)), (p_div8 k hk64).2, (p_div8 k hk64).1, show om_Mo_joins (nI (k / 8)) (nI (k % 8)) m = _ from j1]
        show (if b01 b = 0 then _ else _) = _
        rw [ox_ix_nI hk64 (by omega)]
        rfl
      rcases j3 with ⟨d1, d2⟩ | ⟨d1, f, f1, u, u1, u2, u3⟩
      · subst d1
        refine next (ox_s2 σ 10 k 0) (dnT S k) (MI_dn hMσ k) (fun x hx => (dnT_iff.mp hx).1) (fun x hx hne => dnT_iff.mpr ⟨hx, hne⟩) (fun z => absurd rfl (dnT_iff.mp z).2) (fun a b a1 a2 b1 b2 => cn_up (js_up (fun g _ hg => dnT_iff.mpr ⟨hg.1, fun z => hg.2 (by rw [z])⟩)) (d2 a b a1 a2 b1 b2)) (fun x hx => ?_)
        rw [hb138, if_neg (by decide), hx]
        rfl
      · subst d1
        refine next σ S hMσ (fun _ h => h) (fun _ h _ => h) (fun _ => ⟨f, fun hfe => ?_, fun g g1 g2 g3 => ?_⟩) s5 (fun x hx => ?_)
        · -- else all is joined
          refine u3 (s5 u 1 u1 u2 (Nat.le_refl _) (by omega) f (fun a b ⟨g, g1, g2, g3, g4⟩ => ?_))
          rw [← g3, ← g4]
          by_cases y : g = k
          · rw [y]; exact hfe
          · exact f1 g g1 ⟨g2, fun z => y (Option.some.inj z).symm⟩
        · have hne : g ≠ k := fun z => by
            rw [z] at g3
            rcases g3 with q | q
            · rw [k3] at q; cases q
            · exact elt_ir q q
          refine f1 g g1 ⟨?_, fun z => hne (Option.some.inj z).symm⟩
          rcases g3 with q | q
          · exact s2 g q
          · exact k6 g g2 g1 (fun z => elt_ir z q)
        · rw [hb138, if_pos (by decide), hx]
          rfl
/-- at city 0: from the worst down -/
theorem pm_81 (h8 : n ≤ 8) (hnm : m0.1 1 = nI n) (hR : ∀ k, R k = true ↔ ed n k ∧ m0.2 11 k = 1) : ∀ N m S x1, zc S ≤ N → MI n m0 m S → (∀ k, S k = true → A k = true) → (∀ k, R k = true → S k = true) → (∀ k, 8 ≤ k → A k = true → S k = true) → v3 A R S (Wm m0) → (zc S < 2 → ∀ k, k < 8 → A k = true → S k = true) → bst (Wm m0) (cnd m0 S true none) 64 x1 → ∃ m' S', om_Mo_tree_h81 x1 m = om_Mo_tree_j111 m' ∧ MI n m0 m' S' ∧ (∀ k, S' k = true → A k = true) ∧ (∀ k, R k = true → S' k = true) ∧ (∀ k, 8 ≤ k → A k = true → S' k = true) ∧ v3 A R S' (Wm m0) ∧ (zc S' < 2 → ∀ k, k < 8 → A k = true → S' k = true) ∧ (zc S' ≤ 2 ∨ ∀ k, k < 8 → S' k = true → R k = true) := by
  intro N
  induction N with
  | zero =>
    intro m S x1 hN hM s1 s2 s3 s4 s5 hb
    refine ⟨m, S, ?_, hM, s1, s2, s3, s4, s5, Or.inl (by omega)⟩
    unfold om_Mo_tree_h81
    refine ox_w_map ?_
    show om_Mo_tree_b81 x1 m = _
    unfold om_Mo_tree_b81
    rw [(pm_count h8 hnm hM).1]
    simp only [Option.bind_some]
    rw [if_pos (show nI (zc S) ≤ 2 from nI_le (b := 2) (by omega) (by omega))]
  | succ N ih =>
    intro m S x1 hN hM s1 s2 s3 s4 s5 hb
    have hz8 := zc_le8 S
    by_cases z : zc S ≤ 2
    · refine ⟨m, S, ?_, hM, s1, s2, s3, s4, s5, Or.inl z⟩
      unfold om_Mo_tree_h81
      refine ox_w_map ?_
      show om_Mo_tree_b81 x1 m = _
      unfold om_Mo_tree_b81
      rw [(pm_count h8 hnm hM).1]
      simp only [Option.bind_some]
      rw [if_pos (show nI (zc S) ≤ 2 from nI_le (b := 2) (by omega) (by omega))]
    · have hcn : om_Mo_tree_b81 x1 m = if x1 < 0 then (om_Mo_tree_j111 m).map (fun t => .inr t) else ox_ix x1 64 fun j14 => ox_let (ox_s2 m 10 j14 (0 : Int32)) fun s15 => (om_Mo_worst (1 : Int32) (-1 : Int32) s15).bind fun r16 => some (.inl (r16, s15)) := by
        unfold om_Mo_tree_b81
        rw [(pm_count h8 hnm hM).1]
        simp only [Option.bind_some]
        rw [if_neg (show ¬ nI (zc S) ≤ 2 from nI_ge (a := 2) (by omega) (by omega))]
      rcases hb with ⟨z1, z2⟩ | ⟨k, z1, ⟨c1, c2, c3, _⟩, z3, z4⟩
      · refine ⟨m, S, ?_, hM, s1, s2, s3, s4, s5, Or.inr (fun k k1 k2 => ?_)⟩
        · unfold om_Mo_tree_h81
          refine ox_w_map ?_
          show om_Mo_tree_b81 x1 m = _
          rw [hcn, if_pos (by rw [z1]; decide)]
        · refine (hR k).mpr ⟨hM.2.1 k k2, Classical.byContradiction fun q => z2 k ⟨k2, q, decide_eq_true k1, fun b hb => by cases hb⟩ (by omega)⟩
      · have hk8 : k < 8 := of_decide_eq_true c3
        have hM2 := MI_dn hM k
        obtain ⟨x, w1, w2⟩ := pm_worst h8 hnm hM2 true (B := none) (fun b hb => by cases hb)
        have hzc : zc S = zc (dnT S k) + 1 := cn_k_cut (b := k) 8 hk8 c1 (fun v _ => rfl)
        have hst : om_Mo_tree_h81 x1 m = om_Mo_tree_h81 x (ox_s2 m 10 k 0) := by
          unfold om_Mo_tree_h81
          refine ox_w_inl ?_
          show om_Mo_tree_b81 x1 m = _
          rw [hcn, z1, if_neg (nI_pos (by omega)), ox_ix_nI (show k < 64 by omega) (by omega)]
          simp only [ox_let]
          rw [show om_Mo_worst (1 : Int32) (-1 : Int32) (ox_s2 m 10 k 0) = some x from w1]
          rfl
        rw [hst]
        have nR : ∀ e, S e = true → R e = false → ¬ m0.2 11 e = 1 := fun e e1 e2 e3 => by
          rw [(hR e).mpr ⟨hM.2.1 e e1, e3⟩] at e2
          cases e2
        refine ih _ (dnT S k) x (by omega) hM2 (fun y hy => s1 y (dnT_iff.mp hy).1) (fun y hy => dnT_iff.mpr ⟨s2 y hy, fun e => by rw [e] at hy; exact c2 ((hR k).mp hy).2⟩) (fun y y1 y2 => dnT_iff.mpr ⟨s3 y y1 y2, by omega⟩) (fun a h a1 a2 a3 a4 a5 a6 => ?_) (fun q => by omega) w2
        obtain ⟨h1, h2⟩ := dnT_iff.mp a5
        rcases dnT_no.mp a4 with q | q
        · exact s4 a h a1 a2 a3 q h1 a6
        · rw [q]
          exact z4 h ⟨h1, nR h h1 a6, decide_eq_true a2, fun b hb => by cases hb⟩ (by omega) h2
/-- all edges but the forbidden -/
theorem pm_initJ (h8 : n ≤ 8) (hnm : m0.1 1 = nI n) (hA : ∀ k, A k = true ↔ ed n k ∧ ¬ m0.2 11 k = 2) {i : Nat} : ∀ r j, j + r = n → i < j → ∀ m, fr [] [10, 12] m0 m → (∀ k, ed n k → k < 8 * i + j → (m.2 10 k = 0 ↔ A k = false)) → ∃ m', om_Mo_tree_h23 (nI i) (nI j) m = some (.inl (nI (i + 1), m')) ∧ fr [] [10, 12] m0 m' ∧ (∀ k, ed n k → k < 8 * i + n → (m'.2 10 k = 0 ↔ A k = false)) := by
  intro r
  induction r with
  | zero =>
    intro j hj hij m hf h
    have e : j = n := by omega
    subst e
    refine ⟨m, ?_, hf, h⟩
    unfold om_Mo_tree_h23
    refine ox_w_inr ?_
    show om_Mo_tree_b23 (nI i) (nI j) m = _
    unfold om_Mo_tree_b23
    rw [hf.1 1 (by decide), hnm, if_pos (nI_le (Nat.le_refl _) (by omega))]
    simp only [ox_let, nI_1]
  | succ r ih =>
    intro j hj hij m hf h
    have hk : ed n (8 * i + j) := ⟨by omega, by omega⟩
    obtain ⟨m', a1, a2, a3⟩ := ih (j + 1) (by omega) (by omega) (ox_s2 m 10 (8 * i + j) (if m0.2 11 (8 * i + j) = 2 then 0 else 1)) (fr_tr hf (fr_s2 (by decide))) (fun k k1 k2 => by
      rw [s2_at]
      by_cases z : k = 8 * i + j
      · subst z
        rw [if_pos ⟨rfl, rfl⟩]
        by_cases y : m0.2 11 (8 * i + j) = 2
        · rw [if_pos y]
          refine ⟨fun _ => ?_, fun _ => rfl⟩
          cases q : A (8 * i + j) with
          | false => rfl
          | true => exact absurd y ((hA _).mp q).2
        · rw [if_neg y, (hA _).mpr ⟨k1, y⟩]
          exact ⟨(fun q => absurd q (by decide)), (fun q => by cases q)⟩
      · rw [if_neg (fun q => z q.2)]
        exact h k k1 (by omega))
    refine ⟨m', ?_, a2, a3⟩
    rw [← a1]
    unfold om_Mo_tree_h23
    refine ox_w_inl ?_
    show om_Mo_tree_b23 (nI i) (nI j) m = _
    unfold om_Mo_tree_b23
    rw [hf.1 1 (by decide), hnm, if_neg (nI_ge (show j < n by omega) (by omega)), p_8]
    simp only [ox_ix_nI (show 8 * i + j < 64 by omega) (show 64 < 2 ^ 31 by omega), ox_let, nI_1]
    rw [hf.2 11 (by decide)]
    by_cases y : m0.2 11 (8 * i + j) = 2
    · rw [if_pos y, if_pos y]
    · rw [if_neg y, if_neg y]
theorem pm_initI (h8 : n ≤ 8) (hnm : m0.1 1 = nI n) (hA : ∀ k, A k = true ↔ ed n k ∧ ¬ m0.2 11 k = 2) : ∀ r i, i + r = n → ∀ m, fr [] [10, 12] m0 m → (∀ k, ed n k → k < 8 * i + (i + 1) → (m.2 10 k = 0 ↔ A k = false)) → ∃ m', om_Mo_tree_h11 (nI i) m = ((om_Mo_worst (1 : Int32) (-1 : Int32) m').bind fun r1 => om_Mo_tree_h81 r1 m') ∧ MI n m0 m' A := by
  intro r
  induction r with
  | zero =>
    intro i hi m hf h
    refine ⟨m, ?_, hf, fun k hk => ((hA k).mp hk).1, fun k hk => h k hk (by unfold ed at hk; omega)⟩
    unfold om_Mo_tree_h11
    refine ox_w_map ?_
    show om_Mo_tree_b11 (nI i) m = _
    unfold om_Mo_tree_b11
    rw [hf.1 1 (by decide), hnm, if_pos (nI_le (by omega) (by omega))]
    cases om_Mo_worst (1 : Int32) (-1 : Int32) m <;> rfl
  | succ r ih =>
    intro i hi m hf h
    obtain ⟨m1, a1, a2, a3⟩ := pm_initJ h8 hnm hA (n - (i + 1)) (i + 1) (by omega) (by omega) m hf h
    obtain ⟨m', b1, b2⟩ := ih (i + 1) (by omega) m1 a2 (fun k k1 k2 => a3 k k1 (by unfold ed at k1; omega))
    refine ⟨m', ?_, b2⟩
    rw [← b1]
    unfold om_Mo_tree_h11
    refine ox_w_inl ?_
    show om_Mo_tree_b11 (nI i) m = _
    unfold om_Mo_tree_b11
    rw [hf.1 1 (by decide), hnm, if_neg (nI_ge (show i < n by omega) (by omega))]
    simp only [ox_let, nI_1]
    exact a1
theorem nogo_no {S : Nat → Bool} (h3 : 3 ≤ n) (h8 : n ≤ 8) (hA : ∀ k, A k = true → ed n k) (h1 : ∀ k, S k = true → A k = true) (h2 : ∀ k, R k = true → S k = true) (hz : zc S = 2) (ht : tc S = n - 2) (hj : jn n (fun k => S k = true)) : ¬ nogo n A R := by
  rintro (h | ⟨k, k1, k2, k3⟩ | h | h)
  · have : zc R ≤ zc S := cn_k_mono 8 (fun v _ hv => h2 v hv)
    omega
  · have := jn_ring h3 h8 (fun k hk => hA k (h1 k hk)) hj k1 (h2 k k2) (cn_up (js_up (fun g _ hg => ⟨h2 g hg.1, hg.2⟩)) k3)
    omega
  · have : zc S ≤ zc A := cn_k_mono 8 (fun v _ hv => h1 v hv)
    omega
  · exact h (fun u v a b c d => cn_up (js_up (fun g _ hg => h1 g hg)) (hj u v a b c d))
/-- the reference's tree -/
theorem pm_tree (h3 : 3 ≤ n) (h8 : n ≤ 8) (hnm : m0.1 1 = nI n) (hA : ∀ k, A k = true ↔ ed n k ∧ ¬ m0.2 11 k = 2) (hR : ∀ k, R k = true ↔ ed n k ∧ m0.2 11 k = 1) : (∃ m' S, om_Mo_tree m0 = some (1, m') ∧ MI n m0 m' S ∧ vcert n A R S (Wm m0) ∧ tc S = n - 2) ∨ (∃ m', om_Mo_tree m0 = some (0, m') ∧ fr [] [10, 12] m0 m' ∧ ∀ T, ¬ kcert n A R T (Wm m0)) := by
  have hRA : ∀ k, R k = true → A k = true := fun k hk => (hA k).mpr ⟨((hR k).mp hk).1, by rw [((hR k).mp hk).2]; decide⟩
  have hAe : ∀ k, A k = true → ed n k := fun k hk => ((hA k).mp hk).1
  have hnk : nogo n A R → ∀ T, ¬ kcert n A R T (Wm m0) := fun hn T hT => nogo_no h3 h8 hAe hT.2.1 hT.2.2.1 hT.2.2.2.1 hT.2.2.2.2.1 hT.2.2.2.2.2.1 hn
  obtain ⟨m1, a1, a2⟩ := pm_initI h8 hnm hA n 0 (by omega) m0 fr_rf (fun k hk hl => by unfold ed at hk; omega)
  obtain ⟨x, w1, w2⟩ := pm_worst h8 hnm a2 true (B := none) (fun b hb => by cases hb)
  obtain ⟨m2, S, b1, b2, b3, b4, b5, b6, b7, b8⟩ := pm_81 (A := A) h8 hnm hR (zc A) m1 A x (Nat.le_refl _) a2 (fun _ h => h) hRA (fun _ _ h => h) (fun k h _ _ q1 q2 _ _ => by rw [q1] at q2; cases q2) (fun _ _ _ h => h) w2
  have hz8 := zc_le8 S
  have htree : om_Mo_tree m0 = om_Mo_tree_j111 m2 := by
    unfold om_Mo_tree
    rw [hnm, if_neg (nI_ne0 (by omega) (by omega)), show om_Mo_tree_h11 (0 : Int32) m0 = _ from a1, show om_Mo_worst (1 : Int32) (-1 : Int32) m1 = some x from w1]
    exact b1
  rw [htree]
  unfold om_Mo_tree_j111
  rw [(pm_count h8 hnm b2).1]
  simp only [Option.bind_some]
  by_cases z : zc S = 2
  · rw [if_pos (show nI (zc S) = 2 by rw [z]; rfl)]
    have hnm2 : m2.1 1 = nI n := by rw [b2.1.1 1 (by decide)]; exact hnm
    obtain ⟨b, m3, c1, c2, c3⟩ := pm_joins (X := none) h3 h8 hnm2 b2.2.1 b2.2.2 (fun k hk => by cases hk)
    rw [show om_Mo_joins (-1 : Int32) (-1 : Int32) m2 = _ from c1]
    show ((∃ m' S, (if b01 b = 0 then some ((0 : Int32), m3) else (om_Mo_worst (0 : Int32) (-1 : Int32) m3).bind fun r6 => om_Mo_tree_h138 r6 m3) = some (1, m') ∧ _) ∨ (∃ m', (if b01 b = 0 then some ((0 : Int32), m3) else (om_Mo_worst (0 : Int32) (-1 : Int32) m3).bind fun r6 => om_Mo_tree_h138 r6 m3) = some (0, m') ∧ _))
    have hM3 := MI_fr b2 c2
    rcases c3 with ⟨d1, d2⟩ | ⟨d1, f, f1, u, u1, u2, u3⟩
    · subst d1
      rw [if_neg (by decide)]
      obtain ⟨y, y1, y2⟩ := pm_worst h8 hnm hM3 false (B := none) (fun b hb => by cases hb)
      rw [show om_Mo_worst (0 : Int32) (-1 : Int32) m3 = some y from y1]
      simp only [Option.bind_some]
      have hjn : jn n (fun k => S k = true) := fun u v p q r s => cn_up (js_up (fun g _ hg => hg.1)) (d2 u v p q r s)
      have nR : ∀ e, S e = true → R e = false → ¬ m0.2 11 e = 1 := fun e e1 e2 e3 => by
        rw [(hR e).mpr ⟨hM3.2.1 e e1, e3⟩] at e2
        cases e2
      obtain ⟨b', m', S', t1, t2, t3, t4⟩ := pm_138 h3 h8 hnm hAe hR (65) m3 S y hM3 b3 b4 z b6 hjn (by
        rcases y2 with ⟨z1, z2⟩ | ⟨k, z1, ⟨e1, e2, e3, _⟩, z3, z4⟩
        · exact Or.inl ⟨z1, fun e e1 e2 e3 => absurd (ed_64 h8 (hM3.2.1 e e1)) (z2 e ⟨e1, nR e e1 e2, decide_eq_false (by omega), fun b hb => by cases hb⟩)⟩
        · have hRk : R k = false := by
            cases q : R k with
            | false => rfl
            | true => exact absurd ((hR k).mp q).2 e2
          have h8k : 8 ≤ k := by
            have := of_decide_eq_false e3
            omega
          refine Or.inr ⟨k, z1, e1, hRk, h8k, fun e q1 q2 q3 q4 => ?_, fun e q1 q2 _ => b5 e q2 q1, Nat.lt_succ_of_le (cn_k_le64 _ 64)⟩
          have hne : e ≠ k := fun q => by rw [q] at q4; exact elt_ir q4 q4
          exact absurd (z4 e ⟨q1, nR e q1 q2, decide_eq_false (by omega), fun b hb => by cases hb⟩ (ed_64 h8 (hM3.2.1 e q1)) hne) (fun q => elt_ir q q4))
      cases b' with
      | true => exact Or.inl ⟨m', S', t1, t2, t3, t4.mp rfl⟩
      | false =>
        refine Or.inr ⟨m', t1, t2.1, fun T hT => ?_⟩
        have := (cert_eq h3 h8 hT t3).2
        exact absurd (t4.mpr this) (by decide)
    · subst d1
      rw [if_pos (by decide)]
      refine Or.inr ⟨m3, rfl, hM3.1, hnk (Or.inr (Or.inr (Or.inr fun hj => u3 (hj u 1 u1 u2 (Nat.le_refl _) (by omega) f (fun a b ⟨g, g1, g2, g3, g4⟩ => ?_)))))⟩
      rw [← g3, ← g4]
      exact f1 g g1 ⟨b5 g g1 g2, fun q => by cases q⟩
  · rw [if_neg (show ¬ nI (zc S) = 2 from nI_ne (b := 2) z (by omega) (by omega))]
    refine Or.inr ⟨m2, rfl, b2.1, hnk ?_⟩
    rcases b8 with q | q
    · have hlt : zc S < 2 := by omega
      refine Or.inr (Or.inr (Or.inl ?_))
      have : zc A ≤ zc S := cn_k_mono 8 (fun v hv ha => b7 hlt v hv ha)
      omega
    · by_cases hlt : zc S < 2
      · refine Or.inr (Or.inr (Or.inl ?_))
        have : zc A ≤ zc S := cn_k_mono 8 (fun v hv ha => b7 hlt v hv ha)
        omega
      · refine Or.inl ?_
        have : zc S ≤ zc R := cn_k_mono 8 (fun v hv hs => q v hv hs)
        omega
end SH
