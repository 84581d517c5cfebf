/-! the class's growing tree, to its end -/
def Wz (c : ox_S) (k : Nat) : Int := (wI c k).toInt
/-- why there is no one-tree -/
def nogo (n : Nat) (A R : Nat → Bool) : Prop := 3 ≤ zc R ∨ (∃ k, 8 ≤ k ∧ R k = true ∧ cn_c (js (fun g => R g = true ∧ g ≠ k)) (k / 8) (k % 8)) ∨ zc A < 2 ∨ ¬ jn n (fun k => A k = true)
def KK (n : Nat) (c0 : ox_S) (A R : Nat → Bool) (c : ox_S) (T : Nat → Bool) (pf : Nat → Nat) : Prop := KI n c0 c T pf ∧ (∀ k, R k = true → T k = true) ∧ (∀ k, T k = true → A k = true) ∧ zc T ≤ 2 ∧ (∀ h e, T h = true → R h = false → A e = true → T e = false → ft T pf e → elt (Wz c0) h e) ∧ (∀ e, 8 ≤ e → A e = true → T e = false → pf (e / 8) = pf (e % 8) → cn_c (js (fun g => T g = true ∧ (R g = true ∨ elt (Wz c0) g e))) (e / 8) (e % 8)) ∧ (∀ e h, e < 8 → h < 8 → A e = true → T e = false → T h = true → R h = false → elt (Wz c0) h e)
section KR
variable {n : Nat} {c0 : ox_S} {A R : Nat → Bool}
theorem pc_req (h8 : n ≤ 8) (hnum : rl_num n c0) {x1 x2 : Int32} (hR1 : ∀ k, R k = true → ed n k) (hR : ∀ k, ed n k → bt x1 (eN n k) = R k) : ∀ r e, e + r = n * (n - 1) / 2 → ∀ c T pf, KI n c0 c T pf → (∀ k, T k = true ↔ R k = true ∧ eN n k < e) → zc T ≤ 2 → (∃ c' pf', oc_OneTree_grow_h6 x1 x2 (nI e) c = oc_OneTree_grow_h51 x2 (c'.1 15) c' ∧ KI n c0 c' R pf' ∧ zc R ≤ 2) ∨ (∃ c', oc_OneTree_grow_h6 x1 x2 (nI e) c = some (0, c') ∧ fr [14, 15, 16] [11, 12] c0 c' ∧ nogo n A R) := by
  have hE := E_28 h8
  intro r
  induction r with
  | zero =>
    intro e he c T pf h hT hz
    refine Or.inl ⟨c, pf, ?_, ?_⟩
    · unfold oc_OneTree_grow_h6
      refine ox_w_map ?_
      show oc_OneTree_grow_b6 x1 x2 (nI e) c = _
      unfold oc_OneTree_grow_b6
      rw [(KI_num h hnum).1, if_pos (nI_le (by omega) (by omega))]
      rfl
    · have hTR : T = R := by
        funext k
        have i1 : T k = true ↔ R k = true := by
          rw [hT k]
          exact ⟨fun z => z.1, fun z => ⟨z, by have := eN_E h8 (hR1 k z); omega⟩⟩
        cases a : T k <;> cases b : R k <;> simp_all
      rw [← hTR]
      exact ⟨h, hz⟩
  | succ r ih =>
    intro e he c T pf h hT hz
    obtain ⟨k, hk, hke⟩ := eN_ex h8 (show e < n * (n - 1) / 2 by omega)
    subst hke
    have he28 := eN_28 h8 hk
    have hb := b_ask x1 (eN n k) (by omega)
    have hup : ∀ k', (R k' = true ∧ eN n k' < eN n k + 1) ↔ (R k' = true ∧ eN n k' < eN n k) ∨ (R k' = true ∧ k' = k) := by
      intro k'
      constructor
      · rintro ⟨z1, z2⟩
        by_cases q : eN n k' = eN n k
        · exact Or.inr ⟨z1, eN_inj h8 (hR1 k' z1) hk q⟩
        · exact Or.inl ⟨z1, by omega⟩
      · rintro (⟨z1, z2⟩ | ⟨z1, z2⟩)
        · exact ⟨z1, by omega⟩
        · subst z2; exact ⟨z1, by omega⟩
    have hbase : ¬ c.1 11 ≤ nI (eN n k) := by rw [(KI_num h hnum).1]; exact nI_ge (by omega) (by omega)
    cases hr : R k with
    | false =>
      have e1 : oc_OneTree_grow_h6 x1 x2 (nI (eN n k)) c = oc_OneTree_grow_h6 x1 x2 (nI (eN n k + 1)) c := by
        unfold oc_OneTree_grow_h6
        refine ox_w_inl ?_
        show oc_OneTree_grow_b6 x1 x2 (nI (eN n k)) c = _
        unfold oc_OneTree_grow_b6
        rw [if_neg hbase, if_pos (hb.mpr (by rw [hR k hk]; exact hr))]
        simp only [ox_let, nI_1]
      rw [e1]
      refine ih (eN n k + 1) (by omega) c T pf h (fun k' => ?_) hz
      rw [hT k', hup k']
      constructor
      · exact fun z => Or.inl z
      · rintro (z | ⟨z1, z2⟩)
        · exact z
        · subst z2; rw [hr] at z1; cases z1
    | true =>
      have hne : ¬ ((x1 >>> (nI (eN n k) &&& 31)) &&& (1 : Int32)) = 0 := fun z => by have := hb.mp z; rw [hR k hk, hr] at this; cases this
      have hTk : T k = false := by
        cases q : T k with
        | false => rfl
        | true => have := (hT k).mp q; omega
      rcases pc_fits h8 hnum h hk with ⟨f1, f2⟩ | ⟨f1, f2⟩
      · obtain ⟨c', pf', t1, t2, t3, t4⟩ := pc_take h8 hnum h hk hTk f1
        have e1 : oc_OneTree_grow_h6 x1 x2 (nI (eN n k)) c = oc_OneTree_grow_h6 x1 x2 (nI (eN n k + 1)) c' := by
          unfold oc_OneTree_grow_h6
          refine ox_w_inl ?_
          show oc_OneTree_grow_b6 x1 x2 (nI (eN n k)) c = _
          unfold oc_OneTree_grow_b6
          rw [if_neg hbase, if_neg hne, f2]
          simp only [Option.bind_some]
          rw [if_neg (by decide), t1]
          simp only [Option.bind_some, ox_let, nI_1]
        rw [e1]
        refine ih (eN n k + 1) (by omega) c' (upT T k) pf' t2 (fun k' => ?_) ?_
        · rw [upT_iff, hT k', hup k']
          constructor
          · rintro (z | z)
            · exact Or.inl z
            · subst z; exact Or.inr ⟨hr, rfl⟩
          · rintro (z | ⟨_, z⟩)
            · exact Or.inl z
            · exact Or.inr z
        · have bk1 := hk.1
          have bk2 := hk.2
          by_cases z : k < 8
          · rw [(zc_add z hTk).1]
            have := (ft_z z).mp f1
            omega
          · rw [(tc_add (by omega) (by omega) hTk).2]
            exact hz
      · refine Or.inr ⟨c, ?_, h.1, ?_⟩
        · unfold oc_OneTree_grow_h6
          refine ox_w_inr ?_
          show oc_OneTree_grow_b6 x1 x2 (nI (eN n k)) c = _
          unfold oc_OneTree_grow_b6
          rw [if_neg hbase, if_neg hne, f2]
          rfl
        · have bk1 := hk.1
          have bk2 := hk.2
          by_cases z : k < 8
          · refine Or.inl ?_
            have h1 : ¬ zc T < 2 := fun q => f1 ((ft_z z).mpr q)
            have h2 : zc (upT T k) ≤ zc R := cn_k_mono 8 (fun v _ hv => by
              rcases upT_iff.mp hv with q | q
              · exact ((hT v).mp q).1
              · rw [q]; exact hr)
            rw [(zc_add z hTk).1] at h2
            omega
          · refine Or.inr (Or.inl ⟨k, by omega, hr, ?_⟩)
            have hp : pf (k / 8) = pf (k % 8) := Classical.byContradiction fun q => f1 ((ft_t (by omega)).mpr q)
            refine cn_up (js_up (fun g _ hg => ?_)) (h.2.2.2.2.2.2.2.2.1 (k / 8) (k % 8) (by omega) (by omega) hp)
            have := (hT g).mp hg
            exact ⟨this.1, fun q => by subst q; omega⟩
/-- the lightest -/
theorem pc_light (h8 : n ≤ 8) (hnum : rl_num n c0) {c : ox_S} {T : Nat → Bool} {pf : Nat → Nat} (h : KI n c0 c T pf) {x2 : Int32} {C : Nat → Prop} (hC : ∀ k, C k ↔ ed n k ∧ bt x2 (eN n k) = false ∧ ft T pf k) : ∀ r e, e + r = n * (n - 1) / 2 → ∀ x3, ((x3 = -1 ∧ ∀ k, C k → ¬ eN n k < e) ∨ ∃ k, x3 = nI (eN n k) ∧ C k ∧ eN n k < e ∧ ∀ k', C k' → eN n k' < e → k' ≠ k → elt (Wz c0) k k') → (oc_OneTree_lightest_h12 x2 x3 (nI e) c = some (-1) ∧ ∀ k, ¬ C k) ∨ ∃ k, oc_OneTree_lightest_h12 x2 x3 (nI e) c = some (nI (eN n k)) ∧ C k ∧ ∀ k', C k' → k' ≠ k → elt (Wz c0) k k' := by
  have hE := E_28 h8
  intro r
  induction r with
  | zero =>
    intro e he x3 hx
    have hfin : oc_OneTree_lightest_h12 x2 x3 (nI e) c = some x3 := by
      unfold oc_OneTree_lightest_h12
      refine ox_w_inr ?_
      show oc_OneTree_lightest_b12 x2 x3 (nI e) c = _
      unfold oc_OneTree_lightest_b12
      rw [(KI_num h hnum).1, if_pos (nI_le (by omega) (by omega))]
    rw [hfin]
    rcases hx with ⟨z1, z2⟩ | ⟨k, z1, z2, z3, z4⟩
    · exact Or.inl ⟨by rw [z1], fun k hk => z2 k hk (by have := eN_E h8 ((hC k).mp hk).1; omega)⟩
    · exact Or.inr ⟨k, by rw [z1], z2, fun k' hk' hne => z4 k' hk' (by have := eN_E h8 ((hC k').mp hk').1; omega) hne⟩
  | succ r ih =>
    intro e he x3 hx
    obtain ⟨k, hk, hke⟩ := eN_ex h8 (show e < n * (n - 1) / 2 by omega)
    subst hke
    have he28 := eN_28 h8 hk
    have hb := b_ask x2 (eN n k) (by omega)
    have hbase : ¬ c.1 11 ≤ nI (eN n k) := by rw [(KI_num h hnum).1]; exact nI_ge (by omega) (by omega)
    have hup : ∀ k', C k' → eN n k' < eN n k + 1 → eN n k' < eN n k ∨ k' = k := by
      intro k' h1 h2
      by_cases q : eN n k' = eN n k
      · exact Or.inr (eN_inj h8 ((hC k').mp h1).1 hk q)
      · exact Or.inl (by omega)
    have step : ∀ x3', oc_OneTree_lightest_b12 x2 x3 (nI (eN n k)) c = some (.inl (x3', nI (eN n k + 1))) → oc_OneTree_lightest_h12 x2 x3 (nI (eN n k)) c = oc_OneTree_lightest_h12 x2 x3' (nI (eN n k + 1)) c := by
      intro x3' q
      unfold oc_OneTree_lightest_h12
      exact ox_w_inl q
    have skip : ¬ C k → oc_OneTree_lightest_b12 x2 x3 (nI (eN n k)) c = some (.inl (x3, nI (eN n k + 1))) → (oc_OneTree_lightest_h12 x2 x3 (nI (eN n k)) c = some (-1) ∧ ∀ k, ¬ C k) ∨ ∃ k', oc_OneTree_lightest_h12 x2 x3 (nI (eN n k)) c = some (nI (eN n k')) ∧ C k' ∧ ∀ k'', C k'' → k'' ≠ k' → elt (Wz c0) k' k'' := by
      intro hnC hs
      rw [step x3 hs]
      refine ih (eN n k + 1) (by omega) x3 ?_
      rcases hx with ⟨z1, z2⟩ | ⟨k1, z1, z2, z3, z4⟩
      · refine Or.inl ⟨z1, fun k' hk' hl => ?_⟩
        rcases hup k' hk' hl with q | q
        · exact z2 k' hk' q
        · subst q; exact hnC hk'
      · refine Or.inr ⟨k1, z1, z2, by omega, fun k' hk' hl hne => ?_⟩
        rcases hup k' hk' hl with q | q
        · exact z4 k' hk' q hne
        · subst q; exact absurd hk' hnC
    cases hbt : bt x2 (eN n k) with
    | true =>
      refine skip (fun q => by have := ((hC k).mp q).2.1; rw [hbt] at this; cases this) ?_
      unfold oc_OneTree_lightest_b12 oc_OneTree_lightest_j47
      rw [if_neg hbase, if_neg (fun q => by rw [hb.mp q] at hbt; cases hbt), if_pos rfl]
      simp only [ox_let, nI_1]
    | false =>
      rcases pc_fits h8 hnum h hk with ⟨f1, f2⟩ | ⟨f1, f2⟩
      · have hCk : C k := (hC k).mpr ⟨hk, hbt, f1⟩
        have hb12 : oc_OneTree_lightest_b12 x2 x3 (nI (eN n k)) c = oc_OneTree_lightest_j47 x2 x3 (nI (eN n k)) 1 c := by
          unfold oc_OneTree_lightest_b12
          rw [if_neg hbase, if_pos (hb.mpr hbt), f2]
          simp only [Option.bind_some]
          rw [if_neg (by decide)]
        rcases hx with ⟨z1, z2⟩ | ⟨k1, z1, z2, z3, z4⟩
        · rw [step (nI (eN n k)) (by
            rw [hb12]
            unfold oc_OneTree_lightest_j47
            rw [if_neg (by decide), z1, if_pos (by decide)]
            simp only [ox_let, nI_1])]
          refine ih (eN n k + 1) (by omega) _ (Or.inr ⟨k, rfl, hCk, by omega, fun k' hk' hl hne => ?_⟩)
          rcases hup k' hk' hl with q | q
          · exact absurd q (z2 k' hk')
          · exact absurd q hne
        · have hk1 := ((hC k1).mp z2).1
          have hkk : k1 < k := (eN_mono h8 hk hk1).mp z3
          have w1 := pc_weigh h8 (KI_num h hnum) hk
          have w2 := pc_weigh h8 (KI_num h hnum) hk1
          rw [KI_w h] at w1 w2
          have hj : oc_OneTree_lightest_j47 x2 x3 (nI (eN n k)) 1 c = if wI c0 k1 ≤ wI c0 k then some (.inl (x3, nI (eN n k + 1))) else some (.inl (nI (eN n k), nI (eN n k + 1))) := by
            unfold oc_OneTree_lightest_j47
            rw [if_neg (by decide), z1, if_neg (nI_pos (by omega)), w1, w2]
            simp only [Option.bind_some, ox_let, nI_1]
          by_cases hle : wI c0 k1 ≤ wI c0 k
          · rw [step x3 (by rw [hb12, hj, if_pos hle])]
            refine ih (eN n k + 1) (by omega) _ (Or.inr ⟨k1, z1, z2, by omega, fun k' hk' hl hne => ?_⟩)
            rcases hup k' hk' hl with q | q
            · exact z4 k' hk' q hne
            · subst q
              have := Int32.le_iff_toInt_le.mp hle
              unfold elt Wz
              omega
          · rw [step (nI (eN n k)) (by rw [hb12, hj, if_neg hle])]
            have hlt : elt (Wz c0) k k1 := by
              have : ¬ (wI c0 k1).toInt ≤ (wI c0 k).toInt := fun q => hle (Int32.le_iff_toInt_le.mpr q)
              unfold elt Wz
              omega
            refine ih (eN n k + 1) (by omega) _ (Or.inr ⟨k, rfl, hCk, by omega, fun k' hk' hl hne => ?_⟩)
            rcases hup k' hk' hl with q | q
            · by_cases y : k' = k1
              · subst y; exact hlt
              · exact elt_tr hlt (z4 k' hk' q y)
            · exact absurd q hne
      · refine skip (fun q => f1 ((hC k).mp q).2.2) ?_
        unfold oc_OneTree_lightest_b12 oc_OneTree_lightest_j47
        rw [if_neg hbase, if_pos (hb.mpr hbt), f2]
        simp only [Option.bind_some]
        rw [if_pos trivial, if_pos trivial]
        simp only [ox_let, nI_1]
/-- one more -/
theorem KK_up (hAe : ∀ k, A k = true → ed n k) {c c' : ox_S} {T : Nat → Bool} {pf pf' : Nat → Nat} (h8 : n ≤ 8) (h : KK n c0 A R c T pf) {k : Nat} (hk : ed n k) (hA : A k = true) (hT : T k = false) (hf : ft T pf k) (hl : ∀ e, A e = true → T e = false → ft T pf e → e ≠ k → elt (Wz c0) k e) (hI : KI n c0 c' (upT T k) pf') (p1 : k < 8 → pf' = pf) (p2 : 8 ≤ k → pf' = cn_j pf (pf (k / 8)) (pf (k % 8))) : KK n c0 A R c' (upT T k) pf' := by
  obtain ⟨h1, h2, h3, h4, h5, h6, h7⟩ := h
  have b1 := hk.1
  have b2 := hk.2
  -- what fits afterwards did before
  have hback : ∀ e, ft (upT T k) pf' e → ft T pf e := by
    intro e he
    by_cases z : e < 8
    · rw [ft_z z] at he ⊢
      by_cases y : k < 8
      · rw [(zc_add y hT).1] at he; omega
      · rw [(tc_add (by omega) (by omega) hT).2] at he; exact he
    · rw [ft_t (by omega)] at he ⊢
      by_cases y : k < 8
      · rw [p1 y] at he; exact he
      · rw [p2 (by omega)] at he
        intro q
        exact he (by unfold cn_j; rw [q])
  refine ⟨hI, fun x hx => upT_iff.mpr (Or.inl (h2 x hx)), fun x hx => ?_, ?_, fun x e hx hr ha ht hfe => ?_, fun e he ha ht hp => ?_, fun e x he hx8 ha ht hx hr => ?_⟩
  · rcases upT_iff.mp hx with z | z
    · exact h3 x z
    · rw [z]; exact hA
  · by_cases z : k < 8
    · rw [(zc_add z hT).1]
      have := (ft_z z).mp hf
      omega
    · rw [(tc_add (by omega) (by omega) hT).2]
      exact h4
  · obtain ⟨t1, t2⟩ := upT_no.mp ht
    rcases upT_iff.mp hx with z | z
    · exact h5 x e z hr ha t1 (hback e hfe)
    · rw [z]; exact hl e ha t1 (hback e hfe) t2
  · obtain ⟨t1, t2⟩ := upT_no.mp ht
    by_cases z : pf (e / 8) = pf (e % 8)
    · refine cn_up (js_up (fun g _ hg => ?_)) (h6 e he ha t1 z)
      exact ⟨upT_iff.mpr (Or.inl hg.1), hg.2⟩
    · have hfe : ft T pf e := (ft_t he).mpr z
      have bb : e / 8 < 8 ∧ e % 8 < 8 := by
        refine ⟨?_, by omega⟩
        have := hAe e ha; unfold ed at this; omega
      refine cn_up (js_up (fun g _ hg => ⟨hg, ?_⟩)) (hI.2.2.2.2.2.2.2.2.1 (e / 8) (e % 8) bb.1 bb.2 hp)
      cases hr : R g with
      | true => exact Or.inl rfl
      | false =>
        right
        rcases upT_iff.mp hg with q | q
        · exact h5 g e q hr ha t1 hfe
        · rw [q]; exact hl e ha t1 hfe t2
  · obtain ⟨t1, t2⟩ := upT_no.mp ht
    rcases upT_iff.mp hx with z | z
    · exact h7 e x he hx8 ha t1 z hr
    · subst z
      exact hl e ha t1 ((ft_z he).mpr ((ft_z hx8).mp hf)) t2
end KR
