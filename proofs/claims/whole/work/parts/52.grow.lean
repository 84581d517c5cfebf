/-! the class's growing tree: taking, clearing, the lightest, all -/
theorem cn_k_no {p : Nat → Bool} : ∀ M, (∀ v, v < M → p v = false) → cn_k p M = 0
  | 0, _ => rfl
  | m + 1, h => by
    simp only [cn_k]
    rw [cn_k_no m (fun v hv => h v (by omega)), h m (by omega)]
    rfl
section GR
variable {n : Nat} {c0 : ox_S}
theorem pc_take (h8 : n ≤ 8) (hnum : rl_num n c0) {c : ox_S} {T : Nat → Bool} {pf : Nat → Nat} (h : KI n c0 c T pf) {k : Nat} (hk : ed n k) (hT : T k = false) (hf : ft T pf k) : ∃ c' pf', oc_OneTree_take (nI (eN n k)) c = some c' ∧ KI n c0 c' (upT T k) pf' ∧ (k < 8 → pf' = pf) ∧ (8 ≤ k → pf' = cn_j pf (pf (k / 8)) (pf (k % 8))) := by
  obtain ⟨q1, q2, _, _⟩ := (KI_num h hnum).2 (k / 8) (k % 8) hk.1 hk.2
  change c.2 8 (eN n k) = nI (k / 8) at q1
  change c.2 9 (eN n k) = nI (k % 8) at q2
  have hnumc := KI_num h hnum
  have hw := KI_w h k
  obtain ⟨g1, g2, g3, g4, g5, g6, g7, g8, g9, g10⟩ := h
  have b1 := hk.1
  have b2 := hk.2
  have he := eN_28 h8 hk
  -- the state before the joining
  obtain ⟨s, hs⟩ : ∃ s, s = ox_s2 (ox_s2 (ox_s1 (ox_s1 (ox_s1 c 14 (c.1 14 ||| ((1 : Int32) <<< (nI (eN n k) &&& 31)))) 15 (c.1 15 + 1)) 16 (c.1 16 + wI c k)) 12 (k / 8) (c.2 12 (k / 8) + 1)) 12 (k % 8) (c.2 12 (k % 8) + 1) := ⟨_, rfl⟩
  have s14 : s.1 14 = c.1 14 ||| ((1 : Int32) <<< (nI (eN n k) &&& 31)) := by rw [hs]; rfl
  have s15 : s.1 15 = c.1 15 + 1 := by rw [hs]; rfl
  have s16 : s.1 16 = c.1 16 + wI c k := by rw [hs]; rfl
  have s12 : ∀ x, s.2 12 x = if x = k % 8 then c.2 12 (k % 8) + 1 else if x = k / 8 then c.2 12 (k / 8) + 1 else c.2 12 x := by
    intro x
    rw [hs, s2_at, s2_at]
    by_cases z1 : x = k % 8
    · rw [if_pos ⟨rfl, z1⟩, if_pos z1]
    · rw [if_neg (fun q => z1 q.2), if_neg z1]
      by_cases z2 : x = k / 8
      · rw [if_pos ⟨rfl, z2⟩, if_pos z2]
      · rw [if_neg (fun q => z2 q.2), if_neg z2]
        rfl
  have s11 : s.2 11 = c.2 11 := by rw [hs]; rfl
  have sfr : fr [14, 15, 16] [11, 12] c s := by
    rw [hs]
    exact fr_tr (fr_tr (fr_tr (fr_tr (fr_s1 (by decide)) (fr_s1 (by decide))) (fr_s1 (by decide))) (fr_s2 (by decide))) (fr_s2 (by decide))
  have htk : oc_OneTree_take (nI (eN n k)) c = if nI (k / 8) = 0 then some s else (oc_OneTree_join (nI (pf (k / 8))) (nI (pf (k % 8))) s).bind fun s17 => some s17 := by
    unfold oc_OneTree_take
    simp only [ox_ix_nI he (show 28 < 2 ^ 31 by omega), ox_let, q1, q2]
    rw [pc_weigh h8 (c := ox_s1 (ox_s1 c 14 (c.1 14 ||| ((1 : Int32) <<< (nI (eN n k) &&& 31)))) 15 ((ox_s1 c 14 (c.1 14 ||| ((1 : Int32) <<< (nI (eN n k) &&& 31)))).1 15 + 1)) hnumc hk]
    simp only [Option.bind_some, ox_ix_nI (show k / 8 < 8 by omega) (show 8 < 2 ^ 31 by omega), ox_ix_nI (show k % 8 < 8 by omega) (show 8 < 2 ^ 31 by omega)]
    have e : ∀ x y, (ox_s2 (ox_s1 (ox_s1 (ox_s1 c 14 x) 15 (c.1 15 + 1)) 16 y) 12 (k / 8) (c.2 12 (k / 8) + 1)).2 12 (k % 8) = c.2 12 (k % 8) := by
      intro x y
      rw [s2_at, if_neg (fun q => by omega)]
      rfl
    have hss : ox_s2 (ox_s2 (ox_s1 (ox_s1 (ox_s1 c 14 (c.1 14 ||| ((1 : Int32) <<< (nI (eN n k) &&& 31)))) 15 (c.1 15 + 1)) 16 (c.1 16 + wI c k)) 12 (k / 8) (c.2 12 (k / 8) + 1)) 12 (k % 8) ((ox_s2 (ox_s1 (ox_s1 (ox_s1 c 14 (c.1 14 ||| ((1 : Int32) <<< (nI (eN n k) &&& 31)))) 15 (c.1 15 + 1)) 16 (c.1 16 + wI c k)) 12 (k / 8) (c.2 12 (k / 8) + 1)).2 12 (k % 8) + 1) = s := by
      rw [e, hs]
    have j1 : s.2 11 (k / 8) = nI (pf (k / 8)) := by rw [s11]; exact (g6 _ (by omega)).1
    have j2 : s.2 11 (k % 8) = nI (pf (k % 8)) := by rw [s11]; exact (g6 _ (by omega)).1
    rw [← j1, ← j2, ← hss]
    rfl
  -- what does not hang on the joining
  have n14 : ∀ k', ed n k' → bt (s.1 14) (eN n k') = upT T k k' := by
    intro k' hk'
    have he' := eN_28 h8 hk'
    rw [s14, b_set _ _ (by omega) (by omega), g3 k' hk']
    unfold upT
    congr 1
    by_cases z : k' = k
    · subst z; simp
    · rw [beq_eq_false_iff_ne.mpr z, decide_eq_false]
      exact fun q => z (eN_inj h8 hk' hk q)
  have n16 : s.1 16 = ws (wI c0) (upT T k) 64 := by rw [s16, g5, hw, ws_add hT 64 (by omega)]
  have n12 : ∀ i, i < 8 → s.2 12 i = nI (dg (upT T k) i) := by
    intro i hi
    rw [s12, dg_add (by omega) hT]
    by_cases z1 : i = k % 8
    · rw [if_pos z1, if_pos (Or.inr z1.symm), ← z1, g7 i hi, nI_1]
    · rw [if_neg z1]
      by_cases z2 : i = k / 8
      · rw [if_pos z2, if_pos (Or.inl z2.symm), ← z2, g7 i hi, nI_1]
      · rw [if_neg z2, if_neg (fun q => by omega), g7 i hi]
        rfl
  have nT : ∀ x, upT T k x = true → ed n x := fun x hx => by
    rcases upT_iff.mp hx with z | z
    · exact g2 x z
    · rw [z]; exact hk
  have hTT : ∀ a b, js (fun x => T x = true) a b → js (fun x => upT T k x = true) a b := js_up (fun x _ hx => upT_iff.mpr (Or.inl hx))
  by_cases z : k < 8
  · obtain ⟨z1, z2⟩ := zc_add z hT
    refine ⟨s, pf, ?_, ⟨fr_tr g1 sfr, nT, n14, ?_, n16, fun i hi => by rw [s11]; exact g6 i hi, n12, fun x hx hx2 => ?_, fun u v hu hv he => cn_up hTT (g9 u v hu hv he), ?_⟩, fun _ => rfl, fun q => by omega⟩
    · rw [htk, if_pos (show nI (k / 8) = 0 by rw [show k / 8 = 0 by omega]; rfl)]
    · rw [s15, g4, nI_1, z1, z2]
      congr 1
      omega
    · rcases upT_iff.mp hx2 with q | q
      · exact g8 x hx q
      · omega
    · rw [z2]; exact g10
  · obtain ⟨z1, z2⟩ := tc_add (show 8 ≤ k by omega) (show k < 64 by omega) hT
    have hne : pf (k / 8) ≠ pf (k % 8) := (ft_t (by omega)).mp hf
    have l1 := (g6 (k / 8) (by omega)).2
    have l2 := (g6 (k % 8) (by omega)).2
    obtain ⟨s', a1, a2, a3⟩ := pc_join (pf := pf) (a := pf (k / 8)) l2 (σ := s) (fun x hx => (g6 x hx).2) (fun x hx => by rw [s11]; exact (g6 x hx).1)
    have a1' := fun m hm => a2.1 m hm
    refine ⟨s', cn_j pf (pf (k / 8)) (pf (k % 8)), ?_, ⟨fr_tr (fr_tr g1 sfr) (fr_up a2 (fun _ h => by cases h) (fun x hx => by simp at hx ⊢; exact Or.inl hx)), nT, fun k' hk' => ?_, ?_, ?_, fun i hi => ⟨a3 i hi, ?_⟩, fun i hi => ?_, fun x hx hx2 => ?_, fun u v hu hv huv => ?_, ?_⟩, fun q => by omega, fun _ => rfl⟩
    · rw [htk, if_neg (nI_ne0 (by omega) (by omega)), a1]
      rfl
    · rw [a2.1 14 (by decide)]; exact n14 k' hk'
    · rw [a2.1 15 (by decide), s15, g4, nI_1, z1, z2]
      congr 1
    · rw [a2.1 16 (by decide)]; exact n16
    · unfold cn_j
      split
      · exact l1
      · exact (g6 i hi).2
    · rw [a2.2 12 (by decide)]; exact n12 i hi
    · rcases upT_iff.mp hx2 with q | q
      · unfold cn_j
        rw [g8 x hx q]
      · subst q
        unfold cn_j
        rw [if_neg hne, if_pos rfl]
    · have old := fun hh => cn_up hTT (g9 u v hu hv hh)
      have hnew : cn_c (js (fun x => upT T k x = true)) (k / 8) (k % 8) := cn_e ⟨k, by omega, upT_iff.mpr (Or.inr rfl), rfl, rfl⟩
      unfold cn_j at huv
      by_cases y1 : pf u = pf (k % 8)
      · by_cases y2 : pf v = pf (k % 8)
        · exact old (y1.trans y2.symm)
        · rw [if_pos y1, if_neg y2] at huv
          exact cn_tr (cn_up hTT (g9 u (k % 8) hu (by omega) y1)) (cn_tr (cn_sy hnew) (cn_up hTT (g9 (k / 8) v (by omega) hv huv)))
      · by_cases y2 : pf v = pf (k % 8)
        · rw [if_neg y1, if_pos y2] at huv
          exact cn_tr (cn_up hTT (g9 u (k / 8) hu (by omega) huv)) (cn_tr hnew (cn_up hTT (g9 (k % 8) v (by omega) hv y2.symm)))
        · rw [if_neg y1, if_neg y2] at huv
          exact old huv
    · have := cn_j_cut (lo := 1) (hi := n) (M := 8) (f := pf) l2 hne ⟨k / 8, by omega, by omega, rfl⟩ ⟨k % 8, by omega, by omega, rfl⟩
      rw [z1]
      omega
theorem pc_clearL : ∀ r i, i + r = 8 → ∀ σ : ox_S, (∀ x, x < i → σ.2 11 x = nI x ∧ σ.2 12 x = nI 0) → ∃ σ', oc_OneTree_clear_h17 (nI i) σ = some σ' ∧ fr [] [11, 12] σ σ' ∧ ∀ x, x < 8 → σ'.2 11 x = nI x ∧ σ'.2 12 x = nI 0 := by
  intro r
  induction r with
  | zero =>
    intro i hi σ h
    refine ⟨σ, ?_, fr_rf, fun x hx => h x (by omega)⟩
    unfold oc_OneTree_clear_h17
    refine ox_w_inr ?_
    show oc_OneTree_clear_b17 (nI i) σ = _
    unfold oc_OneTree_clear_b17
    rw [show (8 : Int32) = nI 8 from rfl, if_pos (nI_le (by omega) (by omega))]
  | succ r ih =>
    intro i hi σ h
    obtain ⟨σ', a1, a2, a3⟩ := ih (i + 1) (by omega) (ox_s2 (ox_s2 σ 11 i (nI i)) 12 i (nI 0)) (fun x hx => by
      rw [s2_at, s2_at, s2_at, s2_at, if_neg (fun q => by omega)]
      by_cases z : x = i
      · subst z
        rw [if_pos ⟨rfl, rfl⟩, if_pos ⟨rfl, rfl⟩]
        exact ⟨rfl, rfl⟩
      · rw [if_neg (fun q => z q.2), if_neg (fun q => z q.2), if_neg (fun q => by omega)]
        exact h x (by omega))
    refine ⟨σ', ?_, fr_tr (fr_tr (fr_s2 (by decide)) (fr_s2 (by decide))) a2, a3⟩
    rw [← a1]
    unfold oc_OneTree_clear_h17
    refine ox_w_inl ?_
    show oc_OneTree_clear_b17 (nI i) σ = _
    unfold oc_OneTree_clear_b17
    rw [show (8 : Int32) = nI 8 from rfl, if_neg (nI_ge (by omega) (by omega))]
    simp only [ox_let, nI_1, ox_ix_nI (show i < 8 by omega) (show 8 < 2 ^ 31 by omega)]
    rfl
theorem pc_clear (h8 : n ≤ 8) : ∃ c, oc_OneTree_clear c0 = some c ∧ KI n c0 c (fun _ => false) (fun i => i) := by
  obtain ⟨c, a1, a2, a3⟩ := pc_clearL 8 0 (by omega) (ox_s1 (ox_s1 (ox_s1 c0 14 0) 15 0) 16 0) (fun x hx => by omega)
  have w0 : ∀ M, ws (wI c0) (fun _ => false) M = 0 := fun M => by
    induction M with
    | zero => rfl
    | succ m ih => simp only [ws, ih]; rfl
  refine ⟨c, a1, fr_tr (fr_tr (fr_tr (fr_s1 (by decide)) (fr_s1 (by decide))) (fr_s1 (by decide))) (fr_up a2 (fun _ h => by cases h) (fun _ h => h)), (fun k hk => by cases hk), fun k hk => ?_, ?_, ?_, fun i hi => ⟨(a3 i hi).1, hi⟩, fun i hi => ?_, (fun k _ hk => by cases hk), fun u v _ _ e => by subst e; exact cn_rf, ?_⟩
  · rw [a2.1 14 (by decide)]
    exact b_0 _
  · rw [a2.1 15 (by decide)]
    unfold zc tc
    rw [cn_k_no 8 (fun _ _ => rfl), cn_k_no 64 (fun _ _ => by simp)]
    rfl
  · rw [a2.1 16 (by decide), w0]
    rfl
  · rw [(a3 i hi).2]
    unfold dg
    rw [cn_k_no 64 (fun _ _ => by simp)]
  · rw [cn_id n h8]
    unfold tc
    rw [cn_k_no 64 (fun _ _ => by simp)]
    rfl
end GR
