theorem ox_b2_s {α β ρ : Type} (a : α) (b : β) (k : α → β → Option ρ) : ox_b2 (some (a, b)) k = k a b := rfl
theorem bnd_ne {n : Nat} {c c' : ox_S} {T : Nat → Bool} {pf : Nat → Nat} (h3 : 3 ≤ n) (h8 : n ≤ 8) (hK : KI n c c' T pf) (hz : zc T = 2) (ht : tc T = n - 2) (hj : jn n (fun k => T k = true)) (hd : ∀ k, ed n k → ∃ D, D ≤ 9999 ∧ c.2 6 k = nI D) (hp : ∀ i, i < n → (-100000 : Int32) ≤ c.2 10 i ∧ c.2 10 i ≤ 100000) : ¬ ws (wI c) T 64 - 2 * ps (c.2 10) n = -2000000 := by
  have hT := hK.2.1
  have hp' : ∀ i, i < n → -100000 ≤ (c.2 10 i).toInt ∧ (c.2 10 i).toInt ≤ 100000 := fun i hi => ⟨Int32.le_iff_toInt_le.mp (hp i hi).1, Int32.le_iff_toInt_le.mp (hp i hi).2⟩
  -- weights
  have hw : ∀ k, T k = true → (wI c k).toInt ≤ 300000 ∧ (c.2 10 (k / 8)).toInt + (c.2 10 (k % 8)).toInt ≤ (wI c k).toInt := by
    intro k hk
    have he := hT k hk
    obtain ⟨D, d1, d2⟩ := hd k he
    have b1 := he.1
    have b2 := he.2
    obtain ⟨p1, p2⟩ := hp' (k / 8) (by omega)
    obtain ⟨p3, p4⟩ := hp' (k % 8) b2
    have e1 : (nI D).toInt = (D : Int) := nI_toInt (by omega)
    have e2 : (nI D + c.2 10 (k / 8)).toInt = D + (c.2 10 (k / 8)).toInt := by rw [z_add (by rw [e1]; omega) (by rw [e1]; omega), e1]
    have e3 : (wI c k).toInt = D + (c.2 10 (k / 8)).toInt + (c.2 10 (k % 8)).toInt := by
      unfold wI
      rw [d2, z_add (by rw [e2]; omega) (by rw [e2]; omega), e2]
    rw [e3]
    omega
  have hw2 : ∀ k, T k = true → -300000 ≤ (wI c k).toInt := fun k hk => by
    have he := hT k hk
    have b1 := he.1
    have b2 := he.2
    have := (hw k hk).2
    have := hp' (k / 8) (by omega)
    have := hp' (k % 8) b2
    omega
  have hws : ∀ M : Nat, M ≤ 64 → (ws (wI c) T M).toInt = wsZ (fun k => (wI c k).toInt) T M ∧ -300000 * (M : Int) ≤ wsZ (fun k => (wI c k).toInt) T M ∧ wsZ (fun k => (wI c k).toInt) T M ≤ 300000 * (M : Int) := by
    intro M
    induction M with
    | zero => intro _; exact ⟨rfl, by simp [wsZ], by simp [wsZ]⟩
    | succ M ih =>
      intro hM
      obtain ⟨i1, i2, i3⟩ := ih (by omega)
      simp only [ws, wsZ]
      cases q : T M with
      | false =>
        simp only [Bool.false_eq_true, if_false]
        rw [Int32.add_zero, Int.add_zero]
        refine ⟨i1, ?_, ?_⟩ <;> omega
      | true =>
        have a1 := (hw M q).1
        have a2 := hw2 M q
        simp only [if_true]
        rw [z_add (by rw [i1]; omega) (by rw [i1]; omega), i1]
        refine ⟨rfl, ?_, ?_⟩ <;> omega
  have hps : ∀ M : Nat, M ≤ n → (ps (c.2 10) M).toInt = psZ (fun i => (c.2 10 i).toInt) M ∧ -100000 * (M : Int) ≤ psZ (fun i => (c.2 10 i).toInt) M ∧ psZ (fun i => (c.2 10 i).toInt) M ≤ 100000 * (M : Int) := by
    intro M
    induction M with
    | zero => intro _; exact ⟨rfl, by simp [psZ], by simp [psZ]⟩
    | succ M ih =>
      intro hM
      obtain ⟨i1, i2, i3⟩ := ih (by omega)
      obtain ⟨p1, p2⟩ := hp' M (by omega)
      simp only [ps, psZ]
      rw [z_add (by rw [i1]; omega) (by rw [i1]; omega), i1]
      refine ⟨rfl, ?_, ?_⟩ <;> omega
  -- the sum over cities
  have hlow : ∀ M : Nat, wsZ (fun k => ((c.2 10 (k / 8)).toInt + 100000) + ((c.2 10 (k % 8)).toInt + 100000)) T M - 200000 * (cn_k T M : Int) ≤ wsZ (fun k => (wI c k).toInt) T M := by
    intro M
    induction M with
    | zero => simp [wsZ, cn_k]
    | succ M ih =>
      simp only [wsZ, cn_k]
      cases q : T M with
      | false =>
        simp only [Bool.false_eq_true, if_false]
        rw [Int.add_zero, Int.add_zero, Nat.add_zero]
        exact ih
      | true =>
        have := (hw M q).2
        simp only [if_true]
        rw [Int.natCast_add]
        omega
  have hsum := wsZ_dg hT (fun i => (c.2 10 i).toInt + 100000) 64
  have hge : psZ (fun i => (c.2 10 i).toInt + 100000) n ≤ psZ (fun i => (dg T i : Int) * ((c.2 10 i).toInt + 100000)) n := psZ_mono n (fun i hi => by
    have h1 := dg_pos h3 h8 hT hz hj hi
    have h2 := (hp' i hi).1
    have := Int.mul_le_mul_of_nonneg_right (a := 1) (b := (dg T i : Int)) (c := (c.2 10 i).toInt + 100000) (by omega) (by omega)
    rw [Int.one_mul] at this
    exact this)
  have hconst : ∀ M : Nat, psZ (fun i => (c.2 10 i).toInt + 100000) M = psZ (fun i => (c.2 10 i).toInt) M + 100000 * (M : Int) := by
    intro M
    induction M with
    | zero => simp [psZ]
    | succ M ih => simp only [psZ]; rw [ih]; omega
  have hcnt := cn_zt hT
  have l64 := hlow 64
  obtain ⟨w1, w2, w3⟩ := hws 64 (Nat.le_refl _)
  obtain ⟨s1, s2, s3⟩ := hps n (Nat.le_refl _)
  have hc2 := hconst n
  have hsum' : wsZ (fun k => ((c.2 10 (k / 8)).toInt + 100000) + ((c.2 10 (k % 8)).toInt + 100000)) T 64 = psZ (fun i => (dg T i : Int) * ((c.2 10 i).toInt + 100000)) n := hsum
  intro heq
  have h2p : (2 * ps (c.2 10) n).toInt = 2 * psZ (fun i => (c.2 10 i).toInt) n := by
    rw [show 2 * ps (c.2 10) n = ps (c.2 10) n + ps (c.2 10) n by grind, z_add (by rw [s1]; omega) (by rw [s1]; omega), s1]
    omega
  have hV : (ws (wI c) T 64 - 2 * ps (c.2 10) n).toInt = wsZ (fun k => (wI c k).toInt) T 64 - 2 * psZ (fun i => (c.2 10 i).toInt) n := by
    rw [z_sub (by rw [w1, h2p]; omega) (by rw [w1, h2p]; omega), w1, h2p]
  rw [heq, show (-2000000 : Int32).toInt = -2000000 by decide] at hV
  omega
theorem pk_tree2 {n : Nat} {c m0 m' : ox_S} {x1 x2 r : Int32} (h3 : 3 ≤ n) (h8 : n ≤ 8) (hl : lnd n c m0) (hr : rul n x1 x2 m0) (hf : fr [] [10, 12] m0 m') (ht : om_Mo_tree m0 = some (r, m')) : ∃ m'', om_Mo_tree m' = some (r, m'') ∧ fr [] [10, 12] m' m'' := by
  have hl' : lnd n c m' := lnd_m hf (by decide) (by decide) hl
  have hr' : rul n x1 x2 m' := fun k hk => by rw [hf.2 11 (by decide)]; exact hr k hk
  rcases pk_tree h3 h8 hl hr with ⟨c1, m1, T, pf, g1, g2, _⟩ | ⟨c1, m1, g1, g2, _, _⟩
  · rw [ht] at g2
    have e : r = 1 := congrArg Prod.fst (Option.some.inj g2)
    rcases pk_tree h3 h8 hl' hr' with ⟨c2, m2, T2, pf2, k1, k2, _, k4, _⟩ | ⟨c2, m2, k1, k2, _, _⟩
    · exact ⟨m2, by rw [e]; exact k2, k4.1⟩
    · rw [g1] at k1
      have := congrArg Prod.fst (Option.some.inj k1)
      exact absurd (show (1 : Int32) = 0 from this) (by decide)
  · rw [ht] at g2
    have e : r = 0 := congrArg Prod.fst (Option.some.inj g2)
    rcases pk_tree h3 h8 hl' hr' with ⟨c2, m2, T2, pf2, k1, k2, _, k4, _⟩ | ⟨c2, m2, k1, k2, _, k4⟩
    · rw [g1] at k1
      have := congrArg Prod.fst (Option.some.inj k1)
      exact absurd (show (0 : Int32) = 1 from this) (by decide)
    · exact ⟨m2, by rw [e]; exact k2, k4⟩
theorem pk_provesL {K : Nat} (hK : K ≤ 10) (x1 : Int32) : ∀ r k, k + r = K → ∀ c m, Rl c m → c.1 19 = nI K → m.1 3 = nI K → ∃ (v : Int32) (c' m' : ox_S), oc_T_proves_h11 x1 (nI k) c = some (v, c') ∧ om_Mo_proves_h7 x1 (1 : Int32) (nI k) m = some (v, m') ∧ Rl c' m' := by
  intro r
  induction r with
  | zero =>
    intro k hk c m hR h19 hm3
    refine ⟨1, c, m, ?_, ?_, hR⟩
    · unfold oc_T_proves_h11
      refine ox_w_inr ?_
      show oc_T_proves_b11 x1 (nI k) c = _
      unfold oc_T_proves_b11
      rw [h19, if_pos (nI_le (by omega) (by omega))]
    · unfold om_Mo_proves_h7
      refine ox_w_inr ?_
      show om_Mo_proves_b7 x1 (1 : Int32) (nI k) m = _
      unfold om_Mo_proves_b7
      rw [hm3, if_pos (nI_le (by omega) (by omega))]
      rfl
  | succ r ih =>
    intro k hk c m hR h19 hm3
    have hkK : k < K := by omega
    obtain ⟨ht, n, d, hall⟩ := id hR
    obtain ⟨hl, hd, hp, h4, h5, h6, h7, K', k1, k2, k3, k4, k5⟩ := id hall
    have hKK : K' = K := by
      rw [h19] at k2
      exact ((nI_eq (by omega) (by omega)).mp k2).symm
    subst hKK
    have hn3 : 3 ≤ n ∧ n ≤ 8 := hl.1.resolve_left (fun z => by have := k4 z; omega)
    obtain ⟨q1, q2, q3, q4⟩ := k5 k hkK
    obtain ⟨c', m0, m', l1, l2, f1, f2, f3, hb⟩ := pk_case hn3.1 hn3.2 hall k1 k2 k3 hkK q1 q2 q3
    have hcb : ∀ v, oc_T_caseBound (nI k) c = some (v, c') → oc_T_proves_b11 x1 (nI k) c = if v = (-2000000 : Int32) then some (.inl (nI (k + 1), c')) else if x1 ≤ v then some (.inl (nI (k + 1), c')) else some (.inr ((0 : Int32), c')) := by
      intro v hv
      unfold oc_T_proves_b11
      rw [h19, if_neg (nI_ge hkK (by omega)), hv]
      show (if v = (-2000000 : Int32) then _ else _) = _
      simp only [ox_let, nI_1]
    have hmb : ∀ v r5 m2, om_Mo_caseBound (nI k) m = some (v, m') → om_Mo_tree m' = some (r5, m2) → om_Mo_proves_b7 x1 (1 : Int32) (nI k) m = if r5 = 0 then some (.inl ((1 : Int32), nI (k + 1), m2)) else if v < x1 then some (.inl ((0 : Int32), nI (k + 1), m2)) else some (.inl ((1 : Int32), nI (k + 1), m2)) := by
      intro v r5 m2 hv h2
      unfold om_Mo_proves_b7
      rw [hm3, if_neg (nI_ge hkK (by omega)), if_neg (by decide), hv]
      rw [ox_b2_s, h2, ox_b2_s]
      simp only [ox_let, nI_1]
    have go : ∀ m2, Rl c' m2 → fr [] [10, 12] m' m2 → oc_T_proves_b11 x1 (nI k) c = some (.inl (nI (k + 1), c')) → om_Mo_proves_b7 x1 (1 : Int32) (nI k) m = some (.inl ((1 : Int32), nI (k + 1), m2)) → ∃ (v : Int32) (c' m' : ox_S), oc_T_proves_h11 x1 (nI k) c = some (v, c') ∧ om_Mo_proves_h7 x1 (1 : Int32) (nI k) m = some (v, m') ∧ Rl c' m' := by
      intro m2 hR2 hf2 e1 e2
      obtain ⟨v, c3, m3, a1, a2, a3⟩ := ih (k + 1) (by omega) c' m2 hR2 (by rw [f1.1 19 (by decide)]; exact h19) (by rw [hf2.1 3 (by decide), f2.1 3 (by decide)]; exact hm3)
      refine ⟨v, c3, m3, ?_, ?_, a3⟩
      · rw [← a1]
        unfold oc_T_proves_h11
        exact ox_w_inl e1
      · rw [← a2]
        unfold om_Mo_proves_h7
        exact ox_w_inl e2
    have hRm : ∀ m2, fr [] [10, 12] m' m2 → Rl c' m2 := fun m2 hf => Rl_m hf (by decide) (by decide) (Rl_tree hR f1 f2)
    rcases hb with ⟨T, pf, g1, g2, g3, g4, g5, b1, b2⟩ | ⟨g5, b1, b2⟩
    · obtain ⟨m2, t1, t2⟩ := pk_tree2 hn3.1 hn3.2 l1 l2 f3 g5
      have hne := bnd_ne hn3.1 hn3.2 g1 g2 g3 g4 (fun x hx => by
        obtain ⟨a, _, _, b, _⟩ := hd (x / 8) (x % 8) (by have := hx.1; have := hx.2; omega) hx.2
        rw [show 8 * (x / 8) + x % 8 = x by omega] at a
        exact ⟨_, b, a⟩) (fun i hi => (hp i hi).2)
      have hc := hcb _ b1
      have hm := hmb _ _ _ b2 t1
      rw [if_neg hne] at hc
      rw [if_neg (by decide)] at hm
      by_cases z : x1 ≤ ws (wI c) T 64 - 2 * ps (c.2 10) n
      · rw [if_pos z] at hc
        rw [if_neg (Int32.not_lt.mpr z)] at hm
        exact go m2 (hRm m2 t2) t2 hc hm
      · rw [if_neg z] at hc
        rw [if_pos (Int32.not_le.mp z)] at hm
        refine ⟨0, c', m2, ?_, ?_, hRm m2 t2⟩
        · unfold oc_T_proves_h11
          exact ox_w_inr hc
        · have e1 : om_Mo_proves_h7 x1 (1 : Int32) (nI k) m = om_Mo_proves_h7 x1 (0 : Int32) (nI (k + 1)) m2 := by
            unfold om_Mo_proves_h7
            exact ox_w_inl hm
          rw [e1]
          unfold om_Mo_proves_h7
          refine ox_w_inr ?_
          show om_Mo_proves_b7 x1 (0 : Int32) (nI (k + 1)) m2 = _
          unfold om_Mo_proves_b7
          split
          · rfl
          · rfl
    · obtain ⟨m2, t1, t2⟩ := pk_tree2 hn3.1 hn3.2 l1 l2 f3 g5
      have hc := hcb _ b1
      have hm := hmb _ _ _ b2 t1
      rw [if_pos rfl] at hc hm
      exact go m2 (hRm m2 t2) t2 hc hm
theorem os_proves : ol_s_proves Rl := by
  intro c m x1 hR
  obtain ⟨b, m1, h1, h2, h3⟩ := os_coversB c m hR
  cases b with
  | false =>
    refine ⟨0, c, m1, ?_, ?_, h3⟩
    · unfold oc_T_proves
      rw [h1]
      rfl
    · unfold om_Mo_proves
      rw [h2]
      show om_Mo_proves_h7 x1 (0 : Int32) (0 : Int32) m1 = _
      unfold om_Mo_proves_h7
      refine ox_w_inr ?_
      show om_Mo_proves_b7 x1 (0 : Int32) (0 : Int32) m1 = _
      unfold om_Mo_proves_b7
      split
      · rfl
      · rfl
  | true =>
    obtain ⟨ht, n, d, hall⟩ := id h3
    obtain ⟨_, _, _, _, _, _, _, K, k1, k2, k3, _⟩ := hall
    obtain ⟨v, c', m', a1, a2, a3⟩ := pk_provesL k1 x1 K 0 (by omega) c m1 h3 k2 k3
    refine ⟨v, c', m', ?_, ?_, a3⟩
    · unfold oc_T_proves
      rw [h1]
      exact a1
    · unfold om_Mo_proves
      rw [h2]
      exact a2
