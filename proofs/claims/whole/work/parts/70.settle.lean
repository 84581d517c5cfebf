/-! load, the class's end: edges' numbers, the list of tours -/
def nmk (n : Nat) (K : Nat) (σ : ox_S) : Prop := ∀ i j, i < j → j < n → 8 * i + j < K → σ.2 8 (en n i j) = nI i ∧ σ.2 9 (en n i j) = nI j ∧ σ.2 7 (8 * i + j) = nI (en n i j) ∧ σ.2 7 (8 * j + i) = nI (en n i j)
theorem pc_numJ {n : Nat} (h8 : n ≤ 8) {i : Nat} : ∀ r j, j + r = n → i < j → ∀ σ : ox_S, σ.1 10 = nI n → σ.1 11 = nI (en n i j) → nmk n (8 * i + j) σ → ∃ σ', oc_Land_numberEdges_h19 (nI i) (nI j) σ = some (.inl (nI (i + 1), σ')) ∧ fr [11] [7, 8, 9] σ σ' ∧ σ'.1 11 = nI (en n i n) ∧ nmk n (8 * i + n) σ' := by
  intro r
  induction r with
  | zero =>
    intro j hj hij σ hn h11 hk
    have e : j = n := by omega
    subst e
    refine ⟨σ, ?_, fr_rf, h11, hk⟩
    unfold oc_Land_numberEdges_h19
    refine ox_w_inr ?_
    show oc_Land_numberEdges_b19 (nI i) (nI j) σ = _
    unfold oc_Land_numberEdges_b19
    rw [hn, if_pos (nI_le (Nat.le_refl _) (by omega))]
    simp only [ox_let, nI_1]
  | succ r ih =>
    intro j hj hij σ hn h11 hk
    have hj2 : j < n := by omega
    have he := en_28 h8 hj2 hij
    obtain ⟨s, hs⟩ : ∃ s, s = ox_s1 (ox_s2 (ox_s2 (ox_s2 (ox_s2 σ 8 (en n i j) (nI i)) 9 (en n i j) (nI j)) 7 (8 * i + j) (nI (en n i j))) 7 (8 * j + i) (nI (en n i j))) 11 (nI (en n i j + 1)) := ⟨_, rfl⟩
    have f1 : fr [11] [7, 8, 9] σ s := by
      rw [hs]
      exact fr_tr (fr_tr (fr_tr (fr_tr (fr_s2 (by decide)) (fr_s2 (by decide))) (fr_s2 (by decide))) (fr_s2 (by decide))) (fr_s1 (by decide))
    have a8 : ∀ x, s.2 8 x = if x = en n i j then nI i else σ.2 8 x := by
      intro x
      rw [hs, s1_2, s2_at, if_neg (fun q => by omega), s2_at, if_neg (fun q => by omega), s2_at, if_neg (fun q => by omega), s2_at]
      by_cases z : x = en n i j
      · rw [if_pos ⟨rfl, z⟩, if_pos z]
      · rw [if_neg (fun q => z q.2), if_neg z]
    have a9 : ∀ x, s.2 9 x = if x = en n i j then nI j else σ.2 9 x := by
      intro x
      rw [hs, s1_2, s2_at, if_neg (fun q => by omega), s2_at, if_neg (fun q => by omega), s2_at]
      by_cases z : x = en n i j
      · rw [if_pos ⟨rfl, z⟩, if_pos z]
      · rw [if_neg (fun q => z q.2), if_neg z, s2_at, if_neg (fun q => by omega)]
    have a7 : ∀ x, s.2 7 x = if x = 8 * j + i then nI (en n i j) else if x = 8 * i + j then nI (en n i j) else σ.2 7 x := by
      intro x
      rw [hs, s1_2, s2_at]
      by_cases z : x = 8 * j + i
      · rw [if_pos ⟨rfl, z⟩, if_pos z]
      · rw [if_neg (fun q => z q.2), if_neg z, s2_at]
        by_cases y : x = 8 * i + j
        · rw [if_pos ⟨rfl, y⟩, if_pos y]
        · rw [if_neg (fun q => y q.2), if_neg y, s2_at, if_neg (fun q => by omega), s2_at, if_neg (fun q => by omega)]
    have hb : oc_Land_numberEdges_b19 (nI i) (nI j) σ = some (.inl (nI (j + 1), s)) := by
      unfold oc_Land_numberEdges_b19
      rw [hn, if_neg (nI_ge hj2 (by omega)), h11, ox_ix_nI he (by omega)]
      simp only [ox_let]
      rw [show (ox_s2 σ 8 (en n i j) (nI i)).1 11 = nI (en n i j) from h11, ox_ix_nI he (by omega), p_8', ox_ix_nI (show 8 * i + j < 64 by omega) (by omega), p_8', ox_ix_nI (show 8 * j + i < 64 by omega) (by omega), nI_1]
      rw [hs]
      simp only [s2_1, h11, nI_1]
    obtain ⟨σ', b1, b2, b3, b4⟩ := ih (j + 1) (by omega) (by omega) s (by rw [f1.1 10 (by decide)]; exact hn) (by rw [hs, en_sx hij |>.symm]; rfl) (fun i' j' h1 h2 h3 => by
      rw [a8, a9, a7, a7]
      by_cases z : 8 * i' + j' = 8 * i + j
      · have e1 : i' = i := by omega
        have e2 : j' = j := by omega
        subst e1; subst e2
        rw [if_pos rfl, if_pos rfl, if_neg (show ¬ 8 * i' + j' = 8 * j' + i' by omega), if_pos rfl, if_pos rfl]
        exact ⟨rfl, rfl, rfl, rfl⟩
      · have hne : ¬ en n i' j' = en n i j := fun q => by
          have := en_inj h8 h2 h1 hj2 hij q
          omega
        rw [if_neg hne, if_neg hne, if_neg (show ¬ 8 * i' + j' = 8 * j + i by omega), if_neg z, if_neg (show ¬ 8 * j' + i' = 8 * j + i by omega), if_neg (show ¬ 8 * j' + i' = 8 * i + j by omega)]
        exact hk i' j' h1 h2 (by omega))
    refine ⟨σ', ?_, fr_tr f1 b2, b3, b4⟩
    rw [← b1]
    unfold oc_Land_numberEdges_h19
    exact ox_w_inl hb
theorem pc_numI {n : Nat} (h8 : n ≤ 8) : ∀ r i, i + r = n → ∀ σ : ox_S, σ.1 10 = nI n → σ.1 11 = nI (en n i (i + 1)) → nmk n (8 * i + (i + 1)) σ → ∃ σ', oc_Land_numberEdges_h7 (nI i) σ = some σ' ∧ fr [11] [7, 8, 9] σ σ' ∧ σ'.1 11 = nI (en n n (n + 1)) ∧ nmk n (8 * n + (n + 1)) σ' := by
  intro r
  induction r with
  | zero =>
    intro i hi σ hn h11 hk
    have e : i = n := by omega
    subst e
    refine ⟨σ, ?_, fr_rf, h11, hk⟩
    unfold oc_Land_numberEdges_h7
    refine ox_w_inr ?_
    show oc_Land_numberEdges_b7 (nI i) σ = _
    unfold oc_Land_numberEdges_b7
    rw [hn, if_pos (nI_le (Nat.le_refl _) (by omega))]
  | succ r ih =>
    intro i hi σ hn h11 hk
    have hi2 : i < n := by omega
    obtain ⟨σ1, a1, a2, a3, a4⟩ := pc_numJ h8 (n - (i + 1)) (i + 1) (by omega) (by omega) σ hn h11 hk
    obtain ⟨σ2, b1, b2, b3⟩ := ih (i + 1) (by omega) σ1 (by rw [a2.1 10 (by decide)]; exact hn) (by rw [a3, en_up n h8 i hi2]) (fun i' j' h1 h2 h3 => a4 i' j' h1 h2 (by omega))
    refine ⟨σ2, ?_, fr_tr a2 b2, b3⟩
    rw [← b1]
    unfold oc_Land_numberEdges_h7
    refine ox_w_inl ?_
    show oc_Land_numberEdges_b7 (nI i) σ = _
    unfold oc_Land_numberEdges_b7
    rw [hn, if_neg (nI_ge hi2 (by omega))]
    simp only [ox_let, nI_1]
    exact a1
theorem en_all : ∀ n, n ≤ 8 → en n n (n + 1) = n * (n - 1) / 2 := by decide +kernel
theorem pc_number {n : Nat} (h8 : n ≤ 8) {σ : ox_S} (hn : σ.1 10 = nI n) : ∃ σ', oc_Land_numberEdges σ = some σ' ∧ fr [11] [7, 8, 9] σ σ' ∧ rl_num n σ' := by
  have e0 : en n 0 (0 + 1) = 0 := by unfold en; simp
  obtain ⟨σ', a1, a2, a3, a4⟩ := pc_numI h8 n 0 (by omega) (ox_s1 σ 11 0) hn (by rw [e0]; rfl) (fun i j h1 h2 h3 => by omega)
  refine ⟨σ', a1, fr_tr (fr_s1 (by decide)) a2, by rw [a3, en_all n h8], fun i j h1 h2 => a4 i j h1 h2 (by omega)⟩
/-- one tour more -/
theorem pc_apL {n : Nat} {d : Nat → Nat → Nat} {f : Nat → Nat} (h3 : 3 ≤ n) (h8 : n ≤ 8) (hf : fok n f) {σ : ox_S} (hn : σ.1 10 = nI n) (hnum : rl_num n σ) (hd : ∀ i j, i < n → j < n → σ.2 6 (8 * i + j) = nI (d i j)) (h : ro 13 n f σ) {q : Nat} (hq : q < 2520) (h17 : σ.1 17 = nI q) : ∀ r k, k + r = n → oc_TourList_append_h22 (tr_es n f k) (nI (tr_ln d n f k)) (nI (pv f n k)) (nI k) σ = some (ox_s1 (ox_s2 (ox_s2 σ 14 q (tr_es n f n)) 15 q (nI (tr_ln d n f n))) 17 (nI (q + 1))) := by
  intro r
  induction r with
  | zero =>
    intro k hk
    have e : k = n := by omega
    subst e
    unfold oc_TourList_append_h22
    refine ox_w_inr ?_
    show oc_TourList_append_b22 (tr_es k f k) (nI (tr_ln d k f k)) (nI (pv f k k)) (nI k) σ = _
    unfold oc_TourList_append_b22
    rw [hn, if_pos (nI_le (Nat.le_refl _) (by omega)), h17, ox_ix_nI hq (by omega)]
    simp only [ox_let]
    rw [show (ox_s2 σ 14 q (tr_es k f k)).1 17 = nI q from h17, ox_ix_nI hq (by omega)]
    simp only [s2_1, h17, nI_1]
  | succ r ih =>
    intro k hk
    have hk2 : k < n := by omega
    have hfk := hf.1 k hk2
    have hpv : pv f n k < n ∧ pv f n k ≠ f k := by
      unfold pv
      by_cases z : k = 0
      · rw [if_pos z]
        refine ⟨hf.1 _ (by omega), fun q => ?_⟩
        have := hf.2.1 _ _ (by omega) (by omega) q
        omega
      · rw [if_neg z]
        refine ⟨hf.1 _ (by omega), fun q => ?_⟩
        have := hf.2.1 _ _ (by omega) (by omega) q
        omega
    rw [← ih (k + 1) (by omega)]
    unfold oc_TourList_append_h22
    refine ox_w_inl ?_
    show oc_TourList_append_b22 (tr_es n f k) (nI (tr_ln d n f k)) (nI (pv f n k)) (nI k) σ = _
    unfold oc_TourList_append_b22
    rw [hn, if_neg (nI_ge hk2 (by omega))]
    simp only [ox_ix_nI (show k < 8 by omega) (show 8 < 2 ^ 31 by omega), h k hk2, pc_edge h8 hnum hpv.1 hfk hpv.2, pc_btw h8 hd hpv.1 hfk, Option.bind_some, ox_let, nI_1, nI_add]
    have e1 : pv f n (k + 1) = f k := by unfold pv; rw [if_neg (by omega)]; rfl
    rw [e1]
    rfl
theorem pc_append {n : Nat} {d : Nat → Nat → Nat} {f : Nat → Nat} (h3 : 3 ≤ n) (h8 : n ≤ 8) (hf : fok n f) {σ : ox_S} (hn : σ.1 10 = nI n) (hnum : rl_num n σ) (hd : ∀ i j, i < n → j < n → σ.2 6 (8 * i + j) = nI (d i j)) (h : ro 13 n f σ) {q : Nat} (hq : q < 2520) (h17 : σ.1 17 = nI q) : oc_TourList_append σ = some (ox_s1 (ox_s2 (ox_s2 σ 14 q (tr_es n f n)) 15 q (nI (tr_ln d n f n))) 17 (nI (q + 1))) := by
  unfold oc_TourList_append
  rw [hn, p_sub1 (by omega), ox_ix_nI (show n - 1 < 8 by omega) (by omega), h (n - 1) (by omega)]
  simp only [ox_let]
  have := pc_apL h3 h8 hf hn hnum hd h hq h17 n 0 (by omega)
  rw [show pv f n 0 = f (n - 1) by unfold pv; rw [if_pos rfl]] at this
  exact this
/-- all tours -/
theorem pc_listL {n : Nat} {d : Nat → Nat → Nat} (h3 : 3 ≤ n) (h8 : n ≤ 8) {c0 : ox_S} (hn0 : c0.1 10 = nI n) (hnum0 : rl_num n c0) (hd0 : ∀ i j, i < n → j < n → c0.2 6 (8 * i + j) = nI (d i j)) : ∀ (l : List Nat), chain n l → (∀ x ∈ l, fok n (fc x)) → ∀ (x : Nat), l.head? = some x → ∀ (σ : ox_S) (P : List Nat) (t : Nat), fr [17] [13, 14, 15] c0 σ → ro 13 n (fc x) σ → σ.1 17 = nI P.length → (∀ k, k < P.length → σ.2 14 k = tr_es n (fc (P.getD k 0)) n ∧ σ.2 15 k = nI (tr_ln d n (fc (P.getD k 0)) n)) → (P ++ l.filter (tr_canon n)).length ≤ 2520 → t + l.length ≤ 5040 → ∃ σ', oc_TourList_listAll_h30 (1 : Int32) (nI t) σ = some σ' ∧ fr [17] [13, 14, 15] c0 σ' ∧ σ'.1 17 = nI (P ++ l.filter (tr_canon n)).length ∧ (∀ k, k < (P ++ l.filter (tr_canon n)).length → σ'.2 14 k = tr_es n (fc ((P ++ l.filter (tr_canon n)).getD k 0)) n ∧ σ'.2 15 k = nI (tr_ln d n (fc ((P ++ l.filter (tr_canon n)).getD k 0)) n)) := by
  intro l
  induction l with
  | nil => intro h; exact absurd h id
  | cons x0 l ih =>
    intro hch hok x hx σ P t hfr h h17 hP hlen ht
    have e : x0 = x := Option.some.inj hx
    subst e
    have hf := hok x0 List.mem_cons_self
    have hn : σ.1 10 = nI n := by rw [hfr.1 10 (by decide)]; exact hn0
    have hnum : rl_num n σ := rl_num_fr hfr (by decide) (by decide) (by decide) (by decide) hnum0
    have hd : ∀ i j, i < n → j < n → σ.2 6 (8 * i + j) = nI (d i j) := fun i j hi hj => by rw [hfr.2 6 (by decide)]; exact hd0 i j hi hj
    have l1 := hf.1 1 (by omega)
    have l2 := hf.1 (n - 1) (by omega)
    have hlc : (x0 :: l).length = l.length + 1 := rfl
    have i1 : ∀ {ρ : Type} (k : Nat → Option ρ), ox_ix (1 : Int32) 8 k = k 1 := fun k => ox_ix_nI (j := 1) (by omega) (by omega)
    -- after this row has been listed or not
    have after : ∀ (σ1 : ox_S) (P1 : List Nat), oc_TourList_listAll_b30 (1 : Int32) (nI t) σ = (ox_b2 (oc_TourList_goToNextRow σ1) fun r8 s9 => some (.inl (r8, nI (t + 1), s9))) → fr [17] [13, 14, 15] c0 σ1 → ro 13 n (fc x0) σ1 → σ1.1 17 = nI P1.length → (∀ k, k < P1.length → σ1.2 14 k = tr_es n (fc (P1.getD k 0)) n ∧ σ1.2 15 k = nI (tr_ln d n (fc (P1.getD k 0)) n)) → P1 ++ l.filter (tr_canon n) = P ++ (x0 :: l).filter (tr_canon n) → ∃ σ', oc_TourList_listAll_h30 (1 : Int32) (nI t) σ = some σ' ∧ fr [17] [13, 14, 15] c0 σ' ∧ σ'.1 17 = nI (P ++ (x0 :: l).filter (tr_canon n)).length ∧ (∀ k, k < (P ++ (x0 :: l).filter (tr_canon n)).length → σ'.2 14 k = tr_es n (fc ((P ++ (x0 :: l).filter (tr_canon n)).getD k 0)) n ∧ σ'.2 15 k = nI (tr_ln d n (fc ((P ++ (x0 :: l).filter (tr_canon n)).getD k 0)) n)) := by
      intro σ1 P1 hb hfr1 hro1 h171 hP1 hPP
      have hn1 : σ1.1 10 = nI n := by rw [hfr1.1 10 (by decide)]; exact hn0
      obtain ⟨p1, p2⟩ := pc_next h3 h8 hn1 hf hro1
      rw [← hPP] at hlen ⊢
      cases l with
      | nil =>
        have hnx := tr_next_none hch
        refine ⟨σ1, ?_, hfr1, ?_, ?_⟩
        · have e1 : oc_TourList_listAll_h30 (1 : Int32) (nI t) σ = oc_TourList_listAll_h30 (0 : Int32) (nI (t + 1)) σ1 := by
            unfold oc_TourList_listAll_h30
            refine ox_w_inl ?_
            show oc_TourList_listAll_b30 (1 : Int32) (nI t) σ = _
            rw [hb, p1 hnx]
            rfl
          rw [e1]
          unfold oc_TourList_listAll_h30
          refine ox_w_inr ?_
          show oc_TourList_listAll_b30 (0 : Int32) (nI (t + 1)) σ1 = _
          unfold oc_TourList_listAll_b30
          by_cases z : (5040 : Int32) ≤ nI (t + 1)
          · rw [if_pos z]
          · rw [if_neg z, if_pos rfl]
        · rw [List.filter_nil, List.append_nil]; exact h171
        · rw [List.filter_nil, List.append_nil]; exact hP1
      | cons y l =>
        obtain ⟨q1, q2⟩ := hch
        obtain ⟨g, hg, hy⟩ := tr_next_some q1
        obtain ⟨σ3, t1, t2, t3⟩ := p2 g hg
        have hgf := fok_nx h3 hf hg
        have h4 : ro 13 n (fc y) σ3 := by
          rw [hy]
          exact ro_eq t3 (fun k hk => (fc_enc n (fok_8 h8 hgf) k hk).symm)
        obtain ⟨σf, u1, u2⟩ := ih q2 (fun z hz => hok z (List.mem_cons_of_mem _ hz)) y rfl σ3 P1 (t + 1) (fr_tr hfr1 (fr_up t2 (fun _ h => by cases h) (fun k hk => by simp at hk ⊢; exact Or.inl hk))) h4 (by rw [t2.1 17 (by decide)]; exact h171) (fun k hk => by rw [t2.2 14 (by decide), t2.2 15 (by decide)]; exact hP1 k hk) hlen (by omega)
        refine ⟨σf, ?_, u2⟩
        rw [← u1]
        unfold oc_TourList_listAll_h30
        refine ox_w_inl ?_
        show oc_TourList_listAll_b30 (1 : Int32) (nI t) σ = _
        rw [hb, t1]
        rfl
    have hbase : oc_TourList_listAll_b30 (1 : Int32) (nI t) σ = if nI (fc x0 (n - 1)) ≤ nI (fc x0 1) then (ox_b2 (oc_TourList_goToNextRow σ) fun r4 s5 => some (.inl (r4, nI (t + 1), s5))) else (oc_TourList_append σ).bind fun s7 => ox_b2 (oc_TourList_goToNextRow s7) fun r8 s9 => some (.inl (r8, nI (t + 1), s9)) := by
      unfold oc_TourList_listAll_b30
      rw [if_neg (show ¬ (5040 : Int32) ≤ nI t from nI_ge (b := 5040) (by omega) (by omega)), if_neg (by decide), i1, hn, p_sub1 (by omega), ox_ix_nI (show n - 1 < 8 by omega) (by omega), h 1 (by omega), h (n - 1) (by omega)]
      simp only [ox_let, nI_1]
    by_cases hc : fc x0 1 < fc x0 (n - 1)
    · have hcan : tr_canon n x0 = true := decide_eq_true hc
      rw [List.filter_cons_of_pos hcan] at hlen
      have hq : P.length < 2520 := by
        rw [List.length_append, List.length_cons] at hlen
        omega
      refine after (ox_s1 (ox_s2 (ox_s2 σ 14 P.length (tr_es n (fc x0) n)) 15 P.length (nI (tr_ln d n (fc x0) n))) 17 (nI (P.length + 1))) (P ++ [x0]) ?_ (fr_tr hfr (fr_tr (fr_tr (fr_s2 (by decide)) (fr_s2 (by decide))) (fr_s1 (by decide)))) h ?_ (fun k hk => ?_) ?_
      · rw [hbase, if_neg (nI_ge hc (by omega)), pc_append h3 h8 hf hn hnum hd h hq h17]
        rfl
      · rw [List.length_append]
        rfl
      · rw [List.length_append] at hk
        have hk' : k < P.length + 1 := hk
        rw [s1_2, s2_at, if_neg (fun q => by omega), s2_at, s2_at]
        by_cases z : k = P.length
        · have eg : (P ++ [x0]).getD k 0 = x0 := by
            rw [z, List.getD_eq_getElem?_getD, List.getElem?_append_right (Nat.le_refl _)]
            simp
          rw [if_pos ⟨rfl, z⟩, if_pos ⟨rfl, z⟩, eg]
          exact ⟨rfl, rfl⟩
        · have eg : (P ++ [x0]).getD k 0 = P.getD k 0 := by
            rw [List.getD_eq_getElem?_getD, List.getElem?_append_left (by omega), List.getD_eq_getElem?_getD]
          rw [if_neg (fun q => z q.2), if_neg (fun q => z q.2), eg, s2_at, if_neg (fun q => by omega)]
          exact hP k (by omega)
      · rw [List.filter_cons_of_pos hcan, List.append_assoc]
        rfl
    · have hcan : ¬ tr_canon n x0 = true := fun z => hc (of_decide_eq_true z)
      refine after σ P ?_ hfr h h17 hP ?_
      · rw [hbase, if_pos (nI_le (by omega) (by omega))]
      · rw [List.filter_cons_of_neg hcan]
theorem pc_rowL : ∀ r i, i + r = 8 → ∀ σ : ox_S, (∀ x, x < i → σ.2 13 x = nI x) → ∃ σ', oc_TourList_listAll_h7 (nI i) σ = oc_TourList_listAll_h30 (1 : Int32) (0 : Int32) σ' ∧ fr [] [13] σ σ' ∧ ∀ x, x < 8 → σ'.2 13 x = nI x := by
  intro r
  induction r with
  | zero =>
    intro i hi σ h
    refine ⟨σ, ?_, fr_rf, fun x hx => h x (by omega)⟩
    unfold oc_TourList_listAll_h7
    refine ox_w_map ?_
    show oc_TourList_listAll_b7 (nI i) σ = _
    unfold oc_TourList_listAll_b7
    rw [show (8 : Int32) = nI 8 from rfl, if_pos (nI_le (by omega) (by omega))]
  | succ r ih =>
    intro i hi σ h
    obtain ⟨σ', a1, a2, a3⟩ := ih (i + 1) (by omega) (ox_s2 σ 13 i (nI i)) (fun x hx => by
      rw [s2_at]
      by_cases z : x = i
      · subst z; rw [if_pos ⟨rfl, rfl⟩]
      · rw [if_neg (fun q => z q.2)]; exact h x (by omega))
    refine ⟨σ', ?_, fr_tr (fr_s2 (by decide)) a2, a3⟩
    rw [← a1]
    unfold oc_TourList_listAll_h7
    refine ox_w_inl ?_
    show oc_TourList_listAll_b7 (nI i) σ = _
    unfold oc_TourList_listAll_b7
    rw [show (8 : Int32) = nI 8 from rfl, if_neg (nI_ge (by omega) (by omega)), ox_ix_nI (show i < 8 by omega) (by omega)]
    simp only [ox_let, nI_1]
theorem pc_listAll {n : Nat} {d : Nat → Nat → Nat} (h3 : 3 ≤ n) (h8 : n ≤ 8) {σ : ox_S} (hn : σ.1 10 = nI n) (hnum : rl_num n σ) (hd : ∀ i j, i < n → j < n → σ.2 6 (8 * i + j) = nI (d i j)) : ∃ σ', oc_TourList_listAll σ = some σ' ∧ fr [17] [13, 14, 15] σ σ' ∧ rl_tours n d σ' := by
  obtain ⟨σ1, a1, a2, a3⟩ := pc_rowL 8 0 (by omega) (ox_s1 σ 17 0) (fun x hx => by omega)
  obtain ⟨b1, b2, b3, b4⟩ := tr_ok h3 h8
  have hfr : fr [17] [13, 14, 15] σ σ1 := fr_tr (fr_s1 (by decide)) (fr_up a2 (fun _ h => by cases h) (fun k hk => by simp at hk ⊢; exact Or.inl hk))
  obtain ⟨σ', u1, u2, u3, u4⟩ := pc_listL h3 h8 hn hnum hd (tr_rows n) b1 (rows_ok h3 h8) _ b4 σ1 [] 0 hfr (ro_eq (fun k hk => a3 k (by omega)) (fun k hk => (fc_enc n (fok_8 h8 fok_0) k hk).symm)) (by rw [a2.1 17 (by decide)]; rfl) (fun k hk => by simp at hk) (by rw [List.nil_append]; exact b2) (by omega)
  rw [List.nil_append] at u3 u4
  refine ⟨σ', ?_, u2, fun z => by omega, fun _ => ⟨u3, u4⟩⟩
  rw [← u1]
  exact a1
