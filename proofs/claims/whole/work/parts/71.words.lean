/-! load: the words of a line -/
/-- the words of the r characters from p on; the start of the word that is under way -/
def wd (tx : Nat → Int32) : Nat → Nat → Option Nat → List (Nat × Nat)
  | 0, _, none => []
  | 0, p, some s => [(s, p)]
  | r + 1, p, none => if tx p = 32 then wd tx r (p + 1) none else wd tx r (p + 1) (some p)
  | r + 1, p, some s => if tx p = 32 then (s, p) :: wd tx r (p + 1) none else wd tx r (p + 1) (some s)
/-- the reference's word, from its start to its end -/
theorem pm_wordE {tx : Nat → Int32} {b : Nat} (hb : b ≤ 480) {m0 : ox_S} (h5 : m0.1 5 = nI b) (htx : ∀ j, j < b → m0.2 0 j = tx j) {s : Nat} (h6 : m0.1 6 = nI s) : ∀ r p, p + r = b → s < p → ∀ σ, fr [4] [] m0 σ → σ.1 4 = nI p → ∃ e σ', om_Mo_word_h46 σ = some (1, σ') ∧ fr [4] [] m0 σ' ∧ σ'.1 4 = nI e ∧ p ≤ e ∧ e ≤ b ∧ (∀ j, p ≤ j → j < e → ¬ tx j = 32) ∧ wd tx r p (some s) = (s, e) :: wd tx (b - e) e none := by
  intro r
  induction r with
  | zero =>
    intro p hp hs σ hf h4
    have e : p = b := by omega
    subst e
    refine ⟨p, σ, ?_, hf, h4, Nat.le_refl _, Nat.le_refl _, fun j h1 h2 => by omega, by rw [Nat.sub_self]; rfl⟩
    unfold om_Mo_word_h46
    refine ox_w_inr ?_
    show om_Mo_word_b46 σ = _
    unfold om_Mo_word_b46
    rw [hf.1 5 (by decide), h5, h4, hf.1 6 (by decide), h6, if_pos (nI_le (Nat.le_refl _) (by omega)), if_neg (nI_ge hs (by omega))]
  | succ r ih =>
    intro p hp hs σ hf h4
    have hpb : p < b := by omega
    have hch : σ.2 0 p = tx p := by rw [hf.2 0 (by decide)]; exact htx p hpb
    by_cases z : tx p = 32
    · refine ⟨p, σ, ?_, hf, h4, Nat.le_refl _, by omega, fun j h1 h2 => by omega, ?_⟩
      · unfold om_Mo_word_h46
        refine ox_w_inr ?_
        show om_Mo_word_b46 σ = _
        unfold om_Mo_word_b46
        rw [hf.1 5 (by decide), h5, h4, hf.1 6 (by decide), h6, if_neg (nI_ge hpb (by omega)), ox_ix_nI (show p < 480 by omega) (by omega), hch, if_pos z, if_neg (nI_ge hs (by omega))]
      · rw [show b - p = r + 1 by omega]
        simp only [wd]
        rw [if_pos z, if_pos z]
    · obtain ⟨e, σ', a1, a2, a3, a4, a5, a6, a7⟩ := ih (p + 1) (by omega) (by omega) (ox_s1 σ 4 (nI (p + 1))) (fr_tr hf (fr_s1 (by decide))) rfl
      refine ⟨e, σ', ?_, a2, a3, by omega, a5, fun j h1 h2 => ?_, ?_⟩
      · rw [← a1]
        unfold om_Mo_word_h46
        refine ox_w_inl ?_
        show om_Mo_word_b46 σ = _
        unfold om_Mo_word_b46
        rw [hf.1 5 (by decide), h5, h4, if_neg (nI_ge hpb (by omega)), ox_ix_nI (show p < 480 by omega) (by omega), hch, if_neg z]
        simp only [ox_let, nI_1]
      · by_cases y : j = p
        · rw [y]; exact z
        · exact a6 j (by omega) h2
      · simp only [wd]
        rw [if_neg z]
        exact a7
/-- the reference's next word, if there is one -/
theorem pm_word {tx : Nat → Int32} {b : Nat} (hb : b ≤ 480) {m0 : ox_S} (h5 : m0.1 5 = nI b) (htx : ∀ j, j < b → m0.2 0 j = tx j) : ∀ r p, p + r = b → ∀ σ, fr [4, 6] [] m0 σ → σ.1 4 = nI p → (wd tx r p none = [] ∧ ∃ σ', om_Mo_word σ = some (0, σ') ∧ fr [4, 6] [] m0 σ' ∧ σ'.1 4 = nI b) ∨ ∃ s e σ', om_Mo_word σ = some (1, σ') ∧ fr [4, 6] [] m0 σ' ∧ σ'.1 6 = nI s ∧ σ'.1 4 = nI e ∧ p ≤ s ∧ s < e ∧ e ≤ b ∧ (∀ j, s ≤ j → j < e → ¬ tx j = 32) ∧ wd tx r p none = (s, e) :: wd tx (b - e) e none := by
  intro r
  induction r with
  | zero =>
    intro p hp σ hf h4
    have e : p = b := by omega
    subst e
    refine Or.inl ⟨rfl, ox_s1 σ 6 (nI p), ?_, fr_tr hf (fr_s1 (by decide)), h4⟩
    unfold om_Mo_word om_Mo_word_h0
    refine ox_w_map ?_
    show om_Mo_word_b0 σ = _
    unfold om_Mo_word_b0
    rw [hf.1 5 (by decide), h5, h4, if_pos (nI_le (Nat.le_refl _) (by omega))]
    simp only [ox_let]
    have hh : om_Mo_word_h46 (ox_s1 σ 6 (nI p)) = some (0, ox_s1 σ 6 (nI p)) := by
      unfold om_Mo_word_h46
      refine ox_w_inr ?_
      show om_Mo_word_b46 (ox_s1 σ 6 (nI p)) = _
      unfold om_Mo_word_b46
      rw [show (ox_s1 σ 6 (nI p)).1 5 = nI p by rw [s1_1, if_neg (by decide), hf.1 5 (by decide)]; exact h5, show (ox_s1 σ 6 (nI p)).1 4 = nI p from h4, show (ox_s1 σ 6 (nI p)).1 6 = nI p from rfl, if_pos (nI_le (Nat.le_refl _) (by omega)), if_pos (nI_le (Nat.le_refl _) (by omega))]
    rw [hh]
  | succ r ih =>
    intro p hp σ hf h4
    have hpb : p < b := by omega
    have hch : σ.2 0 p = tx p := by rw [hf.2 0 (by decide)]; exact htx p hpb
    by_cases z : tx p = 32
    · have e1 : om_Mo_word σ = om_Mo_word (ox_s1 σ 4 (nI (p + 1))) := by
        unfold om_Mo_word om_Mo_word_h0
        refine ox_w_inl ?_
        show om_Mo_word_b0 σ = _
        unfold om_Mo_word_b0
        rw [hf.1 5 (by decide), h5, h4, if_neg (nI_ge hpb (by omega)), ox_ix_nI (show p < 480 by omega) (by omega), hch, if_pos z]
        simp only [ox_let, nI_1]
      rw [e1]
      have e2 : wd tx (r + 1) p none = wd tx r (p + 1) none := by simp only [wd]; rw [if_pos z]
      rw [e2]
      rcases ih (p + 1) (by omega) (ox_s1 σ 4 (nI (p + 1))) (fr_tr hf (fr_s1 (by decide))) rfl with h | ⟨s, e, σ', a1, a2, a3, a4, a5, a6⟩
      · exact Or.inl h
      · exact Or.inr ⟨s, e, σ', a1, a2, a3, a4, by omega, a6⟩
    · -- the first character
      have hb0 : om_Mo_word_b0 σ = (om_Mo_word_h46 (ox_s1 σ 6 (nI p))).map (fun t => .inr t) := by
        unfold om_Mo_word_b0
        rw [hf.1 5 (by decide), h5, h4, if_neg (nI_ge hpb (by omega)), ox_ix_nI (show p < 480 by omega) (by omega), hch, if_neg z]
        rfl
      have hb46 : om_Mo_word_h46 (ox_s1 σ 6 (nI p)) = om_Mo_word_h46 (ox_s1 (ox_s1 σ 6 (nI p)) 4 (nI (p + 1))) := by
        unfold om_Mo_word_h46
        refine ox_w_inl ?_
        show om_Mo_word_b46 (ox_s1 σ 6 (nI p)) = _
        unfold om_Mo_word_b46
        rw [show (ox_s1 σ 6 (nI p)).1 5 = nI b by rw [s1_1, if_neg (by decide), hf.1 5 (by decide)]; exact h5, show (ox_s1 σ 6 (nI p)).1 4 = nI p from h4, if_neg (nI_ge hpb (by omega)), ox_ix_nI (show p < 480 by omega) (by omega), show (ox_s1 σ 6 (nI p)).2 0 p = tx p from hch, if_neg z]
        simp only [ox_let, nI_1]
      obtain ⟨e, σ', a1, a2, a3, a4, a5, a6, a7⟩ := pm_wordE (tx := tx) hb (m0 := ox_s1 σ 6 (nI p)) (by rw [s1_1, if_neg (by decide), hf.1 5 (by decide)]; exact h5) (fun j hj => by rw [s1_2, hf.2 0 (by decide)]; exact htx j hj) (s := p) rfl r (p + 1) (by omega) (by omega) (ox_s1 (ox_s1 σ 6 (nI p)) 4 (nI (p + 1))) (fr_s1 (by decide)) rfl
      refine Or.inr ⟨p, e, σ', ?_, ?_, by rw [a2.1 6 (by decide)]; rfl, a3, Nat.le_refl _, by omega, a5, fun j h1 h2 => ?_, ?_⟩
      · unfold om_Mo_word om_Mo_word_h0
        refine ox_w_map ?_
        show om_Mo_word_b0 σ = _
        rw [hb0, hb46, a1]
      · exact fr_tr (fr_tr hf (fr_s1 (by decide))) (fr_up a2 (fun k hk => by simp at hk ⊢; exact Or.inl hk) (fun _ h => h))
      · by_cases y : j = p
        · rw [y]; exact z
        · exact a6 j (by omega) h2
      · simp only [wd]
        rw [if_neg z]
        exact a7
/-- the class's list of words -/
def wl (L : List (Nat × Nat)) (σ : ox_S) : Prop := σ.1 3 = nI L.length ∧ ∀ q, q < L.length → σ.2 1 q = nI (L.getD q (0, 0)).1 ∧ σ.2 2 q = nI (L.getD q (0, 0)).2
theorem wl_in {P : List (Nat × Nat)} {x : Nat × Nat} : (P ++ [x]).getD P.length (0, 0) = x := by
  rw [List.getD_eq_getElem?_getD, List.getElem?_append_right (Nat.le_refl _)]
  simp
theorem wl_lo {P : List (Nat × Nat)} {x : Nat × Nat} {q : Nat} (h : q < P.length) : (P ++ [x]).getD q (0, 0) = P.getD q (0, 0) := by
  rw [List.getD_eq_getElem?_getD, List.getElem?_append_left h, List.getD_eq_getElem?_getD]
theorem pc_partL {tx : Nat → Int32} {a b : Nat} (hb : b < 480) {c0 : ox_S} (h1 : c0.1 1 = nI a) (h2 : c0.1 2 = nI b) (htx : ∀ j, j < b → c0.2 0 j = tx j) : ∀ r p, p + r = b → a ≤ p → ∀ σ P (o : Option Nat), fr [3] [1, 2] c0 σ → (match o with
    | none => (p = a ∨ tx (p - 1) = 32) ∧ wl P σ ∧ 2 * P.length ≤ p - a
    | some s => a < p ∧ ¬ tx (p - 1) = 32 ∧ wl (P ++ [(s, p)]) σ ∧ 2 * P.length + 1 ≤ p - a) → ∃ σ', oc_Line_part_h20 (nI p) σ = some σ' ∧ fr [3] [1, 2] c0 σ' ∧ wl (P ++ wd tx r p o) σ' ∧ 2 * (P ++ wd tx r p o).length ≤ b - a + 1 := by
  intro r
  induction r with
  | zero =>
    intro p hp ha σ P o hf h
    have e : p = b := by omega
    subst e
    refine ⟨σ, ?_, hf, ?_⟩
    · unfold oc_Line_part_h20
      refine ox_w_inr ?_
      show oc_Line_part_b20 (nI p) σ = _
      unfold oc_Line_part_b20
      rw [hf.1 2 (by decide), h2, if_pos (nI_le (Nat.le_refl _) (by omega))]
    · cases o with
      | none =>
        simp only [wd, List.append_nil]
        exact ⟨h.2.1, by have := h.2.2; omega⟩
      | some s =>
        simp only [wd]
        refine ⟨h.2.2.1, ?_⟩
        have := h.2.2.2
        rw [List.length_append]
        simp only [List.length_cons, List.length_nil]
        omega
  | succ r ih =>
    intro p hp ha σ P o hf h
    have hpb : p < b := by omega
    have hch : σ.2 0 p = tx p := by rw [hf.2 0 (by decide)]; exact htx p hpb
    have hbase : ¬ σ.1 2 ≤ nI p := by rw [hf.1 2 (by decide), h2]; exact nI_ge hpb (by omega)
    by_cases z : tx p = 32
    · have e1 : oc_Line_part_h20 (nI p) σ = oc_Line_part_h20 (nI (p + 1)) σ := by
        unfold oc_Line_part_h20
        refine ox_w_inl ?_
        show oc_Line_part_b20 (nI p) σ = _
        unfold oc_Line_part_b20
        rw [if_neg hbase, ox_ix_nI (show p < 480 by omega) (by omega), hch, if_pos z]
        simp only [ox_let, nI_1]
      rw [e1]
      cases o with
      | none =>
        simp only [wd]
        rw [if_pos z]
        exact ih (p + 1) (by omega) (by omega) σ P none hf ⟨Or.inr (by rw [Nat.add_sub_cancel]; exact z), h.2.1, by have := h.2.2; omega⟩
      | some s =>
        simp only [wd]
        rw [if_pos z, show P ++ (s, p) :: wd tx r (p + 1) none = (P ++ [(s, p)]) ++ wd tx r (p + 1) none by simp]
        exact ih (p + 1) (by omega) (by omega) σ (P ++ [(s, p)]) none hf ⟨Or.inr (by rw [Nat.add_sub_cancel]; exact z), h.2.2.1, by have := h.2.2.2; rw [List.length_append]; simp only [List.length_cons, List.length_nil]; omega⟩
    · cases o with
      | none =>
        obtain ⟨g1, g2, g3⟩ := h
        simp only [wd]
        rw [if_neg z]
        have hq : P.length < 240 := by omega
        obtain ⟨s, hs⟩ : ∃ s, s = ox_s2 (ox_s1 (ox_s2 σ 1 P.length (nI p)) 3 (nI (P.length + 1))) 2 P.length (nI (p + 1)) := ⟨_, rfl⟩
        have hfs : fr [3] [1, 2] c0 s := by
          rw [hs]
          exact fr_tr hf (fr_tr (fr_tr (fr_s2 (by decide)) (fr_s1 (by decide))) (fr_s2 (by decide)))
        have hj : oc_Line_part_j63 (nI p) σ = some (.inl (nI (p + 1), s)) := by
          unfold oc_Line_part_j63
          rw [g2.1, ox_ix_nI hq (by omega)]
          simp only [ox_let]
          rw [show (ox_s2 σ 1 P.length (nI p)).1 3 = nI P.length from g2.1, nI_1, nI_1, show (ox_s1 (ox_s2 σ 1 P.length (nI p)) 3 (nI (P.length + 1))).1 3 = nI (P.length + 1) from rfl, p_sub1 (by omega), Nat.add_sub_cancel, ox_ix_nI hq (by omega), hs]
        have hw : wl (P ++ [(p, p + 1)]) s := by
          refine ⟨by rw [hs, List.length_append]; rfl, fun q hq2 => ?_⟩
          rw [List.length_append] at hq2
          simp only [List.length_cons, List.length_nil] at hq2
          by_cases y : q = P.length
          · rw [y, wl_in, hs, s2_at, if_neg (fun w => by omega), s1_2, s2_at, if_pos ⟨rfl, rfl⟩, s2_at, if_pos ⟨rfl, rfl⟩]
            exact ⟨rfl, rfl⟩
          · rw [wl_lo (by omega), hs, s2_at, if_neg (fun w => by omega), s1_2, s2_at, if_neg (fun w => y w.2), s2_at, if_neg (fun w => y w.2), s1_2, s2_at, if_neg (fun w => by omega)]
            exact g2.2 q (by omega)
        obtain ⟨σ', u1, u2⟩ := ih (p + 1) (by omega) (by omega) s P (some p) hfs ⟨by omega, by rw [Nat.add_sub_cancel]; exact z, hw, by omega⟩
        refine ⟨σ', ?_, u2⟩
        rw [← u1]
        unfold oc_Line_part_h20
        refine ox_w_inl ?_
        show oc_Line_part_b20 (nI p) σ = _
        unfold oc_Line_part_b20
        rw [if_neg hbase, ox_ix_nI (show p < 480 by omega) (by omega), hch, if_neg z, hf.1 1 (by decide), h1]
        by_cases y : p = a
        · rw [if_pos (by rw [y])]
          exact hj
        · rw [if_neg (nI_ne y (by omega) (by omega)), p_sub1 (by omega), ox_ix_nI (show p - 1 < 480 by omega) (by omega), hf.2 0 (by decide), htx (p - 1) (by omega), if_pos (g1.resolve_left y)]
          exact hj
      | some s0 =>
        obtain ⟨g0, g1, g2, g3⟩ := h
        simp only [wd]
        rw [if_neg z]
        have hq : P.length < 240 := by omega
        have h3 : σ.1 3 = nI (P.length + 1) := by
          have := g2.1
          rw [List.length_append] at this
          exact this
        have hw : wl (P ++ [(s0, p + 1)]) (ox_s2 σ 2 P.length (nI (p + 1))) := by
          refine ⟨by rw [s2_1, h3, List.length_append]; rfl, fun q hq2 => ?_⟩
          rw [List.length_append] at hq2
          simp only [List.length_cons, List.length_nil] at hq2
          have old := g2.2 q (by rw [List.length_append]; simp only [List.length_cons, List.length_nil]; omega)
          by_cases y : q = P.length
          · rw [y, wl_in] at old ⊢
            rw [s2_at, if_neg (fun w => by omega), s2_at, if_pos ⟨rfl, rfl⟩]
            exact ⟨old.1, rfl⟩
          · rw [wl_lo (by omega)] at old ⊢
            rw [s2_at, if_neg (fun w => by omega), s2_at, if_neg (fun w => y w.2)]
            exact old
        obtain ⟨σ', u1, u2⟩ := ih (p + 1) (by omega) (by omega) (ox_s2 σ 2 P.length (nI (p + 1))) P (some s0) (fr_tr hf (fr_s2 (by decide))) ⟨by omega, by rw [Nat.add_sub_cancel]; exact z, hw, by omega⟩
        refine ⟨σ', ?_, u2⟩
        rw [← u1]
        unfold oc_Line_part_h20
        refine ox_w_inl ?_
        show oc_Line_part_b20 (nI p) σ = _
        unfold oc_Line_part_b20
        rw [if_neg hbase, ox_ix_nI (show p < 480 by omega) (by omega), hch, if_neg z, hf.1 1 (by decide), h1, if_neg (nI_ne (show p ≠ a by omega) (by omega) (by omega)), p_sub1 (by omega), ox_ix_nI (show p - 1 < 480 by omega) (by omega), hf.2 0 (by decide), htx (p - 1) (by omega), if_neg g1, h3, p_sub1 (by omega), Nat.add_sub_cancel, ox_ix_nI hq (by omega)]
        simp only [ox_let, nI_1]
theorem pc_part {tx : Nat → Int32} {a b : Nat} (hab : a ≤ b) (hb : b < 480) {c : ox_S} (htx : ∀ j, j < b → c.2 0 j = tx j) : ∃ σ', oc_Line_part (nI a) (nI b) c = some σ' ∧ fr [1, 2, 3] [1, 2] c σ' ∧ σ'.1 1 = nI a ∧ σ'.1 2 = nI b ∧ wl (wd tx (b - a) a none) σ' ∧ (wd tx (b - a) a none).length ≤ 240 := by
  obtain ⟨σ', u1, u2, u3, u4⟩ := pc_partL (tx := tx) (a := a) hb (c0 := ox_s1 (ox_s1 (ox_s1 c 1 (nI a)) 2 (nI b)) 3 0) rfl rfl htx (b - a) a (by omega) (Nat.le_refl _) (ox_s1 (ox_s1 (ox_s1 c 1 (nI a)) 2 (nI b)) 3 0) [] none fr_rf ⟨Or.inl rfl, ⟨rfl, fun q hq => by simp at hq⟩, by simp⟩
  rw [List.nil_append] at u3 u4
  refine ⟨σ', ?_, fr_tr (fr_tr (fr_tr (fr_s1 (by decide)) (fr_s1 (by decide))) (fr_s1 (by decide))) (fr_up u2 (fun k hk => by simp at hk ⊢; exact Or.inr (Or.inr hk)) (fun _ h => h)), by rw [u2.1 1 (by decide)]; rfl, by rw [u2.1 2 (by decide)]; rfl, u3, by omega⟩
  rw [← u1]
  rfl
