/-! solve -/
noncomputable def al (n : Nat) (M : Nat → Nat → Int32) (x : Nat) : Bool := @decide (∀ i j, i < j → j < n → pg (fc x) n M i j = true) (Classical.propDecidable _)
theorem al_iff {n : Nat} {M : Nat → Nat → Int32} {x : Nat} : al n M x = true ↔ ∀ i j, i < j → j < n → pg (fc x) n M i j = true := by
  unfold al
  exact @decide_eq_true_iff _ (Classical.propDecidable _)
/-- the first of the shortest -/
def slv (a : Nat → Bool) (ln : Nat → Nat) (b : Option Nat) (x : Nat) : Option Nat := if a x then (match b with
  | none => some x
  | some y => if ln x < ln y then some x else some y) else b
def lnx (d : Nat → Nat → Nat) (n x : Nat) : Nat := tr_ln d n (fc x) n
theorem can_ok {n : Nat} (h3 : 3 ≤ n) (h8 : n ≤ 8) {k : Nat} (hk : k < (tr_can n).length) : fok n (fc ((tr_can n).getD k 0)) ∧ fc ((tr_can n).getD k 0) 1 < fc ((tr_can n).getD k 0) (n - 1) := by
  have hm : (tr_can n).getD k 0 ∈ tr_can n := by
    rw [List.getD_eq_getElem?_getD, List.getElem?_eq_getElem hk]
    exact List.getElem_mem hk
  have h2 := List.mem_filter.mp hm
  refine ⟨rows_ok h3 h8 _ h2.1, ?_⟩
  have := h2.2
  unfold tr_canon at this
  exact of_decide_eq_true this
theorem lnx_lt {d : Nat → Nat → Nat} {n x : Nat} (hd : ∀ i j, i < n → j < n → d i j ≤ 9999) (h1 : 1 ≤ n) (h8 : n ≤ 8) (hf : fok n (fc x)) : lnx d n x ≤ 79992 := by
  unfold lnx
  rw [ln_lm d h1]
  have := lm_le hd hf h1 n (Nat.le_refl _)
  omega
/-- the class's question -/
theorem pc_isAllowed {n : Nat} {d : Nat → Nat → Nat} {c m : ox_S} (h3 : 3 ≤ n) (h8 : n ≤ 8) (hm : rl_mark n c m) (ht : rl_tours n d c) {k : Nat} (hk : k < (tr_can n).length) : oc_TourList_isAllowed (nI k) c = some (b01 (al n (fun i j => m.2 2 (8 * i + j)) ((tr_can n).getD k 0))) := by
  have hlen := (tr_ok h3 h8).2.1
  obtain ⟨hf, hc⟩ := can_ok h3 h8 hk
  unfold oc_TourList_isAllowed
  rw [ox_ix_nI (show k < 2520 by omega) (by omega), ((ht.2 (by omega)).2 k hk).1]
  generalize (tr_can n).getD k 0 = x at hf hc
  have key : (∀ i j, i < j → j < n → (bt (c.1 12) (en n i j) = true → bt (tr_es n (fc x) n) (en n i j) = true) ∧ (bt (c.1 13) (en n i j) = true → bt (tr_es n (fc x) n) (en n i j) = false)) ↔ al n (fun i j => m.2 2 (8 * i + j)) x = true := by
    rw [al_iff]
    constructor
    · intro h i j hij hj
      obtain ⟨q1, q2, q3, q4⟩ := hm.1 i j hij hj
      have := h i j hij hj
      rw [es_has h3 h8 hf hij hj] at this
      unfold pg
      simp only []
      rcases q1 with z | z | z
      · rw [if_pos z]
      · rw [if_neg (by rw [z]; decide), if_pos z]
        exact this.1 (q3.mpr z)
      · rw [if_neg (by rw [z]; decide), if_neg (by rw [z]; decide), this.2 (q4.mpr z)]
        rfl
    · intro h i j hij hj
      obtain ⟨q1, q2, q3, q4⟩ := hm.1 i j hij hj
      have := h i j hij hj
      rw [es_has h3 h8 hf hij hj]
      unfold pg at this
      simp only [] at this
      refine ⟨fun z => ?_, fun z => ?_⟩
      · have z1 := q3.mp z
        rw [if_neg (by rw [z1]; decide), if_pos z1] at this
        exact this
      · have z1 := q4.mp z
        rw [if_neg (by rw [z1]; decide), if_neg (by rw [z1]; decide)] at this
        simpa using this
  rcases pc_keeps (σ := c) h8 (S := tr_es n (fc x) n) (fun e he => (hm.2 e he).1) (fun e he => (hm.2 e he).2) with ⟨a, b⟩ | ⟨a, b⟩
  · rw [b, key.mp a]
    rfl
  · rw [b]
    have : al n (fun i j => m.2 2 (8 * i + j)) x = false := by
      cases z : al n (fun i j => m.2 2 (8 * i + j)) x with
      | false => rfl
      | true => exact absurd (key.mpr z) a
    rw [this]
    rfl
/-- what the class has found among the first k tours -/
def repc (a : Nat → Bool) (ln : Nat → Nat) (T : List Nat) (b : Option Nat) (k : Nat) (x : Int32) : Prop := (b = none ∧ x = -1 ∧ ∀ p, p < k → a (T.getD p 0) = false) ∨ ∃ q, q < k ∧ q < T.length ∧ b = some (T.getD q 0) ∧ x = nI q ∧ a (T.getD q 0) = true ∧ (∀ p, p < q → a (T.getD p 0) = true → ln (T.getD q 0) < ln (T.getD p 0)) ∧ (∀ p, p < k → a (T.getD p 0) = true → ln (T.getD q 0) ≤ ln (T.getD p 0))
theorem take_fold {β : Type} (g : β → Nat → β) (b : β) (T : List Nat) (k : Nat) (hk : k < T.length) : (T.take (k + 1)).foldl g b = g ((T.take k).foldl g b) (T.getD k 0) := by
  rw [List.take_succ_eq_append_getElem hk, List.foldl_append]
  simp [List.getD_eq_getElem?_getD, List.getElem?_eq_getElem hk]
theorem pc_first {n : Nat} {d : Nat → Nat → Nat} {c m : ox_S} (h3 : 3 ≤ n) (h8 : n ≤ 8) (hm : rl_mark n c m) (hd : ∀ i j, i < n → j < n → d i j ≤ 9999) (ht : rl_tours n d c) : ∀ r k, k + r = (tr_can n).length → ∀ x, repc (al n (fun i j => m.2 2 (8 * i + j))) (lnx d n) (tr_can n) (((tr_can n).take k).foldl (slv (al n (fun i j => m.2 2 (8 * i + j))) (lnx d n)) none) k x → ∃ x', oc_TourList_firstLeast_h4 x (nI k) c = some x' ∧ repc (al n (fun i j => m.2 2 (8 * i + j))) (lnx d n) (tr_can n) ((tr_can n).foldl (slv (al n (fun i j => m.2 2 (8 * i + j))) (lnx d n)) none) (tr_can n).length x' := by
  have hlen := (tr_ok h3 h8).2.1
  have ht2 := ht.2 (by omega)
  intro r
  induction r with
  | zero =>
    intro k hk x hx
    have e : k = (tr_can n).length := by omega
    subst e
    rw [List.take_length] at hx
    refine ⟨x, ?_, hx⟩
    unfold oc_TourList_firstLeast_h4
    refine ox_w_inr ?_
    show oc_TourList_firstLeast_b4 x (nI (tr_can n).length) c = _
    unfold oc_TourList_firstLeast_b4
    rw [ht2.1, if_pos (nI_le (Nat.le_refl _) (by omega))]
  | succ r ih =>
    intro k hk x hx
    have hk2 : k < (tr_can n).length := by omega
    have hal := pc_isAllowed h3 h8 hm ht hk2
    have hbase : ¬ c.1 17 ≤ nI k := by rw [ht2.1]; exact nI_ge hk2 (by omega)
    have step : ∀ x', oc_TourList_firstLeast_b4 x (nI k) c = some (.inl (x', nI (k + 1))) → oc_TourList_firstLeast_h4 x (nI k) c = oc_TourList_firstLeast_h4 x' (nI (k + 1)) c := by
      intro x' h
      unfold oc_TourList_firstLeast_h4
      exact ox_w_inl h
    have tf := take_fold (slv (al n (fun i j => m.2 2 (8 * i + j))) (lnx d n)) none (tr_can n) k hk2
    unfold slv at tf
    cases hz : al n (fun i j => m.2 2 (8 * i + j)) ((tr_can n).getD k 0) with
    | false =>
      rw [hz] at hal tf
      rw [step x (by
        unfold oc_TourList_firstLeast_b4
        rw [if_neg hbase, hal]
        simp only [Option.bind_some, ox_let, nI_1]
        rfl)]
      refine ih (k + 1) (by omega) x ?_
      show repc _ _ _ ((tr_can n).take (k + 1) |>.foldl (slv _ _) none) (k + 1) x
      unfold slv
      rw [tf]
      have up : ∀ P : Nat → Prop, (∀ p, p < k → al n (fun i j => m.2 2 (8 * i + j)) ((tr_can n).getD p 0) = true → P p) → ∀ p, p < k + 1 → al n (fun i j => m.2 2 (8 * i + j)) ((tr_can n).getD p 0) = true → P p := fun P h p hp ha => by
        by_cases e : p = k
        · rw [e, hz] at ha; cases ha
        · exact h p (by omega) ha
      rcases hx with ⟨g1, g2, g3⟩ | ⟨q, q1, q2, q3, q4, q5, q6, q7⟩
      · refine Or.inl ⟨g1, g2, fun p hp => ?_⟩
        by_cases e : p = k
        · rw [e]; exact hz
        · exact g3 p (by omega)
      · exact Or.inr ⟨q, by omega, q2, q3, q4, q5, q6, up _ q7⟩
    | true =>
      rw [hz] at hal tf
      have hnot : ¬ b01 true = 0 := by decide
      rcases hx with ⟨h1, h2, h3'⟩ | ⟨q, q1, q2, q3, q4, q5, q6, q7⟩
      · rw [step (nI k) (by
          unfold oc_TourList_firstLeast_b4
          rw [if_neg hbase, hal]
          simp only [Option.bind_some, ox_let, nI_1]
          rw [if_neg hnot, h2, if_pos (by decide)])]
        refine ih (k + 1) (by omega) _ ?_
        show repc _ _ _ ((tr_can n).take (k + 1) |>.foldl (slv _ _) none) (k + 1) _
        unfold slv at h1 ⊢
        rw [tf, h1]
        refine Or.inr ⟨k, by omega, hk2, rfl, rfl, hz, fun p hp ha => ?_, fun p hp ha => ?_⟩
        · rw [h3' p hp] at ha; cases ha
        · by_cases e : p = k
          · rw [e]; exact Nat.le_refl _
          · rw [h3' p (by omega)] at ha; cases ha
      · have l1 := (ht2.2 k hk2).2
        have l2 := (ht2.2 q q2).2
        have b1 := lnx_lt hd (by omega) h8 (can_ok h3 h8 hk2).1
        have b2 := lnx_lt hd (by omega) h8 (can_ok h3 h8 q2).1
        change c.2 15 k = nI (lnx d n ((tr_can n).getD k 0)) at l1
        change c.2 15 q = nI (lnx d n ((tr_can n).getD q 0)) at l2
        by_cases hlt : lnx d n ((tr_can n).getD k 0) < lnx d n ((tr_can n).getD q 0)
        · rw [step (nI k) (by
            unfold oc_TourList_firstLeast_b4
            rw [if_neg hbase, hal]
            simp only [Option.bind_some, ox_let, nI_1]
            rw [if_neg hnot, q4, if_neg (nI_pos (by omega)), ox_ix_nI (show k < 2520 by omega) (by omega), ox_ix_nI (show q < 2520 by omega) (by omega), l1, l2, if_neg (nI_ge hlt (by omega))])]
          refine ih (k + 1) (by omega) _ ?_
          show repc _ _ _ ((tr_can n).take (k + 1) |>.foldl (slv _ _) none) (k + 1) _
          unfold slv at q3 ⊢
          rw [tf, q3]
          refine Or.inr ⟨k, by omega, hk2, if_pos hlt, rfl, hz, fun p hp ha => ?_, fun p hp ha => ?_⟩
          · exact Nat.lt_of_lt_of_le hlt (q7 p hp ha)
          · by_cases e : p = k
            · rw [e]; exact Nat.le_refl _
            · exact Nat.le_of_lt (Nat.lt_of_lt_of_le hlt (q7 p (by omega) ha))
        · rw [step x (by
            unfold oc_TourList_firstLeast_b4
            rw [if_neg hbase, hal]
            simp only [Option.bind_some, ox_let, nI_1]
            rw [if_neg hnot, q4, if_neg (nI_pos (by omega)), ox_ix_nI (show k < 2520 by omega) (by omega), ox_ix_nI (show q < 2520 by omega) (by omega), l1, l2, if_pos (nI_le (by omega) (by omega))])]
          refine ih (k + 1) (by omega) _ ?_
          show repc _ _ _ ((tr_can n).take (k + 1) |>.foldl (slv _ _) none) (k + 1) _
          unfold slv at q3 ⊢
          rw [tf, q3]
          refine Or.inr ⟨q, by omega, q2, if_neg hlt, q4, q5, q6, fun p hp ha => ?_⟩
          by_cases e : p = k
          · rw [e]; exact Nat.le_of_not_lt hlt
          · exact q7 p (by omega) ha
/-- the reference's step over one row -/
def slvC (n : Nat) (a : Nat → Bool) (ln : Nat → Nat) (b : Option Nat) (x : Nat) : Option Nat := if tr_canon n x then slv a ln b x else b
theorem slvC_filter (n : Nat) (a : Nat → Bool) (ln : Nat → Nat) : ∀ (l : List Nat) (b : Option Nat), l.foldl (slvC n a ln) b = (l.filter (tr_canon n)).foldl (slv a ln) b
  | [], _ => rfl
  | x :: l, b => by
    rw [List.foldl_cons, slvC_filter n a ln l]
    unfold slvC
    by_cases h : tr_canon n x = true
    · rw [if_pos h, List.filter_cons_of_pos h, List.foldl_cons]
    · rw [if_neg h, List.filter_cons_of_neg h]
def repm (d : Nat → Nat → Nat) (n : Nat) (m0 : ox_S) (b : Option Nat) (x : Int32) (σ : ox_S) : Prop := (b = none ∧ x = -1 ∧ σ.1 2 = m0.1 2 ∧ σ.2 4 = m0.2 4) ∨ ∃ y, b = some y ∧ fok n (fc y) ∧ x = nI (lnx d n y) ∧ ro 4 n (fc y) σ ∧ σ.1 2 = 1
section SV
variable {n : Nat} {d : Nat → Nat → Nat} {m0 : ox_S}
theorem pm_solve1 (h3 : 3 ≤ n) (h8 : n ≤ 8) (hdd : ∀ i j, i < n → j < n → m0.2 1 (8 * i + j) = nI (d i j)) (hd : ∀ i j, i < n → j < n → d i j ≤ 9999) (hn0 : m0.1 1 = nI n) {x : Nat} (hf : fok n (fc x)) {σ : ox_S} (hfr : fr [2] [4, 13] m0 σ) (h : ro 13 n (fc x) σ) {b : Option Nat} {x1 : Int32} (hb : repm d n m0 b x1 σ) : ∃ x1' σ2, om_Mo_solve_b19 x1 (1 : Int32) σ = ox_b2 (om_Mo_nextTour σ2) (fun r s => some (.inl (x1', r, s))) ∧ repm d n m0 (slvC n (al n (fun i j => m0.2 2 (8 * i + j))) (lnx d n) b x) x1' σ2 ∧ fr [2] [4] σ σ2 := by
  have hn : σ.1 1 = nI n := by rw [hfr.1 1 (by decide)]; exact hn0
  have hM : ∀ a b, a < n → b < n → σ.2 2 (8 * a + b) = (fun i j => m0.2 2 (8 * i + j)) a b := fun a b _ _ => by rw [hfr.2 2 (by decide)]
  have hlen : om_Mo_length σ = some (nI (lnx d n x)) := by
    unfold lnx
    rw [ln_lm d (by omega)]
    exact pm_len h3 h8 hn hf h (fun i j hi hj => by rw [hfr.2 1 (by decide)]; exact hdd i j hi hj)
  have hbx := lnx_lt hd (by omega) h8 hf
  have hone : ¬ (1 : Int32) = 0 := by decide
  rcases pm_allowed h3 h8 hn hf h hM with ⟨⟨g1, g2⟩, g3⟩ | ⟨g1, g3⟩
  · have hc : tr_canon n x = true := decide_eq_true g1
    have ha : al n (fun i j => m0.2 2 (8 * i + j)) x = true := al_iff.mpr g2
    obtain ⟨σ2, k1, k2, k3, k4⟩ := pm_keep h3 h8 hn h
    rcases hb with ⟨b1, b2, b3, b4⟩ | ⟨y, b1, b2, b3, b4, b5⟩
    · refine ⟨nI (lnx d n x), σ2, ?_, Or.inr ⟨x, ?_, hf, rfl, k4, k3⟩, k2⟩
      · unfold om_Mo_solve_b19
        rw [if_neg hone, g3]
        simp only [Option.bind_some]
        rw [if_neg hone, hlen]
        simp only [Option.bind_some]
        rw [b2, if_pos (by decide), k1]
        rfl
      · unfold slvC slv
        rw [if_pos hc, if_pos ha, b1]
    · have hby := lnx_lt hd (by omega) h8 b2
      by_cases hlt : lnx d n x < lnx d n y
      · refine ⟨nI (lnx d n x), σ2, ?_, Or.inr ⟨x, ?_, hf, rfl, k4, k3⟩, k2⟩
        · unfold om_Mo_solve_b19
          rw [if_neg hone, g3]
          simp only [Option.bind_some]
          rw [if_neg hone, hlen]
          simp only [Option.bind_some]
          rw [b3, if_neg (nI_pos (by omega)), if_neg (nI_ge hlt (by omega)), k1]
          rfl
        · unfold slvC slv
          rw [if_pos hc, if_pos ha, b1]
          simp [hlt]
      · refine ⟨x1, σ, ?_, Or.inr ⟨y, ?_, b2, b3, b4, b5⟩, fr_rf⟩
        · unfold om_Mo_solve_b19
          rw [if_neg hone, g3]
          simp only [Option.bind_some]
          rw [if_neg hone, hlen]
          simp only [Option.bind_some]
          rw [b3, if_neg (nI_pos (by omega)), if_pos (nI_le (by omega) (by omega))]
        · unfold slvC slv
          rw [if_pos hc, if_pos ha, b1]
          simp [hlt]
  · refine ⟨x1, σ, ?_, ?_, fr_rf⟩
    · unfold om_Mo_solve_b19
      rw [if_neg hone, g3]
      simp only [Option.bind_some]
      rw [if_true]
    · have e : slvC n (al n (fun i j => m0.2 2 (8 * i + j))) (lnx d n) b x = b := by
        unfold slvC slv
        by_cases hc : tr_canon n x = true
        · rw [if_pos hc]
          have ha : ¬ al n (fun i j => m0.2 2 (8 * i + j)) x = true := fun z => g1 ⟨of_decide_eq_true hc, al_iff.mp z⟩
          rw [if_neg ha]
        · rw [if_neg hc]
      rw [e]
      exact hb
theorem pm_solveL (h3 : 3 ≤ n) (h8 : n ≤ 8) (hdd : ∀ i j, i < n → j < n → m0.2 1 (8 * i + j) = nI (d i j)) (hd : ∀ i j, i < n → j < n → d i j ≤ 9999) (hn0 : m0.1 1 = nI n) : ∀ (l : List Nat), chain n l → (∀ x ∈ l, fok n (fc x)) → ∀ (x : Nat), l.head? = some x → ∀ (σ : ox_S) (b : Option Nat) (x1 : Int32), fr [2] [4, 13] m0 σ → ro 13 n (fc x) σ → repm d n m0 b x1 σ → ∃ x1' σ', om_Mo_solve_h19 x1 (1 : Int32) σ = om_Mo_solve_h19 x1' (0 : Int32) σ' ∧ repm d n m0 (l.foldl (slvC n (al n (fun i j => m0.2 2 (8 * i + j))) (lnx d n)) b) x1' σ' ∧ fr [2] [4, 13] m0 σ' := by
  intro l
  induction l with
  | nil => intro h; exact absurd h id
  | cons x0 l ih =>
    intro hch hok x hx σ b x1 hfr h hb
    have e : x0 = x := Option.some.inj hx
    subst e
    have hf := hok x0 List.mem_cons_self
    obtain ⟨x1', σ2, s1, s2, s3⟩ := pm_solve1 h3 h8 hdd hd hn0 hf hfr h hb
    have hfr2 : fr [2] [4, 13] m0 σ2 := fr_tr hfr (fr_up s3 (fun _ h => h) (fun k hk => by simp at hk ⊢; exact Or.inl hk))
    have h2 : ro 13 n (fc x0) σ2 := ro_fr h s3 (by decide)
    have hn2 : σ2.1 1 = nI n := by rw [hfr2.1 1 (by decide)]; exact hn0
    obtain ⟨p1, p2⟩ := pm_next h3 h8 hn2 hf h2
    rw [List.foldl_cons]
    cases l with
    | nil =>
      have hnx := tr_next_none hch
      refine ⟨x1', σ2, ?_, s2, hfr2⟩
      unfold om_Mo_solve_h19
      refine ox_w_inl ?_
      show om_Mo_solve_b19 x1 (1 : Int32) σ = _
      rw [s1, p1 hnx]
      rfl
    | cons y l =>
      obtain ⟨q1, q2⟩ := hch
      obtain ⟨g, hg, hy⟩ := tr_next_some q1
      obtain ⟨σ3, t1, t2, t3⟩ := p2 g hg
      have hgf := fok_nx h3 hf hg
      have h4 : ro 13 n (fc y) σ3 := by
        rw [hy]
        exact ro_eq t3 (fun k hk => (fc_enc n (fok_8 h8 hgf) k hk).symm)
      have hb3 : repm d n m0 (slvC n (al n (fun i j => m0.2 2 (8 * i + j))) (lnx d n) b x0) x1' σ3 := by
        rcases s2 with ⟨b1, b2, b3, b4⟩ | ⟨z, b1, b2, b3, b4, b5⟩
        · exact Or.inl ⟨b1, b2, by rw [t2.1 2 (by decide)]; exact b3, by rw [t2.2 4 (by decide)]; exact b4⟩
        · exact Or.inr ⟨z, b1, b2, b3, ro_fr b4 t2 (by decide), by rw [t2.1 2 (by decide)]; exact b5⟩
      obtain ⟨x1f, σf, u1, u2, u3⟩ := ih q2 (fun z hz => hok z (List.mem_cons_of_mem _ hz)) y rfl σ3 _ x1' (fr_tr hfr2 (fr_up t2 (fun _ h => by cases h) (fun k hk => by simp at hk ⊢; exact Or.inr hk))) h4 hb3
      refine ⟨x1f, σf, ?_, u2, u3⟩
      rw [← u1]
      unfold om_Mo_solve_h19
      refine ox_w_inl ?_
      show om_Mo_solve_b19 x1 (1 : Int32) σ = _
      rw [s1, t1]
      rfl
end SV
theorem os_solve : ol_s_solve Rl := by
  intro c m hR
  obtain ⟨ht, n, d, hl, hd, hp, h4, h5, h6, h7, h8⟩ := id hR
  have hn := rl_n8 hl
  rcases hl.1 with hn0 | ⟨hn3, hn8⟩
  · -- no city
    subst hn0
    have e17 := h6.1 rfl
    obtain ⟨m', f1, f2, _⟩ := pm_first hn hl.2.2
    refine ⟨-2000000, c, m', ?_, ?_, Rl_m f2 (by decide) (by decide) hR⟩
    · unfold oc_T_solve oc_TourList_firstLeast
      have : oc_TourList_firstLeast_h4 (-1 : Int32) (0 : Int32) c = some (-1) := by
        unfold oc_TourList_firstLeast_h4
        refine ox_w_inr ?_
        show oc_TourList_firstLeast_b4 (-1 : Int32) (0 : Int32) c = _
        unfold oc_TourList_firstLeast_b4
        rw [e17, if_pos (by decide)]
      rw [this]
      rfl
    · unfold om_Mo_solve
      rw [hl.2.2, if_pos (by decide), f1]
      simp only [Option.bind_some]
      unfold om_Mo_solve_h19
      refine ox_w_inr ?_
      show om_Mo_solve_b19 (-1 : Int32) (0 : Int32) m' = _
      unfold om_Mo_solve_b19
      rw [if_pos rfl, if_neg (by decide)]
  · have hd9 : ∀ i j, i < n → j < n → d i j ≤ 9999 := fun i j hi hj => (hd i j hi hj).2.2.2.1
    obtain ⟨m1, f1, f2, f3⟩ := pm_first hn hl.2.2
    obtain ⟨a1, a2, a3, a4⟩ := tr_ok hn3 hn8
    have hdd : ∀ i j, i < n → j < n → m.2 1 (8 * i + j) = nI (d i j) := fun i j hi hj => (hd i j hi hj).2.1
    obtain ⟨x1', σ', s1, s2, s3⟩ := pm_solveL (m0 := m) hn3 hn8 hdd hd9 hl.2.2 (tr_rows n) a1 (rows_ok hn3 hn8) _ a4 m1 none (-1) (fr_up f2 (fun _ h => by cases h) (fun k hk => by simp at hk ⊢; exact Or.inr hk)) (ro_eq f3 (fun k hk => (fc_enc n (fok_8 hn8 fok_0) k hk).symm)) (Or.inl ⟨rfl, rfl, f2.1 2 (by decide), f2.2 4 (by decide)⟩)
    rw [slvC_filter] at s2
    change repm d n m ((tr_can n).foldl (slv (al n (fun i j => m.2 2 (8 * i + j))) (lnx d n)) none) x1' σ' at s2
    obtain ⟨x', c1, c2⟩ := pc_first hn3 hn8 h5 hd9 h6 (tr_can n).length 0 (by omega) (-1) (Or.inl ⟨rfl, rfl, fun p hp => by omega⟩)
    have hmod : om_Mo_solve m = om_Mo_solve_h19 x1' (0 : Int32) σ' := by
      unfold om_Mo_solve
      rw [hl.2.2, if_neg (nI_nle (by omega) (by omega)), f1]
      simp only [Option.bind_some]
      exact s1
    rcases c2 with ⟨g1, g2, _⟩ | ⟨q, q1, q2, q3, q4, _⟩
    · rw [g1] at s2
      rcases s2 with ⟨_, t2, t3, t4⟩ | ⟨y, t1, _⟩
      · refine ⟨-2000000, c, σ', ?_, ?_, ?_⟩
        · unfold oc_T_solve oc_TourList_firstLeast
          rw [show oc_TourList_firstLeast_h4 (-1 : Int32) (0 : Int32) c = some x' from c1, g2]
          rfl
        · rw [hmod, t2]
          unfold om_Mo_solve_h19
          refine ox_w_inr ?_
          show om_Mo_solve_b19 (-1 : Int32) (0 : Int32) σ' = _
          unfold om_Mo_solve_b19
          rw [if_pos rfl, if_neg (by decide)]
        · refine Rl_m (S := []) (T := [13]) ⟨fun k _ => ?_, fun a ha => ?_⟩ (by decide) (by decide) hR
          · by_cases z : k = 2
            · rw [z]; exact t3
            · exact s3.1 k (by simpa using z)
          · by_cases z : a = 4
            · rw [z]; exact t4
            · exact s3.2 a (by simp at ha ⊢; exact ⟨z, ha⟩)
      · cases t1
    · rw [q3] at s2
      rcases s2 with ⟨t1, _⟩ | ⟨y, t1, t2, t3, t4, t5⟩
      · cases t1
      · have ey : (tr_can n).getD q 0 = y := Option.some.inj t1
        obtain ⟨hfq, hcq⟩ := can_ok hn3 hn8 q2
        have hby := lnx_lt hd9 (by omega) hn8 t2
        obtain ⟨l1, l2⟩ := (h6.2 (by omega)).2 q q2
        obtain ⟨c', w1, w2, w3, w4⟩ := pc_follow hn3 hn8 hfq hcq (σ := c) hl.2.1 h4
        refine ⟨nI (lnx d n y), c', σ', ?_, ?_, ?_⟩
        · unfold oc_T_solve oc_TourList_firstLeast
          rw [show oc_TourList_firstLeast_h4 (-1 : Int32) (0 : Int32) c = some x' from c1, q4]
          simp only [Option.bind_some]
          rw [if_pos (nI_pos' (by omega)), ox_ix_nI (show q < 2520 by omega) (by omega), l1, w1]
          simp only [Option.bind_some]
          rw [ox_ix_nI (show q < 2520 by omega) (by omega), w2.2 15 (by decide), l2]
          show some (nI (lnx d n ((tr_can n).getD q 0)), c') = _
          rw [ey]
        · rw [hmod, t3]
          unfold om_Mo_solve_h19
          refine ox_w_inr ?_
          show om_Mo_solve_b19 (nI (lnx d n y)) (0 : Int32) σ' = _
          unfold om_Mo_solve_b19
          rw [if_pos rfl, if_pos (nI_pos' (by omega))]
        · -- the tour is kept on both sides
          have e0 := w2.1 0 (by decide)
          have e10 := w2.1 10 (by decide)
          have e11 := w2.1 11 (by decide)
          have e12 := w2.1 12 (by decide)
          have e13 := w2.1 13 (by decide)
          have e17 := w2.1 17 (by decide)
          have e19 := w2.1 19 (by decide)
          have r0 := w2.2 0 (by decide)
          have r6 := w2.2 6 (by decide)
          have r7 := w2.2 7 (by decide)
          have r8 := w2.2 8 (by decide)
          have r9 := w2.2 9 (by decide)
          have r10 := w2.2 10 (by decide)
          have r14 := w2.2 14 (by decide)
          have r15 := w2.2 15 (by decide)
          have r17 := w2.2 17 (by decide)
          have r18 := w2.2 18 (by decide)
          have k0 := s3.1 0 (by decide)
          have k1 := s3.1 1 (by decide)
          have k3 := s3.1 3 (by decide)
          have v0 := s3.2 0 (by decide)
          have v1 := s3.2 1 (by decide)
          have v2 := s3.2 2 (by decide)
          have v3 := s3.2 3 (by decide)
          have v5 := s3.2 5 (by decide)
          have v6 := s3.2 6 (by decide)
          refine ⟨?_, n, d, ?_⟩
          · unfold rl_text
            rw [e0, r0, k0, v0]
            exact ht
          · refine ⟨?_, ?_, ?_, ?_, ?_, ?_, Or.inr ⟨w3, t5, fun k hk => ?_⟩, ?_⟩
            · unfold rl_land; rw [e10, k1]; exact hl
            · unfold rl_dist; rw [r6, v1]; exact hd
            · unfold rl_pot; rw [r10, v3]; exact hp
            · unfold rl_num; rw [e11, r7, r8, r9]; exact h4
            · unfold rl_mark; rw [e12, e13, v2]; exact h5
            · unfold rl_tours; rw [e17, r14, r15]; exact h6
            · rw [w4 k hk, t4 k hk, ey]
            · unfold rl_cases; rw [e19, k3, r17, r18, v5, v6]; exact h8
