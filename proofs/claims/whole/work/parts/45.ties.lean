/-! ties -/
def tie (a : Nat → Bool) (ln : Nat → Nat) (s : Option Nat × Nat) (x : Nat) : Option Nat × Nat := if a x then (match s.1 with
  | none => (some (ln x), 1)
  | some v => if v ≤ ln x then (if ln x = v then (some v, s.2 + 1) else (some v, s.2)) else (some (ln x), 1)) else s
def tieC (n : Nat) (a : Nat → Bool) (ln : Nat → Nat) (s : Option Nat × Nat) (x : Nat) : Option Nat × Nat := if tr_canon n x then tie a ln s x else s
theorem tieC_filter (n : Nat) (a : Nat → Bool) (ln : Nat → Nat) : ∀ (l : List Nat) (b : Option Nat × Nat), l.foldl (tieC n a ln) b = (l.filter (tr_canon n)).foldl (tie a ln) b
  | [], _ => rfl
  | x :: l, b => by
    rw [List.foldl_cons, tieC_filter n a ln l]
    unfold tieC
    by_cases h : tr_canon n x = true
    · rw [if_pos h, List.filter_cons_of_pos h, List.foldl_cons]
    · rw [if_neg h, List.filter_cons_of_neg h]
/-- how many of the first k -/
def cnt (a : Nat → Bool) (ln : Nat → Nat) (T : List Nat) (v : Nat) : Nat → Nat
  | 0 => 0
  | k + 1 => cnt a ln T v k + if a (T.getD k 0) = true ∧ ln (T.getD k 0) = v then 1 else 0
theorem cnt_0 {a : Nat → Bool} {ln : Nat → Nat} {T : List Nat} {v : Nat} : ∀ k, (∀ p, p < k → a (T.getD p 0) = true → ln (T.getD p 0) ≠ v) → cnt a ln T v k = 0
  | 0, _ => rfl
  | k + 1, h => by
    show cnt a ln T v k + (if a (T.getD k 0) = true ∧ ln (T.getD k 0) = v then 1 else 0) = 0
    rw [cnt_0 k (fun p hp => h p (by omega)), if_neg (fun z => h k (by omega) z.1 z.2)]
theorem tie_inv (a : Nat → Bool) (ln : Nat → Nat) (T : List Nat) : ∀ k, k ≤ T.length → ((∀ p, p < k → a (T.getD p 0) = false) ∧ (T.take k).foldl (tie a ln) (none, 0) = (none, 0)) ∨ ∃ q, q < k ∧ a (T.getD q 0) = true ∧ (∀ p, p < k → a (T.getD p 0) = true → ln (T.getD q 0) ≤ ln (T.getD p 0)) ∧ (T.take k).foldl (tie a ln) (none, 0) = (some (ln (T.getD q 0)), cnt a ln T (ln (T.getD q 0)) k)
  | 0, _ => Or.inl ⟨fun p hp => by omega, rfl⟩
  | k + 1, h => by
    have tf := take_fold (tie a ln) (none, 0) T k (by omega)
    rcases tie_inv a ln T k (by omega) with ⟨h1, h2⟩ | ⟨q, q1, q2, q3, q4⟩
    · rw [h2] at tf
      cases hz : a (T.getD k 0) with
      | false =>
        refine Or.inl ⟨fun p hp => ?_, ?_⟩
        · by_cases e : p = k
          · rw [e]; exact hz
          · exact h1 p (by omega)
        · rw [tf]
          unfold tie
          rw [hz]
          rfl
      | true =>
        refine Or.inr ⟨k, by omega, hz, fun p hp ha => ?_, ?_⟩
        · by_cases e : p = k
          · rw [e]; exact Nat.le_refl _
          · rw [h1 p (by omega)] at ha; cases ha
        · rw [tf]
          unfold tie
          rw [hz]
          show (some (ln (T.getD k 0)), 1) = (some (ln (T.getD k 0)), cnt a ln T (ln (T.getD k 0)) k + if a (T.getD k 0) = true ∧ ln (T.getD k 0) = ln (T.getD k 0) then 1 else 0)
          rw [if_pos ⟨hz, rfl⟩, cnt_0 k (fun p hp ha => by rw [h1 p hp] at ha; cases ha)]
    · rw [q4] at tf
      cases hz : a (T.getD k 0) with
      | false =>
        refine Or.inr ⟨q, by omega, q2, fun p hp ha => ?_, ?_⟩
        · by_cases e : p = k
          · rw [e, hz] at ha; cases ha
          · exact q3 p (by omega) ha
        · rw [tf]
          unfold tie
          rw [hz]
          show (some (ln (T.getD q 0)), cnt a ln T (ln (T.getD q 0)) k) = (some (ln (T.getD q 0)), cnt a ln T (ln (T.getD q 0)) k + if a (T.getD k 0) = true ∧ ln (T.getD k 0) = ln (T.getD q 0) then 1 else 0)
          rw [if_neg (fun z => by rw [hz] at z; cases z.1)]
          rfl
      | true =>
        by_cases hle : ln (T.getD q 0) ≤ ln (T.getD k 0)
        · refine Or.inr ⟨q, by omega, q2, fun p hp ha => ?_, ?_⟩
          · by_cases e : p = k
            · rw [e]; exact hle
            · exact q3 p (by omega) ha
          · rw [tf]
            unfold tie
            rw [hz]
            show (if ln (T.getD q 0) ≤ ln (T.getD k 0) then (if ln (T.getD k 0) = ln (T.getD q 0) then (some (ln (T.getD q 0)), cnt a ln T (ln (T.getD q 0)) k + 1) else (some (ln (T.getD q 0)), cnt a ln T (ln (T.getD q 0)) k)) else (some (ln (T.getD k 0)), 1)) = (some (ln (T.getD q 0)), cnt a ln T (ln (T.getD q 0)) k + if a (T.getD k 0) = true ∧ ln (T.getD k 0) = ln (T.getD q 0) then 1 else 0)
            rw [if_pos hle]
            by_cases e : ln (T.getD k 0) = ln (T.getD q 0)
            · rw [if_pos e, if_pos ⟨hz, e⟩]
            · rw [if_neg e, if_neg (fun z => e z.2)]
              rfl
        · refine Or.inr ⟨k, by omega, hz, fun p hp ha => ?_, ?_⟩
          · by_cases e : p = k
            · rw [e]; exact Nat.le_refl _
            · have := q3 p (by omega) ha
              omega
          · rw [tf]
            unfold tie
            rw [hz]
            show (if ln (T.getD q 0) ≤ ln (T.getD k 0) then (if ln (T.getD k 0) = ln (T.getD q 0) then (some (ln (T.getD q 0)), cnt a ln T (ln (T.getD q 0)) k + 1) else (some (ln (T.getD q 0)), cnt a ln T (ln (T.getD q 0)) k)) else (some (ln (T.getD k 0)), 1)) = (some (ln (T.getD k 0)), cnt a ln T (ln (T.getD k 0)) k + if a (T.getD k 0) = true ∧ ln (T.getD k 0) = ln (T.getD k 0) then 1 else 0)
            rw [if_neg hle, if_pos ⟨hz, rfl⟩, cnt_0 k (fun p hp ha e => by have := q3 p hp ha; omega)]
/-- the class counts -/
theorem pc_count {n : Nat} {d : Nat → Nat → Nat} {c m : ox_S} (h3 : 3 ≤ n) (h8 : n ≤ 8) (hm : rl_mark n c m) (hd : ∀ i j, i < n → j < n → d i j ≤ 9999) (ht : rl_tours n d c) {q : Nat} (hq : q < (tr_can n).length) : ∀ r k, k + r = (tr_can n).length → oc_TourList_countLeast_h15 (nI q) (nI (cnt (al n (fun i j => m.2 2 (8 * i + j))) (lnx d n) (tr_can n) (lnx d n ((tr_can n).getD q 0)) k)) (nI k) c = some (nI (cnt (al n (fun i j => m.2 2 (8 * i + j))) (lnx d n) (tr_can n) (lnx d n ((tr_can n).getD q 0)) (tr_can n).length)) := by
  have hlen := (tr_ok h3 h8).2.1
  have ht2 := ht.2 (by omega)
  have l2 := (ht2.2 q hq).2
  have b2 := lnx_lt hd (by omega) h8 (can_ok h3 h8 hq).1
  change c.2 15 q = nI (lnx d n ((tr_can n).getD q 0)) at l2
  intro r
  induction r with
  | zero =>
    intro k hk
    have e : k = (tr_can n).length := by omega
    subst e
    unfold oc_TourList_countLeast_h15
    refine ox_w_inr ?_
    show oc_TourList_countLeast_b15 _ _ (nI (tr_can n).length) c = _
    unfold oc_TourList_countLeast_b15
    rw [ht2.1, if_pos (nI_le (Nat.le_refl _) (by omega))]
  | succ r ih =>
    intro k hk
    have hk2 : k < (tr_can n).length := by omega
    have hal := pc_isAllowed h3 h8 hm ht hk2
    have l1 := (ht2.2 k hk2).2
    have b1 := lnx_lt hd (by omega) h8 (can_ok h3 h8 hk2).1
    change c.2 15 k = nI (lnx d n ((tr_can n).getD k 0)) at l1
    rw [← ih (k + 1) (by omega)]
    unfold oc_TourList_countLeast_h15
    refine ox_w_inl ?_
    show oc_TourList_countLeast_b15 (nI q) (nI (cnt (al n (fun i j => m.2 2 (8 * i + j))) (lnx d n) (tr_can n) (lnx d n ((tr_can n).getD q 0)) k)) (nI k) c = _
    unfold oc_TourList_countLeast_b15
    rw [if_neg (by rw [ht2.1]; exact nI_ge hk2 (by omega)), ox_ix_nI (show k < 2520 by omega) (by omega), ox_ix_nI (show q < 2520 by omega) (by omega), l1, l2, hal]
    rw [show cnt (al n (fun i j => m.2 2 (8 * i + j))) (lnx d n) (tr_can n) (lnx d n ((tr_can n).getD q 0)) (k + 1) = cnt (al n (fun i j => m.2 2 (8 * i + j))) (lnx d n) (tr_can n) (lnx d n ((tr_can n).getD q 0)) k + (if al n (fun i j => m.2 2 (8 * i + j)) ((tr_can n).getD k 0) = true ∧ lnx d n ((tr_can n).getD k 0) = lnx d n ((tr_can n).getD q 0) then 1 else 0) from rfl]
    simp only [Option.bind_some, ox_let, nI_1]
    by_cases e : lnx d n ((tr_can n).getD k 0) = lnx d n ((tr_can n).getD q 0)
    · rw [if_pos (by rw [e])]
      cases hz : al n (fun i j => m.2 2 (8 * i + j)) ((tr_can n).getD k 0) with
      | false =>
        rw [if_pos (show b01 false = 0 by decide), if_neg (fun z => by cases z.1)]
        rfl
      | true =>
        rw [if_neg (show ¬ b01 true = 0 by decide), if_pos ⟨rfl, e⟩]
    · rw [if_neg (nI_ne e (by omega) (by omega)), if_neg (fun z => e z.2)]
      rfl
/-- a loop of the reference over all rows -/
theorem chain_loop {n : Nat} {m0 : ox_S} {β τ R S : Type} (B : τ → Option (τ ⊕ R)) (mk : β → Int32 → ox_S → τ) (g : S → Nat → S) (rep : S → β → Prop) (stop : β → Prop) (h3 : 3 ≤ n) (h8 : n ≤ 8) (hn0 : m0.1 1 = nI n) (hstop : ∀ s b, rep s b → stop b → ∀ x, g s x = s)
    (hstep : ∀ x σ s b, fok n (fc x) → fr [] [13] m0 σ → ro 13 n (fc x) σ → rep s b → ¬ stop b → ∃ b', B (mk b 1 σ) = ox_b2 (om_Mo_nextTour σ) (fun r s => some (.inl (mk b' r s))) ∧ rep (g s x) b') :
    ∀ (l : List Nat), chain n l → (∀ x ∈ l, fok n (fc x)) → ∀ (x : Nat), l.head? = some x → ∀ (σ : ox_S) (s : S) (b : β), fr [] [13] m0 σ → ro 13 n (fc x) σ → rep s b → ∃ b' r σ', ox_w B (mk b 1 σ) = ox_w B (mk b' r σ') ∧ (r = 0 ∨ (r = 1 ∧ stop b')) ∧ rep (l.foldl g s) b' ∧ fr [] [13] m0 σ' := by
  intro l
  induction l with
  | nil => intro h; exact absurd h id
  | cons x0 l ih =>
    intro hch hok x hx σ s b hfr h hb
    have e : x0 = x := Option.some.inj hx
    subst e
    have hf := hok x0 List.mem_cons_self
    by_cases hs : stop b
    · refine ⟨b, 1, σ, rfl, Or.inr ⟨rfl, hs⟩, ?_, hfr⟩
      have : ∀ l : List Nat, l.foldl g s = s := by
        intro l
        induction l with
        | nil => rfl
        | cons y l ih => rw [List.foldl_cons, hstop s b hb hs, ih]
      rw [this]
      exact hb
    · obtain ⟨b1, s1, s2⟩ := hstep x0 σ s b hf hfr h hb hs
      have hn2 : σ.1 1 = nI n := by rw [hfr.1 1 (by decide)]; exact hn0
      obtain ⟨p1, p2⟩ := pm_next h3 h8 hn2 hf h
      rw [List.foldl_cons]
      cases l with
      | nil =>
        have hnx := tr_next_none hch
        refine ⟨b1, 0, σ, ?_, Or.inl rfl, s2, hfr⟩
        refine ox_w_inl ?_
        rw [s1, p1 hnx]
        rfl
      | cons y l =>
        obtain ⟨q1, q2⟩ := hch
        obtain ⟨g', hg, hy⟩ := tr_next_some q1
        obtain ⟨σ3, t1, t2, t3⟩ := p2 g' hg
        have hgf := fok_nx h3 hf hg
        have h4 : ro 13 n (fc y) σ3 := by
          rw [hy]
          exact ro_eq t3 (fun k hk => (fc_enc n (fok_8 h8 hgf) k hk).symm)
        obtain ⟨bf, rf, σf, u1, u2, u3, u4⟩ := ih q2 (fun z hz => hok z (List.mem_cons_of_mem _ hz)) y rfl σ3 _ b1 (fr_tr hfr t2) h4 s2
        refine ⟨bf, rf, σf, ?_, u2, u3, u4⟩
        rw [← u1]
        refine ox_w_inl ?_
        rw [s1, t1]
        rfl
def rept (s : Option Nat × Nat) (b : Int32 × Int32) : Prop := b.2 = nI s.2 ∧ ((s.1 = none ∧ b.1 = -1) ∨ ∃ v, s.1 = some v ∧ v ≤ 79992 ∧ b.1 = nI v)
theorem pm_tie1 {n : Nat} {d : Nat → Nat → Nat} {m0 : ox_S} (h3 : 3 ≤ n) (h8 : n ≤ 8) (hdd : ∀ i j, i < n → j < n → m0.2 1 (8 * i + j) = nI (d i j)) (hd : ∀ i j, i < n → j < n → d i j ≤ 9999) (hn0 : m0.1 1 = nI n) (x : Nat) (σ : ox_S) (s : Option Nat × Nat) (b : Int32 × Int32) (hf : fok n (fc x)) (hfr : fr [] [13] m0 σ) (h : ro 13 n (fc x) σ) (hb : rept s b) : ∃ b' : Int32 × Int32, om_Mo_ties_b21 b.1 b.2 (1 : Int32) σ = ox_b2 (om_Mo_nextTour σ) (fun r s => some (.inl (b'.1, b'.2, r, s))) ∧ rept (tieC n (al n (fun i j => m0.2 2 (8 * i + j))) (lnx d n) s x) b' := by
  have hn : σ.1 1 = nI n := by rw [hfr.1 1 (by decide)]; exact hn0
  have hM : ∀ a b, a < n → b < n → σ.2 2 (8 * a + b) = (fun i j => m0.2 2 (8 * i + j)) a b := fun a b _ _ => by rw [hfr.2 2 (by decide)]
  have hlen : om_Mo_length σ = some (nI (lnx d n x)) := by
    unfold lnx
    rw [ln_lm d (by omega)]
    exact pm_len h3 h8 hn hf h (fun i j hi hj => by rw [hfr.2 1 (by decide)]; exact hdd i j hi hj)
  have hbx := lnx_lt hd (by omega) h8 hf
  have hone : ¬ (1 : Int32) = 0 := by decide
  obtain ⟨x1, x2⟩ := b
  obtain ⟨bv, cv⟩ := s
  rcases pm_allowed h3 h8 hn hf h hM with ⟨⟨g1, g2⟩, g3⟩ | ⟨g1, g3⟩
  · have hc : tr_canon n x = true := decide_eq_true g1
    have ha : al n (fun i j => m0.2 2 (8 * i + j)) x = true := al_iff.mpr g2
    obtain ⟨r1, r2⟩ := hb
    change x2 = nI cv at r1
    rcases r2 with ⟨b1, b2⟩ | ⟨v, b1, b2, b3⟩
    · change bv = none at b1
      change x1 = -1 at b2
      refine ⟨(nI (lnx d n x), 1), ?_, ?_⟩
      · unfold om_Mo_ties_b21 om_Mo_ties_j65
        rw [if_neg hone, g3]
        simp only [Option.bind_some]
        rw [if_neg hone, hlen]
        simp only [Option.bind_some]
        rw [b2, if_pos (by decide), if_pos (by decide)]
      · unfold tieC tie
        rw [if_pos hc, if_pos ha, b1]
        exact ⟨rfl, Or.inr ⟨_, rfl, hbx, rfl⟩⟩
    · change bv = some v at b1
      change x1 = nI v at b3
      by_cases hle : v ≤ lnx d n x
      · refine ⟨(nI v, nI (if lnx d n x = v then cv + 1 else cv)), ?_, ?_⟩
        · unfold om_Mo_ties_b21 om_Mo_ties_j65
          rw [if_neg hone, g3]
          simp only [Option.bind_some]
          rw [if_neg hone, hlen]
          simp only [Option.bind_some]
          rw [b3, r1, if_neg (nI_pos (by omega)), if_pos (nI_le hle (by omega))]
          by_cases e : lnx d n x = v
          · rw [if_pos (by rw [e]), if_pos e, if_neg (nI_pos (by omega)), nI_1]
            rw [if_pos (nI_le hle (by omega))]
          · rw [if_neg (nI_ne e (by omega) (by omega)), if_neg e, if_neg (nI_pos (by omega)), if_pos (nI_le hle (by omega))]
        · unfold tieC tie
          rw [if_pos hc, if_pos ha, b1]
          show rept (if v ≤ lnx d n x then (if lnx d n x = v then (some v, cv + 1) else (some v, cv)) else (some (lnx d n x), 1)) _
          rw [if_pos hle]
          by_cases e : lnx d n x = v
          · rw [if_pos e, if_pos e]
            exact ⟨rfl, Or.inr ⟨v, rfl, b2, rfl⟩⟩
          · rw [if_neg e, if_neg e]
            exact ⟨rfl, Or.inr ⟨v, rfl, b2, rfl⟩⟩
      · refine ⟨(nI (lnx d n x), 1), ?_, ?_⟩
        · unfold om_Mo_ties_b21 om_Mo_ties_j65
          rw [if_neg hone, g3]
          simp only [Option.bind_some]
          rw [if_neg hone, hlen]
          simp only [Option.bind_some]
          rw [b3, if_neg (nI_pos (by omega)), if_neg (nI_ge (by omega) (by omega)), if_neg (nI_pos (by omega)), if_neg (nI_ge (by omega) (by omega))]
        · unfold tieC tie
          rw [if_pos hc, if_pos ha, b1]
          show rept (if v ≤ lnx d n x then (if lnx d n x = v then (some v, cv + 1) else (some v, cv)) else (some (lnx d n x), 1)) _
          rw [if_neg hle]
          exact ⟨rfl, Or.inr ⟨_, rfl, hbx, rfl⟩⟩
  · refine ⟨(x1, x2), ?_, ?_⟩
    · unfold om_Mo_ties_b21
      rw [if_neg hone, g3]
      simp only [Option.bind_some]
      rw [if_true]
    · have e : tieC n (al n (fun i j => m0.2 2 (8 * i + j))) (lnx d n) (bv, cv) x = (bv, cv) := by
        unfold tieC tie
        by_cases hc : tr_canon n x = true
        · rw [if_pos hc]
          have ha : ¬ al n (fun i j => m0.2 2 (8 * i + j)) x = true := fun z => g1 ⟨of_decide_eq_true hc, al_iff.mp z⟩
          rw [if_neg ha]
        · rw [if_neg hc]
      rw [e]
      exact hb
theorem os_ties : ol_s_ties Rl := by
  intro c m hR
  obtain ⟨ht, n, d, hl, hd, hp, h4, h5, h6, h7, h8⟩ := id hR
  have hn := rl_n8 hl
  rcases hl.1 with hn0 | ⟨hn3, hn8⟩
  · subst hn0
    have e17 := h6.1 rfl
    obtain ⟨m', f1, f2, _⟩ := pm_first hn hl.2.2
    refine ⟨0, m', ?_, ?_, Rl_m f2 (by decide) (by decide) hR⟩
    · unfold oc_T_ties oc_TourList_countLeast oc_TourList_firstLeast
      have : oc_TourList_firstLeast_h4 (-1 : Int32) (0 : Int32) c = some (-1) := by
        unfold oc_TourList_firstLeast_h4
        refine ox_w_inr ?_
        show oc_TourList_firstLeast_b4 (-1 : Int32) (0 : Int32) c = _
        unfold oc_TourList_firstLeast_b4
        rw [e17, if_pos (by decide)]
      rw [this]
      rfl
    · unfold om_Mo_ties
      rw [hl.2.2, if_pos (by decide), f1]
      simp only [Option.bind_some]
      unfold om_Mo_ties_h21
      refine ox_w_inr ?_
      show om_Mo_ties_b21 (-1 : Int32) (0 : Int32) (0 : Int32) m' = _
      unfold om_Mo_ties_b21
      rw [if_pos rfl]
  · have hd9 : ∀ i j, i < n → j < n → d i j ≤ 9999 := fun i j hi hj => (hd i j hi hj).2.2.2.1
    obtain ⟨m1, f1, f2, f3⟩ := pm_first hn hl.2.2
    obtain ⟨a1, a2, a3, a4⟩ := tr_ok hn3 hn8
    have hdd : ∀ i j, i < n → j < n → m.2 1 (8 * i + j) = nI (d i j) := fun i j hi hj => (hd i j hi hj).2.1
    obtain ⟨⟨x1, x2⟩, r, σ', s1, s2, s3, s4⟩ := chain_loop (n := n) (m0 := m) (fun t : Int32 × Int32 × Int32 × ox_S => om_Mo_ties_b21 t.1 t.2.1 t.2.2.1 t.2.2.2) (fun (b : Int32 × Int32) r s => (b.1, b.2, r, s)) (tieC n (al n (fun i j => m.2 2 (8 * i + j))) (lnx d n)) rept (fun _ => False) hn3 hn8 hl.2.2 (fun _ _ _ h => absurd h id) (fun x σ s b h1 h2 h3 h4 _ => pm_tie1 hn3 hn8 hdd hd9 hl.2.2 x σ s b h1 h2 h3 h4) (tr_rows n) a1 (rows_ok hn3 hn8) _ a4 m1 (none, 0) (-1, 0) f2 (ro_eq f3 (fun k hk => (fc_enc n (fok_8 hn8 fok_0) k hk).symm)) ⟨rfl, Or.inl ⟨rfl, rfl⟩⟩
    rw [tieC_filter] at s3
    change rept ((tr_can n).foldl (tie (al n (fun i j => m.2 2 (8 * i + j))) (lnx d n)) (none, 0)) (x1, x2) at s3
    have hr : r = 0 := s2.elim id (fun z => absurd z.2 id)
    subst hr
    have hmod : om_Mo_ties m = some (x2, σ') := by
      unfold om_Mo_ties
      rw [hl.2.2, if_neg (nI_nle (by omega) (by omega)), f1]
      simp only [Option.bind_some]
      unfold om_Mo_ties_h21
      refine s1.trans ?_
      refine ox_w_inr ?_
      show om_Mo_ties_b21 x1 x2 (0 : Int32) σ' = _
      unfold om_Mo_ties_b21
      rw [if_pos rfl]
    obtain ⟨x', c1, c2⟩ := pc_first hn3 hn8 h5 hd9 h6 (tr_can n).length 0 (by omega) (-1) (Or.inl ⟨rfl, rfl, fun p hp => by omega⟩)
    have ti := tie_inv (al n (fun i j => m.2 2 (8 * i + j))) (lnx d n) (tr_can n) (tr_can n).length (Nat.le_refl _)
    rw [List.take_length] at ti
    refine ⟨x2, σ', ?_, hmod, Rl_m s4 (by decide) (by decide) hR⟩
    unfold oc_T_ties oc_TourList_countLeast oc_TourList_firstLeast
    rw [show oc_TourList_firstLeast_h4 (-1 : Int32) (0 : Int32) c = some x' from c1]
    simp only [Option.bind_some]
    rcases c2 with ⟨g1, g2, g3⟩ | ⟨q, q1, q2, q3, q4, q5, q6, q7⟩
    · rcases ti with ⟨_, t2⟩ | ⟨p, p1, p2, _⟩
      · rw [t2] at s3
        rw [g2, if_neg (by decide)]
        have := s3.1
        change x2 = 0 at this
        rw [this]
        rfl
      · rw [g3 p p1] at p2; cases p2
    · rcases ti with ⟨t1, _⟩ | ⟨p, p1, p2, p3, p4⟩
      · rw [t1 q q1] at q5; cases q5
      · have e : lnx d n ((tr_can n).getD p 0) = lnx d n ((tr_can n).getD q 0) := Nat.le_antisymm (p3 q q1 q5) (q7 p p1 p2)
        rw [p4, e] at s3
        have ex : x2 = nI (cnt (al n (fun i j => m.2 2 (8 * i + j))) (lnx d n) (tr_can n) (lnx d n ((tr_can n).getD q 0)) (tr_can n).length) := s3.1
        have h0 := pc_count hn3 hn8 h5 hd9 h6 q2 ((tr_can n).length - q) q (by omega)
        rw [cnt_0 q (fun p hp ha e2 => by have := q6 p hp ha; omega)] at h0
        rw [q4, if_pos (nI_pos' (by omega)), show (0 : Int32) = nI 0 from rfl, h0, ex]
        rfl
