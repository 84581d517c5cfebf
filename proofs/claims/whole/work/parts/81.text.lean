/-! load: the text, line by line -/
theorem s1_s1 (m : ox_S) (k : Nat) (v w : Int32) : ox_s1 (ox_s1 m k v) k w = ox_s1 m k w := by
  refine Prod.ext (funext fun j => ?_) rfl
  show (if j = k then w else if j = k then v else m.1 j) = if j = k then w else m.1 j
  split <;> rfl
theorem rd_fr {st t f D : Nat} {c m c' m' : ox_S} {S T S' T' : List Nat} (hc : fr S T c c') (hm : fr S' T' m m') (h1 : ∀ x ∈ [4, 5, 6, 7, 8, 9], x ∉ S) (h2 : ∀ x ∈ [3, 4, 5], x ∉ T) (h3 : ∀ x ∈ [7, 8, 9, 10, 11, 12], x ∉ S') (h4 : ∀ x ∈ [7, 8, 9], x ∉ T') (hr : rdh st t f D c m) (hd : rdD st t f D c m) : rdh st t f D c' m' ∧ rdD st t f D c' m' := by
  have g7 := hc.1 7 (h1 7 (by decide))
  have g8 := hc.1 8 (h1 8 (by decide))
  have t3 := hc.2 3 (h2 3 (by decide))
  have t4 := hc.2 4 (h2 4 (by decide))
  have t5 := hc.2 5 (h2 5 (by decide))
  have m12 := hm.1 12 (h3 12 (by decide))
  have a7 := hm.2 7 (h4 7 (by decide))
  have a8 := hm.2 8 (h4 8 (by decide))
  have a9 := hm.2 9 (h4 9 (by decide))
  obtain ⟨⟨b1, b2, b3, b4⟩, ⟨d1, d2, d3, d4, d5⟩, r⟩ := hr
  refine ⟨⟨⟨(hc.1 4 (h1 4 (by decide))).trans b1, (hc.1 5 (h1 5 (by decide))).trans b2, (hc.1 6 (h1 6 (by decide))).trans b3, (hc.1 9 (h1 9 (by decide))).trans b4⟩, ⟨(hm.1 7 (h3 7 (by decide))).trans d1, (hm.1 8 (h3 8 (by decide))).trans d2, (hm.1 9 (h3 9 (by decide))).trans d3, (hm.1 10 (h3 10 (by decide))).trans d4, (hm.1 11 (h3 11 (by decide))).trans d5⟩, r⟩, ?_⟩
  unfold rdD rdE rdP at hd ⊢
  rw [g7, g8, t3, t4, t5, m12, a7, a8, a9]
  exact hd
def txO (oc om : Option (Int32 × ox_S)) (c m : ox_S) : Prop := ∃ c' m', fr [1, 2, 3, 4, 5, 6, 7, 8, 9] [1, 2, 3, 4, 5] c c' ∧ fr [4, 5, 6, 7, 8, 9, 10, 11, 12] [7, 8, 9] m m' ∧ ((∃ r, oc = some (r, c') ∧ om = some (r, m') ∧ ¬ r = 0) ∨ (oc = some (0, c') ∧ om = (om_Mo_adopt m').bind (fun s7 => some ((0 : Int32), s7)) ∧ ∃ t f D, rdh 2 t f D c' m' ∧ rdD 2 t f D c' m'))
theorem nl_ex {tx : Nat → Int32} {N : Nat} : ∀ d a, a + d = N → ∃ b, a ≤ b ∧ b ≤ N ∧ (∀ j, a ≤ j → j < b → ¬ tx j = 10) ∧ (b = N ∨ tx b = 10) := by
  intro d
  induction d with
  | zero => exact fun a h => ⟨a, by omega, by omega, fun j _ _ => by omega, Or.inl (by omega)⟩
  | succ d ih =>
    intro a h
    by_cases z : tx a = 10
    · exact ⟨a, by omega, by omega, fun j _ _ => by omega, Or.inr z⟩
    · obtain ⟨b, b1, b2, b3, b4⟩ := ih (a + 1) (by omega)
      refine ⟨b, by omega, b2, fun j j1 j2 => ?_, b4⟩
      by_cases y : j = a
      · rw [y]
        exact z
      · exact b3 j (by omega) j2
theorem pc_scan {tx : Nat → Int32} {N b : Nat} (hN : N ≤ 480) (hb : b ≤ N) {c : ox_S} (h0 : c.1 0 = nI N) (htx : ∀ j, j < N → c.2 0 j = tx j) (x1 x2 : Int32) : ∀ d p, p + d = b → (∀ j, p ≤ j → j < b → ¬ tx j = 10) → oc_Reader_read_h10 x1 x2 (nI p) c = oc_Reader_read_h10 x1 x2 (nI b) c := by
  intro d
  induction d with
  | zero =>
    intro p hp _
    rw [show p = b by omega]
  | succ d ih =>
    intro p hp hj
    rw [← ih (p + 1) (by omega) (fun j j1 j2 => hj j (by omega) j2)]
    unfold oc_Reader_read_h10
    refine ox_w_inl ?_
    show oc_Reader_read_b10 x1 x2 (nI p) c = _
    unfold oc_Reader_read_b10
    rw [h0, if_neg (nI_ge (by omega) (by omega)), ox_ix_nI (show p < 480 by omega) (by omega), htx p (by omega), if_neg (hj p (by omega) (by omega)), nI_1]
    rfl
theorem pm_scan {tx : Nat → Int32} {N b : Nat} (hN : N ≤ 480) (hb : b ≤ N) {m : ox_S} (h0 : m.1 0 = nI N) (htx : ∀ j, j < N → m.2 0 j = tx j) (x1 x2 : Int32) : ∀ d p, p + d = b → (∀ j, p ≤ j → j < b → ¬ tx j = 10) → om_Mo_load_h47 x1 x2 (ox_s1 m 5 (nI p)) = om_Mo_load_h47 x1 x2 (ox_s1 m 5 (nI b)) := by
  intro d
  induction d with
  | zero =>
    intro p hp _
    rw [show p = b by omega]
  | succ d ih =>
    intro p hp hj
    rw [← ih (p + 1) (by omega) (fun j j1 j2 => hj j (by omega) j2)]
    unfold om_Mo_load_h47
    refine ox_w_inl ?_
    show om_Mo_load_b47 x1 x2 (ox_s1 m 5 (nI p)) = _
    unfold om_Mo_load_b47
    rw [show (ox_s1 m 5 (nI p)).1 0 = nI N from h0, show (ox_s1 m 5 (nI p)).1 5 = nI p from rfl, if_neg (nI_ge (by omega) (by omega)), ox_ix_nI (show p < 480 by omega) (by omega), show (ox_s1 m 5 (nI p)).2 0 p = tx p from htx p (by omega), if_neg (hj p (by omega) (by omega)), nI_1]
    simp only [ox_let]
    rw [s1_s1]
theorem neg_n {n : Nat} (h1 : 1 ≤ n) (h2 : n ≤ 1000) : ¬ -nI n = 0 := by
  intro z
  have : nI n = 0 := by grind
  exact nI_ne0 (by omega) (by omega) this
theorem ln_text {N : Nat} (hN : N ≤ 480) {tx : Nat → Int32} : ∀ k a, N - a ≤ k → a ≤ N → ∀ n (c m : ox_S), 1 ≤ n → n ≤ a + 1 → c.1 0 = nI N → m.1 0 = nI N → (∀ j, j < N → c.2 0 j = tx j) → (∀ j, j < N → m.2 0 j = tx j) → rd c m → txO (oc_Reader_read_h10 (nI n) (nI a) (nI a) c) (om_Mo_load_h34 (nI n) (nI a) m) c m := by
  intro k
  induction k with
  | zero =>
    intro a hk ha n c m n1 n2 hc0 hm0 hct hmt h
    have e : a = N := by omega
    subst e
    have hcb : oc_Reader_read_b10 (nI n) (nI a) (nI a) c = if c.1 4 = 2 then some (.inr (0, c)) else some (.inr (-nI n, c)) := by
      unfold oc_Reader_read_b10
      rw [hc0, if_pos (Int32.le_refl _), if_pos rfl]
    have hmb : om_Mo_load_b34 (nI n) (nI a) m = if m.1 11 = 0 then some (.inr (-nI n, m)) else (om_Mo_adopt m).bind fun s7 => some (.inr ((0 : Int32), s7)) := by
      unfold om_Mo_load_b34
      rw [hm0, if_pos (Int32.le_refl _)]
    obtain ⟨st, t, f, D, hr, hd⟩ := h
    by_cases z : st = 2
    · subst z
      rw [show c.1 4 = 2 from hr.1.1, if_pos rfl] at hcb
      rw [show m.1 11 = 1 from hr.2.1.2.2.2.2, if_neg (by decide)] at hmb
      refine ⟨c, m, fr_rf, fr_rf, Or.inr ⟨?_, ?_, t, f, D, hr, hd⟩⟩
      · unfold oc_Reader_read_h10
        exact ox_w_inr hcb
      · cases q : om_Mo_adopt m with
        | none =>
          rw [q] at hmb
          unfold om_Mo_load_h34
          exact ox_w_none hmb
        | some s7 =>
          rw [q] at hmb
          unfold om_Mo_load_h34
          exact ox_w_inr hmb
    · have hst := hr.2.2.1
      rw [show c.1 4 = nI st from hr.1.1, if_neg (show ¬ nI st = 2 from nI_ne (b := 2) z (by omega) (by omega))] at hcb
      rw [show m.1 11 = nI (if st = 2 then 1 else 0) from hr.2.1.2.2.2.2, if_neg z, if_pos (show nI 0 = 0 from rfl)] at hmb
      refine ⟨c, m, fr_rf, fr_rf, Or.inl ⟨-nI n, ?_, ?_, neg_n n1 (by omega)⟩⟩
      · unfold oc_Reader_read_h10
        exact ox_w_inr hcb
      · unfold om_Mo_load_h34
        exact ox_w_inr hmb
  | succ k ih =>
    intro a hk ha n c m n1 n2 hc0 hm0 hct hmt h
    by_cases hk0 : N - a ≤ k
    · exact ih a hk0 ha n c m n1 n2 hc0 hm0 hct hmt h
    obtain ⟨b, b1, b2, b3, b4⟩ := nl_ex (tx := tx) (N := N) (N - a) a (by omega)
    rw [pc_scan hN b2 hc0 hct (nI n) (nI a) (b - a) a (by omega) b3]
    have f5 : fr [5] [] m (ox_s1 m 5 (nI b)) := fr_s1 (by decide)
    have hm34 : om_Mo_load_b34 (nI n) (nI a) m = om_Mo_load_h47 (nI n) (nI a) (ox_s1 m 5 (nI b)) := by
      unfold om_Mo_load_b34
      rw [hm0, if_neg (nI_ge (by omega) (by omega))]
      simp only [ox_let]
      exact pm_scan hN b2 hm0 hmt (nI n) (nI a) (b - a) a (by omega) b3
    by_cases hbN : b = N
    · -- the last line has no end
      subst hbN
      refine ⟨c, ox_s1 m 5 (nI b), fr_rf, fr_up f5 (by decide) (by decide), Or.inl ⟨-nI n, ?_, ?_, neg_n n1 (by omega)⟩⟩
      · unfold oc_Reader_read_h10
        refine ox_w_inr ?_
        show oc_Reader_read_b10 (nI n) (nI a) (nI b) c = _
        unfold oc_Reader_read_b10
        rw [hc0, if_pos (Int32.le_refl _), if_neg (nI_ne (by omega) (by omega) (by omega))]
        split <;> rfl
      · unfold om_Mo_load_h34
        refine ox_w_inr ?_
        show om_Mo_load_b34 (nI n) (nI a) m = _
        rw [hm34]
        unfold om_Mo_load_h47
        refine ox_w_inr ?_
        show om_Mo_load_b47 (nI n) (nI a) (ox_s1 m 5 (nI b)) = _
        unfold om_Mo_load_b47
        rw [show (ox_s1 m 5 (nI b)).1 0 = nI b from hm0, show (ox_s1 m 5 (nI b)).1 5 = nI b from rfl, if_pos (Int32.le_refl _)]
        unfold om_Mo_load_j85
        rw [show (ox_s1 m 5 (nI b)).1 0 = nI b from hm0, show (ox_s1 m 5 (nI b)).1 5 = nI b from rfl, if_pos rfl]
        rfl
    · have hb10 : tx b = 10 := b4.resolve_left hbN
      obtain ⟨c1, p1, p2, p3, p4, p5, p6⟩ := pc_part (tx := tx) b1 (show b < 480 by omega) (c := c) (fun j hj => hct j (by omega))
      have hcl : cln tx a b (wd tx (b - a) a none) c1 := ⟨by omega, b1, p3, p4, p5, p6, fun j hj => by rw [p2.2 0 (by decide)]; exact hct j (by omega), wd_ok (by omega) (b - a) a (Nat.le_refl _) b1⟩
      have hwa : wat tx b (wd tx (b - a) a none) (ox_s1 (ox_s1 m 5 (nI b)) 4 (nI a)) := ⟨by omega, rfl, fun j hj => hmt j (by omega), a, b1, rfl, rfl⟩
      have hrd : rd c1 (ox_s1 m 5 (nI b)) := by
        obtain ⟨st, t, f, D, hr, hd⟩ := h
        exact ⟨st, t, f, D, rd_fr p2 f5 (by decide) (by decide) (by decide) (by decide) hr hd⟩
      obtain ⟨c2, m2, g1, g2, g3⟩ := ln_line hcl hwa hrd
      have F1 : fr [1, 2, 3, 4, 5, 6, 7, 8, 9] [1, 2, 3, 4, 5] c c2 := fr_tr (fr_up p2 (by decide) (by decide)) (fr_up g1 (by decide) (by decide))
      have F2 : fr [4, 5, 6, 7, 8, 9, 10, 11, 12] [7, 8, 9] m m2 := fr_tr (fr_up f5 (by decide) (by decide)) (fr_up g2 (by decide) (by decide))
      have hcb : oc_Reader_read_b10 (nI n) (nI a) (nI b) c = ox_b2 (oc_Reader_accepts c1) fun r5 s6 => if r5 = 0 then some (.inr (-nI n, s6)) else some (.inl (nI (n + 1), nI (b + 1), nI (b + 1), s6)) := by
        unfold oc_Reader_read_b10
        rw [hc0, if_neg (nI_ge (by omega) (by omega)), ox_ix_nI (show b < 480 by omega) (by omega), hct b (by omega), if_pos hb10, p1]
        simp only [Option.bind_some, ox_let, nI_1]
      have hmb : om_Mo_load_b34 (nI n) (nI a) m = ox_b2 (om_Mo_line (nI a) (ox_s1 m 5 (nI b))) fun r9 s10 => if r9 = 0 then some (.inr (-nI n, s10)) else ox_let ((s10.1 5) + (1 : Int32)) fun v11 => ox_let (nI n + (1 : Int32)) fun v12 => some (.inl (v12, v11, s10)) := by
        rw [hm34]
        unfold om_Mo_load_h47
        refine ox_w_map ?_
        show om_Mo_load_b47 (nI n) (nI a) (ox_s1 m 5 (nI b)) = _
        unfold om_Mo_load_b47
        rw [show (ox_s1 m 5 (nI b)).1 0 = nI N from hm0, show (ox_s1 m 5 (nI b)).1 5 = nI b from rfl, if_neg (nI_ge (by omega) (by omega)), ox_ix_nI (show b < 480 by omega) (by omega), show (ox_s1 m 5 (nI b)).2 0 b = tx b from hmt b (by omega), if_pos hb10]
        unfold om_Mo_load_j85
        rw [show (ox_s1 m 5 (nI b)).1 0 = nI N from hm0, show (ox_s1 m 5 (nI b)).1 5 = nI b from rfl, if_neg (nI_ne hbN (by omega) (by omega))]
      rcases g3 with ⟨q1, q2⟩ | ⟨q1, q2, q3⟩
      · rw [q1] at hcb
        rw [q2] at hmb
        refine ⟨c2, m2, F1, F2, Or.inl ⟨-nI n, ?_, ?_, neg_n n1 (by omega)⟩⟩
        · unfold oc_Reader_read_h10
          exact ox_w_inr hcb
        · unfold om_Mo_load_h34
          exact ox_w_inr hmb
      · rw [q1] at hcb
        rw [q2] at hmb
        have e5 : m2.1 5 = nI b := (g2.1 5 (by decide)).trans rfl
        have hmb' : om_Mo_load_b34 (nI n) (nI a) m = some (.inl (nI (n + 1), nI (b + 1), m2)) := by
          rw [hmb]
          simp only [ox_b2_s, ox_let]
          rw [if_neg (show ¬ (1 : Int32) = 0 by decide), e5, nI_1, nI_1]
        have oc : oc_Reader_read_h10 (nI n) (nI a) (nI b) c = oc_Reader_read_h10 (nI (n + 1)) (nI (b + 1)) (nI (b + 1)) c2 := by
          unfold oc_Reader_read_h10
          exact ox_w_inl hcb
        have om : om_Mo_load_h34 (nI n) (nI a) m = om_Mo_load_h34 (nI (n + 1)) (nI (b + 1)) m2 := by
          unfold om_Mo_load_h34
          exact ox_w_inl hmb'
        rw [oc, om]
        obtain ⟨c3, m3, k1, k2, k3⟩ := ih (b + 1) (by omega) (by omega) (n + 1) c2 m2 (by omega) (by omega) ((F1.1 0 (by decide)).trans hc0) ((F2.1 0 (by decide)).trans hm0) (fun j hj => by rw [F1.2 0 (by decide)]; exact hct j hj) (fun j hj => by rw [F2.2 0 (by decide)]; exact hmt j hj) q3
        exact ⟨c3, m3, fr_tr F1 k1, fr_tr F2 k2, k3⟩
