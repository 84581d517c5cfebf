/-! load: one line -/
def eof (tx : Nat → Int32) : List (Nat × Nat) → Bool
  | [(s, e)] => wis tx s e 0
  | _ => false
theorem pc_end {tx : Nat → Int32} {a b : Nat} {L : List (Nat × Nat)} {c : ox_S} (hc : cln tx a b L c) : oc_Reader_acceptsEnd c = if eof tx L = true then some (1, ox_s1 c 4 2) else some (0, c) := by
  have hl := hc.2.2.2.2.2.1
  unfold oc_Reader_acceptsEnd
  rw [hc.2.2.2.2.1.1]
  match L, hc, hl with
  | [], _, _ => rfl
  | [(s, e)], hc, _ =>
    have n0 : oc_Line_wordIs (0 : Int32) 0 c = some (b01 (wis tx s e 0)) := cln_is hc (by omega) (k := 0) (by show 0 < 1; omega) rfl
    rw [if_pos (show nI [(s, e)].length = 1 from rfl), n0]
    show (some (b01 (wis tx s e 0))).bind _ = if wis tx s e 0 = true then _ else _
    cases wis tx s e 0 <;> rfl
  | w :: w' :: L, _, hl =>
    have hl' : L.length + 2 ≤ 240 := hl
    rw [if_neg (show ¬ nI (w :: w' :: L).length = 1 from nI_ne (a := L.length + 2) (b := 1) (by omega) (by omega) (by omega))]
    rfl
/-- the reference's end of a line that is not EOF -/
theorem pm_j65n {tx : Nat → Int32} {a b t : Nat} {m : ox_S} (ht : t ≤ 4) (hab : a ≤ b) (hb : b ≤ 480) (h5 : m.1 5 = nI b) (htx : ∀ j, j < b → m.2 0 j = tx j) (h8 : m.1 8 = mT t) : ∃ m', om_Mo_line_j65 (nI a) 0 m = some (b01 (decide (t = 1) && (wd tx (b - a) a none).isEmpty), m') ∧ fr [4, 6, 11] [] m m' ∧ m'.1 11 = 0 := by
  unfold om_Mo_line_j65
  have f0 : fr [4, 11] [] m (ox_s1 (ox_s1 m 11 0) 4 (nI a)) := fr_tr (fr_s1 (by decide)) (fr_s1 (by decide))
  have hw : wat tx b (wd tx (b - a) a none) (ox_s1 (ox_s1 m 11 0) 4 (nI a)) := ⟨hb, h5, htx, a, hab, rfl, rfl⟩
  obtain ⟨m1, e1, e2⟩ := wat_more hw
  show ∃ m', (if (ox_s1 (ox_s1 m 11 0) 4 (nI a)).1 8 = 4 then ox_b2 (om_Mo_noMore (ox_s1 (ox_s1 m 11 0) 4 (nI a))) fun r11 s12 => if r11 = 0 then some ((0 : Int32), s12) else some ((1 : Int32), s12) else some ((0 : Int32), ox_s1 (ox_s1 m 11 0) 4 (nI a))) = some (b01 (decide (t = 1) && (wd tx (b - a) a none).isEmpty), m') ∧ fr [4, 6, 11] [] m m' ∧ m'.1 11 = 0
  rw [show (ox_s1 (ox_s1 m 11 0) 4 (nI a)).1 8 = mT t from h8]
  by_cases z : t = 1
  · rw [if_pos ((mT_lt ht).2.2.1.mpr z), decide_eq_true z, e1, Bool.true_and]
    refine ⟨m1, ?_, fr_tr (fr_up f0 (by decide) (by decide)) (fr_up e2 (by decide) (by decide)), (e2.1 11 (by decide)).trans rfl⟩
    simp only [ox_b2_s]
    cases (wd tx (b - a) a none).isEmpty <;> rfl
  · rw [if_neg (fun q => z ((mT_lt ht).2.2.1.mp q)), decide_eq_false z]
    exact ⟨_, rfl, fr_up f0 (by decide) (by decide), rfl⟩
theorem pm_j65y {a : Nat} {m : ox_S} : ∃ m', om_Mo_line_j65 (nI a) 1 m = some (1, m') ∧ fr [4, 6, 11] [] m m' ∧ m'.1 11 = 1 := ⟨ox_s1 (ox_s1 m 11 1) 4 (nI a), rfl, fr_tr (fr_s1 (by decide)) (fr_s1 (by decide)), rfl⟩
theorem pm_end {tx : Nat → Int32} {a b t : Nat} {m : ox_S} (ht : t ≤ 4) (hab : a ≤ b) (hm : wat tx b (wd tx (b - a) a none) m) (h8 : m.1 8 = mT t) : ∃ m', (ox_b2 (om_Mo_word m) fun r7 s8 => if r7 = 0 then om_Mo_line_j65 (nI a) (0 : Int32) s8 else (om_Mo_is (13 : Int32) s8).bind fun r13 => if r13 = 0 then om_Mo_line_j65 (nI a) (0 : Int32) s8 else ox_b2 (om_Mo_noMore s8) fun r14 s15 => if r14 = 0 then om_Mo_line_j65 (nI a) (0 : Int32) s15 else om_Mo_line_j65 (nI a) (1 : Int32) s15) = some (b01 (eof tx (wd tx (b - a) a none) || (decide (t = 1) && (wd tx (b - a) a none).isEmpty)), m') ∧ fr [4, 6, 11] [] m m' ∧ m'.1 11 = b01 (eof tx (wd tx (b - a) a none)) := by
  have j0 : ∀ m1, fr [4, 6] [] m m1 → eof tx (wd tx (b - a) a none) = false → ∃ m', om_Mo_line_j65 (nI a) 0 m1 = some (b01 (eof tx (wd tx (b - a) a none) || (decide (t = 1) && (wd tx (b - a) a none).isEmpty)), m') ∧ fr [4, 6, 11] [] m m' ∧ m'.1 11 = b01 (eof tx (wd tx (b - a) a none)) := by
    intro m1 hf he
    obtain ⟨m2, g1, g2, g3⟩ := pm_j65n (tx := tx) (a := a) (b := b) (m := m1) ht hab hm.1 ((hf.1 5 (by decide)).trans hm.2.1) (fun j hj => by rw [hf.2 0 (by decide)]; exact hm.2.2.1 j hj) ((hf.1 8 (by decide)).trans h8)
    rw [he, Bool.false_or]
    exact ⟨m2, g1, fr_tr (fr_up hf (by decide) (by decide)) g2, g3⟩
  generalize hW : wd tx (b - a) a none = W at *
  match W with
  | [] =>
    obtain ⟨m1, e1, e2⟩ := wat_nil hm
    rw [e1]
    exact j0 m1 e2 rfl
  | (s, e) :: W =>
    obtain ⟨m1, e1, e2, e3⟩ := wat_cons hm
    have i0 : om_Mo_is (13 : Int32) m1 = some (b01 (wis tx s e 0)) := wcu_is e3 (x := 0) (by omega)
    rw [e1]
    simp only [ox_b2_s]
    rw [if_neg (show ¬ (1 : Int32) = 0 by decide), i0]
    simp only [Option.bind_some]
    cases q : wis tx s e 0 with
    | false =>
      rw [if_pos (show b01 false = 0 by decide)]
      refine j0 m1 e2 ?_
      cases W with
      | nil => exact q
      | cons _ _ => rfl
    | true =>
      rw [if_neg (show ¬ b01 true = 0 by decide)]
      obtain ⟨m2, e4, e5⟩ := wat_more e3.1
      rw [e4]
      simp only [ox_b2_s]
      cases W with
      | nil =>
        rw [if_neg (show ¬ b01 (List.isEmpty ([] : List (Nat × Nat))) = 0 by show ¬ b01 true = 0; decide)]
        obtain ⟨m3, g1, g2, g3⟩ := pm_j65y (a := a) (m := m2)
        have he : eof tx [(s, e)] = true := q
        rw [he]
        exact ⟨m3, g1, fr_tr (fr_up (fr_tr e2 e5) (by decide) (by decide)) g2, g3⟩
      | cons w W =>
        rw [if_pos (show b01 (List.isEmpty (w :: W)) = 0 from rfl)]
        exact j0 m2 (fr_tr e2 e5) rfl
/-- the end, on both sides -/
theorem rd_end {t f D : Nat} {c m m' : ox_S} (hr : rdh 1 t f D c m) (hf : fr [4, 6, 11] [] m m') (h11 : m'.1 11 = 1) : rdh 2 t f D (ox_s1 c 4 2) m' := by
  obtain ⟨⟨a1, a2, a3, a4⟩, ⟨b1, b2, b3, b4, b5⟩, _, r⟩ := hr
  exact ⟨⟨rfl, a2, a3, a4⟩, ⟨(hf.1 7 (by decide)).trans b1, (hf.1 8 (by decide)).trans b2, (hf.1 9 (by decide)).trans b3, (hf.1 10 (by decide)).trans b4, h11⟩, by omega, r⟩
theorem rd_stay {t f D : Nat} {c m m' : ox_S} (hr : rdh 1 t f D c m) (hf : fr [4, 6, 11] [] m m') (h11 : m'.1 11 = 0) : rdh 1 t f D c m' := by
  obtain ⟨⟨a1, a2, a3, a4⟩, ⟨b1, b2, b3, b4, b5⟩, _, r⟩ := hr
  exact ⟨⟨a1, a2, a3, a4⟩, ⟨(hf.1 7 (by decide)).trans b1, (hf.1 8 (by decide)).trans b2, (hf.1 9 (by decide)).trans b3, (hf.1 10 (by decide)).trans b4, h11⟩, by omega, r⟩
theorem rdP_w {t D r : Nat} {c c' m m' : ox_S} (h : rdP t D r c m) {S : List Nat} (hm : fr S [] m m') (h12 : 12 ∉ S) (h7 : c'.1 7 = c.1 7) (h2 : c'.2 = c.2) : rdP t D r c' m' := by
  obtain ⟨a1, a2, a3, a4, X, Y, a5, a6⟩ := h
  refine ⟨a1, h7.trans a2, (hm.1 12 h12).trans a3, by rw [h2]; exact a4, X, Y, ?_, by rw [h2]; exact a6⟩
  rw [h2, hm.2 8 (by decide), hm.2 9 (by decide)]
  exact a5
theorem rdE_c {f D r k : Nat} {c c' m : ox_S} (h : rdE f D r k c m) (h7 : c'.1 7 = c.1 7) (h8 : c'.1 8 = c.1 8) (h2 : c'.2 = c.2) : rdE f D r k c' m := by
  obtain ⟨a1, a2, a3, a4, a5, a6⟩ := h
  exact ⟨a1, h7.trans a2, h8.trans a3, a4, by rw [h2]; exact a5, by rw [h2]; exact a6⟩
theorem lnO_z {oc om oc' om' : Option (Int32 × ox_S)} {c m : ox_S} (h : lnO oc om c m) (h1 : ∀ r s, (r = 0 ∨ r = 1) → oc = some (r, s) → oc' = some (r, s)) (h2 : ∀ r s, (r = 0 ∨ r = 1) → om = some (r, s) → om' = some (r, s)) : lnO oc' om' c m := by
  obtain ⟨c', m', a1, a2, a3⟩ := h
  refine ⟨c', m', a1, a2, ?_⟩
  rcases a3 with ⟨a4, a5⟩ | ⟨a4, a5, a6⟩
  · exact Or.inl ⟨h1 _ _ (Or.inl rfl) a4, h2 _ _ (Or.inl rfl) a5⟩
  · exact Or.inr ⟨h1 _ _ (Or.inr rfl) a4, h2 _ _ (Or.inr rfl) a5, a6⟩
theorem b2_z {o : Option (Int32 × ox_S)} (r : Int32) (s : ox_S) (h : r = 0 ∨ r = 1) (e : o = some (r, s)) : (ox_b2 o fun r s => ox_z r (some (r, s))) = some (r, s) := by
  rw [e]
  show ox_z r (some (r, s)) = _
  unfold ox_z
  rw [if_pos h]
theorem ln_line {tx : Nat → Int32} {a b : Nat} {c m : ox_S} (hc : cln tx a b (wd tx (b - a) a none) c) (hm : wat tx b (wd tx (b - a) a none) (ox_s1 m 4 (nI a))) (h : rd c m) : lnO (oc_Reader_accepts c) (om_Mo_line (nI a) m) c m := by
  obtain ⟨st, t, f, D, hr, hd⟩ := h
  have f0 : fr [4] [] m (ox_s1 m 4 (nI a)) := fr_s1 (by decide)
  have F0 : fM m (ox_s1 m 4 (nI a)) := fr_up f0 (by decide) (by decide)
  have hr1 : rdh st t f D c (ox_s1 m 4 (nI a)) := rdh_fr hr (fr_rf (S := []) (T := [])) f0 (by decide) (by decide)
  have hab := hc.2.1
  refine lnO_t2 fr_rf F0 ?_
  unfold oc_Reader_accepts om_Mo_line
  simp only [ox_let]
  have hd1 : rdD st t f D c (ox_s1 m 4 (nI a)) := by
    refine ⟨hd.1, fun z => ⟨(hd.2 z).1, ?_⟩⟩
    rcases (hd.2 z).2 with ⟨z1, z2, r, k, z3, z4⟩ | ⟨z1, r, z3, z4⟩
    · exact Or.inl ⟨z1, z2, r, k, rdE_w z3 f0 (by decide), z4⟩
    · exact Or.inr ⟨z1, r, rdP_w z3 f0 (by decide) rfl rfl, z4⟩
  have h4 : (ox_s1 m 4 (nI a)).1 4 = nI a := rfl
  generalize ox_s1 m 4 (nI a) = s1 at *
  have hr2 := hr1
  obtain ⟨⟨hc4, hc5, hc6, hc9⟩, ⟨hm7, hm8, hm9, hm10, hm11⟩, hst, ht, hf3, hD⟩ := hr1
  have hst3 : st = 0 ∨ st = 1 ∨ st = 2 := by omega
  rcases hst3 with rfl | rfl | rfl
  · rw [hc4, hm10, hm11, if_pos (show nI 0 = 0 from rfl), if_pos (show nI (if 0 = 2 then 1 else 0) = 0 from rfl), if_pos (show nI (if 0 = 0 then 0 else 1) = 0 from rfl)]
    exact lnO_z (ln_head hc hm h4 hr2 hd1) b2_z b2_z
  · rw [hc4, hm10, hm11, if_neg (show ¬ nI 1 = 0 by decide), if_neg (show ¬ nI 1 = 2 by decide), if_pos (show nI (if 1 = 2 then 1 else 0) = 0 from rfl), if_neg (show ¬ nI (if 1 = 0 then 0 else 1) = 0 by decide)]
    obtain ⟨hD0, hdd⟩ := hd1.2 (by decide)
    have h3 : 3 ≤ D := by omega
    have h8 : D ≤ 8 := by omega
    rcases hdd with ⟨rfl, hf0, r, k, he, _⟩ | ⟨ht2, r, hp, _⟩
    · have he0 := he
      obtain ⟨v1, v2, v3, v4, v5, v6⟩ := he
      rw [hc5, if_pos (show nI 1 = 1 from rfl), pm_due1 (by omega) hf3 h3 h8 hm7 hm8 hm9]
      simp only [Option.bind_some]
      rw [v4]
      rcases v1 with hv | ⟨z1, z2⟩
      · obtain ⟨l1, l2, l3, l4⟩ := vps_lt hf3 h8 hv h3
        obtain ⟨_, x2, _, x4⟩ := cix_1 f (by omega) (by omega) D (by omega) h3 r (by omega) k (by omega) hv
        rw [if_neg (nI_ne (by omega) (by omega) (by omega)), hm8, if_pos (show mT 1 = 4 by decide)]
        refine lnO_z (ln_dist (by omega) hf3 h3 h8 (wd tx (b - a) a none) 0 c s1 r k rfl (Nat.zero_add _) hc hm hr2 he0) (fun r s h1 h2 => b2_z r s h1 ?_) b2_z
        rw [← h2]
        unfold oc_Reader_acceptsDistances
        rw [pc_rows hf3 h3 h8 hc6 hc9]
        simp only [Option.bind_some]
        rw [v2, if_pos (nI_lt hv.1 (by unfold rws; split <;> omega))]
        rfl
      · subst z1
        rw [z2, if_pos rfl]
        obtain ⟨m2, g1, g2, g3⟩ := pm_end ht hab hm hm8
        rw [g1]
        have G2 : fM s1 m2 := fr_up g2 (by decide) (by decide)
        have cl : oc_Reader_acceptsDistances c = if c.1 3 ≤ 0 then oc_Reader_acceptsDistances_h28 0 c else ox_b2 (oc_Reader_acceptsEnd c) fun r11 s12 => ox_z r11 (some (r11, s12)) := by
          unfold oc_Reader_acceptsDistances
          rw [pc_rows hf3 h3 h8 hc6 hc9]
          simp only [Option.bind_some]
          rw [v2, if_neg (fun z => Int32.lt_irrefl z)]
        rw [cl, pc_end hc, hc.2.2.2.2.1.1]
        have hl := hc.2.2.2.2.2.1
        have hlen := hc.2.2.2.2.1.1
        generalize wd tx (b - a) a none = L at *
        cases hE : eof tx L with
        | true =>
          rw [hE] at g1 g3
          have hL1 : 1 ≤ L.length := by
            cases L with
            | nil => cases hE
            | cons _ _ => exact Nat.succ_le_succ (Nat.zero_le _)
          rw [if_neg (nI_nle (by omega) (by omega)), if_pos rfl]
          refine lnO_1 (c' := ox_s1 c 4 2) (m' := m2) (fr_s1 (by decide)) G2 rfl rfl ⟨2, 1, f, D, rd_end hr2 g2 g3, fun z => absurd z (by decide), fun _ => ⟨hD0, Or.inl ⟨rfl, hf0, rws f D, k, rdE_c (rdE_w he0 g2 (by decide)) rfl rfl rfl, fun _ => rfl⟩⟩⟩
        | false =>
          rw [hE] at g1 g3
          rw [if_neg (show ¬ false = true by decide), Bool.false_or]
          cases L with
          | nil =>
            rw [if_pos (show nI ([] : List (Nat × Nat)).length ≤ 0 by decide)]
            have c1 : oc_Reader_acceptsDistances_h28 0 c = some (1, c) := by
              unfold oc_Reader_acceptsDistances_h28
              refine ox_w_inr ?_
              show oc_Reader_acceptsDistances_b28 0 c = _
              unfold oc_Reader_acceptsDistances_b28
              rw [hlen, if_pos (show nI ([] : List (Nat × Nat)).length ≤ 0 by decide)]
            rw [c1]
            exact lnO_1 (c' := c) (m' := m2) fr_rf G2 rfl rfl ⟨1, 1, f, D, rd_stay hr2 g2 g3, fun z => absurd z (by decide), fun _ => ⟨hD0, Or.inl ⟨rfl, hf0, rws f D, k, rdE_w he0 g2 (by decide), fun z => absurd z (by decide)⟩⟩⟩
          | cons w L =>
            have hL2 : L.length + 1 ≤ 240 := hl
            rw [if_neg (show ¬ nI (w :: L).length ≤ 0 from nI_nle (n := L.length + 1) (by omega) (by omega))]
            exact lnO_0 (c' := c) (m' := m2) fr_rf G2 rfl rfl
    · have hp0 := hp
      obtain ⟨v1, v2, v3, _⟩ := hp
      have hdue : om_Mo_due s1 = some (nI D) := by
        unfold om_Mo_due
        rw [hm8, hm7, if_neg (fun q => by have := (mT_lt ht).2.2.1.mp q; omega)]
      rw [hc5, if_neg (show ¬ nI t = 1 from nI_ne (b := 1) (by omega) (by omega) (by omega)), hdue]
      simp only [Option.bind_some]
      rw [v3]
      by_cases hrD : r < D
      · rw [if_neg (nI_ne (by omega) (by omega) (by omega)), hm8, if_neg (fun q => by have := (mT_lt ht).2.2.1.mp q; omega)]
        exact lnO_z (ln_place hc hm hr2 ht2 hp0 hrD h3 h8) b2_z b2_z
      · have e : r = D := by omega
        subst e
        rw [if_pos rfl]
        obtain ⟨m2, g1, g2, g3⟩ := pm_end ht hab hm hm8
        rw [g1]
        have G2 : fM s1 m2 := fr_up g2 (by decide) (by decide)
        have cl : oc_Reader_acceptsPlace c = ox_b2 (oc_Reader_acceptsEnd c) fun r11 s12 => ox_z r11 (some (r11, s12)) := by
          unfold oc_Reader_acceptsPlace
          rw [v2, hc9, if_neg (fun z => Int32.lt_irrefl z)]
        rw [cl, pc_end hc, decide_eq_false (show ¬ t = 1 by omega), Bool.false_and, Bool.or_false]
        cases hE : eof tx (wd tx (b - a) a none) with
        | true =>
          rw [hE] at g3
          exact lnO_1 (c' := ox_s1 c 4 2) (m' := m2) (fr_s1 (by decide)) G2 rfl rfl ⟨2, t, f, r, rd_end hr2 g2 g3, fun z => absurd z (by decide), fun _ => ⟨hD0, Or.inr ⟨ht2, r, rdP_w hp0 g2 (by decide) rfl rfl, fun _ => rfl⟩⟩⟩
        | false => exact lnO_0 (c' := c) (m' := m2) fr_rf G2 rfl rfl
  · rw [hc4, hm11, if_neg (show ¬ nI 2 = 0 by decide), if_pos (show nI 2 = 2 from rfl), if_neg (show ¬ nI (if 2 = 2 then 1 else 0) = 0 by decide)]
    exact lnO_0 fr_rf fr_rf rfl rfl
