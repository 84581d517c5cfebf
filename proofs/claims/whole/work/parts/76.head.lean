/-! load: the head's lines -/
abbrev fC : ox_S → ox_S → Prop := fr [4, 5, 6, 7, 8, 9] [3, 4, 5]
abbrev fM : ox_S → ox_S → Prop := fr [4, 6, 7, 8, 9, 10, 11, 12] [7, 8, 9]
theorem fM_w {m m' : ox_S} (h : fr [4, 6] [] m m') : fM m m' := fr_up h (by decide) (by decide)
theorem lnO_0 {oc om : Option (Int32 × ox_S)} {c m c' m' : ox_S} (h1 : fC c c') (h2 : fM m m') (h3 : oc = some (0, c')) (h4 : om = some (0, m')) : lnO oc om c m := ⟨c', m', h1, h2, Or.inl ⟨h3, h4⟩⟩
theorem lnO_1 {oc om : Option (Int32 × ox_S)} {c m c' m' : ox_S} (h1 : fC c c') (h2 : fM m m') (h3 : oc = some (1, c')) (h4 : om = some (1, m')) (h5 : rd c' m') : lnO oc om c m := ⟨c', m', h1, h2, Or.inr ⟨h3, h4, h5⟩⟩
theorem lnO_tr {oc om : Option (Int32 × ox_S)} {c m m1 : ox_S} (h1 : fM m m1) (h : lnO oc om c m1) : lnO oc om c m := by
  obtain ⟨c', m', a1, a2, a3⟩ := h
  exact ⟨c', m', a1, fr_tr h1 a2, a3⟩
theorem chS {tx : Nat → Int32} {b s e : Nat} {W : List (Nat × Nat)} {m : ox_S} (h : wcu tx b s e W m) {hi x4 x5 : Int32} {k : Nat} (hk : k < 14) (hx : x5 = nI (nmr k)) (hh : ¬ hi < x5) : om_Mo_choice_h11 hi 1 x4 x5 m = om_Mo_choice_h11 hi 1 (if wis tx s e k = true then x5 else x4) (x5 + 1) m := by
  unfold om_Mo_choice_h11
  refine ox_w_inl ?_
  show om_Mo_choice_b11 hi 1 x4 x5 m = _
  unfold om_Mo_choice_b11
  rw [if_neg hh, if_neg (show ¬ (1 : Int32) = 0 by decide), hx, wcu_is h hk]
  simp only [Option.bind_some, ox_let]
  cases wis tx s e k <;> rfl
theorem chE {tx : Nat → Int32} {b : Nat} {W : List (Nat × Nat)} {m : ox_S} (h : wat tx b W m) {hi x3 x4 x5 : Int32} (hh : hi < x5 ∨ x3 = 0) : ∃ m', om_Mo_choice_h11 hi x3 x4 x5 m = some (if W.isEmpty = true then x4 else -1, m') ∧ fr [4, 6] [] m m' := by
  obtain ⟨m', e1, e2⟩ := wat_more h
  refine ⟨m', ?_, e2⟩
  unfold om_Mo_choice_h11
  refine ox_w_inr ?_
  show om_Mo_choice_b11 hi x3 x4 x5 m = _
  unfold om_Mo_choice_b11
  rw [e1]
  simp only [ox_b2_s]
  by_cases z : hi < x5
  · rw [if_pos z]
    cases W.isEmpty <;> rfl
  · rw [if_neg z, if_pos (hh.resolve_left z)]
    cases W.isEmpty <;> rfl
theorem chT {tx : Nat → Int32} {b s e : Nat} {W : List (Nat × Nat)} {m : ox_S} (h : wcu tx b s e W m) : ∃ m', om_Mo_choice_h11 7 1 (-1) 4 m = some (if W.isEmpty = true then (if wis tx s e 11 = true then 7 else if wis tx s e 10 = true then 6 else if wis tx s e 9 = true then 5 else if wis tx s e 8 = true then 4 else -1) else -1, m') ∧ fr [4, 6] [] m m' := by
  rw [chS h (k := 8) (by omega) (by decide) (by decide), show (4 : Int32) + 1 = 5 by decide, chS h (k := 9) (by omega) (by decide) (by decide), show (5 : Int32) + 1 = 6 by decide, chS h (k := 10) (by omega) (by decide) (by decide), show (6 : Int32) + 1 = 7 by decide, chS h (k := 11) (by omega) (by decide) (by decide), show (7 : Int32) + 1 = 8 by decide]
  exact chE h.1 (Or.inl (by decide))
theorem chF {tx : Nat → Int32} {b s e : Nat} {W : List (Nat × Nat)} {m : ox_S} (h : wcu tx b s e W m) : ∃ m', om_Mo_choice_h11 10 1 (-1) 8 m = some (if W.isEmpty = true then (if wis tx s e 7 = true then 10 else if wis tx s e 6 = true then 9 else if wis tx s e 5 = true then 8 else -1) else -1, m') ∧ fr [4, 6] [] m m' := by
  rw [chS h (k := 5) (by omega) (by decide) (by decide), show (8 : Int32) + 1 = 9 by decide, chS h (k := 6) (by omega) (by decide) (by decide), show (9 : Int32) + 1 = 10 by decide, chS h (k := 7) (by omega) (by decide) (by decide), show (10 : Int32) + 1 = 11 by decide]
  exact chE h.1 (Or.inl (by decide))
/-- choice over the rest of a line: -1, but for one word -/
theorem chN {tx : Nat → Int32} {b : Nat} {W : List (Nat × Nat)} {m : ox_S} (h : wat tx b W m) (hW : W.length ≠ 1) : (∃ m', om_Mo_choice 4 7 m = some (-1, m') ∧ fr [4, 6] [] m m') ∧ ∃ m', om_Mo_choice 8 10 m = some (-1, m') ∧ fr [4, 6] [] m m' := by
  unfold om_Mo_choice
  cases W with
  | nil =>
    obtain ⟨m1, e1, e2⟩ := wat_nil h
    have h1 : wat tx b [] m1 ∨ True := Or.inr trivial
    rw [e1]
    simp only [ox_b2_s]
    obtain ⟨a1, a2, a3, p, a4, a5, a6⟩ := h
    rcases pm_word a1 a2 a3 (b - p) p (by omega) m fr_rf a5 with ⟨_, m', q1, q2, q3⟩ | ⟨s, e, m', _, _, _, _, _, _, _, _, e9⟩
    · rw [e1] at q1
      injection q1 with q1
      injection q1 with _ q1
      subst q1
      have hw : wat tx b [] m1 := ⟨a1, by rw [q2.1 5 (by decide), a2], fun j hj => by rw [q2.2 0 (by decide), a3 j hj], b, by omega, q3, by rw [Nat.sub_self]; rfl⟩
      obtain ⟨m2, b1, b2⟩ := chE hw (hi := 7) (x3 := 0) (x4 := -1) (x5 := 4) (Or.inr rfl)
      obtain ⟨m3, b3, b4⟩ := chE hw (hi := 10) (x3 := 0) (x4 := -1) (x5 := 8) (Or.inr rfl)
      exact ⟨⟨m2, b1, fr_tr e2 b2⟩, m3, b3, fr_tr e2 b4⟩
    · rw [a6] at e9
      cases e9
  | cons w W =>
    obtain ⟨m1, e1, e2, e3⟩ := wat_cons h
    rw [e1]
    simp only [ox_b2_s]
    have hE : W.isEmpty = false := by
      cases W with
      | nil => exact absurd rfl hW
      | cons _ _ => rfl
    obtain ⟨m2, b1, b2⟩ := chT e3
    obtain ⟨m3, b3, b4⟩ := chF e3
    rw [hE] at b1 b3
    exact ⟨⟨m2, b1, fr_tr e2 b2⟩, m3, b3, fr_tr e2 b4⟩
theorem mT_lt {t : Nat} (h : t ≤ 4) : (mT t < 0 ↔ t = 0) ∧ (0 ≤ mT t ↔ t ≠ 0) ∧ (mT t = 4 ↔ t = 1) ∧ (4 < mT t ↔ 2 ≤ t) := (by decide +kernel : ∀ t, t ≤ 4 → ((mT t < 0 ↔ t = 0) ∧ (0 ≤ mT t ↔ t ≠ 0) ∧ (mT t = 4 ↔ t = 1) ∧ (4 < mT t ↔ 2 ≤ t))) t h
theorem mF_lt {f : Nat} (h : f ≤ 3) : (mF f < 0 ↔ f = 0) ∧ (0 ≤ mF f ↔ f ≠ 0) ∧ (mF f = 8 ↔ f = 1) ∧ (mF f = 9 ↔ f = 2) ∧ (mF f = 10 ↔ f = 3) := (by decide +kernel : ∀ f, f ≤ 3 → ((mF f < 0 ↔ f = 0) ∧ (0 ≤ mF f ↔ f ≠ 0) ∧ (mF f = 8 ↔ f = 1) ∧ (mF f = 9 ↔ f = 2) ∧ (mF f = 10 ↔ f = 3))) f h
/-- the reference, refusing, at a key whose value does not stand -/
theorem pm_j84 {m : ox_S} {x2 y0 : Int32} : om_Mo_header_j84 0 x2 y0 m = some (0, ox_s1 m 7 y0) := by
  unfold om_Mo_header_j84
  simp only [ox_let]
  rw [if_pos trivial]
theorem pm_j57 {m : ox_S} : ∃ m', om_Mo_header_j57 0 m = some (0, m') ∧ fM m m' := by
  refine ⟨ox_s1 m 7 (m.1 7), ?_, fr_s1 (by decide)⟩
  unfold om_Mo_header_j57
  rw [if_pos rfl, if_pos rfl, pm_j84]
theorem pm_j135n {m m' : ox_S} (h : om_Mo_choice 4 7 m = some (-1, m')) (hf : fr [4, 6] [] m m') (y0 : Int32) : ∃ m'', om_Mo_header_j135 y0 m = some (0, m'') ∧ fM m m'' := by
  refine ⟨ox_s1 m' 8 (-1), ?_, fr_tr (fM_w hf) (fr_s1 (by decide))⟩
  unfold om_Mo_header_j135
  rw [h]
  simp only [ox_b2_s, ox_let]
  rw [if_pos (show (ox_s1 m' 8 (-1)).1 8 < 0 by show (-1 : Int32) < 0; decide)]
  split <;> rfl
theorem pm_j192n {m m' : ox_S} (h : om_Mo_choice 8 10 m = some (-1, m')) (hf : fr [4, 6] [] m m') (y0 : Int32) : ∃ m'', om_Mo_header_j192 y0 m = some (0, m'') ∧ fM m m'' := by
  refine ⟨ox_s1 m' 9 (-1), ?_, fr_tr (fM_w hf) (fr_s1 (by decide))⟩
  unfold om_Mo_header_j192
  rw [h]
  simp only [ox_b2_s, ox_let]
  rw [if_pos (show (ox_s1 m' 9 (-1)).1 9 < 0 by show (-1 : Int32) < 0; decide)]
  split <;> rfl
theorem pm_j135z {m m' : ox_S} {r : Int32} (h : om_Mo_choice 4 7 m = some (r, m')) (hf : fr [4, 6] [] m m') : ∃ m'', om_Mo_header_j135 0 m = some (0, m'') ∧ fM m m'' := by
  refine ⟨ox_s1 m' 8 r, ?_, fr_tr (fM_w hf) (fr_s1 (by decide))⟩
  unfold om_Mo_header_j135
  rw [h]
  simp only [ox_b2_s, ox_let]
  rw [if_pos trivial]
theorem pm_j192z {m m' : ox_S} {r : Int32} (h : om_Mo_choice 8 10 m = some (r, m')) (hf : fr [4, 6] [] m m') : ∃ m'', om_Mo_header_j192 0 m = some (0, m'') ∧ fM m m'' := by
  refine ⟨ox_s1 m' 9 r, ?_, fr_tr (fM_w hf) (fr_s1 (by decide))⟩
  unfold om_Mo_header_j192
  rw [h]
  simp only [ox_b2_s, ox_let]
  rw [if_pos trivial]
/-- is there all that a section needs -/
def rdy (t f D : Nat) : Bool := decide (D ≠ 0) && decide (t ≠ 0) && (decide (t ≠ 1) || decide (f ≠ 0))
/-- the reference at a word that is no key -/
theorem pm_278 {tx : Nat → Int32} {b s e : Nat} {W : List (Nat × Nat)} {m : ox_S} (h : wcu tx b s e W m) {x : Nat} (hx : x < 14) : ∃ m', om_Mo_header_j278 (nI (nmr x)) m = some (b01 (wis tx s e x && W.isEmpty), m') ∧ fr [4, 6, 10] [] m m' ∧ m'.1 10 = b01 (wis tx s e x && W.isEmpty) := by
  unfold om_Mo_header_j278
  rw [wcu_is h hx]
  obtain ⟨m1, e1, e2⟩ := wat_more h.1
  have e3 : fr [4, 6, 10] [] m m1 := fr_up e2 (by decide) (by decide)
  rw [e1]
  simp only [Option.bind_some, ox_b2_s, ox_let]
  cases wis tx s e x with
  | false => exact ⟨ox_s1 m 10 0, rfl, fr_s1 (by decide), rfl⟩
  | true =>
    cases W.isEmpty with
    | false => exact ⟨ox_s1 m1 10 0, rfl, fr_tr e3 (fr_s1 (by decide)), rfl⟩
    | true => exact ⟨ox_s1 m1 10 1, rfl, fr_tr e3 (fr_s1 (by decide)), rfl⟩
theorem pm_sec {tx : Nat → Int32} {b s e : Nat} {W : List (Nat × Nat)} {m : ox_S} (h : wcu tx b s e W m) {t f D : Nat} (ht : t ≤ 4) (h8 : m.1 8 = mT t) : ∃ m', om_Mo_header_j256 (b01 (rdy t f D)) m = some (b01 (rdy t f D && wis tx s e (if t = 1 then 13 else 12) && W.isEmpty), m') ∧ fr [4, 6, 10] [] m m' ∧ m'.1 10 = b01 (rdy t f D && wis tx s e (if t = 1 then 13 else 12) && W.isEmpty) := by
  unfold om_Mo_header_j256
  cases rdy t f D with
  | false => exact ⟨ox_s1 m 10 0, rfl, fr_s1 (by decide), rfl⟩
  | true =>
    rw [if_neg (show ¬ b01 true = 0 by decide), h8, Bool.true_and]
    by_cases z : t = 1
    · rw [if_pos ((mT_lt ht).2.2.1.mpr z), if_pos z]
      exact pm_278 h (x := 13) (by omega)
    · rw [if_neg (fun q => z ((mT_lt ht).2.2.1.mp q)), if_neg z]
      exact pm_278 h (x := 12) (by omega)
/-- the class's section -/
theorem pc_fcol {σ : ox_S} {f r : Nat} (hf : f ≤ 3) (h6 : σ.1 6 = nI f) (h7 : σ.1 7 = nI r) : oc_Reader_firstColumn σ = some (nI (fcl f r)) := by
  unfold oc_Reader_firstColumn fcl
  rw [h6, h7]
  by_cases z : f = 2
  · rw [if_pos (show nI f = 2 by rw [z]; rfl), if_pos z, nI_1]
  · rw [if_neg (show ¬ nI f = 2 from nI_ne (b := 2) z (by omega) (by omega)), if_neg z]
    rfl
theorem pc_sec {tx : Nat → Int32} {a b s e : Nat} {c : ox_S} (h : cln tx a b [(s, e)] c) {t f D : Nat} (ht : t ≤ 4) (hf : f ≤ 3) (hD : D ≤ 8) (h5 : c.1 5 = nI t) (h6 : c.1 6 = nI f) (h9 : c.1 9 = nI D) : (rdy t f D && wis tx s e (if t = 1 then 13 else 12)) = false ∧ oc_Reader_acceptsSection c = some (0, c) ∨ (rdy t f D && wis tx s e (if t = 1 then 13 else 12)) = true ∧ oc_Reader_acceptsSection c = some (1, ox_s1 (ox_s1 (ox_s1 c 4 1) 7 0) 8 (nI (fcl f 0))) := by
  have j46 : ∀ x, x < 14 → (wis tx s e x = false → oc_Reader_acceptsSection_j46 x c = some (0, c)) ∧ (wis tx s e x = true → oc_Reader_acceptsSection_j46 x c = some (1, ox_s1 (ox_s1 (ox_s1 c 4 1) 7 0) 8 (nI (fcl f 0)))) := by
    intro x hx
    have e1 := cln_is h hx (k := 0) (s := s) (e := e) (by show 0 < 1; omega) rfl
    rw [show nI 0 = (0 : Int32) from rfl] at e1
    unfold oc_Reader_acceptsSection_j46
    rw [e1]
    constructor
    · intro z
      rw [z]
      rfl
    · intro z
      rw [z]
      simp only [Option.bind_some, ox_let]
      rw [if_neg (show ¬ b01 true = 0 by decide), pc_fcol hf (r := 0) (show (ox_s1 (ox_s1 c 4 1) 7 0).1 6 = nI f from h6) rfl]
      rfl
  unfold oc_Reader_acceptsSection rdy
  rw [h5, h6, h9]
  by_cases z1 : D = 0
  · left
    rw [if_pos (show nI D = 0 by rw [z1]; rfl)]
    exact ⟨by simp [z1], rfl⟩
  rw [if_neg (nI_ne0 (by omega) (by omega))]
  by_cases z2 : t = 0
  · left
    rw [if_pos (show nI t = 0 by rw [z2]; rfl)]
    exact ⟨by simp [z2], rfl⟩
  rw [if_neg (nI_ne0 (n := t) (by omega) (by omega))]
  by_cases z3 : t = 1
  · rw [if_pos (show nI t = 1 by rw [z3]; rfl), if_pos z3]
    by_cases z4 : f = 0
    · left
      rw [if_pos (show nI f = 0 by rw [z4]; rfl)]
      exact ⟨by simp [z3, z4], rfl⟩
    · rw [if_neg (nI_ne0 (n := f) (by omega) (by omega)), if_pos (show nI t = 1 by rw [z3]; rfl)]
      cases q : wis tx s e 13 with
      | false => exact Or.inl ⟨by simp, (j46 13 (by omega)).1 q⟩
      | true => exact Or.inr ⟨by simp [z1, z2, z4], (j46 13 (by omega)).2 q⟩
  · rw [if_neg (show ¬ nI t = 1 from nI_ne (b := 1) z3 (by omega) (by omega)), if_neg z3, if_neg (show ¬ nI t = 1 from nI_ne (b := 1) z3 (by omega) (by omega))]
    cases q : wis tx s e 12 with
    | false => exact Or.inl ⟨by simp, (j46 12 (by omega)).1 q⟩
    | true => exact Or.inr ⟨by simp [z1, z2, z3], (j46 12 (by omega)).2 q⟩
theorem sec_rd {t f D : Nat} {c m m' : ox_S} (hr : rdh 0 t f D c m) (hd : rdD 0 t f D c m) (hy : rdy t f D = true) (hf : fr [4, 6, 10] [] m m') (h10 : m'.1 10 = 1) : rd (ox_s1 (ox_s1 (ox_s1 c 4 1) 7 0) 8 (nI (fcl f 0))) m' := by
  obtain ⟨⟨hc4, hc5, hc6, hc9⟩, ⟨hm7, hm8, hm9, hm10, hm11⟩, _, ht, hf3, hD⟩ := hr
  obtain ⟨hd0, _⟩ := hd
  obtain ⟨d1, d2⟩ := hd0 rfl
  unfold rdy at hy
  rw [Bool.and_eq_true, Bool.and_eq_true, Bool.or_eq_true] at hy
  obtain ⟨⟨y1, y2⟩, y3⟩ := hy
  have y1 := of_decide_eq_true y1
  have y2 := of_decide_eq_true y2
  refine ⟨1, t, f, D, ⟨⟨rfl, hc5, hc6, hc9⟩, ⟨by rw [hf.1 7 (by decide), hm7], by rw [hf.1 8 (by decide), hm8], by rw [hf.1 9 (by decide), hm9], h10, by rw [hf.1 11 (by decide), hm11]; rfl⟩, by omega, ht, hf3, hD⟩, fun z => absurd z (by decide), fun _ => ⟨y1, ?_⟩⟩
  have dg : ∀ i, i < D → (ox_s1 (ox_s1 (ox_s1 c 4 1) 7 0) 8 (nI (fcl f 0))).2 5 (8 * i + i) = 0 := fun i hi => d2 (8 * i + i) (by omega)
  by_cases z : t = 1
  · have y4 : f ≠ 0 := by
      rcases y3 with q | q
      · exact absurd z (of_decide_eq_true q)
      · exact of_decide_eq_true q
    refine Or.inl ⟨z, y4, 0, fcl f 0, ⟨?_, rfl, rfl, ?_, dg, ?_⟩, fun q => absurd q (by decide)⟩
    · left
      unfold rws fcl lcl
      refine ⟨?_, by omega, ?_⟩
      · split <;> omega
      · split <;> split <;> omega
    · rw [hf.1 12 (by decide), d1]
      have : cix f D 0 (fcl f 0) = 0 := by
        unfold cix fcl en
        by_cases w1 : f = 1
        · rw [if_pos w1, if_neg (by omega), Nat.zero_mul]
        · rw [if_neg w1]
          by_cases w2 : f = 2
          · rw [if_pos w2, if_pos w2]
            omega
          · rw [if_neg w2, if_neg w2]
      rw [this]
      rfl
    · intro i j hij hj
      refine ⟨0, by omega, d2 _ (by omega), d2 _ (by omega), fun q => ?_⟩
      exfalso
      revert q
      unfold pos fcl
      split <;> split <;> omega
  · refine Or.inr ⟨by omega, 0, ⟨by omega, rfl, by rw [hf.1 12 (by decide), d1]; rfl, dg, fun _ => 0, fun _ => 0, fun i hi => by omega, fun i j _ hj => by omega⟩, fun q => absurd q (by decide)⟩
theorem rd_0 {t f D t' f' D' : Nat} {c m c' m' : ox_S} (hd : rdD 0 t f D c m) (h5 : c'.2 5 = c.2 5) (h12 : m'.1 12 = m.1 12) : rdD 0 t' f' D' c' m' := ⟨fun _ => by rw [h5, h12]; exact hd.1 rfl, fun z => absurd rfl z⟩
/-- two words: a number of places -/
theorem hd_dim {tx : Nat → Int32} {a b s e s2 e2 : Nat} {W : List (Nat × Nat)} {c m : ox_S} {t f D : Nat} (hc : cln tx a b ((s, e) :: (s2, e2) :: W) c) (hm : wcu tx b s e ((s2, e2) :: W) m) (hr : rdh 0 t f D c m) (hd : rdD 0 t f D c m) (hW : W.isEmpty = true) (hD0 : D = 0) : lnO (oc_Reader_acceptsDimension c) (ox_b2 (om_Mo_word m) fun r24 s25 => if r24 = 0 then om_Mo_header_j57 (0 : Int32) s25 else (om_Mo_isNumber s25).bind fun r26 => if r26 = 0 then om_Mo_header_j57 (0 : Int32) s25 else om_Mo_header_j57 (1 : Int32) s25) c m := by
  obtain ⟨⟨hc4, hc5, hc6, hc9⟩, ⟨hm7, hm8, hm9, hm10, hm11⟩, _, ht, hf3, hD⟩ := hr
  obtain ⟨m1, e1, e2', e3⟩ := wat_cons hm.1
  have en1 := cln_num hc (k := 1) (s := s2) (e := e2) (by show 1 < W.length + 2; omega) rfl
  rw [show nI 1 = (1 : Int32) from rfl] at en1
  rw [e1]
  simp only [ox_b2_s]
  rw [if_neg (by decide), wcu_isn e3]
  unfold oc_Reader_acceptsDimension
  rw [en1, hc9]
  simp only [Option.bind_some]
  rw [if_pos (show nI D = 0 by rw [hD0]; rfl)]
  cases q : nv tx s2 e2 with
  | none =>
    obtain ⟨m2, a1, a2⟩ := pm_j57 (m := m1)
    exact lnO_0 fr_rf (fr_tr (fM_w e2') a2) rfl (by rw [← a1]; rfl)
  | some v =>
    show lnO (if v < 3 then some (0, c) else if v ≤ 8 then ox_let (ox_s1 c 9 v) fun s2 => some (1, s2) else some (0, c)) (om_Mo_header_j57 1 m1) c m
    have j57 : om_Mo_header_j57 1 m1 = om_Mo_header_j84 1 v v m1 := by
      unfold om_Mo_header_j57
      rw [if_neg (by decide), wcu_num e3 q]
      rfl
    rw [j57]
    unfold om_Mo_header_j84
    simp only [ox_let]
    rw [if_neg (show ¬ (1 : Int32) = 0 by decide)]
    have f1 : fM m (ox_s1 m1 7 v) := fr_tr (fM_w e2') (fr_s1 (by decide))
    by_cases z1 : v < 3
    · rw [if_pos z1, if_pos z1]
      exact lnO_0 fr_rf f1 rfl rfl
    rw [if_neg z1, if_neg z1]
    by_cases z2 : v ≤ 8
    · rw [if_pos z2, if_neg (Int32.not_lt.mpr z2)]
      obtain ⟨m2, b1, b2⟩ := wat_more (wat_fr e3.1 (fr_s1 (S := [7]) (T := []) (c := m1) (k := 7) (v := v) (by decide)) (by decide) (by decide) (by decide))
      rw [b1, hW]
      obtain ⟨w, hw, rfl⟩ := nI_of2 (x := v) (M := 8) (n := 8) rfl (fun y => z1 (by
        have q := Int32.lt_iff_toInt_lt.mp y
        refine Int32.lt_iff_toInt_lt.mpr ?_
        rw [show (0 : Int32).toInt = 0 by decide] at q
        rw [show (3 : Int32).toInt = 3 by decide]
        omega)) z2
      have hw3 : 3 ≤ w := Nat.le_of_not_lt fun y => z1 (nI_lt (b := 3) y (by omega))
      refine lnO_1 (fr_s1 (by decide)) (fr_tr f1 (fM_w b2)) rfl rfl ⟨0, t, f, w, ⟨⟨hc4, hc5, hc6, rfl⟩, ⟨?_, ?_, ?_, ?_, ?_⟩, by omega, ht, hf3, Or.inr ⟨hw3, hw⟩⟩, rd_0 hd rfl ?_⟩
      · rw [b2.1 7 (by decide)]
        rfl
      · rw [b2.1 8 (by decide), ← hm8, ← e2'.1 8 (by decide)]
        rfl
      · rw [b2.1 9 (by decide), ← hm9, ← e2'.1 9 (by decide)]
        rfl
      · rw [b2.1 10 (by decide), ← hm10, ← e2'.1 10 (by decide)]
        rfl
      · rw [b2.1 11 (by decide), ← hm11, ← e2'.1 11 (by decide)]
        rfl
      · rw [b2.1 12 (by decide), ← e2'.1 12 (by decide)]
        rfl
    · rw [if_neg z2, if_pos (Int32.not_le.mp z2)]
      exact lnO_0 fr_rf f1 rfl rfl
/-- two words: a type -/
theorem hd_typ {tx : Nat → Int32} {a b s e s2 e2 : Nat} {c m : ox_S} {t f D : Nat} (hc : cln tx a b [(s, e), (s2, e2)] c) (hm : wcu tx b s e [(s2, e2)] m) (hr : rdh 0 t f D c m) (hd : rdD 0 t f D c m) : lnO (oc_Reader_acceptsType c) (if 0 ≤ m.1 8 then om_Mo_header_j135 0 m else om_Mo_header_j135 1 m) c m := by
  obtain ⟨⟨hc4, hc5, hc6, hc9⟩, ⟨hm7, hm8, hm9, hm10, hm11⟩, _, ht, hf3, hD⟩ := hr
  obtain ⟨m1, e1, e2', e3⟩ := wat_cons hm.1
  obtain ⟨m2, b1, b2⟩ := chT e3
  have hch : om_Mo_choice 4 7 m = om_Mo_choice_h11 7 1 (-1) 4 m1 := by
    unfold om_Mo_choice
    rw [e1]
    rfl
  have f1 : fr [4, 6] [] m m2 := fr_tr e2' b2
  have cw : ∀ x, x < 14 → oc_Line_wordIs (1 : Int32) x c = some (b01 (wis tx s2 e2 x)) := fun x hx => cln_is hc hx (k := 1) (by show 1 < 2; omega) rfl
  rw [hm8]
  by_cases z : t = 0
  · rw [if_neg (fun q => (mT_lt ht).2.1.mp q z)]
    unfold oc_Reader_acceptsType
    rw [hc5, if_pos (show nI t = 0 by rw [z]; rfl), cw 8 (by omega), cw 9 (by omega), cw 10 (by omega), cw 11 (by omega)]
    simp only [Option.bind_some, ox_let]
    have key : ∀ (v : Nat) (w : Int32), 1 ≤ v → v ≤ 4 → mT v = w → om_Mo_choice 4 7 m = some (w, m2) → lnO (some (1, ox_s1 c 5 (nI v))) (om_Mo_header_j135 1 m) c m := by
      intro v w v1 v4 vw hv
      refine lnO_1 (c' := ox_s1 c 5 (nI v)) (m' := ox_s1 m2 8 w) (fr_s1 (by decide)) (fr_tr (fM_w f1) (fr_s1 (by decide))) rfl ?_ ⟨0, v, f, D, ⟨⟨hc4, rfl, hc6, hc9⟩, ⟨?_, vw.symm, ?_, ?_, ?_⟩, by omega, v4, hf3, hD⟩, rd_0 hd rfl ?_⟩
      · unfold om_Mo_header_j135
        rw [hv]
        simp only [ox_b2_s, ox_let]
        rw [if_neg (by decide), if_neg (show ¬ (ox_s1 m2 8 w).1 8 < 0 from fun q => by
          have := (mT_lt v4).1.mp (vw ▸ q)
          omega)]
      · exact (f1.1 7 (by decide)).trans hm7
      · exact (f1.1 9 (by decide)).trans hm9
      · exact (f1.1 10 (by decide)).trans hm10
      · exact (f1.1 11 (by decide)).trans hm11
      · exact f1.1 12 (by decide)
    rw [← hch] at b1
    cases q8 : wis tx s2 e2 8 with
    | true =>
      rw [q8, wis_no q8 (by omega) (by omega) (show 8 ≠ 9 by omega), wis_no q8 (by omega) (by omega) (show 8 ≠ 10 by omega), wis_no q8 (by omega) (by omega) (show 8 ≠ 11 by omega)] at b1
      exact key 1 4 (by omega) (by omega) (by decide) b1
    | false =>
      cases q9 : wis tx s2 e2 9 with
      | true =>
        rw [q8, q9, wis_no q9 (by omega) (by omega) (show 9 ≠ 10 by omega), wis_no q9 (by omega) (by omega) (show 9 ≠ 11 by omega)] at b1
        exact key 2 5 (by omega) (by omega) (by decide) b1
      | false =>
        cases q10 : wis tx s2 e2 10 with
        | true =>
          rw [q8, q9, q10, wis_no q10 (by omega) (by omega) (show 10 ≠ 11 by omega)] at b1
          exact key 3 6 (by omega) (by omega) (by decide) b1
        | false =>
          cases q11 : wis tx s2 e2 11 with
          | true =>
            rw [q8, q9, q10, q11] at b1
            exact key 4 7 (by omega) (by omega) (by decide) b1
          | false =>
            rw [q8, q9, q10, q11] at b1
            obtain ⟨m3, g1, g2⟩ := pm_j135n b1 f1 1
            refine lnO_0 fr_rf g2 ?_ g1
            rw [z]
            rfl
  · rw [if_pos ((mT_lt ht).2.1.mpr z)]
    unfold oc_Reader_acceptsType
    rw [hc5, if_neg (nI_ne0 (n := t) (by omega) (by omega))]
    obtain ⟨m3, g1, g2⟩ := pm_j135z (hch.trans b1) f1
    exact lnO_0 fr_rf g2 rfl g1
/-- two words: a format -/
theorem hd_for {tx : Nat → Int32} {a b s e s2 e2 : Nat} {c m : ox_S} {t f D : Nat} (hc : cln tx a b [(s, e), (s2, e2)] c) (hm : wcu tx b s e [(s2, e2)] m) (hr : rdh 0 t f D c m) (hd : rdD 0 t f D c m) : lnO (oc_Reader_acceptsFormat c) (if 0 ≤ m.1 9 then om_Mo_header_j192 0 m else if m.1 8 = 4 then om_Mo_header_j192 1 m else om_Mo_header_j192 0 m) c m := by
  obtain ⟨⟨hc4, hc5, hc6, hc9⟩, ⟨hm7, hm8, hm9, hm10, hm11⟩, _, ht, hf3, hD⟩ := hr
  obtain ⟨m1, e1, e2', e3⟩ := wat_cons hm.1
  obtain ⟨m2, b1, b2⟩ := chF e3
  have hch : om_Mo_choice 8 10 m = om_Mo_choice_h11 10 1 (-1) 8 m1 := by
    unfold om_Mo_choice
    rw [e1]
    rfl
  have f1 : fr [4, 6] [] m m2 := fr_tr e2' b2
  have cw : ∀ x, x < 14 → oc_Line_wordIs (1 : Int32) x c = some (b01 (wis tx s2 e2 x)) := fun x hx => cln_is hc hx (k := 1) (by show 1 < 2; omega) rfl
  obtain ⟨m3, g1, g2⟩ := pm_j192z (hch.trans b1) f1
  rw [hm9, hm8]
  unfold oc_Reader_acceptsFormat
  rw [hc5, hc6]
  by_cases z : f = 0
  · rw [if_neg (fun q => (mF_lt hf3).2.1.mp q z)]
    by_cases z1 : t = 1
    · rw [if_pos ((mT_lt ht).2.2.1.mpr z1), if_pos (show nI t = 1 by rw [z1]; rfl), if_pos (show nI f = 0 by rw [z]; rfl), cw 5 (by omega), cw 6 (by omega), cw 7 (by omega)]
      simp only [Option.bind_some, ox_let]
      have key : ∀ (v : Nat) (w : Int32), 1 ≤ v → v ≤ 3 → mF v = w → om_Mo_choice 8 10 m = some (w, m2) → lnO (some (1, ox_s1 c 6 (nI v))) (om_Mo_header_j192 1 m) c m := by
        intro v w v1 v4 vw hv
        refine lnO_1 (c' := ox_s1 c 6 (nI v)) (m' := ox_s1 m2 9 w) (fr_s1 (by decide)) (fr_tr (fM_w f1) (fr_s1 (by decide))) rfl ?_ ⟨0, t, v, D, ⟨⟨hc4, hc5, rfl, hc9⟩, ⟨?_, ?_, vw.symm, ?_, ?_⟩, by omega, ht, v4, hD⟩, rd_0 hd rfl ?_⟩
        · unfold om_Mo_header_j192
          rw [hv]
          simp only [ox_b2_s, ox_let]
          rw [if_neg (by decide), if_neg (show ¬ (ox_s1 m2 9 w).1 9 < 0 from fun q => by
            have := (mF_lt v4).1.mp (vw ▸ q)
            omega)]
        · exact (f1.1 7 (by decide)).trans hm7
        · exact (f1.1 8 (by decide)).trans hm8
        · exact (f1.1 10 (by decide)).trans hm10
        · exact (f1.1 11 (by decide)).trans hm11
        · exact f1.1 12 (by decide)
      rw [← hch] at b1
      cases q8 : wis tx s2 e2 5 with
      | true =>
        rw [q8, wis_no q8 (by omega) (by omega) (show 5 ≠ 6 by omega), wis_no q8 (by omega) (by omega) (show 5 ≠ 7 by omega)] at b1
        exact key 1 8 (by omega) (by omega) (by decide) b1
      | false =>
        cases q9 : wis tx s2 e2 6 with
        | true =>
          rw [q8, q9, wis_no q9 (by omega) (by omega) (show 6 ≠ 7 by omega)] at b1
          exact key 2 9 (by omega) (by omega) (by decide) b1
        | false =>
          cases q10 : wis tx s2 e2 7 with
          | true =>
            rw [q8, q9, q10] at b1
            exact key 3 10 (by omega) (by omega) (by decide) b1
          | false =>
            rw [q8, q9, q10] at b1
            obtain ⟨m4, g3, g4⟩ := pm_j192n b1 f1 1
            refine lnO_0 fr_rf g4 ?_ g3
            rw [z]
            rfl
    · rw [if_neg (fun q => z1 ((mT_lt ht).2.2.1.mp q)), if_neg (show ¬ nI t = 1 from nI_ne (b := 1) z1 (by omega) (by omega))]
      exact lnO_0 fr_rf g2 rfl g1
  · rw [if_pos ((mF_lt hf3).2.1.mpr z), if_neg (show ¬ nI f = 0 from nI_ne0 (n := f) (by omega) (by omega))]
    refine lnO_0 fr_rf g2 ?_ g1
    split <;> rfl
theorem ln_head {tx : Nat → Int32} {a b : Nat} {L : List (Nat × Nat)} {c m : ox_S} {t f D : Nat} (hc : cln tx a b L c) (hm : wat tx b L m) (h4 : m.1 4 = nI a) (hr : rdh 0 t f D c m) (hd : rdD 0 t f D c m) : lnO (oc_Reader_acceptsHead c) (om_Mo_header m) c m := by
  have hr0 := hr
  obtain ⟨⟨hc4, hc5, hc6, hc9⟩, ⟨hm7, hm8, hm9, hm10, hm11⟩, _, ht, hf3, hD⟩ := hr
  have eb : om_Mo_begins (0 : Int32) (nI a) m = some (if (decide (a + nml 1 ≤ b) && mtc tx a 1 (nml 1) 0) = true then nI (nml 1) else 0) := pm_begins hm.1 hm.2.1 hm.2.2.1 (x := 1) (by omega) hc.2.1
  have ed : decide (nml 1 ≤ b - a) = decide (a + nml 1 ≤ b) := decide_eq_decide.mpr (by have := hc.2.1; omega)
  unfold oc_Reader_acceptsHead om_Mo_header
  rw [pc_begins hc.1 hc.2.2.2.2.2.2.1 (x := 1) (by omega) hc.2.1 hc.2.2.1 hc.2.2.2.1, h4, eb, ed]
  simp only [Option.bind_some]
  cases (decide (a + nml 1 ≤ b) && mtc tx a 1 (nml 1) 0) with
  | true =>
    rw [if_neg (show ¬ b01 true = 0 by decide), if_pos rfl, if_neg (show ¬ nI (nml 1) ≤ 0 by decide)]
    exact lnO_1 fr_rf fr_rf rfl rfl ⟨0, t, f, D, hr0, hd⟩
  | false =>
    rw [if_pos (show b01 false = 0 by decide), if_neg (show ¬ false = true by decide), if_pos (show (0 : Int32) ≤ 0 by decide)]
    cases L with
    | nil =>
      obtain ⟨m1, e1, e2⟩ := wat_nil hm
      rw [hc.2.2.2.2.1.1, e1]
      exact lnO_0 fr_rf (fM_w e2) rfl rfl
    | cons w W =>
      obtain ⟨s, e⟩ := w
      obtain ⟨m1, e1, e2, e3⟩ := wat_cons hm
      have hl : c.1 3 = nI (W.length + 1) := hc.2.2.2.2.1.1
      have hW240 : W.length + 1 ≤ 240 := hc.2.2.2.2.2.1
      have cw : ∀ x, x < 14 → oc_Line_wordIs (0 : Int32) x c = some (b01 (wis tx s e x)) := fun x hx => cln_is hc hx (k := 0) (by show 0 < W.length + 1; omega) rfl
      have i2 : om_Mo_is (1 : Int32) m1 = some (b01 (wis tx s e 2)) := wcu_is e3 (x := 2) (by omega)
      have i3 : om_Mo_is (2 : Int32) m1 = some (b01 (wis tx s e 3)) := wcu_is e3 (x := 3) (by omega)
      have i4 : om_Mo_is (3 : Int32) m1 = some (b01 (wis tx s e 4)) := wcu_is e3 (x := 4) (by omega)
      have g7 : m1.1 7 = nI D := (e2.1 7 (by decide)).trans hm7
      have g8 : m1.1 8 = mT t := (e2.1 8 (by decide)).trans hm8
      have g9 : m1.1 9 = mF f := (e2.1 9 (by decide)).trans hm9
      have hr1 : rdh 0 t f D c m1 := ⟨⟨hc4, hc5, hc6, hc9⟩, ⟨g7, g8, g9, (e2.1 10 (by decide)).trans hm10, (e2.1 11 (by decide)).trans hm11⟩, by omega, ht, hf3, hD⟩
      have hd1 : rdD 0 t f D c m1 := rd_0 hd rfl (e2.1 12 (by decide))
      rw [e1]
      simp only [ox_b2_s]
      rw [if_neg (show ¬ (1 : Int32) = 0 by decide), i2, i3, i4, hl, cw 2 (by omega), cw 3 (by omega), cw 4 (by omega)]
      simp only [Option.bind_some]
      refine lnO_tr (fM_w e2) ?_
      -- the class with one word, with two, with more
      have c1 : W.length = 0 → ∀ X Y : Option (Int32 × ox_S), (if nI (W.length + 1) = 1 then X else Y) = X := fun z X Y => if_pos (by rw [z]; rfl)
      have c2 : W.length ≠ 0 → ∀ X Y : Option (Int32 × ox_S), (if nI (W.length + 1) = 1 then X else Y) = Y := fun z X Y => if_neg (show ¬ nI (W.length + 1) = 1 from nI_ne (b := 1) (by omega) (by omega) (by omega))
      have c3 : W.length = 1 → ∀ X Y : Option (Int32 × ox_S), (if nI (W.length + 1) = 2 then X else Y) = X := fun z X Y => if_pos (by rw [z]; rfl)
      have c4 : W.length ≠ 1 → ∀ X Y : Option (Int32 × ox_S), (if nI (W.length + 1) = 2 then X else Y) = Y := fun z X Y => if_neg (show ¬ nI (W.length + 1) = 2 from nI_ne (b := 2) (by omega) (by omega) (by omega))
      -- one word that is a key: refused
      have k0 : ∀ x, x < 12 → wis tx s e x = true → W.length = 0 → oc_Reader_acceptsSection c = some (0, c) := by
        intro x hx q z
        have zW : W = [] := List.length_eq_zero_iff.mp z
        subst zW
        rcases pc_sec hc ht hf3 (by omega) hc5 hc6 hc9 with ⟨_, a2⟩ | ⟨a1, _⟩
        · exact a2
        · exfalso
          have : wis tx s e (if t = 1 then 13 else 12) = false := by
            split
            · exact wis_no q (by omega) (by omega) (by omega)
            · exact wis_no q (by omega) (by omega) (by omega)
          rw [this, Bool.and_false] at a1
          cases a1
      cases q2 : wis tx s e 2 with
      | true =>
        rw [if_neg (show ¬ b01 true = 0 by decide), if_neg (show ¬ b01 true = 0 by decide)]
        by_cases z : D = 0
        · rw [g7, if_pos (show nI D = 0 by rw [z]; rfl)]
          by_cases zw : W.length = 1
          · obtain ⟨w2, zW⟩ := List.length_eq_one_iff.mp zw
            obtain ⟨s2, e2'⟩ := w2
            subst zW
            rw [c2 (by omega), c3 zw]
            have key := hd_dim hc e3 hr1 hd1 rfl z
            obtain ⟨c', m', a1, a2, a3⟩ := key
            refine ⟨c', m', a1, a2, ?_⟩
            rcases a3 with ⟨a4, a5⟩ | ⟨a4, a5⟩
            · left
              rw [a4]
              exact ⟨rfl, a5⟩
            · right
              rw [a4]
              exact ⟨rfl, a5⟩
          · have cl : (if nI (W.length + 1) = 1 then ox_b2 (oc_Reader_acceptsSection c) fun r11 s12 => ox_z r11 (some (r11, s12)) else if nI (W.length + 1) = 2 then ox_b2 (oc_Reader_acceptsDimension c) fun r9 s10 => ox_z r9 (some (r9, s10)) else some (0, c)) = some (0, c) := by
              by_cases z0 : W.length = 0
              · rw [c1 z0, k0 2 (by omega) q2 z0]
                rfl
              · rw [c2 z0, c4 zw]
            rw [cl]
            cases W with
            | nil =>
              obtain ⟨m2, b1, b2⟩ := wat_nil e3.1
              obtain ⟨m3, b3, b4⟩ := pm_j57 (m := m2)
              rw [b1]
              simp only [ox_b2_s]
              rw [if_pos trivial, b3]
              exact lnO_0 fr_rf (fr_tr (fM_w b2) b4) rfl rfl
            | cons w2 W2 =>
              obtain ⟨s2, e2'⟩ := w2
              obtain ⟨m2, b1, b2, b3⟩ := wat_cons e3.1
              rw [b1]
              simp only [ox_b2_s]
              rw [if_neg (show ¬ (1 : Int32) = 0 by decide), wcu_isn b3]
              simp only [Option.bind_some]
              cases qn : nv tx s2 e2' with
              | none =>
                obtain ⟨m3, b4, b5⟩ := pm_j57 (m := m2)
                refine lnO_0 fr_rf (fr_tr (fM_w b2) b5) rfl ?_
                rw [← b4]
                rfl
              | some v =>
                have j57 : om_Mo_header_j57 1 m2 = om_Mo_header_j84 1 v v m2 := by
                  unfold om_Mo_header_j57
                  rw [if_neg (by decide), wcu_num b3 qn]
                  rfl
                have hE : W2.isEmpty = false := by
                  cases W2 with
                  | nil => exact absurd rfl zw
                  | cons _ _ => rfl
                obtain ⟨m3, b4, b5⟩ := wat_more (wat_fr b3.1 (fr_s1 (S := [7]) (T := []) (c := m2) (k := 7) (v := v) (by decide)) (by decide) (by decide) (by decide))
                rw [hE] at b4
                have f1 : fM m1 (ox_s1 m2 7 v) := fr_tr (fM_w b2) (fr_s1 (by decide))
                have : ∃ m', om_Mo_header_j84 1 v v m2 = some (0, m') ∧ fM m1 m' := by
                  unfold om_Mo_header_j84
                  simp only [ox_let]
                  rw [if_neg (show ¬ (1 : Int32) = 0 by decide), b4]
                  simp only [ox_b2_s]
                  rw [if_pos (show b01 false = 0 by decide)]
                  split
                  · exact ⟨_, rfl, f1⟩
                  · split
                    · exact ⟨_, rfl, f1⟩
                    · exact ⟨_, rfl, fr_tr f1 (fM_w b5)⟩
                obtain ⟨m4, b6, b7⟩ := this
                refine lnO_0 fr_rf b7 rfl ?_
                rw [← b6, ← j57]
                rfl
        · rw [g7, if_neg (nI_ne0 (n := D) (by omega) (by omega))]
          obtain ⟨m3, b3, b4⟩ := pm_j57 (m := m1)
          refine lnO_0 fr_rf b4 ?_ b3
          by_cases z0 : W.length = 0
          · rw [c1 z0, k0 2 (by omega) q2 z0]
            rfl
          · rw [c2 z0]
            by_cases z1 : W.length = 1
            · rw [c3 z1]
              unfold oc_Reader_acceptsDimension
              obtain ⟨w2, zW⟩ := List.length_eq_one_iff.mp z1
              obtain ⟨s2, e2'⟩ := w2
              subst zW
              have en1 : oc_Line_number (1 : Int32) c = some ((nv tx s2 e2').getD (-10000)) := cln_num hc (k := 1) (by show 1 < 2; omega) rfl
              rw [en1, hc9]
              simp only [Option.bind_some]
              rw [if_neg (nI_ne0 (n := D) (by omega) (by omega))]
              rfl
            · rw [c4 z1]
      | false =>
        rw [if_pos (show b01 false = 0 by decide), if_pos (show b01 false = 0 by decide)]
        cases q3 : wis tx s e 3 with
        | true =>
          rw [if_neg (show ¬ b01 true = 0 by decide), if_neg (show ¬ b01 true = 0 by decide)]
          by_cases zw : W.length = 1
          · obtain ⟨w2, zW⟩ := List.length_eq_one_iff.mp zw
            obtain ⟨s2, e2'⟩ := w2
            subst zW
            rw [c2 (by omega), c3 zw]
            obtain ⟨c', m', a1, a2, a3⟩ := hd_typ hc e3 hr1 hd1
            refine ⟨c', m', a1, a2, ?_⟩
            rcases a3 with ⟨a4, a5⟩ | ⟨a4, a5⟩
            · left
              rw [a4]
              exact ⟨rfl, a5⟩
            · right
              rw [a4]
              exact ⟨rfl, a5⟩
          · obtain ⟨m2, b1, b2⟩ := (chN e3.1 zw).1
            have hm' : ∃ m', (if 0 ≤ m1.1 8 then om_Mo_header_j135 0 m1 else om_Mo_header_j135 1 m1) = some (0, m') ∧ fM m1 m' := by
              split
              · exact pm_j135n b1 b2 0
              · exact pm_j135n b1 b2 1
            obtain ⟨m3, b3, b4⟩ := hm'
            refine lnO_0 fr_rf b4 ?_ b3
            by_cases z0 : W.length = 0
            · rw [c1 z0, k0 3 (by omega) q3 z0]
              rfl
            · rw [c2 z0, c4 zw]
        | false =>
          rw [if_pos (show b01 false = 0 by decide), if_pos (show b01 false = 0 by decide)]
          cases q4 : wis tx s e 4 with
          | true =>
            rw [if_neg (show ¬ b01 true = 0 by decide), if_neg (show ¬ b01 true = 0 by decide)]
            by_cases zw : W.length = 1
            · obtain ⟨w2, zW⟩ := List.length_eq_one_iff.mp zw
              obtain ⟨s2, e2'⟩ := w2
              subst zW
              rw [c2 (by omega), c3 zw]
              obtain ⟨c', m', a1, a2, a3⟩ := hd_for hc e3 hr1 hd1
              refine ⟨c', m', a1, a2, ?_⟩
              rcases a3 with ⟨a4, a5⟩ | ⟨a4, a5⟩
              · left
                rw [a4]
                exact ⟨rfl, a5⟩
              · right
                rw [a4]
                exact ⟨rfl, a5⟩
            · obtain ⟨m2, b1, b2⟩ := (chN e3.1 zw).2
              have hm' : ∃ m', (if 0 ≤ m1.1 9 then om_Mo_header_j192 0 m1 else if m1.1 8 = 4 then om_Mo_header_j192 1 m1 else om_Mo_header_j192 0 m1) = some (0, m') ∧ fM m1 m' := by
                split
                · exact pm_j192n b1 b2 0
                · split
                  · exact pm_j192n b1 b2 1
                  · exact pm_j192n b1 b2 0
              obtain ⟨m3, b3, b4⟩ := hm'
              refine lnO_0 fr_rf b4 ?_ b3
              by_cases z0 : W.length = 0
              · rw [c1 z0, k0 4 (by omega) q4 z0]
                rfl
              · rw [c2 z0, c4 zw]
          | false =>
            rw [if_pos (show b01 false = 0 by decide), if_pos (show b01 false = 0 by decide)]
            have hj : (if m1.1 7 ≤ 0 then om_Mo_header_j256 0 m1 else if m1.1 8 < 0 then om_Mo_header_j256 0 m1 else if 4 < m1.1 8 then om_Mo_header_j256 1 m1 else if m1.1 9 < 0 then om_Mo_header_j256 0 m1 else om_Mo_header_j256 1 m1) = om_Mo_header_j256 (b01 (rdy t f D)) m1 := by
              rw [g7, g8, g9]
              by_cases z1 : D = 0
              · rw [if_pos (show nI D ≤ 0 by rw [z1]; decide), show rdy t f D = false by unfold rdy; simp [z1]]
                rfl
              rw [if_neg (nI_nle (by omega) (by omega))]
              by_cases z2 : t = 0
              · rw [if_pos ((mT_lt ht).1.mpr z2), show rdy t f D = false by unfold rdy; simp [z2]]
                rfl
              rw [if_neg (fun q => z2 ((mT_lt ht).1.mp q))]
              by_cases z3 : t = 1
              · rw [if_neg (fun q => by have := (mT_lt ht).2.2.2.mp q; omega)]
                by_cases z4 : f = 0
                · rw [if_pos ((mF_lt hf3).1.mpr z4), show rdy t f D = false by unfold rdy; simp [z3, z4]]
                  rfl
                · rw [if_neg (fun q => z4 ((mF_lt hf3).1.mp q)), show rdy t f D = true by unfold rdy; simp [z1, z2, z4]]
                  rfl
              · rw [if_pos ((mT_lt ht).2.2.2.mpr (by omega)), show rdy t f D = true by unfold rdy; simp [z1, z2, z3]]
                rfl
            rw [hj]
            obtain ⟨m2, b1, b2, b3⟩ := pm_sec e3 (f := f) (D := D) ht g8
            have f2 : fM m1 m2 := fr_up b2 (by decide) (by decide)
            rw [b1]
            cases W with
            | nil =>
              rw [c1 rfl]
              rw [show ([] : List (Nat × Nat)).isEmpty = true from rfl, Bool.and_true] at b3 ⊢
              rcases pc_sec hc ht hf3 (by omega) hc5 hc6 hc9 with ⟨a1, a2⟩ | ⟨a1, a2⟩
              · rw [a1, a2]
                exact lnO_0 fr_rf f2 rfl rfl
              · rw [a1] at b3 ⊢
                rw [a2]
                rw [Bool.and_eq_true] at a1
                exact lnO_1 (fr_tr (fr_tr (fr_s1 (by decide)) (fr_s1 (by decide))) (fr_s1 (by decide))) f2 rfl rfl (sec_rd hr1 hd1 a1.1 b2 b3)
            | cons w2 W2 =>
              rw [show (w2 :: W2).isEmpty = false from rfl, Bool.and_false]
              refine lnO_0 fr_rf f2 ?_ rfl
              rw [c2 (by show W2.length + 1 ≠ 0; omega)]
              by_cases z1 : (w2 :: W2).length = 1
              · rw [c3 z1]
              · rw [c4 z1]
