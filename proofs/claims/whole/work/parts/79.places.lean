/-! load: the lines of places -/
theorem dif_c (a b : Nat) : dif a b = dif b a := by
  unfold dif
  omega
theorem dif_le {a b : Nat} (ha : a ≤ 1998) (hb : b ≤ 1998) : dif a b ≤ 1998 := by
  unfold dif
  omega
theorem pd_c (t : Nat) (X Y : Nat → Nat) (i j : Nat) : pd t X Y i j = pd t X Y j i := by
  unfold pd
  rw [dif_c (X i), dif_c (Y i)]
theorem pd_le {t : Nat} {X Y : Nat → Nat} {i j : Nat} (h1 : X i ≤ 1998) (h2 : X j ≤ 1998) (h3 : Y i ≤ 1998) (h4 : Y j ≤ 1998) : pd t X Y i j ≤ 9999 := far_le (dif_le h1 h2) (dif_le h3 h4) (rt_s _).1
/-- a difference of two places -/
theorem df_s (X X' : Nat) : (nI X - 999) - (nI X' - 999) = nI X - nI X' := by grind
theorem df_x {X X' : Nat} (hX : X ≤ 1998) (hX' : X' ≤ 1998) : (0 ≤ nI X - nI X' ∧ nI X - nI X' = nI (dif X X')) ∨ (¬ 0 ≤ nI X - nI X' ∧ nI X - nI X' = - nI (dif X X')) := by
  by_cases z : X' ≤ X
  · left
    rw [pk_sub z]
    exact ⟨nI_pos' (by omega), by rw [show dif X X' = X - X' by unfold dif; omega]⟩
  · right
    refine ⟨Int32.not_le.mpr (pk_sneg (by omega) (by omega)), ?_⟩
    rw [show dif X X' = X' - X by unfold dif; omega, ← pk_sub (show X ≤ X' by omega)]
    grind
theorem df_abs {X X' : Nat} (hX : X ≤ 1998) (hX' : X' ≤ 1998) : (if 0 ≤ ((nI X - 999) - (nI X' - 999)) then ((nI X - 999) - (nI X' - 999)) else 0 - ((nI X - 999) - (nI X' - 999))) = nI (dif X X') := by
  rw [df_s]
  rcases df_x hX hX' with ⟨a, b⟩ | ⟨a, b⟩
  · rw [if_pos a, b]
  · rw [if_neg a, b]
    grind
theorem df_sq {X X' : Nat} (hX : X ≤ 1998) (hX' : X' ≤ 1998) : (nI X - nI X') * (nI X - nI X') = nI (dif X X' * dif X X') := by
  rcases df_x hX hX' with ⟨a, b⟩ | ⟨a, b⟩
  · rw [b, p_sq]
  · rw [b, ← p_sq]
    grind
/-- may a number be a place's -/
def pl (x : Int32) : Bool := !decide (x < -999) && !decide (999 < x)
theorem pc_isP (x : Int32) (σ : ox_S) : oc_Reader_isPlace x σ = some (b01 (pl x)) := by
  unfold oc_Reader_isPlace pl
  by_cases z : x < -999
  · rw [if_pos z, decide_eq_true z]
    rfl
  · rw [if_neg z, decide_eq_false z]
    by_cases y : 999 < x
    · rw [if_pos y, decide_eq_true y]
      rfl
    · rw [if_neg y, decide_eq_false y]
      rfl
theorem pl_ex {x : Int32} (h : pl x = true) : ∃ X, X ≤ 1998 ∧ x = nI X - 999 := by
  unfold pl at h
  rw [Bool.and_eq_true, Bool.not_eq_true', Bool.not_eq_true', decide_eq_false_iff_not, decide_eq_false_iff_not] at h
  obtain ⟨h1, h2⟩ := h
  have a1 := Int32.le_iff_toInt_le.mp (Int32.not_lt.mp h1)
  have a2 := Int32.le_iff_toInt_le.mp (Int32.not_lt.mp h2)
  rw [show (-999 : Int32).toInt = -999 by decide] at a1
  rw [show (999 : Int32).toInt = 999 by decide] at a2
  refine ⟨(x.toInt + 999).toNat, by omega, ?_⟩
  refine Int32.toInt_inj.mp ?_
  rw [show (999 : Int32) = nI 999 from rfl, pk_sub_toInt (by omega) (by omega)]
  omega
theorem pc_n {tx : Nat → Int32} {a b : Nat} {L : List (Nat × Nat)} {c : ox_S} (h : cln tx a b L c) (k : Nat) (hk : k < 240) : ∃ n, oc_Line_number (nI k) c = some n := by
  by_cases z : k < L.length
  · exact ⟨_, cln_num h (s := (L.getD k (0, 0)).1) (e := (L.getD k (0, 0)).2) z rfl⟩
  · exact ⟨_, (pc_num h.1 h.2.2.2.2.2.2.1 h.2.2.2.2.2.1 h.2.2.2.2.1).1 (by omega) hk⟩
theorem pc_placeN {tx : Nat → Int32} {a b r D : Nat} {L : List (Nat × Nat)} {c : ox_S} (h : cln tx a b L c) (hr : r < D) (hD : D ≤ 8) (h7 : c.1 7 = nI r) (h9 : c.1 9 = nI D) (hL : L.length ≠ 3) : oc_Reader_acceptsPlace c = some (0, c) := by
  obtain ⟨n1, e1⟩ := pc_n h 1 (by omega)
  obtain ⟨n2, e2⟩ := pc_n h 2 (by omega)
  have := h.2.2.2.2.2.1
  unfold oc_Reader_acceptsPlace
  rw [h7, h9, if_pos (nI_lt hr (by omega)), show (1 : Int32) = nI 1 from rfl, show (2 : Int32) = nI 2 from rfl, e1, e2]
  simp only [Option.bind_some]
  rw [h.2.2.2.2.1.1, if_neg (show ¬ nI L.length = 3 from nI_ne (b := 3) hL (by omega) (by omega))]
theorem pc_place3 {tx : Nat → Int32} {a b r D s0 e0 s1 e1 s2 e2 : Nat} {c : ox_S} (h : cln tx a b [(s0, e0), (s1, e1), (s2, e2)] c) (hr : r < D) (hD : D ≤ 8) (h7 : c.1 7 = nI r) (h9 : c.1 9 = nI D) : oc_Reader_acceptsPlace c = if (nv tx s0 e0).getD (-10000) = nI (r + 1) then (if pl ((nv tx s1 e1).getD (-10000)) = true then (if pl ((nv tx s2 e2).getD (-10000)) = true then oc_Reader_acceptsPlace_h100 ((nv tx s1 e1).getD (-10000)) ((nv tx s2 e2).getD (-10000)) 0 (ox_s2 (ox_s2 c 3 r ((nv tx s1 e1).getD (-10000))) 4 r ((nv tx s2 e2).getD (-10000))) else some (0, c)) else some (0, c)) else some (0, c) := by
  have n0 : oc_Line_number (0 : Int32) c = some ((nv tx s0 e0).getD (-10000)) := cln_num h (k := 0) (by show 0 < 3; omega) rfl
  have n1 : oc_Line_number (1 : Int32) c = some ((nv tx s1 e1).getD (-10000)) := cln_num h (k := 1) (by show 1 < 3; omega) rfl
  have n2 : oc_Line_number (2 : Int32) c = some ((nv tx s2 e2).getD (-10000)) := cln_num h (k := 2) (by show 2 < 3; omega) rfl
  unfold oc_Reader_acceptsPlace
  rw [h7, h9, if_pos (nI_lt hr (by omega)), n1, n2, n0]
  simp only [Option.bind_some]
  rw [h.2.2.2.2.1.1, if_pos (show nI [(s0, e0), (s1, e1), (s2, e2)].length = 3 from rfl), nI_1, pc_isP, pc_isP]
  simp only [Option.bind_some]
  have hx : ∀ k : Nat → Option (Int32 × ox_S), ox_ix (nI r) 8 k = k r := fun k => ox_ix_nI (by omega) (by omega)
  split
  · cases pl ((nv tx s1 e1).getD (-10000)) with
    | false => rfl
    | true =>
      rw [if_neg (show ¬ b01 true = 0 by decide), if_pos rfl]
      cases pl ((nv tx s2 e2).getD (-10000)) with
      | false => rfl
      | true =>
        rw [if_neg (show ¬ b01 true = 0 by decide), if_pos rfl, hx]
        simp only [ox_let]
        rw [show (ox_s2 c 3 r ((nv tx s1 e1).getD (-10000))).1 7 = nI r from h7, hx]
  · rfl
/-- the class's distances from the new place -/
theorem pc_h100 {t r : Nat} {X Y : Nat → Nat} (ht : t ≤ 4) (hr : r < 8) (hX : ∀ i, i ≤ r → X i ≤ 1998 ∧ Y i ≤ 1998) {c : ox_S} (h5 : c.1 5 = nI t) (h7 : c.1 7 = nI r) (h34 : ∀ i, i < r → c.2 3 i = nI (X i) - 999 ∧ c.2 4 i = nI (Y i) - 999) : ∀ d i, i + d = r → ∀ σ, fr [] [5] c σ → (∀ j, j < i → σ.2 5 (8 * r + j) = nI (pd t X Y j r) ∧ σ.2 5 (8 * j + r) = nI (pd t X Y j r)) → (∀ x, (∀ j, j < r → x ≠ 8 * r + j ∧ x ≠ 8 * j + r) → σ.2 5 x = c.2 5 x) → ∃ σ', oc_Reader_acceptsPlace_h100 (nI (X r) - 999) (nI (Y r) - 999) (nI i) σ = some (1, σ') ∧ fr [7] [5] c σ' ∧ σ'.1 7 = nI (r + 1) ∧ (∀ j, j < r → σ'.2 5 (8 * r + j) = nI (pd t X Y j r) ∧ σ'.2 5 (8 * j + r) = nI (pd t X Y j r)) ∧ ∀ x, (∀ j, j < r → x ≠ 8 * r + j ∧ x ≠ 8 * j + r) → σ'.2 5 x = c.2 5 x := by
  intro d
  induction d with
  | zero =>
    intro i hi σ hf h1 h2
    have e : i = r := by omega
    subst e
    have g7 : σ.1 7 = nI i := (hf.1 7 (by decide)).trans h7
    refine ⟨ox_s1 σ 7 (nI (i + 1)), ?_, fr_tr (fr_up hf (by decide) (by decide)) (fr_s1 (by decide)), rfl, h1, h2⟩
    unfold oc_Reader_acceptsPlace_h100
    refine ox_w_inr ?_
    show oc_Reader_acceptsPlace_b100 _ _ (nI i) σ = _
    unfold oc_Reader_acceptsPlace_b100
    rw [g7, if_pos (Int32.le_refl _), nI_1]
    rfl
  | succ d ih =>
    intro i hi σ hf h1 h2
    have g7 : σ.1 7 = nI r := (hf.1 7 (by decide)).trans h7
    have g5 : σ.1 5 = nI t := (hf.1 5 (by decide)).trans h5
    have g3 : σ.2 3 i = nI (X i) - 999 := by rw [hf.2 3 (by decide)]; exact (h34 i (by omega)).1
    have g4 : σ.2 4 i = nI (Y i) - 999 := by rw [hf.2 4 (by decide)]; exact (h34 i (by omega)).2
    have ha := pc_apart ht (dif_le (hX r (by omega)).1 (hX i (by omega)).1) (dif_le (hX r (by omega)).2 (hX i (by omega)).2) g5 (rt_s _).1 (rt_s _).2
    have hb : oc_Reader_acceptsPlace_b100 (nI (X r) - 999) (nI (Y r) - 999) (nI i) σ = some (.inl (nI (i + 1), ox_s2 (ox_s2 σ 5 (8 * r + i) (nI (pd t X Y i r))) 5 (8 * i + r) (nI (pd t X Y i r)))) := by
      unfold oc_Reader_acceptsPlace_b100
      rw [g7, if_neg (nI_ge (by omega) (by omega)), ox_ix_nI (show i < 8 by omega) (by omega), ox_ix_nI (show i < 8 by omega) (by omega), g3, g4, df_abs (hX r (by omega)).1 (hX i (by omega)).1, df_abs (hX r (by omega)).2 (hX i (by omega)).2, ha]
      simp only [Option.bind_some]
      rw [p_8', ox_ix_nI (show 8 * r + i < 64 by omega) (by omega)]
      simp only [ox_let]
      rw [show ∀ v, (ox_s2 σ 5 (8 * r + i) v).1 7 = nI r from fun v => g7, p_8', ox_ix_nI (show 8 * i + r < 64 by omega) (by omega), nI_1, pd_c t X Y i r]
      rfl
    have V : ∀ x, (ox_s2 (ox_s2 σ 5 (8 * r + i) (nI (pd t X Y i r))) 5 (8 * i + r) (nI (pd t X Y i r))).2 5 x = if x = 8 * i + r then nI (pd t X Y i r) else if x = 8 * r + i then nI (pd t X Y i r) else σ.2 5 x := by
      intro x
      rw [s2_at, s2_at]
      simp only [true_and]
    obtain ⟨σ', a1, a2⟩ := ih (i + 1) (by omega) _ (fr_tr hf (fr_tr (fr_s2 (a := 5) (i := 8 * r + i) (v := nI (pd t X Y i r)) (by decide)) (fr_s2 (a := 5) (i := 8 * i + r) (v := nI (pd t X Y i r)) (by decide)))) (by
      intro j hj
      rw [V, V]
      by_cases z : j = i
      · subst z
        rw [if_neg (by omega), if_pos rfl, if_pos rfl]
        exact ⟨rfl, rfl⟩
      · rw [if_neg (by omega), if_neg (by omega), if_neg (by omega), if_neg (by omega)]
        exact h1 j (by omega)) (by
      intro x hx
      obtain ⟨x1, x2⟩ := hx i (by omega)
      rw [V, if_neg x2, if_neg x1]
      exact h2 x hx)
    refine ⟨σ', ?_, a2⟩
    rw [← a1]
    unfold oc_Reader_acceptsPlace_h100
    exact ox_w_inl hb
/-- the reference at a line of a place -/
theorem pm_j116z (v x3 y0 : Int32) (m : ox_S) : om_Mo_place_j116 v 0 x3 y0 m = some (0, m) := by
  unfold om_Mo_place_j116
  rw [if_pos rfl]
theorem pm_j79z (v y0 : Int32) (m : ox_S) : om_Mo_place_j79 v 0 y0 m = some (0, m) := by
  unfold om_Mo_place_j79
  rw [if_pos rfl, pm_j116z]
theorem pm_j42z (v : Int32) (m : ox_S) : om_Mo_place_j42 v 0 m = some (0, m) := by
  unfold om_Mo_place_j42
  rw [if_pos rfl, pm_j79z]
theorem pm_pl {tx : Nat → Int32} {b r : Nat} {W : List (Nat × Nat)} {m : ox_S} (h : wat tx b W m) (hr : r < 8) (n1 n2 : Int32) (h12 : m.1 12 = nI r) : (pl n1 = true ∧ pl n2 = true ∧ ∃ m', om_Mo_place_j116 (nI r) 1 n1 n2 m = some (b01 W.isEmpty, m') ∧ fr [4, 6, 12] [8, 9] m m' ∧ m'.1 12 = nI (r + 1) ∧ (∀ x, m'.2 8 x = if x = r then n1 else m.2 8 x) ∧ ∀ x, m'.2 9 x = if x = r then n2 else m.2 9 x) ∨ ((pl n1 = false ∨ pl n2 = false) ∧ om_Mo_place_j116 (nI r) 1 n1 n2 m = some (0, m)) := by
  unfold om_Mo_place_j116
  rw [if_neg (show ¬ (1 : Int32) = 0 by decide)]
  by_cases z1 : n1 < -999
  · right
    rw [if_pos z1]
    exact ⟨Or.inl (by unfold pl; rw [decide_eq_true z1]; rfl), rfl⟩
  rw [if_neg z1]
  by_cases z2 : 999 < n1
  · right
    rw [if_pos z2]
    exact ⟨Or.inl (by unfold pl; rw [decide_eq_true z2, decide_eq_false z1]; rfl), rfl⟩
  rw [if_neg z2]
  by_cases z3 : n2 < -999
  · right
    rw [if_pos z3]
    exact ⟨Or.inr (by unfold pl; rw [decide_eq_true z3]; rfl), rfl⟩
  rw [if_neg z3]
  by_cases z4 : 999 < n2
  · right
    rw [if_neg (Int32.not_le.mpr z4)]
    exact ⟨Or.inr (by unfold pl; rw [decide_eq_true z4, decide_eq_false z3]; rfl), rfl⟩
  rw [if_pos (Int32.not_lt.mp z4)]
  left
  refine ⟨by unfold pl; rw [decide_eq_false z1, decide_eq_false z2]; rfl, by unfold pl; rw [decide_eq_false z3, decide_eq_false z4]; rfl, ?_⟩
  rw [ox_ix_nI hr (by omega)]
  simp only [ox_let]
  rw [ox_ix_nI hr (by omega)]
  have f0 : fr [12] [8, 9] m (ox_s1 (ox_s2 (ox_s2 m 8 r n1) 9 r n2) 12 ((ox_s2 (ox_s2 m 8 r n1) 9 r n2).1 12 + 1)) := fr_tr (fr_tr (fr_s2 (by decide)) (fr_s2 (by decide))) (fr_s1 (by decide))
  obtain ⟨m1, e1, e2⟩ := wat_more (wat_fr h f0 (by decide) (by decide) (by decide))
  rw [e1]
  refine ⟨m1, ?_, fr_tr (fr_up f0 (by decide) (by decide)) (fr_up e2 (by decide) (by decide)), ?_, ?_, ?_⟩
  · simp only [ox_b2_s]
    cases W.isEmpty <;> rfl
  · rw [e2.1 12 (by decide)]
    show m.1 12 + 1 = _
    rw [h12, nI_1]
  · intro x
    rw [e2.2 8 (by decide), s1_2, s2_at, s2_at, if_neg (by omega)]
    simp only [true_and]
  · intro x
    rw [e2.2 9 (by decide), s1_2, s2_at, s2_at]
    by_cases z : x = r
    · rw [if_pos ⟨rfl, z⟩, if_pos z]
    · rw [if_neg (by omega), if_neg (by omega), if_neg z]
theorem rdP_put {t D r Xn Yn : Nat} {c m c' m' : ox_S} (h3 : 3 ≤ D) (hD : D ≤ 8) (hr : r < D) (hXn : Xn ≤ 1998) (hYn : Yn ≤ 1998) {X Y : Nat → Nat} (hd : ∀ i, i < D → c.2 5 (8 * i + i) = 0) (h1 : ∀ i, i < r → X i ≤ 1998 ∧ Y i ≤ 1998 ∧ c.2 3 i = nI (X i) - 999 ∧ c.2 4 i = nI (Y i) - 999 ∧ m.2 8 i = nI (X i) - 999 ∧ m.2 9 i = nI (Y i) - 999) (h2 : ∀ i j, i < j → j < r → c.2 5 (8 * i + j) = nI (pd t X Y i j) ∧ c.2 5 (8 * j + i) = nI (pd t X Y i j)) (g7 : c'.1 7 = nI (r + 1)) (g12 : m'.1 12 = nI (r + 1)) (g3 : ∀ x, c'.2 3 x = if x = r then nI Xn - 999 else c.2 3 x) (g4 : ∀ x, c'.2 4 x = if x = r then nI Yn - 999 else c.2 4 x) (g8 : ∀ x, m'.2 8 x = if x = r then nI Xn - 999 else m.2 8 x) (g9 : ∀ x, m'.2 9 x = if x = r then nI Yn - 999 else m.2 9 x) (g5 : ∀ j, j < r → c'.2 5 (8 * r + j) = nI (pd t (fun x => if x = r then Xn else X x) (fun x => if x = r then Yn else Y x) j r) ∧ c'.2 5 (8 * j + r) = nI (pd t (fun x => if x = r then Xn else X x) (fun x => if x = r then Yn else Y x) j r)) (g6 : ∀ x, (∀ j, j < r → x ≠ 8 * r + j ∧ x ≠ 8 * j + r) → c'.2 5 x = c.2 5 x) : rdP t D (r + 1) c' m' := by
  refine ⟨by omega, g7, g12, fun i hi => ?_, fun x => if x = r then Xn else X x, fun x => if x = r then Yn else Y x, fun i hi => ?_, fun i j hij hj => ?_⟩
  · rw [g6 (8 * i + i) (fun j hj => ⟨by omega, by omega⟩)]
    exact hd i hi
  · rw [g3, g4, g8, g9]
    by_cases z : i = r
    · simp only [if_pos z]
      exact ⟨hXn, hYn, by trivial, by trivial, by trivial, by trivial⟩
    · simp only [if_neg z]
      exact h1 i (by omega)
  · by_cases z : j = r
    · subst z
      obtain ⟨a1, a2⟩ := g5 i hij
      exact ⟨a2, a1⟩
    · rw [g6 (8 * i + j) (fun k hk => ⟨by omega, by omega⟩), g6 (8 * j + i) (fun k hk => ⟨by omega, by omega⟩)]
      have e : pd t (fun x => if x = r then Xn else X x) (fun x => if x = r then Yn else Y x) i j = pd t X Y i j := by
        unfold pd
        simp only [if_neg (show ¬ i = r by omega), if_neg z]
      rw [e]
      exact h2 i j hij (by omega)
theorem ln_place {tx : Nat → Int32} {a b t f D r : Nat} {L : List (Nat × Nat)} {c m : ox_S} (hc : cln tx a b L c) (hm : wat tx b L m) (hr : rdh 1 t f D c m) (ht : 2 ≤ t) (hp : rdP t D r c m) (hrD : r < D) (h3 : 3 ≤ D) (hD : D ≤ 8) : lnO (oc_Reader_acceptsPlace c) (om_Mo_place m) c m := by
  have hr0 := hr
  obtain ⟨⟨hc4, hc5, hc6, hc9⟩, ⟨hm7, hm8, hm9, hm10, hm11⟩, _, ht4, _⟩ := hr
  obtain ⟨_, p7, p12, pdg, X, Y, pX, pD⟩ := hp
  have hcN := pc_placeN hc hrD hD p7 hc9
  have mb : om_Mo_place m = ox_b2 (om_Mo_word m) fun r17 s18 => if r17 = 0 then om_Mo_place_j42 (nI r) (0 : Int32) s18 else (om_Mo_isNumber s18).bind fun r19 => if r19 = 0 then om_Mo_place_j42 (nI r) (0 : Int32) s18 else (om_Mo_number s18).bind fun r20 => if r20 = (nI r + (1 : Int32)) then om_Mo_place_j42 (nI r) (1 : Int32) s18 else om_Mo_place_j42 (nI r) (0 : Int32) s18 := by
    unfold om_Mo_place
    simp only [ox_let]
    rw [p12, hm7, if_neg (nI_ge hrD (by omega))]
  -- refused on both sides
  have no : ∀ m', fr [4, 6] [] m m' → om_Mo_place m = some (0, m') → oc_Reader_acceptsPlace c = some (0, c) → lnO (oc_Reader_acceptsPlace c) (om_Mo_place m) c m := fun m' h1 h2 h3 => lnO_0 fr_rf (fM_w h1) h3 h2
  cases L with
  | nil =>
    obtain ⟨m1, e1, e2⟩ := wat_nil hm
    refine no m1 e2 ?_ (hcN (by show 0 ≠ 3; omega))
    rw [mb, e1]
    simp only [ox_b2_s]
    rw [if_pos trivial, pm_j42z]
  | cons w0 L0 =>
    obtain ⟨s0, f0⟩ := w0
    obtain ⟨m1, e1, e2, e3⟩ := wat_cons hm
    rw [e1] at mb
    simp only [ox_b2_s] at mb
    rw [if_neg (show ¬ (1 : Int32) = 0 by decide), wcu_isn e3] at mb
    simp only [Option.bind_some] at mb
    -- the class on three words
    have c3 : ∀ s1 f1 s2 f2, L0 = [(s1, f1), (s2, f2)] → ¬ ((nv tx s0 f0).getD (-10000) = nI (r + 1) ∧ pl ((nv tx s1 f1).getD (-10000)) = true ∧ pl ((nv tx s2 f2).getD (-10000)) = true) → oc_Reader_acceptsPlace c = some (0, c) := by
      intro s1 f1 s2 f2 hL hn
      subst hL
      rw [pc_place3 hc hrD hD p7 hc9]
      by_cases z1 : (nv tx s0 f0).getD (-10000) = nI (r + 1)
      · rw [if_pos z1]
        by_cases z2 : pl ((nv tx s1 f1).getD (-10000)) = true
        · rw [if_pos z2, if_neg (fun z3 => hn ⟨z1, z2, z3⟩)]
        · rw [if_neg z2]
      · rw [if_neg z1]
    have cN : (∀ s1 f1 s2 f2, L0 = [(s1, f1), (s2, f2)] → ¬ ((nv tx s0 f0).getD (-10000) = nI (r + 1) ∧ pl ((nv tx s1 f1).getD (-10000)) = true ∧ pl ((nv tx s2 f2).getD (-10000)) = true)) → oc_Reader_acceptsPlace c = some (0, c) := by
      intro hn
      by_cases z : ((s0, f0) :: L0).length = 3
      · obtain ⟨w1, w2, hw⟩ : ∃ w1 w2, L0 = [w1, w2] := by
          match L0, z with
          | [w1, w2], _ => exact ⟨w1, w2, rfl⟩
        obtain ⟨s1, f1⟩ := w1
        obtain ⟨s2, f2⟩ := w2
        exact c3 s1 f1 s2 f2 hw (hn s1 f1 s2 f2 hw)
      · exact hcN z
    cases q0 : nv tx s0 f0 with
    | none =>
      refine no m1 e2 ?_ (cN (fun s1 f1 s2 f2 _ hh => ?_))
      · rw [mb, q0]
        exact pm_j42z (nI r) m1
      · rw [q0] at hh
        exact absurd hh.1 (show ¬ (-10000 : Int32) = nI (r + 1) from fun z => by
          have : ¬ nI (r + 1) < 0 := nI_pos (by omega)
          exact this (z ▸ (by decide)))
    | some v0 =>
      rw [q0] at mb
      rw [if_neg (show ¬ b01 (some v0).isSome = 0 by show ¬ b01 true = 0; decide), wcu_num e3 q0] at mb
      simp only [Option.bind_some] at mb
      rw [nI_1] at mb
      by_cases z0 : v0 = nI (r + 1)
      · rw [if_pos z0] at mb
        unfold om_Mo_place_j42 at mb
        rw [if_neg (show ¬ (1 : Int32) = 0 by decide)] at mb
        cases L0 with
        | nil =>
          obtain ⟨m2, e4, e5⟩ := wat_nil e3.1
          refine no m2 (fr_tr e2 e5) ?_ (cN (fun _ _ _ _ z => by cases z))
          rw [mb, e4]
          simp only [ox_b2_s]
          rw [if_pos trivial, pm_j79z]
        | cons w1 L1 =>
          obtain ⟨s1, f1⟩ := w1
          obtain ⟨m2, e4, e5, e6⟩ := wat_cons e3.1
          rw [e4] at mb
          simp only [ox_b2_s] at mb
          rw [if_neg (show ¬ (1 : Int32) = 0 by decide), wcu_isn e6] at mb
          simp only [Option.bind_some] at mb
          cases q1 : nv tx s1 f1 with
          | none =>
            refine no m2 (fr_tr e2 e5) ?_ (cN (fun s1' f1' s2 f2 hL hh => ?_))
            · rw [mb, q1]
              exact pm_j79z (nI r) 0 m2
            · injection hL with hL _
              injection hL with hL1 hL2
              subst hL1 hL2
              rw [q1] at hh
              exact absurd hh.2.1 (show ¬ pl (-10000) = true by decide)
          | some v1 =>
            rw [q1] at mb
            rw [if_neg (show ¬ b01 (some v1).isSome = 0 by show ¬ b01 true = 0; decide), wcu_num e6 q1] at mb
            simp only [Option.bind_some] at mb
            unfold om_Mo_place_j79 at mb
            rw [if_neg (show ¬ (1 : Int32) = 0 by decide)] at mb
            cases L1 with
            | nil =>
              obtain ⟨m3, e7, e8⟩ := wat_nil e6.1
              refine no m3 (fr_tr e2 (fr_tr e5 e8)) ?_ (cN (fun _ _ _ _ z => by cases z))
              rw [mb, e7]
              simp only [ox_b2_s]
              rw [if_pos trivial, pm_j116z]
            | cons w2 L2 =>
              obtain ⟨s2, f2⟩ := w2
              obtain ⟨m3, e7, e8, e9⟩ := wat_cons e6.1
              have f3 : fr [4, 6] [] m m3 := fr_tr e2 (fr_tr e5 e8)
              rw [e7] at mb
              simp only [ox_b2_s] at mb
              rw [if_neg (show ¬ (1 : Int32) = 0 by decide), wcu_isn e9] at mb
              simp only [Option.bind_some] at mb
              cases q2 : nv tx s2 f2 with
              | none =>
                refine no m3 f3 ?_ (cN (fun s1' f1' s2' f2' hL hh => ?_))
                · rw [mb, q2]
                  exact pm_j116z (nI r) v1 0 m3
                · injection hL with _ hL
                  injection hL with hL _
                  injection hL with hL1 hL2
                  subst hL1 hL2
                  rw [q2] at hh
                  exact absurd hh.2.2 (show ¬ pl (-10000) = true by decide)
              | some v2 =>
                rw [q2] at mb
                rw [if_neg (show ¬ b01 (some v2).isSome = 0 by show ¬ b01 true = 0; decide), wcu_num e9 q2] at mb
                simp only [Option.bind_some] at mb
                rcases pm_pl e9.1 (show r < 8 by omega) v1 v2 ((f3.1 12 (by decide)).trans p12) with ⟨y1, y2, m4, g1, g2, g3, g4, g5⟩ | ⟨y, g1⟩
                · rw [g1] at mb
                  have f4 : fr [4, 6, 12] [8, 9] m m4 := fr_tr (fr_up f3 (by decide) (by decide)) g2
                  have f5 : fM m m4 := fr_up f4 (by decide) (by decide)
                  cases L2 with
                  | cons w3 L3 =>
                    exact lnO_0 fr_rf f5 (cN (fun _ _ _ _ z => by injection z with _ z; injection z with _ z; cases z)) mb
                  | nil =>
                    obtain ⟨Xn, hXn, rfl⟩ := pl_ex y1
                    obtain ⟨Yn, hYn, rfl⟩ := pl_ex y2
                    have hcl := pc_place3 hc hrD hD p7 hc9
                    rw [q0, q1, q2] at hcl
                    rw [if_pos (show (some v0).getD (-10000) = nI (r + 1) from z0), if_pos (show pl ((some (nI Xn - 999)).getD (-10000)) = true from y1), if_pos (show pl ((some (nI Yn - 999)).getD (-10000)) = true from y2)] at hcl
                    have hk := pc_h100 (t := t) (r := r) (X := fun x => if x = r then Xn else X x) (Y := fun x => if x = r then Yn else Y x) ht4 (by omega) (by
                      intro i hi
                      by_cases z : i = r
                      · simp only [if_pos z]
                        exact ⟨hXn, hYn⟩
                      · simp only [if_neg z]
                        exact ⟨(pX i (by omega)).1, (pX i (by omega)).2.1⟩) (c := ox_s2 (ox_s2 c 3 r (nI Xn - 999)) 4 r (nI Yn - 999)) hc5 p7 (by
                      intro i hi
                      simp only [if_neg (show ¬ i = r by omega)]
                      rw [s2_at, s2_at, s2_at, s2_at, if_neg (by omega), if_neg (by omega), if_neg (by omega), if_neg (by omega)]
                      exact ⟨(pX i hi).2.2.1, (pX i hi).2.2.2.1⟩) r 0 (by omega) _ fr_rf (fun j hj => by omega) (fun x _ => rfl)
                    simp only [if_true] at hk
                    obtain ⟨c', k1, k2, k3, k4, k5⟩ := hk
                    have fc : fr [7] [3, 4, 5] c c' := fr_tr (fr_tr (fr_s2 (by decide)) (fr_s2 (by decide))) (fr_up k2 (by decide) (by decide))
                    refine lnO_1 (c' := c') (m' := m4) (fr_up fc (by decide) (by decide)) f5 (hcl.trans k1) mb ⟨1, t, f, D, rdh_fr hr0 fc f4 (by decide) (by decide), fun z => absurd z (by decide), fun _ => ⟨by omega, Or.inr ⟨ht, r + 1, ?_, fun z => absurd z (by decide)⟩⟩⟩
                    refine rdP_put h3 hD hrD hXn hYn (X := X) (Y := Y) pdg pX pD k3 g3 ?_ ?_ ?_ ?_ k4 ?_
                    · intro x
                      rw [k2.2 3 (by decide), s2_at, s2_at, if_neg (by omega)]
                      simp only [true_and]
                    · intro x
                      rw [k2.2 4 (by decide), s2_at, s2_at]
                      by_cases z : x = r
                      · rw [if_pos ⟨rfl, z⟩, if_pos z]
                      · rw [if_neg (by omega), if_neg (by omega), if_neg z]
                    · intro x
                      rw [g4, f3.2 8 (by decide)]
                    · intro x
                      rw [g5, f3.2 9 (by decide)]
                    · intro x hx
                      rw [k5 x hx, s2_at, s2_at, if_neg (by omega), if_neg (by omega)]
                · rw [g1] at mb
                  refine no m3 f3 mb (cN (fun s1' f1' s2' f2' hL hh => ?_))
                  injection hL with hL hL'
                  injection hL with hL1 hL2
                  injection hL' with hL' _
                  injection hL' with hL3 hL4
                  subst hL1 hL2 hL3 hL4
                  rw [q1, q2] at hh
                  have w1 : pl v1 = true := hh.2.1
                  have w2 : pl v2 = true := hh.2.2
                  rw [w1, w2] at y
                  rcases y with y | y <;> cases y
      · rw [if_neg z0, pm_j42z] at mb
        refine no m1 e2 mb (cN (fun s1 f1 s2 f2 _ hh => ?_))
        rw [q0] at hh
        exact z0 hh.1
