/-! load: numbers -/
def isd (x : Int32) : Bool := decide (48 ≤ x) && decide (x ≤ 57)
def dv (tx : Nat → Int32) : Nat → Nat → Nat → Option Nat
  | 0, _, acc => some acc
  | r + 1, p, acc => if isd (tx p) then dv tx r (p + 1) (10 * acc + ((tx p).toNatClampNeg - 48)) else none
theorem isd_ex {x : Int32} (h : isd x = true) : ∃ k, k ≤ 9 ∧ x = nI (48 + k) ∧ x.toNatClampNeg - 48 = k := by
  unfold isd at h
  rw [Bool.and_eq_true, decide_eq_true_eq, decide_eq_true_eq] at h
  have h0 : ¬ x < 0 := fun z => by
    have a := Int32.le_iff_toInt_le.mp h.1
    have b := Int32.lt_iff_toInt_lt.mp z
    have c : (48 : Int32).toInt = 48 := by decide
    have d : (0 : Int32).toInt = 0 := by decide
    omega
  obtain ⟨j, j1, j2⟩ := nI_of2 (n := 57) (by decide) h0 h.2
  have j3 : 48 ≤ j := by
    refine Nat.le_of_not_lt fun z => ?_
    have := nI_ge (a := j) (b := 48) z (by omega)
    rw [← j2] at this
    exact this h.1
  refine ⟨j - 48, by omega, by rw [j2]; congr 1; omega, ?_⟩
  rw [j2, nI_clamp (by omega)]
theorem isd_no {x : Int32} (h : isd x = false) : x < 48 ∨ 57 < x := by
  unfold isd at h
  rw [Bool.and_eq_false_iff, decide_eq_false_iff_not, decide_eq_false_iff_not] at h
  rcases h with h | h
  · exact Or.inl (Int32.not_le.mp h)
  · exact Or.inr (Int32.not_le.mp h)
theorem isd_yes {x : Int32} (h : isd x = true) : ¬ x < 48 ∧ x ≤ 57 := by
  unfold isd at h
  rw [Bool.and_eq_true, decide_eq_true_eq, decide_eq_true_eq] at h
  exact ⟨Int32.not_lt.mpr h.1, h.2⟩
theorem dv_lt {tx : Nat → Int32} : ∀ r p acc v, dv tx r p acc = some v → v + 1 ≤ (acc + 1) * 10 ^ r
  | 0, p, acc, v, h => by
    have : acc = v := Option.some.inj h
    omega
  | r + 1, p, acc, v, h => by
    unfold dv at h
    by_cases z : isd (tx p) = true
    · rw [if_pos z] at h
      obtain ⟨k, k1, _, k3⟩ := isd_ex z
      rw [k3] at h
      have := dv_lt r (p + 1) _ v h
      have h2 : (10 * acc + k + 1) * 10 ^ r ≤ (acc + 1) * 10 * 10 ^ r := Nat.mul_le_mul_right _ (by omega)
      rw [Nat.pow_succ, Nat.mul_comm (10 ^ r) 10, ← Nat.mul_assoc]
      omega
    · rw [if_neg z] at h
      cases h
/-- four digits at most -/
def dw (tx : Nat → Int32) (p e : Nat) : Option Nat := if p < e ∧ e - p ≤ 4 then dv tx (e - p) p 0 else none
theorem dw_lt {tx : Nat → Int32} {p e v : Nat} (h : dw tx p e = some v) : v ≤ 9999 := by
  unfold dw at h
  by_cases z : p < e ∧ e - p ≤ 4
  · rw [if_pos z] at h
    have h1 := dv_lt _ _ _ _ h
    have h2 : 10 ^ (e - p) ≤ 10 ^ 4 := Nat.pow_le_pow_right (by omega) z.2
    omega
  · rw [if_neg z] at h
    cases h
/-- a word's value -/
def nv (tx : Nat → Int32) (s e : Nat) : Option Int32 := if tx s = 45 then (dw tx (s + 1) e).map (fun v => -nI v) else (dw tx s e).map nI
section NB
variable {tx : Nat → Int32} {b : Nat}
theorem pc_digL (hb : b ≤ 480) {σ : ox_S} (htx : ∀ j, j < b → σ.2 0 j = tx j) {e : Nat} (he : e ≤ b) : ∀ r p, p + r = e → ∀ acc, oc_Line_digits_h19 (nI e) (nI acc) (nI p) σ = some (match dv tx r p acc with
    | some v => nI v
    | none => -1) := by
  intro r
  induction r with
  | zero =>
    intro p hp acc
    have e1 : p = e := by omega
    subst e1
    unfold oc_Line_digits_h19
    refine ox_w_inr ?_
    show oc_Line_digits_b19 (nI p) (nI acc) (nI p) σ = _
    unfold oc_Line_digits_b19
    rw [if_pos (nI_le (Nat.le_refl _) (by omega))]
    rfl
  | succ r ih =>
    intro p hp acc
    have hbb : oc_Line_digits_b19 (nI e) (nI acc) (nI p) σ = if tx p < 48 then some (.inr (-1)) else if tx p ≤ 57 then some (.inl ((10 : Int32) * nI acc + (tx p - 48), nI (p + 1))) else some (.inr (-1)) := by
      unfold oc_Line_digits_b19
      rw [if_neg (nI_ge (show p < e by omega) (by omega)), ox_ix_nI (show p < 480 by omega) (by omega), htx p (by omega)]
      simp only [ox_let, nI_1]
    cases z : isd (tx p) with
    | false =>
      have hd : dv tx (r + 1) p acc = none := by unfold dv; rw [z]; rfl
      rw [hd]
      unfold oc_Line_digits_h19
      refine ox_w_inr ?_
      show oc_Line_digits_b19 (nI e) (nI acc) (nI p) σ = _
      rw [hbb]
      rcases isd_no z with y | y
      · rw [if_pos y]
      · by_cases w : tx p < 48
        · rw [if_pos w]
        · rw [if_neg w, if_neg (Int32.not_le.mpr y)]
    | true =>
      obtain ⟨k, k1, k2, k3⟩ := isd_ex z
      obtain ⟨y1, y2⟩ := isd_yes z
      have hd : dv tx (r + 1) p acc = dv tx r (p + 1) (10 * acc + k) := by
        rw [show dv tx (r + 1) p acc = if isd (tx p) then dv tx r (p + 1) (10 * acc + ((tx p).toNatClampNeg - 48)) else none from rfl, z, k3]
        rfl
      rw [hd, ← ih (p + 1) (by omega)]
      unfold oc_Line_digits_h19
      refine ox_w_inl ?_
      show oc_Line_digits_b19 (nI e) (nI acc) (nI p) σ = _
      rw [hbb, if_neg y1, if_pos y2, k2, show (48 : Int32) = nI 48 from rfl, pk_sub (by omega), show (10 : Int32) = nI 10 from rfl, pk_mul, nI_add, show 48 + k - 48 = k by omega]
theorem pc_dig (hb : b ≤ 480) {σ : ox_S} (htx : ∀ j, j < b → σ.2 0 j = tx j) {p e : Nat} (he : e ≤ b) (hp : p ≤ 480) : oc_Line_digits (nI p) (nI e) σ = some (match dw tx p e with
    | some v => nI v
    | none => -1) := by
  unfold oc_Line_digits dw
  by_cases z : p < e
  · rw [if_neg (nI_ge z (by omega)), pk_sub (by omega)]
    by_cases y : e - p ≤ 4
    · rw [if_pos (show nI (e - p) ≤ 4 from nI_le (b := 4) y (by omega)), if_pos ⟨z, y⟩]
      exact pc_digL hb htx he (e - p) p (by omega) 0
    · rw [if_neg (show ¬ nI (e - p) ≤ 4 from nI_ge (a := 4) (by omega) (by omega)), if_neg (fun q => y q.2)]
  · rw [if_pos (nI_le (by omega) (by omega)), if_neg (fun q => z q.1)]
/-- the class's number -/
theorem pc_num (hb : b ≤ 480) {σ : ox_S} (htx : ∀ j, j < b → σ.2 0 j = tx j) {L : List (Nat × Nat)} (hL : L.length ≤ 240) (hw : wl L σ) {k : Nat} : (L.length ≤ k → k < 240 → oc_Line_number (nI k) σ = some (-10000)) ∧ (∀ s e, k < L.length → L.getD k (0, 0) = (s, e) → s < e → e ≤ b → oc_Line_number (nI k) σ = some ((nv tx s e).getD (-10000))) := by
  constructor
  · intro h1 h2
    unfold oc_Line_number
    rw [hw.1, if_neg (nI_nlt h1 (by omega))]
  · intro s e hk he hse heb
    obtain ⟨w1, w2⟩ := hw.2 k hk
    rw [he] at w1 w2
    have hj56 : ∀ y0 p, p ≤ 480 → oc_Line_number_j56 (nI k) y0 (nI p) σ = some (match dw tx p e with
        | some v => if y0 = 0 then nI v else -nI v
        | none => -10000) := by
      intro y0 p hp
      unfold oc_Line_number_j56
      rw [ox_ix_nI (show k < 240 by omega) (by omega), w2, pc_dig hb htx heb hp]
      simp only [Option.bind_some]
      cases q : dw tx p e with
      | none => rfl
      | some v =>
        have := dw_lt q
        show (if 0 ≤ nI v then (if y0 = 0 then some (nI v) else some (-nI v)) else some (-10000)) = some (if y0 = 0 then nI v else -nI v)
        rw [if_pos (nI_pos' (by omega))]
        split <;> rfl
    unfold oc_Line_number oc_Line_number_j33
    rw [hw.1, if_pos (nI_lt hk (by omega)), ox_ix_nI (show k < 240 by omega) (by omega), w1, ox_ix_nI (show s < 480 by omega) (by omega), htx s (by omega)]
    unfold nv
    by_cases z : tx s = 45
    · rw [if_pos z, if_pos z, if_neg (by decide), ox_ix_nI (show k < 240 by omega) (by omega), w1, nI_1, hj56 1 (s + 1) (by omega)]
      cases dw tx (s + 1) e <;> rfl
    · rw [if_neg z, if_neg z, if_pos rfl, ox_ix_nI (show k < 240 by omega) (by omega), w1, hj56 0 s (by omega)]
      cases dw tx s e <;> rfl
theorem pc_uns (hb : b ≤ 480) {σ : ox_S} (htx : ∀ j, j < b → σ.2 0 j = tx j) {L : List (Nat × Nat)} (hL : L.length ≤ 240) (hw : wl L σ) {k s e : Nat} (hk : k < L.length) (he : L.getD k (0, 0) = (s, e)) (hse : s < e) (heb : e ≤ b) : oc_Line_unsigned (nI k) σ = some (match dw tx s e with
    | some v => nI v
    | none => -1) := by
  obtain ⟨w1, w2⟩ := hw.2 k hk
  rw [he] at w1 w2
  unfold oc_Line_unsigned
  rw [hw.1, if_neg (nI_ge hk (by omega)), ox_ix_nI (show k < 240 by omega) (by omega), ox_ix_nI (show k < 240 by omega) (by omega), w1, w2, pc_dig hb htx heb (by omega)]
  rfl
/-- the reference's number -/
theorem pm_isn0 {σ : ox_S} {e : Nat} (he : e ≤ 480) (h4 : σ.1 4 = nI e) : ∀ r p, e ≤ p + r → p ≤ 481 → om_Mo_isNumber_h54 (0 : Int32) (nI p) σ = some 0 := by
  intro r
  induction r with
  | zero =>
    intro p hp hp2
    unfold om_Mo_isNumber_h54
    refine ox_w_inr ?_
    show om_Mo_isNumber_b54 (0 : Int32) (nI p) σ = _
    unfold om_Mo_isNumber_b54
    rw [h4, if_pos (nI_le (by omega) (by omega))]
    rfl
  | succ r ih =>
    intro p hp hp2
    by_cases z : e ≤ p
    · unfold om_Mo_isNumber_h54
      refine ox_w_inr ?_
      show om_Mo_isNumber_b54 (0 : Int32) (nI p) σ = _
      unfold om_Mo_isNumber_b54
      rw [h4, if_pos (nI_le z (by omega))]
      rfl
    · rw [← ih (p + 1) (by omega) (by omega)]
      unfold om_Mo_isNumber_h54
      refine ox_w_inl ?_
      show om_Mo_isNumber_b54 (0 : Int32) (nI p) σ = _
      unfold om_Mo_isNumber_b54
      rw [h4, if_neg (nI_ge (by omega) (by omega)), if_pos rfl]
      simp only [ox_let, nI_1]
theorem pm_isn1 {σ : ox_S} {e : Nat} (he : e ≤ 480) (h4 : σ.1 4 = nI e) (htx : ∀ j, j < e → σ.2 0 j = tx j) : ∀ r p, p + r = e → ∀ acc, om_Mo_isNumber_h54 (1 : Int32) (nI p) σ = some (b01 (dv tx r p acc).isSome) := by
  intro r
  induction r with
  | zero =>
    intro p hp acc
    unfold om_Mo_isNumber_h54
    refine ox_w_inr ?_
    show om_Mo_isNumber_b54 (1 : Int32) (nI p) σ = _
    unfold om_Mo_isNumber_b54
    rw [h4, if_pos (nI_le (by omega) (by omega))]
    rfl
  | succ r ih =>
    intro p hp acc
    have hbb : om_Mo_isNumber_b54 (1 : Int32) (nI p) σ = if tx p < 48 then some (.inl (0, nI (p + 1))) else if 57 < tx p then some (.inl (0, nI (p + 1))) else some (.inl (1, nI (p + 1))) := by
      unfold om_Mo_isNumber_b54
      rw [h4, if_neg (nI_ge (show p < e by omega) (by omega)), if_neg (by decide), ox_ix_nI (show p < 480 by omega) (by omega), ox_ix_nI (show p < 480 by omega) (by omega), htx p (by omega)]
      simp only [ox_let, nI_1]
    cases z : isd (tx p) with
    | false =>
      have hd : dv tx (r + 1) p acc = none := by unfold dv; rw [z]; rfl
      rw [hd]
      have e1 : om_Mo_isNumber_h54 (1 : Int32) (nI p) σ = om_Mo_isNumber_h54 (0 : Int32) (nI (p + 1)) σ := by
        unfold om_Mo_isNumber_h54
        refine ox_w_inl ?_
        show om_Mo_isNumber_b54 (1 : Int32) (nI p) σ = _
        rw [hbb]
        by_cases w : tx p < 48
        · rw [if_pos w]
        · rw [if_neg w, if_pos ((isd_no z).resolve_left w)]
      rw [e1]
      exact pm_isn0 he h4 r (p + 1) (by omega) (by omega)
    | true =>
      obtain ⟨y1, y2⟩ := isd_yes z
      have hd : dv tx (r + 1) p acc = dv tx r (p + 1) (10 * acc + ((tx p).toNatClampNeg - 48)) := by
        rw [show dv tx (r + 1) p acc = if isd (tx p) then dv tx r (p + 1) (10 * acc + ((tx p).toNatClampNeg - 48)) else none from rfl, z]
        rfl
      rw [hd, ← ih (p + 1) (by omega)]
      unfold om_Mo_isNumber_h54
      refine ox_w_inl ?_
      show om_Mo_isNumber_b54 (1 : Int32) (nI p) σ = _
      rw [hbb, if_neg y1, if_neg (Int32.not_lt.mpr y2)]
theorem pm_isn {σ : ox_S} {s e : Nat} (he : e ≤ 480) (hse : s < e) (h4 : σ.1 4 = nI e) (h6 : σ.1 6 = nI s) (htx : ∀ j, j < e → σ.2 0 j = tx j) : om_Mo_isNumber σ = some (b01 (nv tx s e).isSome) := by
  have hj : ∀ p, p ≤ e → om_Mo_isNumber_j27 (nI p) σ = some (b01 (dw tx p e).isSome) := by
    intro p hp
    unfold om_Mo_isNumber_j27 dw
    rw [h4]
    by_cases z : p < e
    · rw [if_neg (nI_ge z (by omega)), pk_sub (by omega)]
      by_cases y : e - p ≤ 4
      · rw [if_neg (show ¬ 4 < nI (e - p) from nI_nlt (a := 4) y (by omega)), if_pos ⟨z, y⟩]
        exact pm_isn1 he h4 htx (e - p) p (by omega) 0
      · rw [if_pos (show 4 < nI (e - p) from nI_lt (a := 4) (by omega) (by omega)), if_neg (fun q => y q.2)]
        exact pm_isn0 he h4 e p (by omega) (by omega)
    · rw [if_pos (nI_le (by omega) (by omega)), if_neg (fun q => z q.1)]
      exact pm_isn0 he h4 e p (by omega) (by omega)
  unfold om_Mo_isNumber nv
  rw [h6, ox_ix_nI (show s < 480 by omega) (by omega), htx s hse]
  by_cases z : tx s = 45
  · rw [if_pos z, if_pos z, nI_1, hj (s + 1) (by omega)]
    cases dw tx (s + 1) e <;> rfl
  · rw [if_neg z, if_neg z, hj s (by omega)]
    cases dw tx s e <;> rfl
theorem pm_numL {σ : ox_S} {s e : Nat} (he : e ≤ 480) (hse : s < e) (h4 : σ.1 4 = nI e) (h6 : σ.1 6 = nI s) (htx : ∀ j, j < e → σ.2 0 j = tx j) : ∀ r p, p + r = e → ∀ acc v, dv tx r p acc = some v → om_Mo_number_h7 (nI acc) (nI p) σ = some (if tx s = 45 then -nI v else nI v) := by
  intro r
  induction r with
  | zero =>
    intro p hp acc v hv
    have hv' : acc = v := Option.some.inj hv
    subst hv'
    unfold om_Mo_number_h7
    refine ox_w_inr ?_
    show om_Mo_number_b7 (nI acc) (nI p) σ = _
    unfold om_Mo_number_b7
    rw [h4, if_pos (nI_le (by omega) (by omega)), h6, ox_ix_nI (show s < 480 by omega) (by omega), htx s hse]
    split <;> rfl
  | succ r ih =>
    intro p hp acc v hv
    rw [show dv tx (r + 1) p acc = if isd (tx p) then dv tx r (p + 1) (10 * acc + ((tx p).toNatClampNeg - 48)) else none from rfl] at hv
    cases z : isd (tx p) with
    | false => rw [z] at hv; cases hv
    | true =>
      rw [z] at hv
      obtain ⟨k, k1, k2, k3⟩ := isd_ex z
      rw [k3] at hv
      rw [← ih (p + 1) (by omega) _ v hv]
      unfold om_Mo_number_h7
      refine ox_w_inl ?_
      show om_Mo_number_b7 (nI acc) (nI p) σ = _
      unfold om_Mo_number_b7
      rw [h4, if_neg (nI_ge (show p < e by omega) (by omega)), ox_ix_nI (show p < 480 by omega) (by omega), ox_ix_nI (show p < 480 by omega) (by omega), htx p (by omega), k2, if_neg (show ¬ nI (48 + k) = 45 from nI_ne (b := 45) (by omega) (by omega) (by omega))]
      simp only [ox_let, nI_1]
      rw [show (10 : Int32) = nI 10 from rfl, pk_mul, nI_add, show (48 : Int32) = nI 48 from rfl, pk_sub (by omega), show 10 * acc + (48 + k) - 48 = 10 * acc + k by omega]
theorem pm_num {σ : ox_S} {s e : Nat} (he : e ≤ 480) (hse : s < e) (h4 : σ.1 4 = nI e) (h6 : σ.1 6 = nI s) (htx : ∀ j, j < e → σ.2 0 j = tx j) {v : Int32} (hv : nv tx s e = some v) : om_Mo_number σ = some v := by
  unfold om_Mo_number
  rw [h6]
  simp only [ox_let]
  unfold nv at hv
  by_cases z : tx s = 45
  · rw [if_pos z] at hv
    have e1 : om_Mo_number_h7 (0 : Int32) (nI s) σ = om_Mo_number_h7 (nI 0) (nI (s + 1)) σ := by
      unfold om_Mo_number_h7
      refine ox_w_inl ?_
      show om_Mo_number_b7 (0 : Int32) (nI s) σ = _
      unfold om_Mo_number_b7
      rw [h4, if_neg (nI_ge hse (by omega)), ox_ix_nI (show s < 480 by omega) (by omega), htx s hse, if_pos z]
      simp only [ox_let, nI_1]
      rfl
    rw [e1]
    unfold dw at hv
    by_cases y : s + 1 < e ∧ e - (s + 1) ≤ 4
    · rw [if_pos y] at hv
      cases q : dv tx (e - (s + 1)) (s + 1) 0 with
      | none => rw [q] at hv; cases hv
      | some w =>
        rw [q] at hv
        rw [pm_numL he hse h4 h6 htx (e - (s + 1)) (s + 1) (by omega) 0 w q, if_pos z]
        exact hv
    · rw [if_neg y] at hv; cases hv
  · rw [if_neg z] at hv
    unfold dw at hv
    by_cases y : s < e ∧ e - s ≤ 4
    · rw [if_pos y] at hv
      cases q : dv tx (e - s) s 0 with
      | none => rw [q] at hv; cases hv
      | some w =>
        rw [q] at hv
        rw [show om_Mo_number_h7 (0 : Int32) (nI s) σ = om_Mo_number_h7 (nI 0) (nI s) σ from rfl, pm_numL he hse h4 h6 htx (e - s) s (by omega) 0 w q, if_neg z]
        exact hv
    · rw [if_neg y] at hv; cases hv
end NB
