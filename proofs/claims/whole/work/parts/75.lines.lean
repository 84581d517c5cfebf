/-! load: the reference at its words; what the two sides keep while reading -/
/-- the reference stands before the words W of a line that ends at b -/
def wat (tx : Nat → Int32) (b : Nat) (W : List (Nat × Nat)) (m : ox_S) : Prop := b ≤ 480 ∧ m.1 5 = nI b ∧ (∀ j, j < b → m.2 0 j = tx j) ∧ ∃ p, p ≤ b ∧ m.1 4 = nI p ∧ wd tx (b - p) p none = W
/-- it stands on the word (s, e), before W -/
def wcu (tx : Nat → Int32) (b s e : Nat) (W : List (Nat × Nat)) (m : ox_S) : Prop := wat tx b W m ∧ m.1 6 = nI s ∧ m.1 4 = nI e ∧ s < e ∧ e ≤ b
theorem wat_fr {tx : Nat → Int32} {b : Nat} {W : List (Nat × Nat)} {m m' : ox_S} {S T : List Nat} (h : wat tx b W m) (hf : fr S T m m') (h4 : 4 ∉ S) (h5 : 5 ∉ S) (h0 : 0 ∉ T) : wat tx b W m' := by
  obtain ⟨a1, a2, a3, p, a4, a5, a6⟩ := h
  exact ⟨a1, by rw [hf.1 5 h5, a2], fun j hj => by rw [hf.2 0 h0, a3 j hj], p, a4, by rw [hf.1 4 h4, a5], a6⟩
theorem wcu_fr {tx : Nat → Int32} {b s e : Nat} {W : List (Nat × Nat)} {m m' : ox_S} {S T : List Nat} (h : wcu tx b s e W m) (hf : fr S T m m') (h4 : 4 ∉ S) (h5 : 5 ∉ S) (h6 : 6 ∉ S) (h0 : 0 ∉ T) : wcu tx b s e W m' := by
  obtain ⟨a1, a2, a3, a4⟩ := h
  exact ⟨wat_fr a1 hf h4 h5 h0, by rw [hf.1 6 h6, a2], by rw [hf.1 4 h4, a3], a4⟩
theorem wat_nil {tx : Nat → Int32} {b : Nat} {m : ox_S} (h : wat tx b [] m) : ∃ m', om_Mo_word m = some (0, m') ∧ fr [4, 6] [] m m' := by
  obtain ⟨a1, a2, a3, p, a4, a5, a6⟩ := h
  rcases pm_word a1 a2 a3 (b - p) p (by omega) m fr_rf a5 with ⟨_, m', e1, e2, _⟩ | ⟨s, e, m', _, _, _, _, _, _, _, _, e9⟩
  · exact ⟨m', e1, e2⟩
  · rw [a6] at e9
    cases e9
theorem wat_cons {tx : Nat → Int32} {b s e : Nat} {W : List (Nat × Nat)} {m : ox_S} (h : wat tx b ((s, e) :: W) m) : ∃ m', om_Mo_word m = some (1, m') ∧ fr [4, 6] [] m m' ∧ wcu tx b s e W m' := by
  obtain ⟨a1, a2, a3, p, a4, a5, a6⟩ := h
  rcases pm_word a1 a2 a3 (b - p) p (by omega) m fr_rf a5 with ⟨z, _⟩ | ⟨s', e', m', e1, e2, e3, e4, e5, e6, e7, e8, e9⟩
  · rw [a6] at z
    cases z
  · rw [a6] at e9
    injection e9 with q1 q2
    injection q1 with q3 q4
    subst q3 q4
    exact ⟨m', e1, e2, ⟨a1, by rw [e2.1 5 (by decide), a2], fun j hj => by rw [e2.2 0 (by decide), a3 j hj], e, e7, e4, q2.symm⟩, e3, e4, e6, e7⟩
theorem wat_more {tx : Nat → Int32} {b : Nat} {W : List (Nat × Nat)} {m : ox_S} (h : wat tx b W m) : ∃ m', om_Mo_noMore m = some (b01 W.isEmpty, m') ∧ fr [4, 6] [] m m' := by
  unfold om_Mo_noMore
  cases W with
  | nil =>
    obtain ⟨m', e1, e2⟩ := wat_nil h
    exact ⟨m', by rw [e1]; rfl, e2⟩
  | cons w W =>
    obtain ⟨m', e1, e2, _⟩ := wat_cons h
    exact ⟨m', by rw [e1]; rfl, e2⟩
theorem wd_ok {tx : Nat → Int32} {b : Nat} (hb : b ≤ 480) : ∀ n p, b - p ≤ n → p ≤ b → ∀ x ∈ wd tx (b - p) p none, x.1 < x.2 ∧ x.2 ≤ b := by
  intro n
  induction n with
  | zero =>
    intro p h1 h2 x hx
    have e : b - p = 0 := by omega
    rw [e] at hx
    cases hx
  | succ n ih =>
    intro p h1 h2 x hx
    rcases pm_word (m0 := (fun k => if k = 5 then nI b else nI p, fun _ => tx)) hb rfl (fun j _ => rfl) (b - p) p (by omega) _ fr_rf rfl with ⟨z, _⟩ | ⟨s, e, m', _, _, _, _, e5, e6, e7, _, e9⟩
    · rw [z] at hx
      cases hx
    · rw [e9] at hx
      rcases List.mem_cons.mp hx with q | q
      · rw [q]
        exact ⟨e6, e7⟩
      · exact ih e (by omega) e7 x q
theorem wcu_is {tx : Nat → Int32} {b s e : Nat} {W : List (Nat × Nat)} {m : ox_S} (h : wcu tx b s e W m) {x : Nat} (hx : x < 14) : om_Mo_is (nI (nmr x)) m = some (b01 (wis tx s e x)) := pm_is h.1.1 h.1.2.1 h.1.2.2.1 hx h.2.2.2.1 h.2.2.2.2 h.2.2.1 h.2.1
theorem wcu_isn {tx : Nat → Int32} {b s e : Nat} {W : List (Nat × Nat)} {m : ox_S} (h : wcu tx b s e W m) : om_Mo_isNumber m = some (b01 (nv tx s e).isSome) := by
  have := h.1.1
  have := h.2.2.2.2
  exact pm_isn (by omega) h.2.2.2.1 h.2.2.1 h.2.1 (fun j hj => h.1.2.2.1 j (by omega))
theorem wcu_num {tx : Nat → Int32} {b s e : Nat} {W : List (Nat × Nat)} {m : ox_S} (h : wcu tx b s e W m) {v : Int32} (hv : nv tx s e = some v) : om_Mo_number m = some v := by
  have := h.1.1
  have := h.2.2.2.2
  exact pm_num (by omega) h.2.2.2.1 h.2.2.1 h.2.1 (fun j hj => h.1.2.2.1 j (by omega)) hv
/-- the names are unequal -/
theorem mtc_at {tx : Nat → Int32} {p x : Nat} : ∀ r k, mtc tx p x r k = true → ∀ j, k ≤ j → j < k + r → tx (p + j) = nmc x j := by
  intro r
  induction r with
  | zero => intro k _ j h1 h2; omega
  | succ r ih =>
    intro k h j h1 h2
    unfold mtc at h
    rw [Bool.and_eq_true] at h
    by_cases z : j = k
    · rw [z]
      exact of_decide_eq_true h.1
    · exact ih (k + 1) h.2 j (by omega) (by omega)
theorem nm_dif : ∀ x, x < 14 → ∀ y, y < 14 → nml x = nml y → (∀ j, j < nml x → nmc x j = nmc y j) → x = y := by decide +kernel
theorem wis_one {tx : Nat → Int32} {s e x y : Nat} (hx : x < 14) (hy : y < 14) (h1 : wis tx s e x = true) (h2 : wis tx s e y = true) : x = y := by
  unfold wis at h1 h2
  rw [Bool.and_eq_true] at h1 h2
  have a := of_decide_eq_true h1.1
  have b := of_decide_eq_true h2.1
  refine nm_dif x hx y hy (by omega) fun j hj => ?_
  rw [← mtc_at _ _ h1.2 j (by omega) (by omega), ← mtc_at _ _ h2.2 j (by omega) (by omega)]
theorem wis_no {tx : Nat → Int32} {s e x y : Nat} (h1 : wis tx s e x = true) (hx : x < 14) (hy : y < 14) (h : x ≠ y) : wis tx s e y = false := by
  cases q : wis tx s e y with
  | false => rfl
  | true => exact absurd (wis_one hx hy h1 q) h
/-- the class at a line -/
def cln (tx : Nat → Int32) (a b : Nat) (L : List (Nat × Nat)) (c : ox_S) : Prop := b ≤ 480 ∧ a ≤ b ∧ c.1 1 = nI a ∧ c.1 2 = nI b ∧ wl L c ∧ L.length ≤ 240 ∧ (∀ j, j < b → c.2 0 j = tx j) ∧ ∀ x ∈ L, x.1 < x.2 ∧ x.2 ≤ b
theorem cln_fr {tx : Nat → Int32} {a b : Nat} {L : List (Nat × Nat)} {c c' : ox_S} {S T : List Nat} (h : cln tx a b L c) (hf : fr S T c c') (h1 : 1 ∉ S) (h2 : 2 ∉ S) (h3 : 3 ∉ S) (t0 : 0 ∉ T) (t1 : 1 ∉ T) (t2 : 2 ∉ T) : cln tx a b L c' := by
  obtain ⟨a1, a2, a3, a4, a5, a6, a7, a8⟩ := h
  exact ⟨a1, a2, by rw [hf.1 1 h1, a3], by rw [hf.1 2 h2, a4], ⟨by rw [hf.1 3 h3, a5.1], fun q hq => by rw [hf.2 1 t1, hf.2 2 t2]; exact a5.2 q hq⟩, a6, fun j hj => by rw [hf.2 0 t0, a7 j hj], a8⟩
theorem cln_mem {tx : Nat → Int32} {a b : Nat} {L : List (Nat × Nat)} {c : ox_S} (h : cln tx a b L c) {k s e : Nat} (hk : k < L.length) (he : L.getD k (0, 0) = (s, e)) : s < e ∧ e ≤ b := by
  have hm : (s, e) ∈ L := by
    rw [← he, List.getD_eq_getElem?_getD, List.getElem?_eq_getElem hk]
    exact List.getElem_mem hk
  exact h.2.2.2.2.2.2.2 _ hm
theorem cln_is {tx : Nat → Int32} {a b : Nat} {L : List (Nat × Nat)} {c : ox_S} (h : cln tx a b L c) {k s e x : Nat} (hx : x < 14) (hk : k < L.length) (he : L.getD k (0, 0) = (s, e)) : oc_Line_wordIs (nI k) x c = some (b01 (wis tx s e x)) :=
  pc_wordIs h.1 h.2.2.2.2.2.2.1 h.2.2.2.2.2.1 h.2.2.2.2.1 hx hk he (cln_mem h hk he).1 (cln_mem h hk he).2
theorem cln_num {tx : Nat → Int32} {a b : Nat} {L : List (Nat × Nat)} {c : ox_S} (h : cln tx a b L c) {k s e : Nat} (hk : k < L.length) (he : L.getD k (0, 0) = (s, e)) : oc_Line_number (nI k) c = some ((nv tx s e).getD (-10000)) :=
  (pc_num h.1 h.2.2.2.2.2.2.1 h.2.2.2.2.2.1 h.2.2.2.2.1).2 s e hk he (cln_mem h hk he).1 (cln_mem h hk he).2
/-- what both keep while reading -/
def mT (t : Nat) : Int32 := if t = 0 then -1 else nI (t + 3)
def mF (f : Nat) : Int32 := if f = 0 then -1 else nI (f + 7)
def rws (f D : Nat) : Nat := if f = 2 then D - 1 else D
def lcl (f D r : Nat) : Nat := if f = 3 then r else D - 1
def fcl (f r : Nat) : Nat := if f = 2 then r + 1 else 0
def vps (f D r k : Nat) : Prop := (r < rws f D ∧ fcl f r ≤ k ∧ k ≤ lcl f D r) ∨ (r = rws f D ∧ k = fcl f r)
def cix (f D r k : Nat) : Nat := if f = 1 then r * D + k else if f = 2 then en D r k else r * (r + 1) / 2 + k
def pos (f i j : Nat) : Nat := if f = 3 then 8 * j + i else 8 * i + j
noncomputable def rt (D : Nat) : Nat := (rt_ex D).choose
theorem rt_s (D : Nat) : rt D * rt D ≤ D ∧ D < (rt D + 1) * (rt D + 1) := (rt_ex D).choose_spec
def dif (a b : Nat) : Nat := (a - b) + (b - a)
noncomputable def pd (t : Nat) (X Y : Nat → Nat) (i j : Nat) : Nat := far t (dif (X i) (X j)) (dif (Y i) (Y j)) (rt (dif (X i) (X j) * dif (X i) (X j) + dif (Y i) (Y j) * dif (Y i) (Y j)))
def rdh (st t f D : Nat) (c m : ox_S) : Prop := (c.1 4 = nI st ∧ c.1 5 = nI t ∧ c.1 6 = nI f ∧ c.1 9 = nI D) ∧ (m.1 7 = nI D ∧ m.1 8 = mT t ∧ m.1 9 = mF f ∧ m.1 10 = nI (if st = 0 then 0 else 1) ∧ m.1 11 = nI (if st = 2 then 1 else 0)) ∧ st ≤ 2 ∧ t ≤ 4 ∧ f ≤ 3 ∧ (D = 0 ∨ (3 ≤ D ∧ D ≤ 8))
def rdE (f D r k : Nat) (c m : ox_S) : Prop := vps f D r k ∧ c.1 7 = nI r ∧ c.1 8 = nI k ∧ m.1 12 = nI (cix f D r k) ∧ (∀ i, i < D → c.2 5 (8 * i + i) = 0) ∧ ∀ i j, i < j → j < D → ∃ v, v ≤ 9999 ∧ c.2 5 (8 * i + j) = nI v ∧ c.2 5 (8 * j + i) = nI v ∧ (pos f i j < 8 * r + k → m.2 7 (8 * i + j) = nI v ∧ m.2 7 (8 * j + i) = nI v)
def rdP (t D r : Nat) (c m : ox_S) : Prop := r ≤ D ∧ c.1 7 = nI r ∧ m.1 12 = nI r ∧ (∀ i, i < D → c.2 5 (8 * i + i) = 0) ∧ ∃ X Y : Nat → Nat, (∀ i, i < r → X i ≤ 1998 ∧ Y i ≤ 1998 ∧ c.2 3 i = nI (X i) - 999 ∧ c.2 4 i = nI (Y i) - 999 ∧ m.2 8 i = nI (X i) - 999 ∧ m.2 9 i = nI (Y i) - 999) ∧ ∀ i j, i < j → j < r → c.2 5 (8 * i + j) = nI (pd t X Y i j) ∧ c.2 5 (8 * j + i) = nI (pd t X Y i j)
def rdD (st t f D : Nat) (c m : ox_S) : Prop := (st = 0 → m.1 12 = 0 ∧ ∀ x, x < 64 → c.2 5 x = 0) ∧ (st ≠ 0 → D ≠ 0 ∧ ((t = 1 ∧ f ≠ 0 ∧ ∃ r k, rdE f D r k c m ∧ (st = 2 → r = rws f D)) ∨ (2 ≤ t ∧ ∃ r, rdP t D r c m ∧ (st = 2 → r = D))))
def rd (c m : ox_S) : Prop := ∃ st t f D, rdh st t f D c m ∧ rdD st t f D c m
/-- a line's end on both sides -/
def lnO (oc om : Option (Int32 × ox_S)) (c m : ox_S) : Prop := ∃ c' m', fr [4, 5, 6, 7, 8, 9] [3, 4, 5] c c' ∧ fr [4, 6, 7, 8, 9, 10, 11, 12] [7, 8, 9] m m' ∧ ((oc = some (0, c') ∧ om = some (0, m')) ∨ (oc = some (1, c') ∧ om = some (1, m') ∧ rd c' m'))
