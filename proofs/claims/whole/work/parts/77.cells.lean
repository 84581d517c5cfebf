/-! load: distances, cell by cell -/
theorem lnO_t2 {oc om : Option (Int32 × ox_S)} {c c1 m m1 : ox_S} (h1 : fC c c1) (h2 : fM m m1) (h : lnO oc om c1 m1) : lnO oc om c m := by
  obtain ⟨c', m', a1, a2, a3⟩ := h
  exact ⟨c', m', fr_tr h1 a1, fr_tr h2 a2, a3⟩
theorem dw_45 {tx : Nat → Int32} {s e : Nat} (h : tx s = 45) : dw tx s e = none := by
  unfold dw
  split
  · next z =>
    obtain ⟨n, hn⟩ : ∃ n, e - s = n + 1 := ⟨e - s - 1, by omega⟩
    rw [hn]
    unfold dv
    rw [h]
    rfl
  · rfl
/-- the cells' numbers -/
def cx1 (f D r k : Nat) : Bool := decide (3 ≤ D ∧ r < rws f D ∧ fcl f r ≤ k ∧ k ≤ lcl f D r → (cix f D r k = cix f D r (fcl f r) + (k - fcl f r) ∧ cix f D r k < cix f D (rws f D) (fcl f (rws f D)) ∧ (if lcl f D r ≤ k then cix f D (r + 1) (fcl f (r + 1)) else cix f D r (k + 1)) = cix f D r k + 1 ∧ cix f D (rws f D) (fcl f (rws f D)) ≤ 64))
theorem cx1_1 : ∀ D, D < 9 → ∀ r, r < 9 → ∀ k, k < 9 → cx1 1 D r k = true := by decide +kernel
theorem cx1_2 : ∀ D, D < 9 → ∀ r, r < 9 → ∀ k, k < 9 → cx1 2 D r k = true := by decide +kernel
theorem cx1_3 : ∀ D, D < 9 → ∀ r, r < 9 → ∀ k, k < 9 → cx1 3 D r k = true := by decide +kernel
theorem cix_1 (f : Nat) (hf : f < 4) (h1 : 1 ≤ f) (D : Nat) (hD : D < 9) (h3 : 3 ≤ D) (r : Nat) (hr : r < 9) (k : Nat) (hk : k < 9) (h : r < rws f D ∧ fcl f r ≤ k ∧ k ≤ lcl f D r) : cix f D r k = cix f D r (fcl f r) + (k - fcl f r) ∧ cix f D r k < cix f D (rws f D) (fcl f (rws f D)) ∧ (if lcl f D r ≤ k then cix f D (r + 1) (fcl f (r + 1)) else cix f D r (k + 1)) = cix f D r k + 1 ∧ cix f D (rws f D) (fcl f (rws f D)) ≤ 64 := by
  have q : cx1 f D r k = true := by
    have : f = 1 ∨ f = 2 ∨ f = 3 := by omega
    rcases this with rfl | rfl | rfl
    · exact cx1_1 D hD r hr k hk
    · exact cx1_2 D hD r hr k hk
    · exact cx1_3 D hD r hr k hk
  exact of_decide_eq_true q ⟨h3, h⟩
theorem cix_2a : ∀ f, f < 4 → ∀ D, D < 9 → ∀ i, i < 9 → (1 ≤ f ∧ 3 ≤ D ∧ i < rws f D) → (fcl f i ≤ lcl f D i ∧ cix f D (i + 1) (fcl f (i + 1)) = cix f D i (fcl f i) + (lcl f D i - fcl f i + 1)) := by decide +kernel
def cx2 (f D i r : Nat) : Bool := decide (3 ≤ D ∧ i < r ∧ r < rws f D → cix f D (i + 1) (fcl f (i + 1)) ≤ cix f D r (fcl f r))
theorem cx2_1 : ∀ D, D < 9 → ∀ r, r < 9 → ∀ k, k < 9 → cx2 1 D r k = true := by decide +kernel
theorem cx2_2 : ∀ D, D < 9 → ∀ r, r < 9 → ∀ k, k < 9 → cx2 2 D r k = true := by decide +kernel
theorem cx2_3 : ∀ D, D < 9 → ∀ r, r < 9 → ∀ k, k < 9 → cx2 3 D r k = true := by decide +kernel
theorem cix_2b (f : Nat) (hf : f < 4) (D : Nat) (hD : D < 9) (i : Nat) (hi : i < 9) (r : Nat) (hr : r < 9) (h : 1 ≤ f ∧ 3 ≤ D ∧ i < r ∧ r < rws f D) : cix f D (i + 1) (fcl f (i + 1)) ≤ cix f D r (fcl f r) := by
  have q : cx2 f D i r = true := by
    have : f = 1 ∨ f = 2 ∨ f = 3 := by omega
    rcases this with rfl | rfl | rfl
    · exact cx2_1 D hD i hi r hr
    · exact cx2_2 D hD i hi r hr
    · exact cx2_3 D hD i hi r hr
  exact of_decide_eq_true q h.2
theorem cix_2 (f : Nat) (hf : f < 4) (h1 : 1 ≤ f) (D : Nat) (hD : D < 9) (h3 : 3 ≤ D) (r : Nat) (hr : r < 9) (k : Nat) (hk : k < 9) (h : r < rws f D ∧ fcl f r ≤ k ∧ k ≤ lcl f D r) (i : Nat) (hi : i < r) : fcl f i ≤ lcl f D i ∧ cix f D (i + 1) (fcl f (i + 1)) = cix f D i (fcl f i) + (lcl f D i - fcl f i + 1) ∧ cix f D (i + 1) (fcl f (i + 1)) ≤ cix f D r k := by
  obtain ⟨a1, a2⟩ := cix_2a f hf D hD i (by omega) ⟨h1, h3, by omega⟩
  have a3 := cix_2b f hf D hD i (by omega) r hr ⟨h1, h3, hi, h.1⟩
  have a4 := (cix_1 f hf h1 D hD h3 r hr k hk h).1
  exact ⟨a1, a2, by omega⟩
theorem cix_0 : ∀ f, f < 4 → 1 ≤ f → ∀ D, D < 9 → 3 ≤ D → cix f D 0 (fcl f 0) = 0 := by decide +kernel
theorem vps_lt {f D r k : Nat} (hf : f ≤ 3) (hD : D ≤ 8) (h : r < rws f D ∧ fcl f r ≤ k ∧ k ≤ lcl f D r) (h3 : 3 ≤ D) : r < 8 ∧ k < 8 ∧ r < D ∧ k < D := by
  revert h
  unfold rws fcl lcl
  split <;> split <;> omega
theorem pm_due1 {f D : Nat} (h1 : 1 ≤ f) (hf : f ≤ 3) (h3 : 3 ≤ D) (hD : D ≤ 8) {σ : ox_S} (h7 : σ.1 7 = nI D) (h8 : σ.1 8 = mT 1) (h9 : σ.1 9 = mF f) : om_Mo_due σ = some (nI (cix f D (rws f D) (fcl f (rws f D)))) := by
  unfold om_Mo_due
  rw [h7, h8, h9]
  exact (by decide +kernel : ∀ f, f < 4 → 1 ≤ f → ∀ D, D < 9 → 3 ≤ D → (if mT 1 = (4 : Int32) then (if mF f = (8 : Int32) then some (nI D * nI D) else if mF f = (9 : Int32) then some (nI D * (nI D - (1 : Int32)) / (2 : Int32)) else some (nI D * (nI D + (1 : Int32)) / (2 : Int32))) else some (nI D)) = some (nI (cix f D (rws f D) (fcl f (rws f D))))) f (by omega) h1 D (by omega) h3
theorem pm_j49 {f D r : Nat} (h1 : 1 ≤ f) (hf : f ≤ 3) (h3 : 3 ≤ D) (hD : D ≤ 8) (hr : r < D) {σ : ox_S} (h7 : σ.1 7 = nI D) (h9 : σ.1 9 = mF f) (x2 : Int32) : om_Mo_pair_b4 x2 (nI r) σ = om_Mo_pair_j49 x2 (nI r) (nI (fcl f r)) (nI (lcl f D r)) σ := by
  unfold om_Mo_pair_b4
  rw [h7, h9, if_neg (nI_ge hr (by omega))]
  unfold fcl lcl
  by_cases z2 : f = 2
  · rw [if_pos ((mF_lt hf).2.2.2.1.mpr z2), if_pos z2, if_neg (by omega)]
    simp only [ox_let]
    rw [if_neg (fun q => by have := (mF_lt hf).2.2.2.2.mp q; omega), nI_1, p_sub1 (by omega)]
  · rw [if_neg (fun q => z2 ((mF_lt hf).2.2.2.1.mp q)), if_neg z2]
    by_cases z3 : f = 3
    · rw [if_pos ((mF_lt hf).2.2.2.2.mpr z3), if_pos z3]
      rfl
    · rw [if_neg (fun q => z3 ((mF_lt hf).2.2.2.2.mp q)), if_neg z3, p_sub1 (by omega)]
      rfl
theorem pm_pairL {f D r k : Nat} (h1 : 1 ≤ f) (hf : f ≤ 3) (h3 : 3 ≤ D) (hD : D ≤ 8) (hv : r < rws f D ∧ fcl f r ≤ k ∧ k ≤ lcl f D r) {σ : ox_S} (h7 : σ.1 7 = nI D) (h9 : σ.1 9 = mF f) : ∀ d i, i + d = r → om_Mo_pair_h4 (nI (cix f D r k - cix f D i (fcl f i))) (nI i) σ = some (nI (8 * r + k)) := by
  obtain ⟨l1, l2, l3, l4⟩ := vps_lt hf hD hv h3
  intro d
  induction d with
  | zero =>
    intro i hi
    have e : i = r := by omega
    subst e
    have c1 := (cix_1 f (by omega) h1 D (by omega) h3 i (by omega) k (by omega) hv).1
    unfold om_Mo_pair_h4
    refine ox_w_inr ?_
    show om_Mo_pair_b4 _ _ σ = _
    rw [pm_j49 h1 hf h3 hD l3 h7 h9]
    unfold om_Mo_pair_j49
    rw [show cix f D i k - cix f D i (fcl f i) = k - fcl f i by omega, pk_sub (by omega), if_neg (nI_nlt (by omega) (by
      have := hv.2.2
      unfold lcl
      split <;> omega)), p_8, nI_add]
    rw [show 8 * i + fcl f i + (k - fcl f i) = 8 * i + k by omega]
  | succ d ih =>
    intro i hi
    obtain ⟨c1, c2, c3⟩ := cix_2 f (by omega) h1 D (by omega) h3 r (by omega) k (by omega) hv i (by omega)
    have c4 := (cix_1 f (by omega) h1 D (by omega) h3 r (by omega) k (by omega) hv).2
    rw [← ih (i + 1) (by omega)]
    unfold om_Mo_pair_h4
    refine ox_w_inl ?_
    show om_Mo_pair_b4 _ _ σ = _
    rw [pm_j49 h1 hf h3 hD (by omega) h7 h9]
    unfold om_Mo_pair_j49
    rw [pk_sub c1, if_pos (nI_lt (by omega) (by omega)), nI_1, nI_1, pk_sub (by omega)]
    simp only [ox_let]
    rw [show cix f D r k - cix f D i (fcl f i) - (lcl f D i - fcl f i + 1) = cix f D r k - cix f D (i + 1) (fcl f (i + 1)) by omega]
theorem pm_pair {f D r k : Nat} (h1 : 1 ≤ f) (hf : f ≤ 3) (h3 : 3 ≤ D) (hD : D ≤ 8) (hv : r < rws f D ∧ fcl f r ≤ k ∧ k ≤ lcl f D r) {σ : ox_S} (h7 : σ.1 7 = nI D) (h9 : σ.1 9 = mF f) : om_Mo_pair (nI (cix f D r k)) σ = some (nI (8 * r + k)) := by
  have := pm_pairL h1 hf h3 hD hv h7 h9 r 0 (by omega)
  rw [cix_0 f (by omega) h1 D (by omega) h3] at this
  exact this
/-- does a number fit its cell -/
def okv (f r k v : Nat) (x : Int32) : Bool := if r = k then decide (v = 0) else if f = 1 then (if r < k then true else decide (nI v = x)) else true
theorem pc_fitc {f r k v : Nat} (hf : f ≤ 3) (hr : r < 8) (hk : k < 8) (hv : v ≤ 9999) {σ : ox_S} (h6 : σ.1 6 = nI f) (h7 : σ.1 7 = nI r) (h8 : σ.1 8 = nI k) : oc_Reader_fits (nI v) σ = some (b01 (okv f r k v (σ.2 5 (8 * r + k)))) := by
  unfold oc_Reader_fits okv
  rw [h6, h7, h8]
  by_cases z : r = k
  · rw [if_pos (by rw [z]), if_pos z]
    by_cases y : v = 0
    · rw [if_pos (by rw [y]; rfl), decide_eq_true y]
      rfl
    · rw [if_neg (nI_ne0 (by omega) (by omega)), decide_eq_false y]
      rfl
  · rw [if_neg (nI_ne z (by omega) (by omega)), if_neg z]
    by_cases y : f = 1
    · rw [if_pos (show nI f = 1 by rw [y]; rfl), if_pos y]
      by_cases x : r < k
      · rw [if_pos (nI_le (by omega) (by omega)), if_pos x]
        rfl
      · rw [if_neg (nI_ge (by omega) (by omega)), if_neg x]
        unfold oc_Reader_fits_j45
        rw [if_neg (by decide), h7, h8, p_8', ox_ix_nI (show 8 * r + k < 64 by omega) (by omega)]
        by_cases w : nI v = σ.2 5 (8 * r + k)
        · rw [if_pos w, decide_eq_true w]
          rfl
        · rw [if_neg w, decide_eq_false w]
          rfl
    · rw [if_neg (show ¬ nI f = 1 from nI_ne (b := 1) y (by omega) (by omega)), if_neg y]
      rfl
theorem pm_j99 {r k v n : Nat} (hr : r < 8) (hk : k < 8) (ok : Bool) {σ : ox_S} (h12 : σ.1 12 = nI n) : om_Mo_take_j99 (nI v) (nI r) (nI k) (b01 ok) σ = some (b01 ok, ox_s1 (ox_s2 (ox_s2 σ 7 (8 * r + k) (nI v)) 7 (8 * k + r) (nI v)) 12 (nI (n + 1))) := by
  unfold om_Mo_take_j99
  rw [p_8, p_8, ox_ix_nI (show 8 * r + k < 64 by omega) (by omega)]
  simp only [ox_let]
  rw [ox_ix_nI (show 8 * k + r < 64 by omega) (by omega)]
  show ox_z (b01 ok) (some (b01 ok, ox_s1 _ 12 (σ.1 12 + 1))) = _
  rw [h12, nI_1]
  cases ok <;> rfl
theorem pm_take {f D r k v : Nat} (h1 : 1 ≤ f) (hf : f ≤ 3) (h3 : 3 ≤ D) (hD : D ≤ 8) (hv : r < rws f D ∧ fcl f r ≤ k ∧ k ≤ lcl f D r) (hv9 : v ≤ 9999) {σ : ox_S} (h7 : σ.1 7 = nI D) (h8 : σ.1 8 = mT 1) (h9 : σ.1 9 = mF f) (h12 : σ.1 12 = nI (cix f D r k)) : om_Mo_take (nI v) σ = some (b01 (okv f r k v (σ.2 7 (8 * k + r))), ox_s1 (ox_s2 (ox_s2 σ 7 (8 * r + k) (nI v)) 7 (8 * k + r) (nI v)) 12 (nI (cix f D r k + 1))) := by
  obtain ⟨l1, l2, l3, l4⟩ := vps_lt hf hD hv h3
  obtain ⟨c1, c2, c3, c4⟩ := cix_1 f (by omega) h1 D (by omega) h3 r (by omega) k (by omega) hv
  unfold om_Mo_take
  rw [pm_due1 h1 hf h3 hD h7 h8 h9]
  simp only [Option.bind_some]
  rw [h12, if_neg (nI_ge c2 (by omega)), pm_pair h1 hf h3 hD hv h7 h9]
  simp only [Option.bind_some]
  unfold om_Mo_take_j23
  rw [if_neg (nI_pos (by omega)), if_pos (nI_pos' (by omega))]
  obtain ⟨d1, d2⟩ := p_div8 (8 * r + k) (by omega)
  rw [d2, d1, show (8 * r + k) / 8 = r by omega, show (8 * r + k) % 8 = k by omega]
  simp only [ox_let]
  unfold okv
  by_cases z : r = k
  · rw [if_pos (by rw [z]), if_pos z]
    by_cases y : v = 0
    · rw [if_pos (by rw [y]; rfl), decide_eq_true y]
      exact pm_j99 l1 l2 true h12
    · rw [if_neg (nI_ne0 (by omega) (by omega)), decide_eq_false y]
      exact pm_j99 l1 l2 false h12
  · rw [if_neg (nI_ne z (by omega) (by omega)), if_neg z, h9]
    by_cases y : f = 1
    · rw [if_pos ((mF_lt hf).2.2.1.mpr y), if_pos y]
      by_cases x : r < k
      · rw [if_pos (nI_lt x (by omega)), if_pos x]
        exact pm_j99 l1 l2 true h12
      · rw [if_neg (nI_nlt (by omega) (by omega)), if_neg x, p_8, ox_ix_nI (show 8 * k + r < 64 by omega) (by omega)]
        by_cases w : nI v = σ.2 7 (8 * k + r)
        · rw [if_pos w, decide_eq_true w]
          exact pm_j99 l1 l2 true h12
        · rw [if_neg w, decide_eq_false w]
          exact pm_j99 l1 l2 false h12
    · rw [if_neg (fun q => y ((mF_lt hf).2.2.1.mp q)), if_neg y]
      exact pm_j99 l1 l2 true h12
theorem pc_rows {f D : Nat} (hf : f ≤ 3) (h3 : 3 ≤ D) (hD : D ≤ 8) {σ : ox_S} (h6 : σ.1 6 = nI f) (h9 : σ.1 9 = nI D) : oc_Reader_rows σ = some (nI (rws f D)) := by
  unfold oc_Reader_rows rws
  rw [h6, h9]
  by_cases z : f = 2
  · rw [if_pos (show nI f = 2 by rw [z]; rfl), if_pos z, p_sub1 (by omega)]
  · rw [if_neg (show ¬ nI f = 2 from nI_ne (b := 2) z (by omega) (by omega)), if_neg z]
/-- the next cell -/
def nxr (f D r k : Nat) : Nat := if lcl f D r ≤ k then r + 1 else r
def nxk (f D r k : Nat) : Nat := if lcl f D r ≤ k then fcl f (r + 1) else k + 1
theorem pc_cell {f D r k : Nat} (hf : f ≤ 3) (h3 : 3 ≤ D) (hD : D ≤ 8) (hr : r < 8) (hk : k < 8) {σ : ox_S} (h6 : σ.1 6 = nI f) (h7 : σ.1 7 = nI r) (h8 : σ.1 8 = nI k) (h9 : σ.1 9 = nI D) : ∃ σ', oc_Reader_goToNextCell σ = some σ' ∧ fr [7, 8] [] σ σ' ∧ σ'.1 7 = nI (nxr f D r k) ∧ σ'.1 8 = nI (nxk f D r k) := by
  have hl : oc_Reader_lastColumn σ = some (nI (lcl f D r)) := by
    unfold oc_Reader_lastColumn lcl
    rw [h6, h7, h9]
    by_cases z : f = 3
    · rw [if_pos (show nI f = 3 by rw [z]; rfl), if_pos z]
    · rw [if_neg (show ¬ nI f = 3 from nI_ne (b := 3) z (by omega) (by omega)), if_neg z, p_sub1 (by omega)]
  have hl8 : lcl f D r < 8 := by
    unfold lcl
    split <;> omega
  unfold oc_Reader_goToNextCell nxr nxk
  rw [hl]
  simp only [Option.bind_some]
  rw [h8, h7, nI_1, nI_1]
  by_cases z : lcl f D r ≤ k
  · rw [if_pos (nI_le z (by omega)), if_pos z, if_pos z]
    simp only [ox_let]
    rw [pc_fcol hf (r := r + 1) (show (ox_s1 σ 7 (nI (r + 1))).1 6 = nI f from h6) rfl]
    exact ⟨_, rfl, fr_tr (fr_s1 (by decide)) (fr_s1 (by decide)), rfl, rfl⟩
  · rw [if_neg (nI_ge (by omega) (by omega)), if_neg z, if_neg z]
    exact ⟨_, rfl, fr_s1 (by decide), h7, rfl⟩
theorem nx_v {f D r k : Nat} (h1 : 1 ≤ f) (hf : f ≤ 3) (h3 : 3 ≤ D) (hD : D ≤ 8) (hv : r < rws f D ∧ fcl f r ≤ k ∧ k ≤ lcl f D r) : vps f D (nxr f D r k) (nxk f D r k) := by
  revert hv
  unfold vps nxr nxk rws fcl lcl
  have : f = 1 ∨ f = 2 ∨ f = 3 := by omega
  rcases this with rfl | rfl | rfl
  · simp only [show ¬ (1 : Nat) = 2 by omega, show ¬ (1 : Nat) = 3 by omega, if_false]
    split <;> omega
  · simp only [show ¬ (2 : Nat) = 3 by omega, if_false, if_true]
    split <;> omega
  · simp only [show ¬ (3 : Nat) = 2 by omega, if_false, if_true]
    split <;> omega
theorem nx_p {f D r k : Nat} (h1 : 1 ≤ f) (hf : f ≤ 3) (h3 : 3 ≤ D) (hD : D ≤ 8) (hv : r < rws f D ∧ fcl f r ≤ k ∧ k ≤ lcl f D r) {i j : Nat} (hij : i < j) (hj : j < D) (hp : pos f i j < 8 * nxr f D r k + nxk f D r k) : pos f i j < 8 * r + k ∨ (i = r ∧ j = k) ∨ (i = k ∧ j = r) := by
  revert hv hp
  unfold pos nxr nxk rws fcl lcl
  have : f = 1 ∨ f = 2 ∨ f = 3 := by omega
  rcases this with rfl | rfl | rfl
  · simp only [show ¬ (1 : Nat) = 2 by omega, show ¬ (1 : Nat) = 3 by omega, if_false]
    split <;> omega
  · simp only [show ¬ (2 : Nat) = 3 by omega, if_false, if_true]
    split <;> omega
  · simp only [show ¬ (3 : Nat) = 2 by omega, if_false, if_true]
    split <;> omega
theorem nx_c {f D r k : Nat} (h1 : 1 ≤ f) (hf : f ≤ 3) (h3 : 3 ≤ D) (hD : D ≤ 8) (hv : r < rws f D ∧ fcl f r ≤ k ∧ k ≤ lcl f D r) : cix f D (nxr f D r k) (nxk f D r k) = cix f D r k + 1 := by
  obtain ⟨l1, l2, l3, l4⟩ := vps_lt hf hD hv h3
  obtain ⟨_, _, c3, _⟩ := cix_1 f (by omega) h1 D (by omega) h3 r (by omega) k (by omega) hv
  rw [← c3]
  unfold nxr nxk
  split <;> rfl
