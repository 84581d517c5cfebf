/-! load: names -/
/-- the names, in the class's order -/
def nmc (x k : Nat) : Int32 := (oc_sb.getD x []).getD k 0
def nml (x : Nat) : Nat := oc_sl.getD x 0
/-- the reference's number of a name -/
def nmr (x : Nat) : Nat := [13, 0, 1, 2, 3, 8, 9, 10, 4, 5, 6, 7, 12, 11].getD x 0
/-- the r characters from the k-th on are the name's -/
def mtc (tx : Nat → Int32) (p x : Nat) : Nat → Nat → Bool
  | 0, _ => true
  | r + 1, k => decide (tx (p + k) = nmc x k) && mtc tx p x r (k + 1)
theorem nm_slen {x : Nat} (hx : x < 14) : oc_slen x = some (nI (nml x)) := by
  unfold oc_slen
  rw [if_pos (show x < oc_nS from hx)]
  rfl
theorem nm_lens : ∀ x, x < 14 → 1 ≤ nml x ∧ nml x ≤ 19 := by decide +kernel
theorem nm_chars : ∀ x, x < 14 → ∀ k, k < nml x → ((nmc x k &&& 255).toUInt32 % 65536).toInt32 = nmc x k ∧ ¬ nmc x k = 0 := by decide +kernel
theorem nm_schar {x k : Nat} (hx : x < 14) (hk : k < nml x) : oc_schar x (nI k) = some (nmc x k) := by
  unfold oc_schar
  have := nm_lens x hx
  rw [if_pos (show x < oc_nS from hx), ox_ix_nI (show k < oc_sl.getD x 0 from hk) (show oc_sl.getD x 0 < 2 ^ 31 by unfold nml at this; omega)]
  show some (((nmc x k &&& 255).toUInt32 % 65536).toInt32) = _
  rw [(nm_chars x hx k hk).1]
def nm_lt (x k : Nat) : Int32 := if k < nml x then nmc x k else 0
theorem nm_let0 : ∀ x, x < 14 → ∀ k, k ≤ nml x → om_Mo_letter (nI (nmr x)) (nI k) ol_0 = some (nm_lt x k) := by decide +kernel
theorem nm_let {x k : Nat} (hx : x < 14) (hk : k ≤ nml x) (σ : ox_S) : om_Mo_letter (nI (nmr x)) (nI k) σ = some (nm_lt x k) := nm_let0 x hx k hk
section NM
variable {tx : Nat → Int32} {b : Nat}
theorem pc_standL (hb : b ≤ 480) {σ : ox_S} (htx : ∀ j, j < b → σ.2 0 j = tx j) {p x : Nat} (hx : x < 14) (hp : p + nml x ≤ b) : ∀ r k, k + r = nml x → oc_Line_stands_h2 (nI p) x (nI k) σ = some (b01 (mtc tx p x r k)) := by
  have hl := nm_lens x hx
  intro r
  induction r with
  | zero =>
    intro k hk
    unfold oc_Line_stands_h2
    refine ox_w_inr ?_
    show oc_Line_stands_b2 (nI p) x (nI k) σ = _
    unfold oc_Line_stands_b2
    rw [nm_slen hx]
    simp only [Option.bind_some]
    rw [if_pos (nI_le (by omega) (by omega))]
    rfl
  | succ r ih =>
    intro k hk
    have hbb : oc_Line_stands_b2 (nI p) x (nI k) σ = if tx (p + k) = nmc x k then some (.inl (nI (k + 1))) else some (.inr 0) := by
      unfold oc_Line_stands_b2
      rw [nm_slen hx]
      simp only [Option.bind_some]
      rw [if_neg (nI_ge (show k < nml x by omega) (by omega)), nI_add, ox_ix_nI (show p + k < 480 by omega) (by omega), nm_schar hx (by omega), htx (p + k) (by omega)]
      simp only [Option.bind_some, ox_let, nI_1]
    rw [show mtc tx p x (r + 1) k = (decide (tx (p + k) = nmc x k) && mtc tx p x r (k + 1)) from rfl]
    by_cases z : tx (p + k) = nmc x k
    · rw [decide_eq_true z, Bool.true_and, ← ih (k + 1) (by omega)]
      unfold oc_Line_stands_h2
      refine ox_w_inl ?_
      show oc_Line_stands_b2 (nI p) x (nI k) σ = _
      rw [hbb, if_pos z]
    · rw [decide_eq_false z, Bool.false_and]
      unfold oc_Line_stands_h2
      refine ox_w_inr ?_
      show oc_Line_stands_b2 (nI p) x (nI k) σ = _
      rw [hbb, if_neg z]
      rfl
theorem pc_stands (hb : b ≤ 480) {σ : ox_S} (htx : ∀ j, j < b → σ.2 0 j = tx j) {p x : Nat} (hx : x < 14) (hp : p + nml x ≤ b) : oc_Line_stands (nI p) x σ = some (b01 (mtc tx p x (nml x) 0)) := pc_standL hb htx hx hp (nml x) 0 (by omega)
/-- the word is the name -/
def wis (tx : Nat → Int32) (s e x : Nat) : Bool := decide (e - s = nml x) && mtc tx s x (nml x) 0
theorem pc_wordIs (hb : b ≤ 480) {σ : ox_S} (htx : ∀ j, j < b → σ.2 0 j = tx j) {L : List (Nat × Nat)} (hL : L.length ≤ 240) (hw : wl L σ) {k x s e : Nat} (hx : x < 14) (hk : k < L.length) (he : L.getD k (0, 0) = (s, e)) (hse : s < e) (heb : e ≤ b) : oc_Line_wordIs (nI k) x σ = some (b01 (wis tx s e x)) := by
  have hl := nm_lens x hx
  obtain ⟨w1, w2⟩ := hw.2 k hk
  rw [he] at w1 w2
  unfold oc_Line_wordIs wis
  rw [hw.1, if_neg (nI_ge hk (by omega))]
  simp only [ox_ix_nI (show k < 240 by omega) (show 240 < 2 ^ 31 by omega), nm_slen hx, Option.bind_some, w1, w2]
  rw [pk_sub (by omega)]
  by_cases z : e - s = nml x
  · rw [if_pos (by rw [z]), decide_eq_true z, Bool.true_and, pc_stands hb htx hx (by omega)]
    simp only [Option.bind_some]
    cases mtc tx s x (nml x) 0 <;> rfl
  · rw [if_neg (nI_ne z (by omega) (by omega)), decide_eq_false z, Bool.false_and]
    rfl
theorem pc_begins (hb : b ≤ 480) {σ : ox_S} (htx : ∀ j, j < b → σ.2 0 j = tx j) {a x : Nat} (hx : x < 14) (hab : a ≤ b) (h1 : σ.1 1 = nI a) (h2 : σ.1 2 = nI b) : oc_Line_beginsWith x σ = some (b01 (decide (nml x ≤ b - a) && mtc tx a x (nml x) 0)) := by
  have hl := nm_lens x hx
  unfold oc_Line_beginsWith
  rw [nm_slen hx]
  simp only [Option.bind_some]
  rw [h1, h2, pk_sub hab]
  by_cases z : nml x ≤ b - a
  · rw [if_neg (nI_nlt z (by omega)), decide_eq_true z, Bool.true_and, pc_stands hb htx hx (by omega)]
    simp only [Option.bind_some]
    cases mtc tx a x (nml x) 0 <;> rfl
  · rw [if_pos (nI_lt (by omega) (by omega)), decide_eq_false z, Bool.false_and]
    rfl
/-- the reference -/
theorem pm_beginL (hb : b ≤ 480) {σ : ox_S} (h5 : σ.1 5 = nI b) (htx : ∀ j, j < b → σ.2 0 j = tx j) {p x : Nat} (hx : x < 14) : ∀ r k, k + r = nml x → p + k ≤ b → om_Mo_begins_h2 (nI (nmr x)) (nI p) (nI k) σ = some (if (decide (p + nml x ≤ b) && mtc tx p x r k) = true then nI (nml x) else 0) := by
  have hl := nm_lens x hx
  intro r
  induction r with
  | zero =>
    intro k hk hpk
    have e : k = nml x := by omega
    subst e
    unfold om_Mo_begins_h2
    refine ox_w_inr ?_
    show om_Mo_begins_b2 (nI (nmr x)) (nI p) (nI (nml x)) σ = _
    unfold om_Mo_begins_b2
    rw [nm_let hx (Nat.le_refl _)]
    simp only [Option.bind_some]
    rw [if_pos (show nm_lt x (nml x) = 0 from if_neg (by omega)), decide_eq_true (show p + nml x ≤ b by omega)]
    rfl
  | succ r ih =>
    intro k hk hpk
    have hkl : k < nml x := by omega
    have hlt : nm_lt x k = nmc x k := if_pos hkl
    have hbb : om_Mo_begins_b2 (nI (nmr x)) (nI p) (nI k) σ = if nI b ≤ nI (p + k) then some (.inr 0) else ox_ix (nI (p + k)) 480 fun j2 => if σ.2 0 j2 = nmc x k then some (.inl (nI (k + 1))) else some (.inr 0) := by
      unfold om_Mo_begins_b2
      rw [nm_let hx (by omega)]
      simp only [Option.bind_some]
      rw [hlt, if_neg (nm_chars x hx k hkl).2, h5, nI_add]
      simp only [ox_let, nI_1]
    by_cases y : p + k < b
    · rw [if_neg (nI_ge y (by omega)), ox_ix_nI (show p + k < 480 by omega) (by omega), htx (p + k) y] at hbb
      rw [show mtc tx p x (r + 1) k = (decide (tx (p + k) = nmc x k) && mtc tx p x r (k + 1)) from rfl]
      by_cases z : tx (p + k) = nmc x k
      · rw [decide_eq_true z, Bool.true_and, ← ih (k + 1) (by omega) (by omega)]
        unfold om_Mo_begins_h2
        refine ox_w_inl ?_
        show om_Mo_begins_b2 (nI (nmr x)) (nI p) (nI k) σ = _
        rw [hbb, if_pos z]
      · rw [decide_eq_false z, Bool.false_and, Bool.and_false]
        unfold om_Mo_begins_h2
        refine ox_w_inr ?_
        show om_Mo_begins_b2 (nI (nmr x)) (nI p) (nI k) σ = _
        rw [hbb, if_neg z]
        rfl
    · rw [if_pos (nI_le (by omega) (by omega))] at hbb
      rw [decide_eq_false (show ¬ p + nml x ≤ b by omega), Bool.false_and]
      unfold om_Mo_begins_h2
      refine ox_w_inr ?_
      show om_Mo_begins_b2 (nI (nmr x)) (nI p) (nI k) σ = _
      rw [hbb]
      rfl
theorem pm_begins (hb : b ≤ 480) {σ : ox_S} (h5 : σ.1 5 = nI b) (htx : ∀ j, j < b → σ.2 0 j = tx j) {p x : Nat} (hx : x < 14) (hp : p ≤ b) : om_Mo_begins (nI (nmr x)) (nI p) σ = some (if (decide (p + nml x ≤ b) && mtc tx p x (nml x) 0) = true then nI (nml x) else 0) := pm_beginL hb h5 htx hx (nml x) 0 (by omega) (by omega)
theorem pm_is (hb : b ≤ 480) {σ : ox_S} (h5 : σ.1 5 = nI b) (htx : ∀ j, j < b → σ.2 0 j = tx j) {s e x : Nat} (hx : x < 14) (hse : s < e) (heb : e ≤ b) (h4 : σ.1 4 = nI e) (h6 : σ.1 6 = nI s) : om_Mo_is (nI (nmr x)) σ = some (b01 (wis tx s e x)) := by
  have hl := nm_lens x hx
  unfold om_Mo_is wis
  rw [h4, h6, if_neg (nI_ge hse (by omega)), pm_begins hb h5 htx hx (by omega), pk_sub (by omega)]
  simp only [Option.bind_some]
  by_cases z : e - s = nml x
  · rw [decide_eq_true z, Bool.true_and, decide_eq_true (show s + nml x ≤ b by omega), Bool.true_and, z]
    cases mtc tx s x (nml x) 0 with
    | true => rw [if_pos rfl, if_pos rfl]; rfl
    | false => rw [if_neg (show ¬ false = true by decide), if_neg (show ¬ (0 : Int32) = nI (nml x) from nI_ne (a := 0) (by omega) (by omega) (by omega))]; rfl
  · rw [decide_eq_false z, Bool.false_and]
    have : ¬ (if (decide (s + nml x ≤ b) && mtc tx s x (nml x) 0) = true then nI (nml x) else 0) = nI (e - s) := by
      split
      · exact nI_ne (fun q => z q.symm) (by omega) (by omega)
      · exact nI_ne (a := 0) (by omega) (by omega) (by omega)
    rw [if_neg this]
    rfl
end NM
