/-! covers -/
theorem en_up : ∀ n, n ≤ 8 → ∀ i, i < n → en n i n = en n (i + 1) (i + 2) := by decide +kernel
theorem en_sx {n i j : Nat} (h : i < j) : en n i j + 1 = en n i (j + 1) := by unfold en; omega
/-- a case holds at an edge -/
def hd1 (f : Nat → Nat) (n : Nat) (R B : Int32) (i j : Nat) : Bool := (!bt R (en n i j) || thb f n i j n) && (!bt B (en n i j) || !thb f n i j n)
theorem pm_bit {x : Int32} {e : Nat} (he : e < 32) (σ : ox_S) : ∃ r, om_Mo_bit x (nI e) σ = some r ∧ (r = 0 ↔ bt x e = false) := ⟨_, rfl, b_ask x e he⟩
theorem pm_icJ {n : Nat} {f : Nat → Nat} {σ : ox_S} (h3 : 3 ≤ n) (h8 : n ≤ 8) (hn : σ.1 1 = nI n) (hf : fok n f) (h : ro 13 n f σ) {k : Nat} (hk : k < 10) {i : Nat} (hi : i < n) : ∀ r j, j + r = n → i < j → ∀ w, ∃ w', om_Mo_inCase_h22 (nI k) (b01 w) (nI (en n i j)) (nI i) (nI j) σ = some (.inl (b01 w', nI (en n i n), nI (i + 1))) ∧ (w' = true ↔ w = true ∧ ∀ q, j ≤ q → q < n → hd1 f n (σ.2 5 k) (σ.2 6 k) i q = true) := by
  intro r
  induction r with
  | zero =>
    intro j hj hij w
    have e : j = n := by omega
    subst e
    refine ⟨w, ?_, fun z => ⟨z, fun q h1 h2 => by omega⟩, fun z => z.1⟩
    unfold om_Mo_inCase_h22
    refine ox_w_inr ?_
    show om_Mo_inCase_b22 (nI k) (b01 w) (nI (en j i j)) (nI i) (nI j) σ = _
    unfold om_Mo_inCase_b22
    rw [hn, if_pos (nI_le (by omega) (by omega))]
    simp only [ox_let, nI_1]
  | succ r ih =>
    intro j hj hij w
    have hj2 : j < n := by omega
    have he := en_28 h8 hj2 hij
    obtain ⟨w', a1, a2⟩ := ih (j + 1) (by omega) (by omega) (w && hd1 f n (σ.2 5 k) (σ.2 6 k) i j)
    refine ⟨w', ?_, ?_⟩
    · rw [← a1]
      unfold om_Mo_inCase_h22
      refine ox_w_inl ?_
      show om_Mo_inCase_b22 (nI k) (b01 w) (nI (en n i j)) (nI i) (nI j) σ = _
      unfold om_Mo_inCase_b22
      rw [hn, if_neg (nI_ge hj2 (by omega)), pm_has h3 h8 hn hf h hi hj2]
      obtain ⟨r5, t1, t2⟩ := pm_bit (x := σ.2 5 k) (e := en n i j) (by omega) σ
      obtain ⟨r6, u1, u2⟩ := pm_bit (x := σ.2 6 k) (e := en n i j) (by omega) σ
      unfold om_Mo_inCase_j63
      simp only [Option.bind_some, ox_let, nI_1, ox_ix_nI hk (show 10 < 2 ^ 31 by omega), t1, u1, en_sx hij, t2, u2]
      unfold hd1
      clear t1 t2 u1 u2 a1 a2 ih
      cases w <;> cases bt (σ.2 5 k) (en n i j) <;> cases bt (σ.2 6 k) (en n i j) <;> cases thb f n i j n <;> rfl
    · rw [a2, Bool.and_eq_true]
      constructor
      · rintro ⟨⟨z1, z2⟩, z3⟩
        refine ⟨z1, fun q h1 h2 => ?_⟩
        rcases Nat.eq_or_lt_of_le h1 with z | z
        · rw [← z]; exact z2
        · exact z3 q z h2
      · rintro ⟨z1, z2⟩
        exact ⟨⟨z1, z2 j (Nat.le_refl _) hj2⟩, fun q h1 h2 => z2 q (by omega) h2⟩
theorem pm_icI {n : Nat} {f : Nat → Nat} {σ : ox_S} (h3 : 3 ≤ n) (h8 : n ≤ 8) (hn : σ.1 1 = nI n) (hf : fok n f) (h : ro 13 n f σ) {k : Nat} (hk : k < 10) : ∀ r i, i + r = n → ∀ w, ∃ w', om_Mo_inCase_h7 (nI k) (b01 w) (nI (en n i (i + 1))) (nI i) σ = some (b01 w') ∧ (w' = true ↔ w = true ∧ ∀ a b, i ≤ a → a < b → b < n → hd1 f n (σ.2 5 k) (σ.2 6 k) a b = true) := by
  intro r
  induction r with
  | zero =>
    intro i hi w
    refine ⟨w, ?_, fun z => ⟨z, fun a b h1 h2 h3 => by omega⟩, fun z => z.1⟩
    unfold om_Mo_inCase_h7
    refine ox_w_inr ?_
    show om_Mo_inCase_b7 (nI k) (b01 w) (nI (en n i (i + 1))) (nI i) σ = _
    unfold om_Mo_inCase_b7
    rw [hn, if_pos (nI_le (by omega) (by omega))]
    cases w <;> rfl
  | succ r ih =>
    intro i hi w
    have hi2 : i < n := by omega
    obtain ⟨w1, a1, a2⟩ := pm_icJ h3 h8 hn hf h hk hi2 (n - (i + 1)) (i + 1) (by omega) (by omega) w
    obtain ⟨w2, b1, b2⟩ := ih (i + 1) (by omega) w1
    refine ⟨w2, ?_, ?_⟩
    · rw [← b1]
      unfold om_Mo_inCase_h7
      refine ox_w_inl ?_
      show om_Mo_inCase_b7 (nI k) (b01 w) (nI (en n i (i + 1))) (nI i) σ = _
      unfold om_Mo_inCase_b7
      rw [hn, if_neg (nI_ge hi2 (by omega))]
      simp only [ox_let, nI_1]
      rw [a1, en_up n h8 i hi2]
    · rw [b2, a2]
      constructor
      · rintro ⟨⟨z1, z2⟩, z3⟩
        refine ⟨z1, fun a b h1 h2 h3 => ?_⟩
        rcases Nat.eq_or_lt_of_le h1 with z | z
        · subst z; exact z2 b (by omega) h3
        · exact z3 a b z h2 h3
      · rintro ⟨z1, z2⟩
        exact ⟨⟨z1, fun q h1 h2 => z2 i q (Nat.le_refl _) (by omega) h2⟩, fun a b h1 h2 h3 => z2 a b (by omega) h2 h3⟩
/-- a row is within a case -/
def hdA (f : Nat → Nat) (n : Nat) (R B : Int32) : Prop := ∀ a b, a < b → b < n → hd1 f n R B a b = true
theorem pm_inCase {n : Nat} {f : Nat → Nat} {σ : ox_S} (h3 : 3 ≤ n) (h8 : n ≤ 8) (hn : σ.1 1 = nI n) (hf : fok n f) (h : ro 13 n f σ) {k : Nat} (hk : k < 10) : ∃ w, om_Mo_inCase (nI k) σ = some (b01 w) ∧ (w = true ↔ hdA f n (σ.2 5 k) (σ.2 6 k)) := by
  obtain ⟨w, a1, a2⟩ := pm_icI h3 h8 hn hf h hk n 0 (by omega) true
  have e0 : en n 0 (0 + 1) = 0 := by unfold en; simp
  rw [e0] at a1
  refine ⟨w, a1, ?_⟩
  rw [a2]
  exact ⟨fun z a b h1 h2 => z.2 a b (by omega) h1 h2, fun z => ⟨rfl, fun a b _ h1 h2 => z a b h1 h2⟩⟩
theorem pc_keepsH {n : Nat} {f : Nat → Nat} (h3 : 3 ≤ n) (h8 : n ≤ 8) (hf : fok n f) {R B : Int32} (σ : ox_S) (hR : ∀ e, n * (n - 1) / 2 ≤ e → bt R e = false) (hB : ∀ e, n * (n - 1) / 2 ≤ e → bt B e = false) : ∃ w, oc_T_keepsTo (tr_es n f n) R B σ = some (b01 w) ∧ (w = true ↔ hdA f n R B) := by
  have key : (∀ i j, i < j → j < n → (bt R (en n i j) = true → bt (tr_es n f n) (en n i j) = true) ∧ (bt B (en n i j) = true → bt (tr_es n f n) (en n i j) = false)) ↔ hdA f n R B := by
    unfold hdA hd1
    constructor
    · intro z a b h1 h2
      have := z a b h1 h2
      rw [es_has h3 h8 hf h1 h2] at this
      revert this
      cases bt R (en n a b) <;> cases bt B (en n a b) <;> cases thb f n a b n <;> simp
    · intro z a b h1 h2
      have := z a b h1 h2
      rw [es_has h3 h8 hf h1 h2]
      revert this
      cases bt R (en n a b) <;> cases bt B (en n a b) <;> cases thb f n a b n <;> simp
  rcases pc_keeps (σ := σ) h8 (S := tr_es n f n) hR hB with ⟨a, b⟩ | ⟨a, b⟩
  · exact ⟨true, b, fun _ => key.mp a, fun _ => rfl⟩
  · exact ⟨false, b, (fun z => by cases z), fun z => absurd (key.mpr z) a⟩
/-- some case holds the row -/
theorem pc_any {n : Nat} {f : Nat → Nat} {c : ox_S} (h3 : 3 ≤ n) (h8 : n ≤ 8) (hf : fok n f) {K : Nat} (hK : K ≤ 10) (h19 : c.1 19 = nI K) (hw : ∀ j, j < K → ∀ e, n * (n - 1) / 2 ≤ e → bt (c.2 17 j) e = false ∧ bt (c.2 18 j) e = false) : ∀ r k, k + r = K → ∃ w, oc_Cases_anyHolds_h2 (tr_es n f n) (nI k) c = some (b01 w) ∧ (w = true ↔ ∃ j, k ≤ j ∧ j < K ∧ hdA f n (c.2 17 j) (c.2 18 j)) := by
  intro r
  induction r with
  | zero =>
    intro k hk
    refine ⟨false, ?_, (fun z => by cases z), fun ⟨j, z1, z2, _⟩ => by omega⟩
    unfold oc_Cases_anyHolds_h2
    refine ox_w_inr ?_
    show oc_Cases_anyHolds_b2 (tr_es n f n) (nI k) c = _
    unfold oc_Cases_anyHolds_b2
    rw [h19, if_pos (nI_le (by omega) (by omega))]
    rfl
  | succ r ih =>
    intro k hk
    have hk2 : k < K := by omega
    obtain ⟨w1, a1, a2⟩ := pc_keepsH h3 h8 hf c (fun e he => (hw k hk2 e he).1) (fun e he => (hw k hk2 e he).2)
    have hb : oc_Cases_anyHolds_b2 (tr_es n f n) (nI k) c = if b01 w1 = 0 then some (.inl (nI (k + 1))) else some (.inr 1) := by
      unfold oc_Cases_anyHolds_b2
      rw [h19, if_neg (nI_ge hk2 (by omega)), ox_ix_nI (show k < 10 by omega) (by omega), ox_ix_nI (show k < 10 by omega) (by omega), a1]
      simp only [Option.bind_some, ox_let, nI_1]
    cases w1 with
    | true =>
      refine ⟨true, ?_, (fun _ => ⟨k, Nat.le_refl _, hk2, a2.mp rfl⟩), fun _ => rfl⟩
      unfold oc_Cases_anyHolds_h2
      refine ox_w_inr ?_
      show oc_Cases_anyHolds_b2 (tr_es n f n) (nI k) c = _
      rw [hb, if_neg (by decide)]
      rfl
    | false =>
      obtain ⟨w, b1, b2⟩ := ih (k + 1) (by omega)
      refine ⟨w, ?_, ?_⟩
      · rw [← b1]
        unfold oc_Cases_anyHolds_h2
        refine ox_w_inl ?_
        show oc_Cases_anyHolds_b2 (tr_es n f n) (nI k) c = _
        rw [hb, if_pos (by decide)]
      · rw [b2]
        constructor
        · rintro ⟨j, z1, z2, z3⟩
          exact ⟨j, by omega, z2, z3⟩
        · rintro ⟨j, z1, z2, z3⟩
          rcases Nat.eq_or_lt_of_le z1 with z | z
          · subst z; exact absurd (a2.mpr z3) (by decide)
          · exact ⟨j, z, z2, z3⟩
noncomputable def anyB (n : Nat) (K : Nat) (R B : Nat → Int32) (x : Nat) : Bool := @decide (∃ j, j < K ∧ hdA (fc x) n (R j) (B j)) (Classical.propDecidable _)
theorem anyB_iff {n K : Nat} {R B : Nat → Int32} {x : Nat} : anyB n K R B x = true ↔ ∃ j, j < K ∧ hdA (fc x) n (R j) (B j) := by
  unfold anyB
  exact @decide_eq_true_iff _ (Classical.propDecidable _)
theorem bool_ext {a b : Bool} {P : Prop} (h1 : a = true ↔ P) (h2 : b = true ↔ P) : a = b := by
  cases a <;> cases b <;> simp_all
theorem pc_cov {n : Nat} {d : Nat → Nat → Nat} {c m : ox_S} (h3 : 3 ≤ n) (h8 : n ≤ 8) (hm : rl_mark n c m) (ht : rl_tours n d c) {K : Nat} (hK : K ≤ 10) (h19 : c.1 19 = nI K) (hw : ∀ j, j < K → c.2 17 j = m.2 5 j ∧ c.2 18 j = m.2 6 j ∧ ∀ e, n * (n - 1) / 2 ≤ e → bt (c.2 17 j) e = false ∧ bt (c.2 18 j) e = false) : ∀ r k, k + r = (tr_can n).length → ∃ w, oc_T_covers_h14 (nI k) c = some (b01 w) ∧ (w = true ↔ ∀ p, k ≤ p → p < (tr_can n).length → al n (fun i j => m.2 2 (8 * i + j)) ((tr_can n).getD p 0) = true → anyB n K (m.2 5) (m.2 6) ((tr_can n).getD p 0) = true) := by
  have hlen := (tr_ok h3 h8).2.1
  have ht2 := ht.2 (by omega)
  intro r
  induction r with
  | zero =>
    intro k hk
    refine ⟨true, ?_, (fun _ p h1 h2 => by omega), fun _ => rfl⟩
    unfold oc_T_covers_h14
    refine ox_w_inr ?_
    show oc_T_covers_b14 (nI k) c = _
    unfold oc_T_covers_b14
    rw [ht2.1, if_pos (nI_le (by omega) (by omega))]
    rfl
  | succ r ih =>
    intro k hk
    have hk2 : k < (tr_can n).length := by omega
    have hal := pc_isAllowed h3 h8 hm ht hk2
    obtain ⟨hf, hc⟩ := can_ok h3 h8 hk2
    obtain ⟨wa, c1, c2⟩ := pc_any (c := c) h3 h8 hf hK h19 (fun j hj => (hw j hj).2.2) K 0 (by omega)
    have hwa : wa = anyB n K (m.2 5) (m.2 6) ((tr_can n).getD k 0) := by
      refine bool_ext c2 ?_
      rw [anyB_iff]
      constructor
      · rintro ⟨j, z1, z2⟩
        obtain ⟨e1, e2, _⟩ := hw j z1
        exact ⟨j, by omega, z1, by rw [e1, e2]; exact z2⟩
      · rintro ⟨j, _, z1, z2⟩
        obtain ⟨e1, e2, _⟩ := hw j z1
        rw [e1, e2] at z2
        exact ⟨j, z1, z2⟩
    subst hwa
    have hb : oc_T_covers_b14 (nI k) c = if al n (fun i j => m.2 2 (8 * i + j)) ((tr_can n).getD k 0) = true ∧ anyB n K (m.2 5) (m.2 6) ((tr_can n).getD k 0) = false then some (.inr 0) else some (.inl (nI (k + 1))) := by
      unfold oc_T_covers_b14
      rw [ht2.1, if_neg (nI_ge hk2 (by omega)), hal]
      simp only [Option.bind_some, ox_let, nI_1]
      cases al n (fun i j => m.2 2 (8 * i + j)) ((tr_can n).getD k 0) with
      | false => rw [if_pos (show b01 false = 0 by decide), if_neg (fun z => by cases z.1)]
      | true =>
        rw [if_neg (show ¬ b01 true = 0 by decide), ox_ix_nI (show k < 2520 by omega) (by omega), (ht2.2 k hk2).1]
        unfold oc_Cases_anyHolds
        rw [show oc_Cases_anyHolds_h2 (tr_es n (fc ((tr_can n).getD k 0)) n) (0 : Int32) c = _ from c1]
        simp only [Option.bind_some]
        cases anyB n K (m.2 5) (m.2 6) ((tr_can n).getD k 0) with
        | false => rw [if_pos (by decide), if_pos ⟨trivial, rfl⟩]
        | true => rw [if_neg (by decide), if_neg (fun z => by cases z.2)]
    by_cases hx : al n (fun i j => m.2 2 (8 * i + j)) ((tr_can n).getD k 0) = true ∧ anyB n K (m.2 5) (m.2 6) ((tr_can n).getD k 0) = false
    · refine ⟨false, ?_, (fun z => by cases z), fun z => ?_⟩
      · unfold oc_T_covers_h14
        refine ox_w_inr ?_
        show oc_T_covers_b14 (nI k) c = _
        rw [hb, if_pos hx]
        rfl
      · have := z k (Nat.le_refl _) hk2 hx.1
        rw [hx.2] at this
        exact this
    · obtain ⟨w, b1, b2⟩ := ih (k + 1) (by omega)
      refine ⟨w, ?_, ?_⟩
      · rw [← b1]
        unfold oc_T_covers_h14
        refine ox_w_inl ?_
        show oc_T_covers_b14 (nI k) c = _
        rw [hb, if_neg hx]
      · rw [b2]
        constructor
        · intro z p h1 h2 ha
          rcases Nat.eq_or_lt_of_le h1 with q | q
          · subst q
            cases hz : anyB n K (m.2 5) (m.2 6) ((tr_can n).getD k 0) with
            | true => rfl
            | false => exact absurd ⟨ha, hz⟩ hx
          · exact z p q h2 ha
        · intro z p h1 h2 ha
          exact z p (by omega) h2 ha
/-- the reference looks through the cases -/
theorem pm_any {n : Nat} {f : Nat → Nat} {σ : ox_S} (h3 : 3 ≤ n) (h8 : n ≤ 8) (hn : σ.1 1 = nI n) (hf : fok n f) (h : ro 13 n f σ) {K : Nat} (hK : K ≤ 10) (hk3 : σ.1 3 = nI K) : ∀ r k, k + r = K → ∀ w, ∃ w', om_Mo_covers_h49 (b01 w) (nI k) σ = (ox_b2 (om_Mo_nextTour σ) fun r s => some (.inl (r, b01 w', s))) ∧ (w' = true ↔ w = true ∨ ∃ j, k ≤ j ∧ j < K ∧ hdA f n (σ.2 5 j) (σ.2 6 j)) := by
  intro r
  induction r with
  | zero =>
    intro k hk w
    refine ⟨w, ?_, (fun z => Or.inl z), fun z => z.elim id (fun ⟨j, z1, z2, _⟩ => by omega)⟩
    unfold om_Mo_covers_h49
    refine ox_w_map ?_
    show om_Mo_covers_b49 (b01 w) (nI k) σ = _
    unfold om_Mo_covers_b49
    rw [hk3, if_pos (nI_le (by omega) (by omega))]
    cases om_Mo_nextTour σ <;> rfl
  | succ r ih =>
    intro k hk w
    have hk2 : k < K := by omega
    obtain ⟨w1, a1, a2⟩ := pm_inCase h3 h8 hn hf h (show k < 10 by omega)
    obtain ⟨w2, b1, b2⟩ := ih (k + 1) (by omega) (w || w1)
    refine ⟨w2, ?_, ?_⟩
    · rw [← b1]
      unfold om_Mo_covers_h49
      refine ox_w_inl ?_
      show om_Mo_covers_b49 (b01 w) (nI k) σ = _
      unfold om_Mo_covers_b49
      rw [hk3, if_neg (nI_ge hk2 (by omega)), a1]
      simp only [Option.bind_some, ox_let, nI_1]
      cases w <;> cases w1 <;> rfl
    · rw [b2, Bool.or_eq_true, a2]
      constructor
      · rintro ((z | z) | ⟨j, z1, z2, z3⟩)
        · exact Or.inl z
        · exact Or.inr ⟨k, Nat.le_refl _, hk2, z⟩
        · exact Or.inr ⟨j, by omega, z2, z3⟩
      · rintro (z | ⟨j, z1, z2, z3⟩)
        · exact Or.inl (Or.inl z)
        · rcases Nat.eq_or_lt_of_le z1 with q | q
          · subst q; exact Or.inl (Or.inr z3)
          · exact Or.inr ⟨j, q, z2, z3⟩
noncomputable def cvg (n K : Nat) (m : ox_S) (s : Bool) (x : Nat) : Bool := s && (!(tr_canon n x && al n (fun i j => m.2 2 (8 * i + j)) x) || anyB n K (m.2 5) (m.2 6) x)
theorem cvg_iff (n K : Nat) (m : ox_S) : ∀ (l : List Nat) (s : Bool), l.foldl (cvg n K m) s = true ↔ s = true ∧ ∀ x ∈ l, tr_canon n x = true → al n (fun i j => m.2 2 (8 * i + j)) x = true → anyB n K (m.2 5) (m.2 6) x = true
  | [], s => by simp
  | y :: l, s => by
    rw [List.foldl_cons, cvg_iff n K m l]
    unfold cvg
    constructor
    · rintro ⟨h1, h2⟩
      rw [Bool.and_eq_true] at h1
      refine ⟨h1.1, fun x hx hc ha => ?_⟩
      rcases List.mem_cons.mp hx with e | e
      · subst e
        have := h1.2
        rw [hc, ha] at this
        simpa using this
      · exact h2 x e hc ha
    · rintro ⟨h1, h2⟩
      refine ⟨?_, fun x hx => h2 x (List.mem_cons_of_mem _ hx)⟩
      have := h2 y List.mem_cons_self
      revert this
      rw [h1]
      cases tr_canon n y <;> cases al n (fun i j => m.2 2 (8 * i + j)) y <;> cases anyB n K (m.2 5) (m.2 6) y <;> simp
theorem pm_cov1 {n K : Nat} {m0 : ox_S} (h3 : 3 ≤ n) (h8 : n ≤ 8) (hn0 : m0.1 1 = nI n) (hK : K ≤ 10) (hk3 : m0.1 3 = nI K) (x : Nat) (σ : ox_S) (s : Bool) (b : Int32) (hf : fok n (fc x)) (hfr : fr [] [13] m0 σ) (h : ro 13 n (fc x) σ) (hb : b = b01 s) (hs : ¬ b = 0) : ∃ b' : Int32, om_Mo_covers_b30 (1 : Int32) b σ = ox_b2 (om_Mo_nextTour σ) (fun r s => some (.inl (r, b', s))) ∧ b' = b01 (cvg n K m0 s x) := by
  have hn : σ.1 1 = nI n := by rw [hfr.1 1 (by decide)]; exact hn0
  have hM : ∀ a b, a < n → b < n → σ.2 2 (8 * a + b) = (fun i j => m0.2 2 (8 * i + j)) a b := fun a b _ _ => by rw [hfr.2 2 (by decide)]
  have hone : ¬ (1 : Int32) = 0 := by decide
  cases s with
  | false => exact absurd hb hs
  | true =>
    unfold om_Mo_covers_b30
    rw [if_neg hone, if_neg hs]
    rcases pm_allowed h3 h8 hn hf h hM with ⟨⟨g1, g2⟩, g3⟩ | ⟨g1, g3⟩
    · have hc : tr_canon n x = true := decide_eq_true g1
      have ha : al n (fun i j => m0.2 2 (8 * i + j)) x = true := al_iff.mpr g2
      obtain ⟨w, a1, a2⟩ := pm_any h3 h8 hn hf h hK (by rw [hfr.1 3 (by decide)]; exact hk3) K 0 (by omega) false
      refine ⟨b01 w, ?_, ?_⟩
      · rw [g3]
        simp only [Option.bind_some]
        rw [if_neg hone]
        exact a1
      · unfold cvg
        rw [hc, ha]
        have : w = anyB n K (m0.2 5) (m0.2 6) x := by
          refine bool_ext a2 ?_
          rw [anyB_iff, hfr.2 5 (by decide), hfr.2 6 (by decide)]
          constructor
          · rintro ⟨j, z1, z2⟩
            exact Or.inr ⟨j, by omega, z1, z2⟩
          · rintro (z | ⟨j, _, z1, z2⟩)
            · cases z
            · exact ⟨j, z1, z2⟩
        rw [this]
        cases anyB n K (m0.2 5) (m0.2 6) x <;> rfl
    · refine ⟨b, ?_, ?_⟩
      · rw [g3]
        simp only [Option.bind_some]
        rw [if_true]
      · rw [hb]
        unfold cvg
        cases hc : tr_canon n x with
        | false => rfl
        | true =>
          cases ha : al n (fun i j => m0.2 2 (8 * i + j)) x with
          | false => rfl
          | true => exact absurd ⟨of_decide_eq_true hc, al_iff.mp ha⟩ g1
theorem os_coversB : ∀ c m : ox_S, Rl c m → ∃ (b : Bool) (m' : ox_S), oc_T_covers c = some (b01 b) ∧ om_Mo_covers m = some (b01 b, m') ∧ Rl c m' := by
  intro c m hR
  obtain ⟨ht, n, d, hl, hd, hp, h4, h5, h6, h7, h8⟩ := id hR
  have hn := rl_n8 hl
  obtain ⟨K, k1, k2, k3, k4, k5⟩ := h8
  rcases hl.1 with hn0 | ⟨hn3, hn8⟩
  · subst hn0
    obtain ⟨m', f1, f2, _⟩ := pm_first hn hl.2.2
    refine ⟨false, m', ?_, ?_, Rl_m f2 (by decide) (by decide) hR⟩
    · unfold oc_T_covers
      rw [hl.2.1, if_pos (show nI 0 = 0 from rfl)]
      rfl
    · unfold om_Mo_covers om_Mo_covers_j12
      rw [hl.2.2, if_pos (by decide), if_pos (by decide), f1]
      simp only [Option.bind_some]
      unfold om_Mo_covers_h30
      refine ox_w_inr ?_
      show om_Mo_covers_b30 (0 : Int32) (0 : Int32) m' = _
      unfold om_Mo_covers_b30
      rw [if_pos rfl]
      rfl
  · obtain ⟨m1, f1, f2, f3⟩ := pm_first hn hl.2.2
    obtain ⟨a1, a2, a3, a4⟩ := tr_ok hn3 hn8
    obtain ⟨b', r, σ', s1, s2, s3, s4⟩ := chain_loop (n := n) (m0 := m) (fun t : Int32 × Int32 × ox_S => om_Mo_covers_b30 t.1 t.2.1 t.2.2) (fun (b : Int32) r s => (r, b, s)) (cvg n K m) (fun s b => b = b01 s) (fun b => b = 0) hn3 hn8 hl.2.2 (fun s b h1 h2 x => by
      cases s with
      | false => rfl
      | true => rw [h1] at h2; exact absurd h2 (by decide)) (fun x σ s b h1 h2 h3 h4 h5 => pm_cov1 hn3 hn8 hl.2.2 k1 k3 x σ s b h1 h2 h3 h4 h5) (tr_rows n) a1 (rows_ok hn3 hn8) _ a4 m1 true 1 f2 (ro_eq f3 (fun k hk => (fc_enc n (fok_8 hn8 fok_0) k hk).symm)) rfl
    have hmod : om_Mo_covers m = some (b', σ') := by
      unfold om_Mo_covers om_Mo_covers_j12
      rw [hl.2.2, if_neg (nI_nle (by omega) (by omega)), if_neg (nI_nle (by omega) (by omega)), f1]
      simp only [Option.bind_some]
      unfold om_Mo_covers_h30
      refine s1.trans ?_
      refine ox_w_inr ?_
      show om_Mo_covers_b30 r b' σ' = _
      unfold om_Mo_covers_b30
      rcases s2 with z | ⟨z1, z2⟩
      · rw [if_pos z, s3]
        cases (tr_rows n).foldl (cvg n K m) true <;> rfl
      · rw [z1, if_neg (by decide), if_pos z2, z2]
        rfl
    obtain ⟨w, c1, c2⟩ := pc_cov hn3 hn8 h5 h6 k1 k2 (fun j hj => ⟨(k5 j hj).1, (k5 j hj).2.1, (k5 j hj).2.2.2⟩) (tr_can n).length 0 (by omega)
    have hw : w = (tr_rows n).foldl (cvg n K m) true := by
      refine bool_ext c2 ?_
      rw [cvg_iff]
      constructor
      · rintro ⟨_, z⟩ p _ hp ha
        have hmem : (tr_can n).getD p 0 ∈ tr_can n := by
          rw [List.getD_eq_getElem?_getD, List.getElem?_eq_getElem hp]
          exact List.getElem_mem hp
        have := List.mem_filter.mp hmem
        exact z _ this.1 this.2 ha
      · intro z
        refine ⟨rfl, fun x hx hc ha => ?_⟩
        have hmem : x ∈ tr_can n := List.mem_filter.mpr ⟨hx, hc⟩
        obtain ⟨p, hp, e⟩ := List.getElem_of_mem hmem
        have e2 : (tr_can n).getD p 0 = x := by
          rw [List.getD_eq_getElem?_getD, List.getElem?_eq_getElem hp]
          exact e
        have := z p (by omega) hp
        rw [e2] at this
        exact this ha
    refine ⟨(tr_rows n).foldl (cvg n K m) true, σ', ?_, by rw [hmod, s3], Rl_m s4 (by decide) (by decide) hR⟩
    unfold oc_T_covers
    rw [hl.2.1, if_neg (show ¬ nI n = 0 from nI_ne (b := 0) (by omega) (by omega) (by omega)), ← hw]
    exact c1
theorem os_covers : ol_s_covers Rl := by
  intro c m hR
  obtain ⟨b, m', h1, h2, h3⟩ := os_coversB c m hR
  exact ⟨b01 b, m', h1, h2, h3⟩
