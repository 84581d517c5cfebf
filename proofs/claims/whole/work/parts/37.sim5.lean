/-! write: the loops -/
theorem ox_w_map {α β : Type} {f : α → Option (α ⊕ β)} {a : α} {o : Option β} (h : f a = o.map (fun t => .inr t)) : ox_w f a = o := by
  cases o with
  | none => exact ox_w_none h
  | some b => exact ox_w_inr h
/-- how many of the first k bytes are not 0 -/
def wc (x : Int64) : Nat → Nat
  | 0 => 0
  | k + 1 => wc x k + (if wb x k = 0 then 0 else 1)
theorem wc_le (x : Int64) : ∀ k, wc x k ≤ k
  | 0 => Nat.le_refl _
  | k + 1 => by
    have := wc_le x k
    unfold wc
    split <;> omega
theorem wc_mono (x : Int64) {k : Nat} : ∀ j, wc x k ≤ wc x (k + j)
  | 0 => Nat.le_refl _
  | j + 1 => by
    have := wc_mono x (k := k) j
    show wc x k ≤ wc x (k + j) + _
    omega
def wg (b : Nat) : Prop := b = 0 ∨ b = 10 ∨ (32 ≤ b ∧ b ≤ 126)
theorem wb_lt (x : Int64) (k : Nat) : wb x k < 256 := Nat.mod_lt _ (by omega)
theorem pc_byte (x : Int64) (σ : ox_S) {k : Nat} (hk : k < 8) : oc_Text_byteOf x (nI k) σ = some (nI (wb x k)) := by
  unfold oc_Text_byteOf
  rw [wb_c0 x k hk]
/-- the first loops: a byte that is no character, or their number -/
theorem p_count (x : Int64) (c m : ox_S) : ∀ r k, k + r = 8 → ((∃ j, k ≤ j ∧ j < 8 ∧ ¬ wg (wb x j)) ∧ oc_Text_countGood_h4 x (nI (wc x k)) (nI k) c = some (-1) ∧ om_Mo_write_h5 x (nI (wc x k)) (nI k) m = some (0, m)) ∨ ((∀ j, k ≤ j → j < 8 → wg (wb x j)) ∧ oc_Text_countGood_h4 x (nI (wc x k)) (nI k) c = some (nI (wc x 8)) ∧ om_Mo_write_h5 x (nI (wc x k)) (nI k) m = (if (m.1 0) + nI (wc x 8) ≤ (480 : Int32) then om_Mo_write_h90 x (0 : Int32) m else some ((0 : Int32), m))) := by
  intro r
  induction r with
  | zero =>
    intro k hk
    have hk8 : k = 8 := by omega
    subst hk8
    refine Or.inr ⟨fun j h1 h2 => by omega, ?_, ?_⟩
    · unfold oc_Text_countGood_h4
      refine ox_w_inr ?_
      show oc_Text_countGood_b4 x (nI (wc x 8)) (nI 8) c = _
      unfold oc_Text_countGood_b4
      rw [if_pos (by decide)]
    · unfold om_Mo_write_h5
      refine ox_w_map ?_
      show om_Mo_write_b5 x (nI (wc x 8)) (nI 8) m = _
      unfold om_Mo_write_b5
      rw [if_pos (by decide)]
      by_cases h : (m.1 0) + nI (wc x 8) ≤ (480 : Int32)
      · rw [if_pos h, if_pos h]
      · rw [if_neg h, if_neg h]
        rfl
  | succ r ih =>
    intro k hk
    have hk8 : k < 8 := by omega
    have hb := wb_lt x k
    have hle : ¬ (8 : Int32) ≤ nI k := (by decide +kernel : ∀ k, k < 8 → ¬ (8 : Int32) ≤ nI k) k hk8
    have nk : nI k + (1 : Int32) = nI (k + 1) := nI_1 k
    have bad : ¬ wg (wb x k) → (oc_Text_countGood_h4 x (nI (wc x k)) (nI k) c = some (-1) ∧ om_Mo_write_h5 x (nI (wc x k)) (nI k) m = some (0, m)) := by
      intro hg
      unfold wg at hg
      have z0 : ¬ nI (wb x k) = 0 := nI_ne (b := 0) (by omega) (by omega) (by omega)
      have z10 : ¬ nI (wb x k) = (10 : Int32) := nI_ne (b := 10) (by omega) (by omega) (by omega)
      refine ⟨?_, ?_⟩
      · unfold oc_Text_countGood_h4
        refine ox_w_inr ?_
        show oc_Text_countGood_b4 x (nI (wc x k)) (nI k) c = _
        unfold oc_Text_countGood_b4
        rw [if_neg hle, pc_byte x c hk8]
        simp only [Option.bind_some]
        rw [if_neg z10]
        by_cases h32 : wb x k < 32
        · rw [if_pos (show nI (wb x k) < (32 : Int32) from nI_lt (b := 32) h32 (by omega)), if_neg z0]
        · rw [if_neg (show ¬ nI (wb x k) < (32 : Int32) from nI_nlt (b := 32) (by omega) (by omega)), if_pos (show (126 : Int32) < nI (wb x k) from nI_lt (a := 126) (by omega) (by omega)), if_neg z0]
      · unfold om_Mo_write_h5
        refine ox_w_inr ?_
        show om_Mo_write_b5 x (nI (wc x k)) (nI k) m = _
        unfold om_Mo_write_b5
        rw [if_neg hle, wb_m0 x k hk8]
        simp only [ox_let]
        rw [if_neg z0, if_neg z10]
        by_cases h32 : wb x k < 32
        · rw [if_pos (show nI (wb x k) < (32 : Int32) from nI_lt (b := 32) h32 (by omega))]
        · rw [if_neg (show ¬ nI (wb x k) < (32 : Int32) from nI_nlt (b := 32) (by omega) (by omega)), if_neg (show ¬ nI (wb x k) ≤ (126 : Int32) from nI_ge (a := 126) (by omega) (by omega))]
    have good : wg (wb x k) → (oc_Text_countGood_h4 x (nI (wc x k)) (nI k) c = oc_Text_countGood_h4 x (nI (wc x (k + 1))) (nI (k + 1)) c ∧ om_Mo_write_h5 x (nI (wc x k)) (nI k) m = om_Mo_write_h5 x (nI (wc x (k + 1))) (nI (k + 1)) m) := by
      intro hg
      have w0 : wb x k = 0 → wc x (k + 1) = wc x k := fun h => by show wc x k + _ = _; rw [if_pos h]; rfl
      have w1 : wb x k ≠ 0 → wc x (k + 1) = wc x k + 1 := fun h => by show wc x k + _ = _; rw [if_neg h]
      refine ⟨?_, ?_⟩
      · unfold oc_Text_countGood_h4
        refine ox_w_inl ?_
        show oc_Text_countGood_b4 x (nI (wc x k)) (nI k) c = _
        unfold oc_Text_countGood_b4
        rw [if_neg hle, pc_byte x c hk8]
        simp only [Option.bind_some, ox_let, nk, nI_1]
        rcases hg with h | h | ⟨h, h'⟩
        · rw [w0 h, h, if_neg (by decide), if_pos (by decide), if_pos (by decide)]
        · rw [w1 (by omega), h, if_pos (by decide)]
        · rw [w1 (by omega), if_neg (show ¬ nI (wb x k) = (10 : Int32) from nI_ne (b := 10) (by omega) (by omega) (by omega)), if_neg (show ¬ nI (wb x k) < (32 : Int32) from nI_nlt (b := 32) (by omega) (by omega)), if_neg (show ¬ (126 : Int32) < nI (wb x k) from nI_nlt (a := 126) (b := wb x k) (by omega) (by omega))]
      · unfold om_Mo_write_h5
        refine ox_w_inl ?_
        show om_Mo_write_b5 x (nI (wc x k)) (nI k) m = _
        unfold om_Mo_write_b5 om_Mo_write_j54
        rw [if_neg hle, wb_m0 x k hk8]
        simp only [ox_let, nk, nI_1]
        rcases hg with h | h | ⟨h, h'⟩
        · rw [w0 h, h, if_pos (by decide), if_pos (by decide), show (0 : Int32) = nI 0 from rfl, nI_add]
          rfl
        · rw [w1 (by omega), h, if_neg (by decide), if_pos (by decide), if_neg (by decide)]
        · have z0 : ¬ nI (wb x k) = 0 := nI_ne (b := 0) (by omega) (by omega) (by omega)
          rw [w1 (by omega), if_neg z0, if_neg (show ¬ nI (wb x k) = (10 : Int32) from nI_ne (b := 10) (by omega) (by omega) (by omega)), if_neg (show ¬ nI (wb x k) < (32 : Int32) from nI_nlt (b := 32) (by omega) (by omega)), if_pos (show nI (wb x k) ≤ (126 : Int32) from nI_le (b := 126) (by omega) (by omega)), if_neg z0]
    by_cases hg : wg (wb x k)
    · obtain ⟨e1, e2⟩ := good hg
      rw [e1, e2]
      rcases ih (k + 1) (by omega) with ⟨⟨j, j1, j2, j3⟩, h2, h3⟩ | ⟨h1, h2, h3⟩
      · exact Or.inl ⟨⟨j, by omega, j2, j3⟩, h2, h3⟩
      · refine Or.inr ⟨fun j j1 j2 => ?_, h2, h3⟩
        rcases Nat.eq_or_lt_of_le j1 with e | e
        · rw [← e]; exact hg
        · exact h1 j e j2
    · obtain ⟨e1, e2⟩ := bad hg
      exact Or.inl ⟨⟨k, Nat.le_refl _, hk8, hg⟩, e1, e2⟩
theorem nar_c : ∀ w, w < 256 → vp_nar .char (((nI w).toUInt32 % 65536).toInt32) = nI w := by decide +kernel
/-- the second loops -/
theorem p_app (x : Int64) (c0 m0 : ox_S) (N : Nat) (hN : N + wc x 8 ≤ 480) (hg : ∀ j, j < 8 → wg (wb x j)) : ∀ r k, k + r = 8 → ∀ c m : ox_S, fr [0] [0] c0 c → fr [0] [0] m0 m → c.1 0 = nI (N + wc x k) → m.1 0 = nI (N + wc x k) → (∀ j, j < N + wc x k → c.2 0 j = m.2 0 j ∧ (10 : Int32) ≤ c.2 0 j ∧ c.2 0 j ≤ 126) → ∃ c' m', oc_Text_append_h26 x (nI k) c = some (1, c') ∧ om_Mo_write_h90 x (nI k) m = some (1, m') ∧ fr [0] [0] c0 c' ∧ fr [0] [0] m0 m' ∧ c'.1 0 = nI (N + wc x 8) ∧ m'.1 0 = nI (N + wc x 8) ∧ ∀ j, j < N + wc x 8 → c'.2 0 j = m'.2 0 j ∧ (10 : Int32) ≤ c'.2 0 j ∧ c'.2 0 j ≤ 126 := by
  intro r
  induction r with
  | zero =>
    intro k hk c m f1 f2 e1 e2 h
    have hk8 : k = 8 := by omega
    subst hk8
    refine ⟨c, m, ?_, ?_, f1, f2, e1, e2, h⟩
    · unfold oc_Text_append_h26
      refine ox_w_inr ?_
      show oc_Text_append_b26 x (nI 8) c = _
      unfold oc_Text_append_b26
      rw [if_pos (by decide)]
    · unfold om_Mo_write_h90
      refine ox_w_inr ?_
      show om_Mo_write_b90 x (nI 8) m = _
      unfold om_Mo_write_b90
      rw [if_pos (by decide)]
  | succ r ih =>
    intro k hk c m f1 f2 e1 e2 h
    have hk8 : k < 8 := by omega
    have hb := wb_lt x k
    have hle : ¬ (8 : Int32) ≤ nI k := (by decide +kernel : ∀ k, k < 8 → ¬ (8 : Int32) ≤ nI k) k hk8
    by_cases hz : wb x k = 0
    · have w0 : wc x (k + 1) = wc x k := by show wc x k + _ = _; rw [if_pos hz]; rfl
      obtain ⟨c', m', a1, a2, a3⟩ := ih (k + 1) (by omega) c m f1 f2 (by rw [w0]; exact e1) (by rw [w0]; exact e2) (by rw [w0]; exact h)
      refine ⟨c', m', ?_, ?_, a3⟩
      · rw [← a1]
        unfold oc_Text_append_h26
        refine ox_w_inl ?_
        show oc_Text_append_b26 x (nI k) c = _
        unfold oc_Text_append_b26
        rw [if_neg hle, pc_byte x c hk8]
        simp only [Option.bind_some, ox_let]
        rw [hz, if_pos (by decide), nI_1]
      · rw [← a2]
        unfold om_Mo_write_h90
        refine ox_w_inl ?_
        show om_Mo_write_b90 x (nI k) m = _
        unfold om_Mo_write_b90
        rw [if_neg hle, wb_m0 x k hk8]
        simp only [ox_let]
        rw [hz, if_pos (by decide), nI_1]
    · have w1 : wc x (k + 1) = wc x k + 1 := by show wc x k + _ = _; rw [if_neg hz]
      have hm := wc_mono x (k := k + 1) r
      rw [show k + 1 + r = 8 by omega] at hm
      have hlt : N + wc x k < 480 := by omega
      have z0 : ¬ nI (wb x k) = 0 := nI_ne (b := 0) (by omega) (by omega) (by omega)
      have hgk := hg k hk8
      have n1 : nI (N + wc x k) + (1 : Int32) = nI (N + wc x (k + 1)) := by rw [nI_1, w1]; rfl
      obtain ⟨c', m', a1, a2, a3⟩ := ih (k + 1) (by omega) (ox_s1 (ox_s2 c 0 (N + wc x k) (nI (wb x k))) 0 (nI (N + wc x (k + 1)))) (ox_s1 (ox_s2 m 0 (N + wc x k) (nI (wb x k))) 0 (nI (N + wc x (k + 1)))) (fr_tr f1 (fr_tr (fr_s2 (by decide)) (fr_s1 (by decide)))) (fr_tr f2 (fr_tr (fr_s2 (by decide)) (fr_s1 (by decide)))) rfl rfl (fun j hj => by
        show (ox_s2 c 0 (N + wc x k) (nI (wb x k))).2 0 j = (ox_s2 m 0 (N + wc x k) (nI (wb x k))).2 0 j ∧ (10 : Int32) ≤ (ox_s2 c 0 (N + wc x k) (nI (wb x k))).2 0 j ∧ (ox_s2 c 0 (N + wc x k) (nI (wb x k))).2 0 j ≤ 126
        rw [s2_at, s2_at]
        by_cases e : j = N + wc x k
        · rw [if_pos ⟨rfl, e⟩, if_pos ⟨rfl, e⟩]
          unfold wg at hgk
          exact ⟨rfl, nI_le (a := 10) (by omega) (by omega), nI_le (b := 126) (by omega) (by omega)⟩
        · rw [if_neg (fun z => e z.2), if_neg (fun z => e z.2)]
          exact h j (by omega))
      refine ⟨c', m', ?_, ?_, a3⟩
      · rw [← a1]
        unfold oc_Text_append_h26
        refine ox_w_inl ?_
        show oc_Text_append_b26 x (nI k) c = _
        unfold oc_Text_append_b26
        rw [if_neg hle, pc_byte x c hk8]
        simp only [Option.bind_some, ox_let]
        rw [if_neg z0, e1, ox_ix_nI hlt (by omega), nar_c _ hb, s2_1, e1, n1, nI_1]
      · rw [← a2]
        unfold om_Mo_write_h90
        refine ox_w_inl ?_
        show om_Mo_write_b90 x (nI k) m = _
        unfold om_Mo_write_b90
        rw [if_neg hle, wb_m0 x k hk8]
        simp only [ox_let]
        rw [if_neg z0, e2, ox_ix_nI hlt (by omega), nar_c _ hb, s2_1, e2, n1, nI_1]
theorem os_write : ol_s_write Rl := by
  intro c m x hR
  obtain ⟨⟨N, hN, t1, t2, t3⟩, n, d, hall⟩ := id hR
  unfold oc_T_write oc_Text_append om_Mo_write oc_Text_countGood
  have w0 : wc x 0 = 0 := rfl
  rcases p_count x c m 8 0 rfl with ⟨_, h1, h2⟩ | ⟨hg, h1, h2⟩
  · refine ⟨0, c, m, ?_, h2, hR⟩
    rw [show oc_Text_countGood_h4 x (0 : Int32) (0 : Int32) c = some (-1) from h1]
    rfl
  · rw [show oc_Text_countGood_h4 x (0 : Int32) (0 : Int32) c = some (nI (wc x 8)) from h1, show om_Mo_write_h5 x (0 : Int32) (0 : Int32) m = _ from h2]
    have hw := wc_le x 8
    simp only [Option.bind_some]
    rw [if_neg (nI_pos (by omega)), t1, t2, nI_add]
    by_cases hs : N + wc x 8 ≤ 480
    · rw [if_pos (show nI (N + wc x 8) ≤ (480 : Int32) from nI_le (b := 480) hs (by omega)), if_pos (show nI (N + wc x 8) ≤ (480 : Int32) from nI_le (b := 480) hs (by omega))]
      obtain ⟨c', m', a1, a2, a3, a4, a5, a6, a7⟩ := p_app x c m N hs (fun j hj => hg j (by omega) hj) 8 0 rfl c m fr_rf fr_rf t1 t2 t3
      refine ⟨1, c', m', ?_, a2, ?_⟩
      · rw [show oc_Text_append_h26 x (0 : Int32) c = some (1, c') from a1]
        rfl
      · have hR2 : Rl c m := hR
        refine ⟨⟨N + wc x 8, hs, a5, a6, a7⟩, n, d, ?_⟩
        have n10 := a3.1 10 (by decide)
        have n11 := a3.1 11 (by decide)
        have n12 := a3.1 12 (by decide)
        have n13 := a3.1 13 (by decide)
        have n17 := a3.1 17 (by decide)
        have n18 := a3.1 18 (by decide)
        have n19 := a3.1 19 (by decide)
        have q6 := a3.2 6 (by decide)
        have q7 := a3.2 7 (by decide)
        have q8 := a3.2 8 (by decide)
        have q9 := a3.2 9 (by decide)
        have q10 := a3.2 10 (by decide)
        have q14 := a3.2 14 (by decide)
        have q15 := a3.2 15 (by decide)
        have q16 := a3.2 16 (by decide)
        have q17 := a3.2 17 (by decide)
        have q18 := a3.2 18 (by decide)
        have m1 := a4.1 1 (by decide)
        have m2 := a4.1 2 (by decide)
        have m3 := a4.1 3 (by decide)
        have b1 := a4.2 1 (by decide)
        have b2 := a4.2 2 (by decide)
        have b3 := a4.2 3 (by decide)
        have b4 := a4.2 4 (by decide)
        have b5 := a4.2 5 (by decide)
        have b6 := a4.2 6 (by decide)
        unfold rl_all rl_land rl_dist rl_pot rl_num rl_mark rl_tours rl_known rl_cases
        rw [n10, n11, n12, n13, n17, n18, n19, q6, q7, q8, q9, q10, q14, q15, q16, q17, q18, m1, m2, m3, b1, b2, b3, b4, b5, b6]
        exact hall
    · refine ⟨0, c, m, ?_, ?_, hR⟩
      · rw [if_neg (show ¬ nI (N + wc x 8) ≤ (480 : Int32) from nI_ge (a := 480) (by omega) (by omega))]
        rfl
      · rw [if_neg (show ¬ nI (N + wc x 8) ≤ (480 : Int32) from nI_ge (a := 480) (by omega) (by omega))]
