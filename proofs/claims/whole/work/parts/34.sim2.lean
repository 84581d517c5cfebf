/-! mark, add -/
theorem es2_comm (n a b : Nat) (h : a ≠ b) : es2 n a b = es2 n b a := by
  unfold es2
  by_cases h1 : a < b
  · rw [if_pos h1, if_neg (by omega)]
  · rw [if_neg h1, if_pos (by omega)]
theorem es2_28 {n a b : Nat} (hn : n ≤ 8) (ha : a < n) (hb : b < n) (h : a ≠ b) : es2 n a b < 28 := by
  unfold es2
  by_cases h1 : a < b
  · rw [if_pos h1]; exact en_28 hn hb h1
  · rw [if_neg h1]; exact en_28 hn ha (by omega)
/-- the edge's number, off the class's table -/
theorem pc_edge {n : Nat} {c : ox_S} (hn : n ≤ 8) (h : rl_num n c) {a b : Nat} (ha : a < n) (hb : b < n) (hab : a ≠ b) : oc_Land_edgeBit (nI a) (nI b) c = some ((1 : Int32) <<< (nI (es2 n a b) &&& 31)) := by
  unfold oc_Land_edgeBit
  rw [p_8', ox_ix_nI (show 8 * a + b < 64 by omega) (by omega)]
  unfold es2
  by_cases h1 : a < b
  · rw [if_pos h1, (h.2 a b h1 hb).2.2.1]
  · rw [if_neg h1, (h.2 b a (by omega) ha).2.2.2]
def mk12 (e : Nat) (x v : Int32) : Int32 := if x = 1 then v ||| ((1 : Int32) <<< (nI e &&& 31)) else v &&& (((1 : Int32) <<< (nI e &&& 31)) ^^^ (-1 : Int32))
def mk13 (e : Nat) (x v : Int32) : Int32 := if x = 2 then v ||| ((1 : Int32) <<< (nI e &&& 31)) else v &&& (((1 : Int32) <<< (nI e &&& 31)) ^^^ (-1 : Int32))
def mkst (e : Nat) (x : Int32) (σ : ox_S) : ox_S := ox_s1 (ox_s1 σ 12 (mk12 e x (σ.1 12))) 13 (mk13 e x (σ.1 13))
theorem pc_mark (e : Nat) (x : Int32) (σ : ox_S) : oc_Land_putMark ((1 : Int32) <<< (nI e &&& 31)) x σ = some (mkst e x σ) := by
  unfold oc_Land_putMark oc_Land_putMark_j23 mkst mk12 mk13
  simp only [ox_let]
  by_cases h1 : x = 1
  · have h2 : ¬ x = 2 := by rw [h1]; decide
    rw [if_pos h1, if_pos h1, if_neg h2, if_neg h2]
    rfl
  · rw [if_neg h1, if_neg h1]
    by_cases h2 : x = 2
    · rw [if_pos h2, if_pos h2]
      rfl
    · rw [if_neg h2, if_neg h2]
      rfl
theorem os_mark : ol_s_mark Rl := by
  intro c m x1 x2 x3 hR
  obtain ⟨ht, n, d, hl, hd, hp, h4, h5, h6, h7, h8⟩ := id hR
  have hn := rl_n8 hl
  unfold oc_T_mark om_Mo_mark
  rcases pc_city hl.2.1 (by omega) x1 with ⟨o1, e1⟩ | ⟨i, hi, rfl, e1⟩
  · rw [e1, (pm_city hl.2.2 (by omega) x1).1 o1]
    exact ⟨0, c, m, rfl, rfl, hR⟩
  rw [e1, (pm_city hl.2.2 (by omega) _).2 i hi rfl]
  rcases pc_city hl.2.1 (by omega) x2 with ⟨o2, e2⟩ | ⟨j, hj, rfl, e2⟩
  · refine ⟨0, c, m, ?_, ?_, hR⟩
    · simp [e2]
    · simp [(pm_city hl.2.2 (by omega) x2).1 o2]
  rw [e2, (pm_city hl.2.2 (by omega) _).2 j hj rfl]
  by_cases hij : i = j
  · subst hij
    exact ⟨0, c, m, by simp, by simp, hR⟩
  have hne : ¬ nI i = nI j := nI_ne hij (by omega) (by omega)
  by_cases g1 : x3 < 0
  · exact ⟨0, c, m, by simp [hne, g1], by simp [hne, g1], hR⟩
  by_cases g2 : x3 ≤ 2
  · have hx : x3 = 0 ∨ x3 = 1 ∨ x3 = 2 := by
      have a1 := Int32.le_iff_toInt_le.mp (Int32.not_lt.mp g1)
      have a2 := Int32.le_iff_toInt_le.mp g2
      have b0 : (0 : Int32).toInt = 0 := by decide
      have b2 : (2 : Int32).toInt = 2 := by decide
      rw [b0] at a1
      rw [b2] at a2
      rcases (by omega : x3.toInt = 0 ∨ x3.toInt = 1 ∨ x3.toInt = 2) with h | h | h
      · exact Or.inl (Int32.toInt_inj.mp (h.trans (by decide)))
      · exact Or.inr (Or.inl (Int32.toInt_inj.mp (h.trans (by decide))))
      · exact Or.inr (Or.inr (Int32.toInt_inj.mp (h.trans (by decide))))
    have he := es2_28 hn hi hj hij
    refine ⟨1, mkst (es2 n i j) x3 c, ox_s2 (ox_s2 m 2 (8 * i + j) x3) 2 (8 * j + i) x3, by simp [hne, g1, g2, pc_edge hn h4 hi hj hij, pc_mark], by simp [hne, g1, g2, p_8, ox_ix_nI (show 8 * i + j < 64 by omega) (by omega), ox_ix_nI (show 8 * j + i < 64 by omega) (by omega), ox_let], ht, n, d, hl, hd, hp, h4, ?_, h6, h7, h8⟩
    refine ⟨fun a b hab hb => ?_, fun e he2 => ?_⟩
    · have hab28 := en_28 hn hb hab
      obtain ⟨q1, q2, q3, q4⟩ := h5.1 a b hab hb
      have key : (en n a b = es2 n i j) ↔ ((8 * a + b = 8 * i + j) ∨ (8 * a + b = 8 * j + i)) := by
        unfold es2
        by_cases h1 : i < j
        · rw [if_pos h1]
          constructor
          · intro e
            obtain ⟨z1, z2⟩ := en_inj hn hb hab hj h1 e
            left; omega
          · intro e
            have : a = i ∧ b = j := by omega
            rw [this.1, this.2]
        · rw [if_neg h1]
          constructor
          · intro e
            obtain ⟨z1, z2⟩ := en_inj hn hb hab hi (by omega) e
            right; omega
          · intro e
            have : a = j ∧ b = i := by omega
            rw [this.1, this.2]
      have key2 : ((8 * b + a = 8 * i + j) ∨ (8 * b + a = 8 * j + i)) ↔ ((8 * a + b = 8 * i + j) ∨ (8 * a + b = 8 * j + i)) := by omega
      have v1 : ∀ p q : Nat, (ox_s2 (ox_s2 m 2 (8 * i + j) x3) 2 (8 * j + i) x3).2 2 (8 * p + q) = if (8 * p + q = 8 * i + j) ∨ (8 * p + q = 8 * j + i) then x3 else m.2 2 (8 * p + q) := by
        intro p q
        rw [s2_at, s2_at]
        by_cases z1 : 8 * p + q = 8 * j + i
        · rw [if_pos ⟨rfl, z1⟩, if_pos (Or.inr z1)]
        · rw [if_neg (fun z => z1 z.2)]
          by_cases z2 : 8 * p + q = 8 * i + j
          · rw [if_pos ⟨rfl, z2⟩, if_pos (Or.inl z2)]
          · rw [if_neg (fun z => z2 z.2), if_neg (fun z => z.elim z2 z1)]
      rw [v1 a b, v1 b a]
      show (_ ∧ _ ∧ (bt (mk12 (es2 n i j) x3 (c.1 12)) (en n a b) = true ↔ _) ∧ (bt (mk13 (es2 n i j) x3 (c.1 13)) (en n a b) = true ↔ _))
      unfold mk12 mk13
      by_cases hk : en n a b = es2 n i j
      · rw [if_pos (key.mp hk), if_pos (key2.mpr (key.mp hk)), hk]
        refine ⟨hx, rfl, ?_, ?_⟩
        · by_cases z : x3 = 1
          · rw [if_pos z, b_set _ _ (by omega) (by omega)]
            simp [z]
          · rw [if_neg z, b_clr _ _ (by omega) (by omega)]
            simp [z]
        · by_cases z : x3 = 2
          · rw [if_pos z, b_set _ _ (by omega) (by omega)]
            simp [z]
          · rw [if_neg z, b_clr _ _ (by omega) (by omega)]
            simp [z]
      · rw [if_neg (fun z => hk (key.mpr z)), if_neg (fun z => hk (key.mpr (key2.mp z)))]
        refine ⟨q1, q2, ?_, ?_⟩
        · rw [← q3]
          by_cases z : x3 = 1
          · rw [if_pos z, b_set _ _ (by omega) (by omega)]
            simp [hk]
          · rw [if_neg z, b_clr _ _ (by omega) (by omega)]
            simp [hk]
        · rw [← q4]
          by_cases z : x3 = 2
          · rw [if_pos z, b_set _ _ (by omega) (by omega)]
            simp [hk]
          · rw [if_neg z, b_clr _ _ (by omega) (by omega)]
            simp [hk]
    · show bt (mk12 (es2 n i j) x3 (c.1 12)) e = false ∧ bt (mk13 (es2 n i j) x3 (c.1 13)) e = false
      unfold mk12 mk13
      obtain ⟨r1, r2⟩ := h5.2 e he2
      rcases Nat.lt_or_ge e 32 with h32 | h32
      · have hne2 : e ≠ es2 n i j := by
          have : es2 n i j < n * (n - 1) / 2 := by
            unfold es2
            by_cases h1 : i < j
            · rw [if_pos h1]; exact en_lt n hn j hj i h1
            · rw [if_neg h1]; exact en_lt n hn i hi j (by omega)
          omega
        refine ⟨?_, ?_⟩
        · by_cases z : x3 = 1
          · rw [if_pos z, b_set _ _ (by omega) h32, r1]
            simp [hne2]
          · rw [if_neg z, b_clr _ _ (by omega) h32, r1]
            simp
        · by_cases z : x3 = 2
          · rw [if_pos z, b_set _ _ (by omega) h32, r2]
            simp [hne2]
          · rw [if_neg z, b_clr _ _ (by omega) h32, r2]
            simp
      · exact ⟨b_big h32, b_big h32⟩
  · exact ⟨0, c, m, by simp [hne, g1, g2], by simp [hne, g1, g2], hR⟩
