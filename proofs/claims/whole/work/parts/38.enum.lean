/-! the enumeration ends, and the tours are few enough -/
def forceN {α : Type} (n : Nat) (k : Nat → α) : α := Nat.rec (motive := fun _ => α) (k 0) (fun m _ => k (m + 1)) n
theorem forceN_eq {α : Type} (n : Nat) (k : Nat → α) : forceN n k = k n := by cases n <;> rfl
def tr_cn (n : Nat) : Nat → Nat → Nat → Bool
  | 0, _, _ => false
  | k + 1, x, c => forceN (c + (if tr_canon n x then 1 else 0)) (fun c' => match tr_nx n (fc x) with
    | none => decide (c' ≤ 2520)
    | some g => forceN (enc g n) (fun y => tr_cn n k y c'))
theorem tr_cn3 : tr_cn 3 5040 (tr_0 3) 0 = true := by decide +kernel
theorem tr_cn4 : tr_cn 4 5040 (tr_0 4) 0 = true := by decide +kernel
theorem tr_cn5 : tr_cn 5 5040 (tr_0 5) 0 = true := by decide +kernel
theorem tr_cn6 : tr_cn 6 5040 (tr_0 6) 0 = true := by decide +kernel
theorem tr_cn7 : tr_cn 7 5040 (tr_0 7) 0 = true := by decide +kernel
set_option maxRecDepth 100000 in
theorem tr_cn8 : tr_cn 8 5040 (tr_0 8) 0 = true := by decide +kernel
/-- rows one behind another, the last without a next -/
def chain (n : Nat) : List Nat → Prop
  | [] => False
  | x :: l => match l with
    | [] => tr_next n x = none
    | y :: _ => tr_next n x = some y ∧ chain n l
theorem tr_cn_ok (n : Nat) : ∀ k x c, tr_cn n k x c = true → chain n (tr_from n k x) ∧ c + ((tr_from n k x).filter (tr_canon n)).length ≤ 2520 ∧ (tr_from n k x).length ≤ k ∧ (tr_from n k x).head? = some x := by
  intro k
  induction k with
  | zero => intro x c h; cases h
  | succ k ih =>
    intro x c h
    unfold tr_cn at h
    rw [forceN_eq] at h
    cases hx : tr_nx n (fc x) with
    | none =>
      rw [hx] at h
      have e : tr_next n x = none := by unfold tr_next; rw [hx]; rfl
      have hl : tr_from n (k + 1) x = [x] := by
        show x :: (match tr_next n x with | none => [] | some y => tr_from n k y) = [x]
        rw [e]
      rw [hl]
      refine ⟨e, ?_, by simp, rfl⟩
      have h2 : c + (if tr_canon n x then 1 else 0) ≤ 2520 := by simpa using h
      by_cases hc : tr_canon n x = true
      · simp [hc] at h2 ⊢; exact h2
      · simp [hc] at h2 ⊢; exact h2
    | some g =>
      rw [hx] at h
      have h1 : tr_cn n k (enc g n) (c + (if tr_canon n x then 1 else 0)) = true := by
        have := h
        simp only [forceN_eq] at this
        exact this
      obtain ⟨a1, a2, a3, a4⟩ := ih _ _ h1
      have e : tr_next n x = some (enc g n) := by unfold tr_next; rw [hx]; rfl
      have hl : tr_from n (k + 1) x = x :: tr_from n k (enc g n) := by
        show x :: (match tr_next n x with | none => [] | some y => tr_from n k y) = _
        rw [e]
      rw [hl]
      cases ht : tr_from n k (enc g n) with
      | nil => rw [ht] at a4; cases a4
      | cons y l =>
        rw [ht] at a1 a2 a3 a4
        have ey : y = enc g n := Option.some.inj a4
        refine ⟨⟨by rw [e, ey], a1⟩, ?_, by simp at a3 ⊢; omega, rfl⟩
        by_cases hc : tr_canon n x = true
        · rw [List.filter_cons_of_pos hc]
          simp [hc] at a2
          simp only [List.length_cons]
          omega
        · rw [List.filter_cons_of_neg hc]
          simp [hc] at a2
          omega
theorem tr_ok {n : Nat} (h3 : 3 ≤ n) (h8 : n ≤ 8) : chain n (tr_rows n) ∧ (tr_can n).length ≤ 2520 ∧ (tr_rows n).length ≤ 5040 ∧ (tr_rows n).head? = some (tr_0 n) := by
  have key : tr_cn n 5040 (tr_0 n) 0 = true := by
    rcases (by omega : n = 3 ∨ n = 4 ∨ n = 5 ∨ n = 6 ∨ n = 7 ∨ n = 8) with rfl | rfl | rfl | rfl | rfl | rfl
    · exact tr_cn3
    · exact tr_cn4
    · exact tr_cn5
    · exact tr_cn6
    · exact tr_cn7
    · exact tr_cn8
  obtain ⟨a1, a2, a3, a4⟩ := tr_cn_ok n _ _ _ key
  exact ⟨a1, by unfold tr_can tr_rows; omega, a3, a4⟩
