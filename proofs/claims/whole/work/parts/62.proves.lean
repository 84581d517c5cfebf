/-! proves; a bound is never the answer for none -/
theorem z_add {a b : Int32} (h1 : -2147483648 ≤ a.toInt + b.toInt) (h2 : a.toInt + b.toInt < 2147483648) : (a + b).toInt = a.toInt + b.toInt := by
  rw [Int32.toInt_add, Int.bmod_eq_of_le (by omega) (by omega)]
theorem z_sub {a b : Int32} (h1 : -2147483648 ≤ a.toInt - b.toInt) (h2 : a.toInt - b.toInt < 2147483648) : (a - b).toInt = a.toInt - b.toInt := by
  rw [Int32.toInt_sub, Int.bmod_eq_of_le (by omega) (by omega)]
def wsZ (w : Nat → Int) (T : Nat → Bool) : Nat → Int
  | 0 => 0
  | m + 1 => wsZ w T m + (if T m then w m else 0)
def psZ (p : Nat → Int) : Nat → Int
  | 0 => 0
  | k + 1 => psZ p k + p k
theorem psZ_same {f g : Nat → Int} : ∀ M, (∀ i, i < M → f i = g i) → psZ f M = psZ g M
  | 0, _ => rfl
  | k + 1, h => by
    show psZ f k + f k = psZ g k + g k
    rw [psZ_same k (fun i hi => h i (by omega)), h k (by omega)]
theorem psZ_mono {f g : Nat → Int} : ∀ M, (∀ i, i < M → f i ≤ g i) → psZ f M ≤ psZ g M
  | 0, _ => Int.le_refl _
  | k + 1, h => by
    have h1 := psZ_mono k (fun i hi => h i (by omega))
    have h2 := h k (by omega)
    show psZ f k + f k ≤ psZ g k + g k
    omega
theorem psZ_add {f g : Nat → Int} : ∀ M, psZ (fun i => f i + g i) M = psZ f M + psZ g M
  | 0 => rfl
  | k + 1 => by
    have h1 := psZ_add (f := f) (g := g) k
    show psZ (fun i => f i + g i) k + (f k + g k) = psZ f k + f k + (psZ g k + g k)
    omega
theorem psZ_ind {q : Nat → Int} {a b : Nat} (hab : a ≠ b) : ∀ M, psZ (fun i => if a = i ∨ b = i then q i else 0) M = (if a < M then q a else 0) + (if b < M then q b else 0)
  | 0 => by simp [psZ]
  | k + 1 => by
    have ih := psZ_ind (q := q) hab k
    show psZ (fun i => if a = i ∨ b = i then q i else 0) k + (if a = k ∨ b = k then q k else 0) = _
    rw [ih]
    by_cases h1 : a = k
    · subst h1
      rw [if_pos (Or.inl rfl), if_neg (show ¬ a < a by omega), if_pos (show a < a + 1 by omega)]
      by_cases h2 : b < a
      · rw [if_pos h2, if_pos (show b < a + 1 by omega)]; omega
      · rw [if_neg h2, if_neg (show ¬ b < a + 1 by omega)]; omega
    · by_cases h2 : b = k
      · subst h2
        rw [if_pos (Or.inr rfl), if_neg (show ¬ b < b by omega), if_pos (show b < b + 1 by omega)]
        by_cases h3 : a < b
        · rw [if_pos h3, if_pos (show a < b + 1 by omega)]; omega
        · rw [if_neg h3, if_neg (show ¬ a < b + 1 by omega)]; omega
      · rw [if_neg (show ¬ (a = k ∨ b = k) from fun z => Or.elim z h1 h2)]
        have e1 : (a < k + 1) = (a < k) := propext ⟨fun _ => by omega, fun _ => by omega⟩
        have e2 : (b < k + 1) = (b < k) := propext ⟨fun _ => by omega, fun _ => by omega⟩
        simp only [e1, e2]
        omega
section PV
variable {n : Nat} {T : Nat → Bool}
theorem wsZ_dg (hT : ∀ k, T k = true → ed n k) (q : Nat → Int) : ∀ M, wsZ (fun k => q (k / 8) + q (k % 8)) T M = psZ (fun i => (cn_k (fun k => T k && (k / 8 == i || k % 8 == i)) M : Int) * q i) n
  | 0 => by
    show (0 : Int) = _
    have : ∀ M, psZ (fun i => (cn_k (fun k => T k && (k / 8 == i || k % 8 == i)) 0 : Int) * q i) M = 0 := fun M => by
      induction M with
      | zero => rfl
      | succ m ih =>
        show psZ _ m + ((0 : Nat) : Int) * q m = 0
        rw [ih]
        simp
    rw [this]
  | M + 1 => by
    have ih := wsZ_dg hT q M
    show wsZ (fun k => q (k / 8) + q (k % 8)) T M + (if T M then q (M / 8) + q (M % 8) else 0) = _
    cases h : T M with
    | false =>
      rw [ih]
      refine (Int.add_zero _).trans (psZ_same n (fun i _ => ?_))
      show _ = ((cn_k (fun k => T k && (k / 8 == i || k % 8 == i)) M + (if T M && (M / 8 == i || M % 8 == i) then 1 else 0) : Nat) : Int) * q i
      rw [h]
      simp
    | true =>
      have he := hT M h
      unfold ed at he
      have hind := psZ_ind (q := q) (a := M / 8) (b := M % 8) (by omega) n
      rw [if_pos (by omega), if_pos (by omega)] at hind
      rw [ih, if_pos rfl, ← hind, ← psZ_add]
      refine psZ_same n (fun i _ => ?_)
      show _ = ((cn_k (fun k => T k && (k / 8 == i || k % 8 == i)) M + (if T M && (M / 8 == i || M % 8 == i) then 1 else 0) : Nat) : Int) * q i
      rw [h]
      by_cases z : M / 8 = i ∨ M % 8 = i
      · have : (true && (M / 8 == i || M % 8 == i)) = true := by
          rcases z with z | z <;> simp [z]
        rw [if_pos z, this, if_pos rfl]
        rw [Int.natCast_add, Int.add_mul]
        simp
      · have : (true && (M / 8 == i || M % 8 == i)) = false := by
          have z1 : ¬ M / 8 = i := fun y => z (Or.inl y)
          have z2 : ¬ M % 8 = i := fun y => z (Or.inr y)
          simp [z1, z2]
        rw [if_neg z, this]
        simp
theorem dg_pos (h3 : 3 ≤ n) (h8 : n ≤ 8) (hT : ∀ k, T k = true → ed n k) (hz : zc T = 2) (hj : jn n (fun k => T k = true)) {i : Nat} (hi : i < n) : 1 ≤ dg T i := by
  by_cases h0 : i = 0
  · subst h0
    rw [dg_zc hT, hz]
    omega
  · refine Classical.byContradiction fun hn => ?_
    have hno : ∀ k, T k = true → ¬ (k / 8 = i ∨ k % 8 = i) := fun k hk hc => hn (cn_k_pos 64 k (ed_64 h8 (hT k hk)) (by
      rw [hk]
      rcases hc with z | z <;> simp [z]))
    have hu : ∃ u, 1 ≤ u ∧ u < n ∧ u ≠ i := by
      by_cases e : i = 1
      · exact ⟨2, by omega, by omega, by omega⟩
      · exact ⟨1, by omega, by omega, by omega⟩
    obtain ⟨u, u1, u2, u3⟩ := hu
    have := hj i u (by omega) hi u1 u2 (fun x => if x = i then 1 else 0) (fun a b ⟨k, k1, k2, k4, k5⟩ => by
      have hk := hno k k2
      have ha : a ≠ i := fun z => hk (Or.inl (by omega))
      have hb : b ≠ i := fun z => hk (Or.inr (by omega))
      show (if a = i then 1 else 0) = (if b = i then 1 else 0)
      rw [if_neg ha, if_neg hb])
    change (if i = i then 1 else 0) = (if u = i then 1 else 0) at this
    rw [if_pos rfl, if_neg u3] at this
    omega
theorem cn_zt (hT : ∀ k, T k = true → ed n k) : cn_k T 64 = zc T + tc T := by
  have key : ∀ M, cn_k T (8 + M) = zc T + cn_k (fun k => decide (8 ≤ k) && T k) (8 + M) := by
    intro M
    induction M with
    | zero =>
      have : cn_k (fun k => decide (8 ≤ k) && T k) 8 = 0 := cn_k_no 8 (fun v hv => by rw [decide_eq_false (by omega)]; rfl)
      show cn_k T 8 = zc T + cn_k (fun k => decide (8 ≤ k) && T k) 8
      rw [this]
      rfl
    | succ M ih =>
      rw [show 8 + (M + 1) = (8 + M) + 1 by omega]
      simp only [cn_k]
      have hd : (decide (8 ≤ 8 + M) && T (8 + M)) = T (8 + M) := by simp
      simp only [ih, hd]
      omega
  exact key 56
end PV
