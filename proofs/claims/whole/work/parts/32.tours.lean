/-! tours: rows of cities in their order; edges and lengths of a row -/
/-- i .. j turned round -/
def rv (f : Nat → Nat) (i j : Nat) : Nat → Nat := fun k => if i ≤ k ∧ k ≤ j then f (i + j - k) else f k
def sw (f : Nat → Nat) (i j : Nat) : Nat → Nat := fun k => if k = i then f j else if k = j then f i else f k
/-- the last place from r down at which the row rises; 0 if there is none -/
def tr_rise (f : Nat → Nat) : Nat → Nat
  | 0 => 0
  | r + 1 => if f (r + 2) < f (r + 1) then tr_rise f r else r + 1
/-- the last place from j down to r+1 whose city is behind that at r -/
def tr_grt (f : Nat → Nat) (r : Nat) : Nat → Nat
  | 0 => 0
  | j + 1 => if j + 1 ≤ r + 1 then j + 1 else if f (j + 1) < f r then tr_grt f r j else j + 1
def tr_nx (n : Nat) (f : Nat → Nat) : Option (Nat → Nat) :=
  if tr_rise f (n - 2) = 0 then none else some (rv (sw f (tr_rise f (n - 2)) (tr_grt f (tr_rise f (n - 2)) (n - 1))) (tr_rise f (n - 2) + 1) (n - 1))
/-- a row as one number, a digit a city -/
def fc (x : Nat) : Nat → Nat := fun k => x / 8 ^ k % 8
def enc (f : Nat → Nat) : Nat → Nat
  | 0 => 0
  | k + 1 => enc f k + f k * 8 ^ k
def tr_next (n : Nat) (x : Nat) : Option Nat := (tr_nx n (fc x)).map (fun f => enc f n)
/-- k rows from this one on -/
def tr_from (n : Nat) : Nat → Nat → List Nat
  | 0, _ => []
  | k + 1, x => x :: (match tr_next n x with
    | none => []
    | some y => tr_from n k y)
def tr_0 (n : Nat) : Nat := enc (fun k => k) n
def tr_rows (n : Nat) : List Nat := tr_from n 5040 (tr_0 n)
def tr_canon (n : Nat) (x : Nat) : Bool := decide (fc x 1 < fc x (n - 1))
def tr_can (n : Nat) : List Nat := (tr_rows n).filter (tr_canon n)
/-- the edge's number, whichever city is first -/
def es2 (n a b : Nat) : Nat := if a < b then en n a b else en n b a
def pv (f : Nat → Nat) (n k : Nat) : Nat := if k = 0 then f (n - 1) else f (k - 1)
def tr_es (n : Nat) (f : Nat → Nat) : Nat → Int32
  | 0 => 0
  | k + 1 => tr_es n f k ||| ((1 : Int32) <<< (nI (es2 n (pv f n k) (f k)) &&& 31))
def tr_ln (d : Nat → Nat → Nat) (n : Nat) (f : Nat → Nat) : Nat → Nat
  | 0 => 0
  | k + 1 => tr_ln d n f k + d (pv f n k) (f k)
def rl_tours (n : Nat) (d : Nat → Nat → Nat) (c : ox_S) : Prop := (n = 0 → c.1 17 = 0) ∧ (n ≠ 0 → c.1 17 = nI (tr_can n).length ∧ ∀ k, k < (tr_can n).length → c.2 14 k = tr_es n (fc ((tr_can n).getD k 0)) n ∧ c.2 15 k = nI (tr_ln d n (fc ((tr_can n).getD k 0)) n))
def rl_all (n : Nat) (d : Nat → Nat → Nat) (c m : ox_S) : Prop := rl_land n c m ∧ rl_dist n d c m ∧ rl_pot n c m ∧ rl_num n c ∧ rl_mark n c m ∧ rl_tours n d c ∧ rl_known n c m ∧ rl_cases n c m
/-- the two systems, side by side -/
def Rl (c m : ox_S) : Prop := rl_text c m ∧ ∃ n d, rl_all n d c m
/-- what of the class's state the relation speaks of -/
theorem Rl_c {S T : List Nat} {c c' m : ox_S} (h : fr S T c c') (hS : ∀ k ∈ [0, 10, 11, 12, 13, 17, 18, 19], k ∉ S) (hT : ∀ k ∈ [0, 6, 7, 8, 9, 10, 14, 15, 16, 17, 18], k ∉ T) (hR : Rl c m) : Rl c' m := by
  have n0 := h.1 0 (hS 0 (by decide))
  have n10 := h.1 10 (hS 10 (by decide))
  have n11 := h.1 11 (hS 11 (by decide))
  have n12 := h.1 12 (hS 12 (by decide))
  have n13 := h.1 13 (hS 13 (by decide))
  have n17 := h.1 17 (hS 17 (by decide))
  have n18 := h.1 18 (hS 18 (by decide))
  have n19 := h.1 19 (hS 19 (by decide))
  have a0 := h.2 0 (hT 0 (by decide))
  have a6 := h.2 6 (hT 6 (by decide))
  have a7 := h.2 7 (hT 7 (by decide))
  have a8 := h.2 8 (hT 8 (by decide))
  have a9 := h.2 9 (hT 9 (by decide))
  have a10 := h.2 10 (hT 10 (by decide))
  have a14 := h.2 14 (hT 14 (by decide))
  have a15 := h.2 15 (hT 15 (by decide))
  have a16 := h.2 16 (hT 16 (by decide))
  have a17 := h.2 17 (hT 17 (by decide))
  have a18 := h.2 18 (hT 18 (by decide))
  unfold Rl rl_text rl_all rl_land rl_dist rl_pot rl_num rl_mark rl_tours rl_known rl_cases
  rw [n0, n10, n11, n12, n13, n17, n18, n19, a0, a6, a7, a8, a9, a10, a14, a15, a16, a17, a18]
  exact hR
/-- and of the reference's -/
theorem Rl_m {S T : List Nat} {c m m' : ox_S} (h : fr S T m m') (hS : ∀ k ∈ [0, 1, 2, 3], k ∉ S) (hT : ∀ k ∈ [0, 1, 2, 3, 4, 5, 6], k ∉ T) (hR : Rl c m) : Rl c m' := by
  have n0 := h.1 0 (hS 0 (by decide))
  have n1 := h.1 1 (hS 1 (by decide))
  have n2 := h.1 2 (hS 2 (by decide))
  have n3 := h.1 3 (hS 3 (by decide))
  have a0 := h.2 0 (hT 0 (by decide))
  have a1 := h.2 1 (hT 1 (by decide))
  have a2 := h.2 2 (hT 2 (by decide))
  have a3 := h.2 3 (hT 3 (by decide))
  have a4 := h.2 4 (hT 4 (by decide))
  have a5 := h.2 5 (hT 5 (by decide))
  have a6 := h.2 6 (hT 6 (by decide))
  unfold Rl rl_text rl_all rl_land rl_dist rl_pot rl_num rl_mark rl_tours rl_known rl_cases
  rw [n0, n1, n2, n3, a0, a1, a2, a3, a4, a5, a6]
  exact hR
theorem Rl_0 : Rl ol_0 ol_0 := by
  refine ⟨⟨0, by omega, rfl, rfl, fun j hj => by omega⟩, 0, fun _ _ => 0, ⟨Or.inl rfl, rfl, rfl⟩, fun i j hi => by omega, fun i hi => by omega, ⟨rfl, fun i j _ hj => by omega⟩, ⟨fun i j _ hj => by omega, fun e _ => ⟨b_0 e, b_0 e⟩⟩, ⟨fun _ => rfl, fun h => absurd rfl h⟩, Or.inl ⟨rfl, rfl⟩, 0, by omega, rfl, rfl, fun _ => rfl, fun j hj => by omega⟩
