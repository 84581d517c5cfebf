/-! ox_: a system's state as numbers and arrays; a method's machine walk as a judgement ox_X over that state; loops as partial functions -/
/-- numbers by their place, arrays by their place and index -/
abbrev ox_S : Type := (Nat → Int32) × (Nat → Nat → Int32)
def ox_s1 (σ : ox_S) (k : Nat) (v : Int32) : ox_S := (fun j => if j = k then v else σ.1 j, σ.2)
def ox_s2 (σ : ox_S) (a i : Nat) (v : Int32) : ox_S := (σ.1, fun b => if b = a then upd (σ.2 b) i v else σ.2 b)
def ox_sA (σ : ox_S) (a : Nat) (f : Nat → Int32) : ox_S := (σ.1, fun b => if b = a then f else σ.2 b)
/-- a loop, with fuel -/
def ox_wO {α β : Type} (f : α → Option (α ⊕ β)) : Nat → α → Option β
  | 0, _ => none
  | n + 1, a => match f a with
    | none => none
    | some (.inl a') => ox_wO f n a'
    | some (.inr b) => some b
theorem ox_wO_up {α β : Type} (f : α → Option (α ⊕ β)) : ∀ (n m : Nat) (a : α) (b : β), n ≤ m → ox_wO f n a = some b → ox_wO f m a = some b := by
  intro n
  induction n with
  | zero => intro m a b _ h; simp [ox_wO] at h
  | succ n ih =>
    intro m a b hm h
    obtain ⟨m', rfl⟩ : ∃ m', m = m' + 1 := ⟨m - 1, by omega⟩
    simp only [ox_wO] at h ⊢
    cases hf : f a with
    | none => rw [hf] at h; simp at h
    | some t =>
      rw [hf] at h
      cases t with
      | inl a' => exact ih m' a' b (by omega) h
      | inr c => exact h
theorem ox_wO_one {α β : Type} (f : α → Option (α ⊕ β)) {n m : Nat} {a : α} {b c : β} (h1 : ox_wO f n a = some b) (h2 : ox_wO f m a = some c) : b = c := by
  have e1 := ox_wO_up f n (n + m) a b (by omega) h1
  have e2 := ox_wO_up f m (n + m) a c (by omega) h2
  rw [e1] at e2
  exact Option.some.inj e2
/-- a loop without fuel: what it comes to, if it ends -/
noncomputable def ox_w {α β : Type} (f : α → Option (α ⊕ β)) (a : α) : Option β := @dite _ (∃ b n, ox_wO f n a = some b) (Classical.propDecidable _) (fun h => some (Classical.choose h)) (fun _ => none)
theorem ox_w_iff {α β : Type} {f : α → Option (α ⊕ β)} {a : α} {b : β} : ox_w f a = some b ↔ ∃ n, ox_wO f n a = some b := by
  unfold ox_w
  constructor
  · intro h
    by_cases hx : ∃ b n, ox_wO f n a = some b
    · rw [dif_pos hx] at h
      obtain ⟨n, hn⟩ := Classical.choose_spec hx
      exact ⟨n, by rw [hn]; exact h⟩
    · rw [dif_neg hx] at h
      cases h
  · rintro ⟨n, hn⟩
    have hx : ∃ b n, ox_wO f n a = some b := ⟨b, n, hn⟩
    rw [dif_pos hx]
    obtain ⟨m, hm⟩ := Classical.choose_spec hx
    rw [ox_wO_one f hm hn]
theorem ox_w_inr {α β : Type} {f : α → Option (α ⊕ β)} {a : α} {b : β} (h : f a = some (.inr b)) : ox_w f a = some b := ox_w_iff.mpr ⟨1, by simp [ox_wO, h]⟩
theorem ox_w_inl {α β : Type} {f : α → Option (α ⊕ β)} {a a' : α} (h : f a = some (.inl a')) : ox_w f a = ox_w f a' := by
  apply Option.ext
  intro b
  constructor
  · intro hb
    obtain ⟨n, hn⟩ := ox_w_iff.mp hb
    cases n with
    | zero => simp [ox_wO] at hn
    | succ n =>
      simp only [ox_wO, h] at hn
      exact ox_w_iff.mpr ⟨n, hn⟩
  · intro hb
    obtain ⟨n, hn⟩ := ox_w_iff.mp hb
    exact ox_w_iff.mpr ⟨n + 1, by simp only [ox_wO, h]; exact hn⟩
theorem ox_w_none {α β : Type} {f : α → Option (α ⊕ β)} {a : α} (h : f a = none) : ox_w f a = none := by
  apply Option.ext
  intro b
  constructor
  · intro hb
    obtain ⟨n, hn⟩ := ox_w_iff.mp hb
    cases n with
    | zero => simp [ox_wO] at hn
    | succ n => simp [ox_wO, h] at hn
  · intro hb; cases hb
/-- where the loop's end is good, its start is -/
def ox_G {α β : Type} (P : α → Prop) (G : β → Prop) : α ⊕ β → Prop
  | .inl a => P a
  | .inr b => G b
theorem ox_w_run {α β : Type} {f : α → Option (α ⊕ β)} (P : α → Prop) (G : β → Prop) (hb : ∀ a t, f a = some t → ox_G P G t → P a) : ∀ a b, ox_w f a = some b → G b → P a := by
  intro a b h hG
  obtain ⟨n, hn⟩ := ox_w_iff.mp h
  clear h
  induction n generalizing a with
  | zero => simp [ox_wO] at hn
  | succ n ih =>
    simp only [ox_wO] at hn
    cases hf : f a with
    | none => rw [hf] at hn; simp at hn
    | some t =>
      rw [hf] at hn
      cases t with
      | inl a' => exact hb a (.inl a') hf (ih a' hn)
      | inr c =>
        have e : c = b := Option.some.inj hn
        subst e
        exact hb a (.inr c) hf hG
/-- a loop that ends: a measure, an invariant, what holds behind it -/
theorem ox_inv {α β : Type} {f : α → Option (α ⊕ β)} (I : Nat → α → Prop) (Q : β → Prop) (hs : ∀ k a, I k a → (∃ b, f a = some (.inr b) ∧ Q b) ∨ ∃ k' c, k' < k ∧ f a = some (.inl c) ∧ I k' c) : ∀ k a, I k a → ∃ b, ox_w f a = some b ∧ Q b := by
  intro k
  induction k using Nat.strongRecOn with
  | ind k ih =>
    intro a h
    rcases hs k a h with ⟨b, h1, h2⟩ | ⟨k', c, h1, h2, h3⟩
    · exact ⟨b, ox_w_inr h1, h2⟩
    · obtain ⟨b, h4, h5⟩ := ih k' h1 c h3
      exact ⟨b, by rw [ox_w_inl h2]; exact h4, h5⟩
/-- two loops side by side -/
theorem ox_lock {α β α' β' : Type} {f : α → Option (α ⊕ β)} {g : α' → Option (α' ⊕ β')} (I : Nat → α → α' → Prop) (Q : β → β' → Prop) (hs : ∀ k a a', I k a a' → (∃ b b', f a = some (.inr b) ∧ g a' = some (.inr b') ∧ Q b b') ∨ ∃ k' c c', k' < k ∧ f a = some (.inl c) ∧ g a' = some (.inl c') ∧ I k' c c') : ∀ k a a', I k a a' → ∃ b b', ox_w f a = some b ∧ ox_w g a' = some b' ∧ Q b b' := by
  intro k
  induction k using Nat.strongRecOn with
  | ind k ih =>
    intro a a' h
    rcases hs k a a' h with ⟨b, b', h1, h2, h3⟩ | ⟨k', c, c', h1, h2, h3, h4⟩
    · exact ⟨b, b', ox_w_inr h1, ox_w_inr h2, h3⟩
    · obtain ⟨b, b', h5, h6, h7⟩ := ih k' h1 c c' h4
      exact ⟨b, b', by rw [ox_w_inl h2]; exact h5, by rw [ox_w_inl h3]; exact h6, h7⟩
/-- an index in range, and what goes on -/
def ox_ix {ρ : Type} (i : Int32) (n : Nat) (k : Nat → Option ρ) : Option ρ := if i < 0 ∨ n ≤ i.toNatClampNeg then none else k i.toNatClampNeg
theorem ox_ix_some {ρ : Type} {i : Int32} {n : Nat} {k : Nat → Option ρ} {r : ρ} (h : ox_ix i n k = some r) : vp_in i n ∧ k i.toNatClampNeg = some r := by
  unfold ox_ix at h
  by_cases hc : i < 0 ∨ n ≤ i.toNatClampNeg
  · rw [if_pos hc] at h; cases h
  · rw [if_neg hc] at h; exact ⟨hc, h⟩
theorem ox_ix_in {ρ : Type} {i : Int32} {n : Nat} {k : Nat → Option ρ} (h : vp_in i n) : ox_ix i n k = k i.toNatClampNeg := if_neg h
theorem ox_ix_nI {ρ : Type} {j n : Nat} {k : Nat → Option ρ} (h : j < n) (hn : n < 2 ^ 31) : ox_ix (nI j) n k = k j := by
  rw [ox_ix_in (vp_in_nI h hn), nI_clamp (by omega)]
theorem ox_bind {α β : Type} {a : Option α} {k : α → Option β} {r : β} (h : a.bind k = some r) : ∃ x, a = some x ∧ k x = some r := by
  cases a with
  | none => cases h
  | some x => exact ⟨x, rfl, h⟩
theorem ox_map {α β : Type} {a : Option α} {k : α → β} {r : β} (h : a.map k = some r) : ∃ x, a = some x ∧ k x = r := by
  cases a with
  | none => cases h
  | some x => exact ⟨x, rfl, Option.some.inj h⟩
def ox_let {α ρ : Type} (x : α) (k : α → Option ρ) : Option ρ := k x
theorem ox_let_some {α ρ : Type} {x : α} {k : α → Option ρ} {r : ρ} (h : ox_let x k = some r) : ∃ y, y = x ∧ k y = some r := ⟨x, rfl, h⟩
theorem ox_ix_some2 {ρ : Type} {i : Int32} {n : Nat} {k : Nat → Option ρ} {r : ρ} (h : ox_ix i n k = some r) : ∃ j, j = i.toNatClampNeg ∧ vp_in i n ∧ k j = some r := ⟨_, rfl, ox_ix_some h⟩
def ox_b2 {α β ρ : Type} (a : Option (α × β)) (k : α → β → Option ρ) : Option ρ := a.bind (fun q => k q.1 q.2)
theorem ox_b2_some {α β ρ : Type} {a : Option (α × β)} {k : α → β → Option ρ} {r : ρ} (h : ox_b2 a k = some r) : ∃ x y, a = some (x, y) ∧ k x y = some r := by
  obtain ⟨q, h1, h2⟩ := ox_bind h
  exact ⟨q.1, q.2, h1, h2⟩
def ox_z {ρ : Type} (x : Int32) (k : Option ρ) : Option ρ := if x = 0 ∨ x = 1 then k else none
theorem ox_z_some {ρ : Type} {x : Int32} {k : Option ρ} {r : ρ} (h : ox_z x k = some r) : (x = 0 ∨ x = 1) ∧ k = some r := by
  unfold ox_z at h
  by_cases hc : x = 0 ∨ x = 1
  · rw [if_pos hc] at h; exact ⟨hc, h⟩
  · rw [if_neg hc] at h; cases h
theorem ox_nz {x : Int32} (h : x = 0 ∨ x = 1) : narrow .boolean (.int x) = .int x := by
  rcases h with rfl | rfl <;> rfl
theorem ox_fz {x : Int32} (h : x = 0 ∨ x = 1) : fits .boolean (.int x) = true := by
  rcases h with rfl | rfl <;> rfl
theorem ox_vz {x : Int32} (h : x = 0 ∨ x = 1) : vp_nar .boolean x = x := by
  rcases h with rfl | rfl <;> rfl
/-! the judgement -/
abbrev ox_E : Type := va_G × List vw_C × List (ClassId × FieldType) × (ox_S → va_W) × (Nat → Prop) × (State → Heap → Prop)
abbrev ox_D (ω : ox_E) : va_G := ω.1
abbrev ox_cl (ω : ox_E) : List vw_C := ω.2.1
abbrev ox_ty (ω : ox_E) : List (ClassId × FieldType) := ω.2.2.1
abbrev ox_wd (ω : ox_E) : ox_S → va_W := ω.2.2.2.1
abbrev ox_A (ω : ox_E) : Nat → Prop := ω.2.2.2.2.1
abbrev ox_x (ω : ox_E) : State → Heap → Prop := ω.2.2.2.2.2
def ox_ok (ω : ox_E) : Prop := (∀ σ, va_D (ox_A ω) (ox_wd ω σ)) ∧ (∀ (u U : State) (H : Heap), u.WarmedH U.vm → ox_x ω u H → ox_x ω U H) ∧ (∀ (u U : State) (H : Heap), U.vm = u.vm → ox_x ω u H → ox_x ω U H) ∧ (∀ (U : State) (H H1 : Heap), (∀ q : Nat, q < H.size → ¬ ox_A ω q → H1[q]? = H[q]?) → ox_x ω U H → ox_x ω U H1)
def ox_P (ω : ox_E) (av : List Value) (σ : ox_S) : Array Value → State → Prop := fun v U => v = av.toArray ∧ va_P (ox_D ω) (ox_cl ω) (ox_wd ω σ) U.heap ∧ va_K (ox_D ω) (ox_cl ω) (ox_ty ω) U ∧ ox_x ω U U.heap
def ox_Q (ω : ox_E) (res : Option Value) (σ' : ox_S) : Array Value → State → Outcome → State → Prop := fun _ st oc t => oc = .returned res ∧ va_P (ox_D ω) (ox_cl ω) (ox_wd ω σ') t.heap ∧ va_F (ox_A ω) st t
def ox_L (ls : Array Slot) (nL : Nat) (L : List (Option Value)) : Prop := ls.size = nL ∧ lv_wf ls ∧ ∀ (i : Nat) (v : Value), L[i]? = some (some v) → ls[i]? = some (.val v)
def ox_ls (L : List (Option Value)) : List (Nat × Value) := (List.range L.length).filterMap (fun j => (L[j]?.join).map (fun v => (j, v)))
theorem ox_ls_mem {L : List (Option Value)} {i : Nat} {v : Value} : (i, v) ∈ ox_ls L ↔ L[i]? = some (some v) := by
  unfold ox_ls
  rw [List.mem_filterMap]
  constructor
  · rintro ⟨j, hj, h⟩
    cases h1 : L[j]? with
    | none => rw [h1] at h; cases h
    | some o =>
      rw [h1] at h
      cases o with
      | none => cases h
      | some w =>
        have e : (j, w) = (i, v) := Option.some.inj h
        cases e
        exact h1
  · intro h
    refine ⟨i, List.mem_range.mpr (List.getElem?_eq_some_iff.mp h).1, ?_⟩
    rw [h]
    rfl
theorem ox_L.has {ls : Array Slot} {nL : Nat} {L : List (Option Value)} (h : ox_L ls nL L) : lv_has ls nL (ox_ls L) := ⟨h.1, h.2.1, fun q hq => h.2.2 q.1 q.2 (ox_ls_mem.mp hq)⟩
def ox_okst (L : List (Option Value)) : Nat → Bool
  | 0 => true
  | j + 1 => match L[j]? with
    | some (some v) => v.category == 1
    | _ => true
theorem ox_L.st {ls' : Array Slot} {nL : Nat} {L : List (Option Value)} {i : Nat} {v : Value} (hk : ox_okst L i = true) (h : lv_has ls' nL ((i, v) :: (ox_ls L).filter (fun q => !(q.1 == i) && !(q.1 + 1 == i && q.2.category == 2)))) : ox_L ls' nL (L.set i (some v)) := by
  refine ⟨h.1, h.2.1, fun j w hj => ?_⟩
  by_cases e : i = j
  · subst e
    rw [List.getElem?_set] at hj
    simp only [if_true] at hj
    split at hj
    · have e2 : v = w := by simpa using hj
      subst e2
      exact h.2.2 (i, v) List.mem_cons_self
    · cases hj
  · rw [List.getElem?_set_ne e] at hj
    refine h.2.2 (j, w) (List.mem_cons_of_mem _ (List.mem_filter.mpr ⟨ox_ls_mem.mpr hj, ?_⟩))
    have n1 : (j == i) = false := beq_eq_false_iff_ne.mpr (Ne.symm e)
    show (!(j == i) && !(j + 1 == i && w.category == 2)) = true
    rw [n1]
    by_cases e3 : j + 1 = i
    · subst e3
      have hk' : w.category = 1 := by
        simp only [ox_okst, hj] at hk
        simpa using hk
      simp [hk']
    · have n2 : (j + 1 == i) = false := beq_eq_false_iff_ne.mpr e3
      simp [n2]
/-- fewer locals are named -/
def ox_mk (b : List Bool) (L : List (Option Value)) : List (Option Value) := List.zipWith (fun k v => if k then v else none) b L
theorem ox_L.mk {ls : Array Slot} {nL : Nat} {L : List (Option Value)} (b : List Bool) (h : ox_L ls nL L) : ox_L ls nL (ox_mk b L) := by
  refine ⟨h.1, h.2.1, fun i v hi => h.2.2 i v ?_⟩
  unfold ox_mk at hi
  rw [List.getElem?_zipWith] at hi
  cases hb : b[i]? with
  | none => rw [hb] at hi; simp at hi
  | some k =>
    cases hL : L[i]? with
    | none => rw [hb, hL] at hi; simp at hi
    | some o =>
      rw [hb, hL] at hi
      have hi2 : (if k = true then o else none) = some v := by simpa using hi
      cases k with
      | true => rw [if_pos rfl] at hi2; rw [hi2]
      | false => simp at hi2
/-- the machine at pc, with these locals, this stack and this state, comes to Q; hp: what a state says of the heap -/
def ox_X {τ : Type} (p : Program) (l : Launch) (e : Env) (R : Room) (s : State) (m : MethodId) (args : Array Value) (below : List Frame) (meth : Method) (c : Code) (hp : τ → Heap → Prop) (A : Nat → Prop) (nL cells slots : Nat) (Q : State → Prop) (pc : Nat) (L : List (Option Value)) (st : List Value) (σ : τ) : Prop :=
  ∀ (ls : Array Slot) (H : Heap) (locs : List Loc), ox_L ls nL L → hp σ H → va_S A s.heap H locs → W p l e R s m args below meth c H locs cells slots Q (F0 m pc ls st)
/-- what stands through a method's walk -/
def ox_B (p : Program) (s : State) (m : MethodId) (args : Array Value) (c : Code) (nL : Nat) (cc : ByteArray) (own : String) (Ts : List Cond) : Prop :=
  p.tables.exec = Jvm.exec ∧ c.code = cc ∧ c.maxLocals = nL ∧ s.vm.findClass own = some m.cls ∧ ∀ w ∈ Ts, w.before args s = true
theorem ox_B.hx {p : Program} {s : State} {m : MethodId} {args : Array Value} {c : Code} {nL : Nat} {cc : ByteArray} {own : String} {Ts : List Cond} (B : ox_B p s m args c nL cc own Ts) : p.tables.exec = Jvm.exec := B.1
theorem ox_B.hb {p : Program} {s : State} {m : MethodId} {args : Array Value} {c : Code} {nL : Nat} {cc : ByteArray} {own : String} {Ts : List Cond} (B : ox_B p s m args c nL cc own Ts) : c.code = cc := B.2.1
theorem ox_B.hml {p : Program} {s : State} {m : MethodId} {args : Array Value} {c : Code} {nL : Nat} {cc : ByteArray} {own : String} {Ts : List Cond} (B : ox_B p s m args c nL cc own Ts) : c.maxLocals = nL := B.2.2.1
theorem ox_B.hown {p : Program} {s : State} {m : MethodId} {args : Array Value} {c : Code} {nL : Nat} {cc : ByteArray} {own : String} {Ts : List Cond} (B : ox_B p s m args c nL cc own Ts) : s.vm.findClass own = some m.cls := B.2.2.2.1
theorem ox_B.hts {p : Program} {s : State} {m : MethodId} {args : Array Value} {c : Code} {nL : Nat} {cc : ByteArray} {own : String} {Ts : List Cond} (B : ox_B p s m args c nL cc own Ts) : ∀ w ∈ Ts, w.before args s = true := B.2.2.2.2
abbrev ox_hp (ω : ox_E) (σ : ox_S) (H : Heap) : Prop := va_P (ox_D ω) (ox_cl ω) (ox_wd ω σ) H
abbrev ox_M (p : Program) (l : Launch) (e : Env) (R : Room) (s : State) (m : MethodId) (args : Array Value) (below : List Frame) (meth : Method) (c : Code) (ω : ox_E) (nL : Nat) (res : Option Value) (σf : ox_S) (pc : Nat) (L : List (Option Value)) (st : List Value) (σ : ox_S) : Prop :=
  ox_X p l e R s m args below meth c (ox_hp ω) (ox_A ω) nL 0 0 (MQ below (ox_Q ω res σf) args s 0 0 (ox_A ω)) pc L st σ
/-- and of the system -/
def ox_F (s : State) (meth : Method) (ω : ox_E) (ret : Option FieldType) : Prop :=
  va_K (ox_D ω) (ox_cl ω) (ox_ty ω) s ∧ ox_ok ω ∧ ox_x ω s s.heap ∧ meth.locks = false ∧ meth.sig.returnType = ret
theorem ox_F.hK {s : State} {meth : Method} {ω : ox_E} {ret : Option FieldType} (F : ox_F s meth ω ret) : va_K (ox_D ω) (ox_cl ω) (ox_ty ω) s := F.1
theorem ox_F.hok {s : State} {meth : Method} {ω : ox_E} {ret : Option FieldType} (F : ox_F s meth ω ret) : ox_ok ω := F.2.1
theorem ox_F.hex {s : State} {meth : Method} {ω : ox_E} {ret : Option FieldType} (F : ox_F s meth ω ret) : ox_x ω s s.heap := F.2.2.1
theorem ox_F.hlk {s : State} {meth : Method} {ω : ox_E} {ret : Option FieldType} (F : ox_F s meth ω ret) : meth.locks = false := F.2.2.2.1
theorem ox_F.hr {s : State} {meth : Method} {ω : ox_E} {ret : Option FieldType} (F : ox_F s meth ω ret) : meth.sig.returnType = ret := F.2.2.2.2
def ox_slv : Slot → Option Value
  | .val v => some v
  | _ => none
/-- the locals with which a method begins -/
def ox_l0 (av : List Value) (n : Nat) : List (Option Value) := (lg_sl av ++ List.replicate (n - (lg_sl av).length) Slot.unset).map ox_slv
