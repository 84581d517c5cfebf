theorem ol_Dall {A : Nat → Prop} {w w' : va_W} (h : w.map (fun q => q.1) = w'.map (fun q => q.1)) (hD : va_D A w) : va_D A w' := by
  have key : ∀ (k : Nat) (q : Nat × va_E), w'[k]? = some q → ∃ q0, w[k]? = some q0 ∧ q0.1 = q.1 := by
    intro k q hk
    have h1 : (w'.map (fun q => q.1))[k]? = some q.1 := by rw [List.getElem?_map, hk]; rfl
    rw [← h, List.getElem?_map] at h1
    cases hw : w[k]? with
    | none => rw [hw] at h1; cases h1
    | some q0 => rw [hw] at h1; exact ⟨q0, rfl, Option.some.inj h1⟩
  refine ⟨fun i j x y hi hj hxy => ?_, fun k q hk => ?_⟩
  · obtain ⟨x0, a1, a2⟩ := key i x hi
    obtain ⟨y0, b1, b2⟩ := key j y hj
    exact hD.1 i j x0 y0 a1 b1 (a2.trans (hxy.trans b2.symm))
  · obtain ⟨q0, a1, a2⟩ := key k q hk
    rw [← a2]
    exact hD.2 k q0 a1
theorem ol_Ain {w : va_W} {ad : Nat → Nat} {n : Nat} (h : w.map (fun q => q.1) = (List.range n).map ad) {k : Nat} {q : Nat × va_E} (hk : w[k]? = some q) : ∃ j, j < n ∧ q.1 = ad j := by
  have h1 : (w.map (fun q => q.1))[k]? = some q.1 := by rw [List.getElem?_map, hk]; rfl
  rw [h, List.getElem?_map] at h1
  cases hr : (List.range n)[k]? with
  | none => rw [hr] at h1; cases h1
  | some j =>
    rw [hr] at h1
    have h2 := List.getElem?_eq_some_iff.mp hr
    obtain ⟨h3, h4⟩ := h2
    rw [List.length_range] at h3
    rw [List.getElem_range] at h4
    exact ⟨j, by omega, (Option.some.inj h1).symm⟩
theorem ol_at {w : va_W} {ads : List Nat} (h : w.map (fun q => q.1) = ads) {k a : Nat} (hk : ads[k]? = some a) : ∃ q, w[k]? = some q ∧ q.1 = a := by
  rw [← h, List.getElem?_map] at hk
  cases hw : w[k]? with
  | none => rw [hw] at hk; cases hk
  | some q => rw [hw] at hk; exact ⟨q, rfl, Option.some.inj hk⟩
theorem ol_split {A : Nat → Prop} {w1 w2 : va_W} {a1 a2 : Nat → Nat} {n1 n2 : Nat} (h1 : w1.map (fun q => q.1) = (List.range n1).map a1) (h2 : w2.map (fun q => q.1) = (List.range n2).map a2) (hD : va_D A (w1 ++ w2)) : (∀ j, j < n1 → A (a1 j)) ∧ (∀ j, j < n2 → A (a2 j)) ∧ (∀ i j, i < n1 → j < n2 → a1 i ≠ a2 j) ∧ va_D (fun q => ∃ k, k < n1 ∧ q = a1 k) w1 ∧ va_D (fun q => ∃ k, k < n2 ∧ q = a2 k) w2 := by
  have l1 : w1.length = n1 := by have := congrArg List.length h1; simpa using this
  have l2 : w2.length = n2 := by have := congrArg List.length h2; simpa using this
  have g1 : ∀ j, j < n1 → ∃ q, w1[j]? = some q ∧ q.1 = a1 j := fun j hj => ol_at h1 (by simp [hj])
  have g2 : ∀ j, j < n2 → ∃ q, w2[j]? = some q ∧ q.1 = a2 j := fun j hj => ol_at h2 (by simp [hj])
  have e1 : ∀ (j : Nat) (q : Nat × va_E), w1[j]? = some q → (w1 ++ w2)[j]? = some q := fun j q hq => by
    rw [List.getElem?_append_left (List.getElem?_eq_some_iff.mp hq).1]; exact hq
  have e2 : ∀ (j : Nat) (q : Nat × va_E), w2[j]? = some q → (w1 ++ w2)[n1 + j]? = some q := fun j q hq => by
    rw [List.getElem?_append_right (by omega), l1, Nat.add_sub_cancel_left]; exact hq
  refine ⟨fun j hj => ?_, fun j hj => ?_, fun i j hi hj he => ?_, ⟨fun i j x y hi hj hxy => hD.1 i j x y (e1 i x hi) (e1 j y hj) hxy, fun k q hk => ol_Ain h1 hk⟩, ⟨fun i j x y hi hj hxy => ?_, fun k q hk => ol_Ain h2 hk⟩⟩
  · obtain ⟨q, a, e⟩ := g1 j hj
    rw [← e]; exact hD.2 _ q (e1 j q a)
  · obtain ⟨q, a, e⟩ := g2 j hj
    rw [← e]; exact hD.2 _ q (e2 j q a)
  · obtain ⟨q, a, e⟩ := g1 i hi
    obtain ⟨q', a', e'⟩ := g2 j hj
    have := hD.1 _ _ q q' (e1 i q a) (e2 j q' a') (e.trans (he.trans e'.symm))
    omega
  · have := hD.1 _ _ x y (e2 i x hi) (e2 j y hj) hxy
    omega
theorem ol_same {s : State} {D : va_G} {tys : List (ClassId × FieldType)} {ty : FieldType} {c1 c2 : ClassId} (hK : va_K D ox_clz tys s) (hp : ∀ C, ty ≠ .object C) (i j : Nat) (hi : tys[i]? = some (c1, ty)) (hj : tys[j]? = some (c2, ty)) : c1 = c2 := by
  have h1 := (hK.2 i _ hi).2
  have h2 := (hK.2 j _ hj).2
  cases ty with
  | object C => exact absurd rfl (hp C)
  | _ => exact Option.some.inj ((show s.vm.findClass _ = some c1 from h1).symm.trans h2)
theorem ol_okc {D : va_G} {adc : Nat → Nat} {cI cC : ClassId} {adK adV : Nat → Nat} {σ0 : ox_S} (h : va_D (fun q => ∃ k, k < 28 ∧ q = adc k) (ox_wd (ol_c D adc cI cC adK adV) σ0)) : ox_ok (ol_c D adc cI cC adK adV) := by
  refine ⟨fun σ => ol_Dall (w := ox_wd (ol_c D adc cI cC adK adV) σ0) rfl h, fun u U H hW hx => ?_, fun u U H hv hx => ?_, fun U H H1 hq hx => ?_⟩
  · exact ⟨hx.1.warm hW, hx.2.1.moved hW.alike, fun i hi => (hx.2.2.1 i hi).warm hW, hx.2.2.2.1.moved hW.alike, hx.2.2.2.2.moved hW.alike⟩
  · have ha : u.vm.Alike U.vm := hv ▸ Vm.Alike.refl u.vm
    exact ⟨hx.1.same hv, hx.2.1.moved ha, fun i hi => (hx.2.2.1 i hi).same hv, hx.2.2.2.1.moved ha, hx.2.2.2.2.moved ha⟩
  · exact ⟨hx.1, hx.2.1.kept hq, hx.2.2.1, hx.2.2.2.1.kept hq, hx.2.2.2.2.kept hq⟩
theorem ol_okm {D : va_G} {adm : Nat → Nat} {cI cC cZ : ClassId} {σ0 : ox_S} (h : va_D (fun q => ∃ k, k < 15 ∧ q = adm k) (ox_wd (ol_m D adm cI cC cZ) σ0)) : ox_ok (ol_m D adm cI cC cZ) :=
  ⟨fun σ => ol_Dall (w := ox_wd (ol_m D adm cI cC cZ) σ0) rfl h, fun _ _ _ _ h => h, fun _ _ _ _ h => h, fun _ _ _ _ h => h⟩
/-- the start of both: all is 0 -/
def ol_0 : ox_S := (fun _ => 0, fun _ _ => 0)

set_option maxRecDepth 100000 in
set_option maxHeartbeats 8000000 in
theorem ol_known {s : State} {args : Array Value} (hts : ∀ w ∈ ox_ws, w.before args s = true) : ∃ D : va_G, va_K D ox_clz [] s := by
  obtain ⟨c0, i0, h0⟩ := u_known (ws := ox_ws) hts oin_T (hts _ (ox_t1 19 rfl rfl))
  obtain ⟨c1, i1, h1⟩ := u_known (ws := ox_ws) hts oin_Text (hts _ (ox_t1 27 rfl rfl))
  obtain ⟨c2, i2, h2⟩ := u_known (ws := ox_ws) hts oin_Line (hts _ (ox_t1 51 rfl rfl))
  obtain ⟨c3, i3, h3⟩ := u_known (ws := ox_ws) hts oin_Reader (hts _ (ox_t1 45 rfl rfl))
  obtain ⟨c4, i4, h4⟩ := u_known (ws := ox_ws) hts oin_Land (hts _ (ox_t1 114 rfl rfl))
  obtain ⟨c5, i5, h5⟩ := u_known (ws := ox_ws) hts oin_OneTree (hts _ (ox_t1 161 rfl rfl))
  obtain ⟨c6, i6, h6⟩ := u_known (ws := ox_ws) hts oin_TourList (hts _ (ox_t1 187 rfl rfl))
  obtain ⟨c7, i7, h7⟩ := u_known (ws := ox_ws) hts oin_Round (hts _ (ox_t1 212 rfl rfl))
  obtain ⟨c8, i8, h8⟩ := u_known (ws := ox_ws) hts oin_Cases (hts _ (ox_t1 230 rfl rfl))
  obtain ⟨c9, i9, h9⟩ := u_known (ws := ox_ws) hts oin_Mo (hts _ (ox_t3 215 rfl rfl))
  refine ⟨(fun k => [c0, c1, c2, c3, c4, c5, c6, c7, c8, c9].getD k c0, fun k => [i0, i1, i2, i3, i4, i5, i6, i7, i8, i9].getD k i0), fun k q hq => ?_, fun k q hq => by cases hq⟩
  match k, hq with
  | 0, hq => cases hq; exact h0
  | 1, hq => cases hq; exact h1
  | 2, hq => cases hq; exact h2
  | 3, hq => cases hq; exact h3
  | 4, hq => cases hq; exact h4
  | 5, hq => cases hq; exact h5
  | 6, hq => cases hq; exact h6
  | 7, hq => cases hq; exact h7
  | 8, hq => cases hq; exact h8
  | 9, hq => cases hq; exact h9
  | k + 10, hq => cases hq
theorem ol_nest {s : State} {args : Array Value} (hts : ∀ w ∈ lw_tbl, w.before args s = true) : ox_nst oz_nest s ∧ ox_nst oc_nest s := by
  have key : ∀ w ∈ tables_1, w.onTables = true → va_Nw w s := fun w hw ht => va_Nw.of ht (hts w (List.mem_append_right _ hw))
  refine ⟨fun q hq => key _ ?_ rfl, fun q hq => key _ ?_ rfl⟩
  · have h : ∀ q ∈ oz_nest, Cond.methodLinkNest q.1 q.2.1 q.2.2.1 q.2.2.2 ∈ tables_1 := by decide +kernel
    exact h q hq
  · have h : ∀ q ∈ oc_nest, Cond.methodLinkNest q.1 q.2.1 q.2.2.1 q.2.2.2 ∈ tables_1 := by decide +kernel
    exact h q hq
theorem ol_l {a b : Cond} {args : Array Value} {s : State} (h : (Cond.and a b).before args s = true) : a.before args s = true := by rw [Cond.before_and, Bool.and_eq_true] at h; exact h.1
theorem ol_r {a b : Cond} {args : Array Value} {s : State} (h : (Cond.and a b).before args s = true) : b.before args s = true := by rw [Cond.before_and, Bool.and_eq_true] at h; exact h.2
set_option maxRecDepth 100000 in
theorem ol_el_0 {args : Array Value} {s : State} (h : narrow_1.before args s = true) : ∀ j, j < 3 → (Cond.eq (.elem (.field (Term.string "OneTreeTours$Reader" 145) "java/lang/String" "value" "[B") (.int (Int32.ofNat j))) (.int ((oc_sb.getD 0 []).getD j 0))).before args s = true := fun j hj => match j, hj with
  | 0, _ => (ol_r (ol_r (ol_r (ol_l (ol_l (ol_r (ol_r (ol_r (ol_r h)))))))))
  | 1, _ => (ol_l (ol_l (ol_r (ol_l (ol_r (ol_r (ol_r (ol_r h))))))))
  | 2, _ => (ol_r (ol_l (ol_r (ol_l (ol_r (ol_r (ol_r (ol_r h))))))))
  | j + 3, hj => absurd hj (by omega)
set_option maxRecDepth 100000 in
theorem ol_el_1 {args : Array Value} {s : State} (h : narrow_1.before args s = true) : ∀ j, j < 8 → (Cond.eq (.elem (.field (Term.string "OneTreeTours$Reader" 88) "java/lang/String" "value" "[B") (.int (Int32.ofNat j))) (.int ((oc_sb.getD 1 []).getD j 0))).before args s = true := fun j hj => match j, hj with
  | 0, _ => (ol_l (ol_r (ol_l (ol_r (ol_l (ol_l (ol_l (ol_l h))))))))
  | 1, _ => (ol_l (ol_r (ol_r (ol_l (ol_r (ol_l (ol_l (ol_l (ol_l h)))))))))
  | 2, _ => (ol_r (ol_r (ol_r (ol_l (ol_r (ol_l (ol_l (ol_l (ol_l h)))))))))
  | 3, _ => (ol_l (ol_l (ol_r (ol_r (ol_l (ol_l (ol_l (ol_l h))))))))
  | 4, _ => (ol_r (ol_l (ol_r (ol_r (ol_l (ol_l (ol_l (ol_l h))))))))
  | 5, _ => (ol_l (ol_r (ol_r (ol_r (ol_l (ol_l (ol_l (ol_l h))))))))
  | 6, _ => (ol_l (ol_r (ol_r (ol_r (ol_r (ol_l (ol_l (ol_l (ol_l h)))))))))
  | 7, _ => (ol_r (ol_r (ol_r (ol_r (ol_r (ol_l (ol_l (ol_l (ol_l h)))))))))
  | j + 8, hj => absurd hj (by omega)
set_option maxRecDepth 100000 in
theorem ol_el_2 {args : Array Value} {s : State} (h : narrow_1.before args s = true) : ∀ j, j < 10 → (Cond.eq (.elem (.field (Term.string "OneTreeTours$Reader" 100) "java/lang/String" "value" "[B") (.int (Int32.ofNat j))) (.int ((oc_sb.getD 2 []).getD j 0))).before args s = true := fun j hj => match j, hj with
  | 0, _ => (ol_r (ol_r (ol_r (ol_l (ol_r (ol_r (ol_r (ol_l (ol_l h)))))))))
  | 1, _ => (ol_l (ol_l (ol_r (ol_r (ol_r (ol_r (ol_l (ol_l h))))))))
  | 2, _ => (ol_r (ol_l (ol_r (ol_r (ol_r (ol_r (ol_l (ol_l h))))))))
  | 3, _ => (ol_l (ol_r (ol_r (ol_r (ol_r (ol_r (ol_l (ol_l h))))))))
  | 4, _ => (ol_l (ol_r (ol_r (ol_r (ol_r (ol_r (ol_r (ol_l (ol_l h)))))))))
  | 5, _ => (ol_r (ol_r (ol_r (ol_r (ol_r (ol_r (ol_r (ol_l (ol_l h)))))))))
  | 6, _ => (ol_l (ol_l (ol_l (ol_l (ol_l (ol_l (ol_r (ol_l h))))))))
  | 7, _ => (ol_r (ol_l (ol_l (ol_l (ol_l (ol_l (ol_r (ol_l h))))))))
  | 8, _ => (ol_l (ol_r (ol_l (ol_l (ol_l (ol_l (ol_r (ol_l h))))))))
  | 9, _ => (ol_r (ol_r (ol_l (ol_l (ol_l (ol_l (ol_r (ol_l h))))))))
  | j + 10, hj => absurd hj (by omega)
set_option maxRecDepth 100000 in
theorem ol_el_3 {args : Array Value} {s : State} (h : narrow_1.before args s = true) : ∀ j, j < 17 → (Cond.eq (.elem (.field (Term.string "OneTreeTours$Reader" 109) "java/lang/String" "value" "[B") (.int (Int32.ofNat j))) (.int ((oc_sb.getD 3 []).getD j 0))).before args s = true := fun j hj => match j, hj with
  | 0, _ => (ol_l (ol_r (ol_l (ol_r (ol_l (ol_l (ol_r (ol_l h))))))))
  | 1, _ => (ol_l (ol_r (ol_r (ol_l (ol_r (ol_l (ol_l (ol_r (ol_l h)))))))))
  | 2, _ => (ol_r (ol_r (ol_r (ol_l (ol_r (ol_l (ol_l (ol_r (ol_l h)))))))))
  | 3, _ => (ol_l (ol_l (ol_r (ol_r (ol_l (ol_l (ol_r (ol_l h))))))))
  | 4, _ => (ol_r (ol_l (ol_r (ol_r (ol_l (ol_l (ol_r (ol_l h))))))))
  | 5, _ => (ol_l (ol_r (ol_r (ol_r (ol_l (ol_l (ol_r (ol_l h))))))))
  | 6, _ => (ol_l (ol_r (ol_r (ol_r (ol_r (ol_l (ol_l (ol_r (ol_l h)))))))))
  | 7, _ => (ol_r (ol_r (ol_r (ol_r (ol_r (ol_l (ol_l (ol_r (ol_l h)))))))))
  | 8, _ => (ol_l (ol_l (ol_l (ol_l (ol_r (ol_l (ol_r (ol_l h))))))))
  | 9, _ => (ol_r (ol_l (ol_l (ol_l (ol_r (ol_l (ol_r (ol_l h))))))))
  | 10, _ => (ol_l (ol_r (ol_l (ol_l (ol_r (ol_l (ol_r (ol_l h))))))))
  | 11, _ => (ol_r (ol_r (ol_l (ol_l (ol_r (ol_l (ol_r (ol_l h))))))))
  | 12, _ => (ol_l (ol_l (ol_r (ol_l (ol_r (ol_l (ol_r (ol_l h))))))))
  | 13, _ => (ol_r (ol_l (ol_r (ol_l (ol_r (ol_l (ol_r (ol_l h))))))))
  | 14, _ => (ol_l (ol_r (ol_r (ol_l (ol_r (ol_l (ol_r (ol_l h))))))))
  | 15, _ => (ol_l (ol_r (ol_r (ol_r (ol_l (ol_r (ol_l (ol_r (ol_l h)))))))))
  | 16, _ => (ol_r (ol_r (ol_r (ol_r (ol_l (ol_r (ol_l (ol_r (ol_l h)))))))))
  | j + 17, hj => absurd hj (by omega)
set_option maxRecDepth 100000 in
theorem ol_el_4 {args : Array Value} {s : State} (h : narrow_1.before args s = true) : ∀ j, j < 19 → (Cond.eq (.elem (.field (Term.string "OneTreeTours$Reader" 114) "java/lang/String" "value" "[B") (.int (Int32.ofNat j))) (.int ((oc_sb.getD 4 []).getD j 0))).before args s = true := fun j hj => match j, hj with
  | 0, _ => (ol_l (ol_l (ol_l (ol_r (ol_r (ol_l (ol_l (ol_r h))))))))
  | 1, _ => (ol_r (ol_l (ol_l (ol_r (ol_r (ol_l (ol_l (ol_r h))))))))
  | 2, _ => (ol_l (ol_r (ol_l (ol_r (ol_r (ol_l (ol_l (ol_r h))))))))
  | 3, _ => (ol_l (ol_r (ol_r (ol_l (ol_r (ol_r (ol_l (ol_l (ol_r h)))))))))
  | 4, _ => (ol_r (ol_r (ol_r (ol_l (ol_r (ol_r (ol_l (ol_l (ol_r h)))))))))
  | 5, _ => (ol_l (ol_l (ol_r (ol_r (ol_r (ol_l (ol_l (ol_r h))))))))
  | 6, _ => (ol_r (ol_l (ol_r (ol_r (ol_r (ol_l (ol_l (ol_r h))))))))
  | 7, _ => (ol_l (ol_r (ol_r (ol_r (ol_r (ol_l (ol_l (ol_r h))))))))
  | 8, _ => (ol_l (ol_r (ol_r (ol_r (ol_r (ol_r (ol_l (ol_l (ol_r h)))))))))
  | 9, _ => (ol_r (ol_r (ol_r (ol_r (ol_r (ol_r (ol_l (ol_l (ol_r h)))))))))
  | 10, _ => (ol_l (ol_l (ol_l (ol_l (ol_l (ol_r (ol_l (ol_r h))))))))
  | 11, _ => (ol_r (ol_l (ol_l (ol_l (ol_l (ol_r (ol_l (ol_r h))))))))
  | 12, _ => (ol_l (ol_r (ol_l (ol_l (ol_l (ol_r (ol_l (ol_r h))))))))
  | 13, _ => (ol_r (ol_r (ol_l (ol_l (ol_l (ol_r (ol_l (ol_r h))))))))
  | 14, _ => (ol_l (ol_l (ol_r (ol_l (ol_l (ol_r (ol_l (ol_r h))))))))
  | 15, _ => (ol_r (ol_l (ol_r (ol_l (ol_l (ol_r (ol_l (ol_r h))))))))
  | 16, _ => (ol_l (ol_r (ol_r (ol_l (ol_l (ol_r (ol_l (ol_r h))))))))
  | 17, _ => (ol_l (ol_r (ol_r (ol_r (ol_l (ol_l (ol_r (ol_l (ol_r h)))))))))
  | 18, _ => (ol_r (ol_r (ol_r (ol_r (ol_l (ol_l (ol_r (ol_l (ol_r h)))))))))
  | j + 19, hj => absurd hj (by omega)
set_option maxRecDepth 100000 in
theorem ol_el_5 {args : Array Value} {s : State} (h : narrow_1.before args s = true) : ∀ j, j < 11 → (Cond.eq (.elem (.field (Term.string "OneTreeTours$Reader" 131) "java/lang/String" "value" "[B") (.int (Int32.ofNat j))) (.int ((oc_sb.getD 5 []).getD j 0))).before args s = true := fun j hj => match j, hj with
  | 0, _ => (ol_l (ol_r (ol_r (ol_l (ol_l (ol_r (ol_r (ol_l (ol_r h)))))))))
  | 1, _ => (ol_r (ol_r (ol_r (ol_l (ol_l (ol_r (ol_r (ol_l (ol_r h)))))))))
  | 2, _ => (ol_l (ol_l (ol_r (ol_l (ol_r (ol_r (ol_l (ol_r h))))))))
  | 3, _ => (ol_r (ol_l (ol_r (ol_l (ol_r (ol_r (ol_l (ol_r h))))))))
  | 4, _ => (ol_l (ol_r (ol_r (ol_l (ol_r (ol_r (ol_l (ol_r h))))))))
  | 5, _ => (ol_l (ol_r (ol_r (ol_r (ol_l (ol_r (ol_r (ol_l (ol_r h)))))))))
  | 6, _ => (ol_r (ol_r (ol_r (ol_r (ol_l (ol_r (ol_r (ol_l (ol_r h)))))))))
  | 7, _ => (ol_l (ol_l (ol_l (ol_r (ol_r (ol_r (ol_l (ol_r h))))))))
  | 8, _ => (ol_r (ol_l (ol_l (ol_r (ol_r (ol_r (ol_l (ol_r h))))))))
  | 9, _ => (ol_l (ol_r (ol_l (ol_r (ol_r (ol_r (ol_l (ol_r h))))))))
  | 10, _ => (ol_l (ol_r (ol_r (ol_l (ol_r (ol_r (ol_r (ol_l (ol_r h)))))))))
  | j + 11, hj => absurd hj (by omega)
set_option maxRecDepth 100000 in
theorem ol_el_6 {args : Array Value} {s : State} (h : narrow_1.before args s = true) : ∀ j, j < 9 → (Cond.eq (.elem (.field (Term.string "OneTreeTours$Reader" 133) "java/lang/String" "value" "[B") (.int (Int32.ofNat j))) (.int ((oc_sb.getD 6 []).getD j 0))).before args s = true := fun j hj => match j, hj with
  | 0, _ => (ol_r (ol_r (ol_r (ol_r (ol_l (ol_l (ol_l (ol_r (ol_r h)))))))))
  | 1, _ => (ol_l (ol_l (ol_l (ol_r (ol_l (ol_l (ol_r (ol_r h))))))))
  | 2, _ => (ol_r (ol_l (ol_l (ol_r (ol_l (ol_l (ol_r (ol_r h))))))))
  | 3, _ => (ol_l (ol_r (ol_l (ol_r (ol_l (ol_l (ol_r (ol_r h))))))))
  | 4, _ => (ol_l (ol_r (ol_r (ol_l (ol_r (ol_l (ol_l (ol_r (ol_r h)))))))))
  | 5, _ => (ol_r (ol_r (ol_r (ol_l (ol_r (ol_l (ol_l (ol_r (ol_r h)))))))))
  | 6, _ => (ol_l (ol_l (ol_r (ol_r (ol_l (ol_l (ol_r (ol_r h))))))))
  | 7, _ => (ol_r (ol_l (ol_r (ol_r (ol_l (ol_l (ol_r (ol_r h))))))))
  | 8, _ => (ol_l (ol_r (ol_r (ol_r (ol_l (ol_l (ol_r (ol_r h))))))))
  | j + 9, hj => absurd hj (by omega)
set_option maxRecDepth 100000 in
theorem ol_el_7 {args : Array Value} {s : State} (h : narrow_1.before args s = true) : ∀ j, j < 14 → (Cond.eq (.elem (.field (Term.string "OneTreeTours$Reader" 135) "java/lang/String" "value" "[B") (.int (Int32.ofNat j))) (.int ((oc_sb.getD 7 []).getD j 0))).before args s = true := fun j hj => match j, hj with
  | 0, _ => (ol_l (ol_r (ol_r (ol_l (ol_r (ol_r (ol_l (ol_r (ol_r h)))))))))
  | 1, _ => (ol_r (ol_r (ol_r (ol_l (ol_r (ol_r (ol_l (ol_r (ol_r h)))))))))
  | 2, _ => (ol_l (ol_l (ol_r (ol_r (ol_r (ol_l (ol_r (ol_r h))))))))
  | 3, _ => (ol_r (ol_l (ol_r (ol_r (ol_r (ol_l (ol_r (ol_r h))))))))
  | 4, _ => (ol_l (ol_r (ol_r (ol_r (ol_r (ol_l (ol_r (ol_r h))))))))
  | 5, _ => (ol_l (ol_r (ol_r (ol_r (ol_r (ol_r (ol_l (ol_r (ol_r h)))))))))
  | 6, _ => (ol_r (ol_r (ol_r (ol_r (ol_r (ol_r (ol_l (ol_r (ol_r h)))))))))
  | 7, _ => (ol_l (ol_l (ol_l (ol_l (ol_l (ol_r (ol_r (ol_r h))))))))
  | 8, _ => (ol_r (ol_l (ol_l (ol_l (ol_l (ol_r (ol_r (ol_r h))))))))
  | 9, _ => (ol_l (ol_r (ol_l (ol_l (ol_l (ol_r (ol_r (ol_r h))))))))
  | 10, _ => (ol_r (ol_r (ol_l (ol_l (ol_l (ol_r (ol_r (ol_r h))))))))
  | 11, _ => (ol_l (ol_l (ol_r (ol_l (ol_l (ol_r (ol_r (ol_r h))))))))
  | 12, _ => (ol_r (ol_l (ol_r (ol_l (ol_l (ol_r (ol_r (ol_r h))))))))
  | 13, _ => (ol_l (ol_r (ol_r (ol_l (ol_l (ol_r (ol_r (ol_r h))))))))
  | j + 14, hj => absurd hj (by omega)
set_option maxRecDepth 100000 in
theorem ol_el_8 {args : Array Value} {s : State} (h : narrow_1.before args s = true) : ∀ j, j < 8 → (Cond.eq (.elem (.field (Term.string "OneTreeTours$Reader" 123) "java/lang/String" "value" "[B") (.int (Int32.ofNat j))) (.int ((oc_sb.getD 8 []).getD j 0))).before args s = true := fun j hj => match j, hj with
  | 0, _ => (ol_l (ol_r (ol_r (ol_r (ol_r (ol_r (ol_l (ol_r (ol_l h)))))))))
  | 1, _ => (ol_r (ol_r (ol_r (ol_r (ol_r (ol_r (ol_l (ol_r (ol_l h)))))))))
  | 2, _ => (ol_l (ol_l (ol_l (ol_l (ol_l (ol_r (ol_r (ol_l h))))))))
  | 3, _ => (ol_r (ol_l (ol_l (ol_l (ol_l (ol_r (ol_r (ol_l h))))))))
  | 4, _ => (ol_l (ol_r (ol_l (ol_l (ol_l (ol_r (ol_r (ol_l h))))))))
  | 5, _ => (ol_r (ol_r (ol_l (ol_l (ol_l (ol_r (ol_r (ol_l h))))))))
  | 6, _ => (ol_l (ol_l (ol_r (ol_l (ol_l (ol_r (ol_r (ol_l h))))))))
  | 7, _ => (ol_r (ol_l (ol_r (ol_l (ol_l (ol_r (ol_r (ol_l h))))))))
  | j + 8, hj => absurd hj (by omega)
set_option maxRecDepth 100000 in
theorem ol_el_9 {args : Array Value} {s : State} (h : narrow_1.before args s = true) : ∀ j, j < 6 → (Cond.eq (.elem (.field (Term.string "OneTreeTours$Reader" 125) "java/lang/String" "value" "[B") (.int (Int32.ofNat j))) (.int ((oc_sb.getD 9 []).getD j 0))).before args s = true := fun j hj => match j, hj with
  | 0, _ => (ol_r (ol_l (ol_r (ol_r (ol_l (ol_r (ol_r (ol_l h))))))))
  | 1, _ => (ol_l (ol_r (ol_r (ol_r (ol_l (ol_r (ol_r (ol_l h))))))))
  | 2, _ => (ol_l (ol_r (ol_r (ol_r (ol_r (ol_l (ol_r (ol_r (ol_l h)))))))))
  | 3, _ => (ol_r (ol_r (ol_r (ol_r (ol_r (ol_l (ol_r (ol_r (ol_l h)))))))))
  | 4, _ => (ol_l (ol_l (ol_l (ol_l (ol_r (ol_r (ol_r (ol_l h))))))))
  | 5, _ => (ol_r (ol_l (ol_l (ol_l (ol_r (ol_r (ol_r (ol_l h))))))))
  | j + 6, hj => absurd hj (by omega)
set_option maxRecDepth 100000 in
theorem ol_el_10 {args : Array Value} {s : State} (h : narrow_1.before args s = true) : ∀ j, j < 7 → (Cond.eq (.elem (.field (Term.string "OneTreeTours$Reader" 127) "java/lang/String" "value" "[B") (.int (Int32.ofNat j))) (.int ((oc_sb.getD 10 []).getD j 0))).before args s = true := fun j hj => match j, hj with
  | 0, _ => (ol_l (ol_r (ol_l (ol_r (ol_r (ol_r (ol_r (ol_l h))))))))
  | 1, _ => (ol_l (ol_r (ol_r (ol_l (ol_r (ol_r (ol_r (ol_r (ol_l h)))))))))
  | 2, _ => (ol_r (ol_r (ol_r (ol_l (ol_r (ol_r (ol_r (ol_r (ol_l h)))))))))
  | 3, _ => (ol_l (ol_l (ol_r (ol_r (ol_r (ol_r (ol_r (ol_l h))))))))
  | 4, _ => (ol_r (ol_l (ol_r (ol_r (ol_r (ol_r (ol_r (ol_l h))))))))
  | 5, _ => (ol_l (ol_r (ol_r (ol_r (ol_r (ol_r (ol_r (ol_l h))))))))
  | 6, _ => (ol_l (ol_r (ol_r (ol_r (ol_r (ol_r (ol_r (ol_r (ol_l h)))))))))
  | j + 7, hj => absurd hj (by omega)
set_option maxRecDepth 100000 in
theorem ol_el_11 {args : Array Value} {s : State} (h : narrow_1.before args s = true) : ∀ j, j < 6 → (Cond.eq (.elem (.field (Term.string "OneTreeTours$Reader" 129) "java/lang/String" "value" "[B") (.int (Int32.ofNat j))) (.int ((oc_sb.getD 11 []).getD j 0))).before args s = true := fun j hj => match j, hj with
  | 0, _ => (ol_r (ol_l (ol_l (ol_r (ol_l (ol_l (ol_l (ol_r h))))))))
  | 1, _ => (ol_l (ol_r (ol_l (ol_r (ol_l (ol_l (ol_l (ol_r h))))))))
  | 2, _ => (ol_l (ol_r (ol_r (ol_l (ol_r (ol_l (ol_l (ol_l (ol_r h)))))))))
  | 3, _ => (ol_r (ol_r (ol_r (ol_l (ol_r (ol_l (ol_l (ol_l (ol_r h)))))))))
  | 4, _ => (ol_l (ol_l (ol_r (ol_r (ol_l (ol_l (ol_l (ol_r h))))))))
  | 5, _ => (ol_r (ol_l (ol_r (ol_r (ol_l (ol_l (ol_l (ol_r h))))))))
  | j + 6, hj => absurd hj (by omega)
set_option maxRecDepth 100000 in
theorem ol_el_12 {args : Array Value} {s : State} (h : narrow_1.before args s = true) : ∀ j, j < 18 → (Cond.eq (.elem (.field (Term.string "OneTreeTours$Reader" 139) "java/lang/String" "value" "[B") (.int (Int32.ofNat j))) (.int ((oc_sb.getD 12 []).getD j 0))).before args s = true := fun j hj => match j, hj with
  | 0, _ => (ol_l (ol_l (ol_l (ol_r (ol_l (ol_r (ol_l (ol_l h))))))))
  | 1, _ => (ol_r (ol_l (ol_l (ol_r (ol_l (ol_r (ol_l (ol_l h))))))))
  | 2, _ => (ol_l (ol_r (ol_l (ol_r (ol_l (ol_r (ol_l (ol_l h))))))))
  | 3, _ => (ol_l (ol_r (ol_r (ol_l (ol_r (ol_l (ol_r (ol_l (ol_l h)))))))))
  | 4, _ => (ol_r (ol_r (ol_r (ol_l (ol_r (ol_l (ol_r (ol_l (ol_l h)))))))))
  | 5, _ => (ol_l (ol_l (ol_r (ol_r (ol_l (ol_r (ol_l (ol_l h))))))))
  | 6, _ => (ol_r (ol_l (ol_r (ol_r (ol_l (ol_r (ol_l (ol_l h))))))))
  | 7, _ => (ol_l (ol_r (ol_r (ol_r (ol_l (ol_r (ol_l (ol_l h))))))))
  | 8, _ => (ol_l (ol_r (ol_r (ol_r (ol_r (ol_l (ol_r (ol_l (ol_l h)))))))))
  | 9, _ => (ol_r (ol_r (ol_r (ol_r (ol_r (ol_l (ol_r (ol_l (ol_l h)))))))))
  | 10, _ => (ol_l (ol_l (ol_l (ol_l (ol_r (ol_r (ol_l (ol_l h))))))))
  | 11, _ => (ol_r (ol_l (ol_l (ol_l (ol_r (ol_r (ol_l (ol_l h))))))))
  | 12, _ => (ol_l (ol_r (ol_l (ol_l (ol_r (ol_r (ol_l (ol_l h))))))))
  | 13, _ => (ol_l (ol_r (ol_r (ol_l (ol_l (ol_r (ol_r (ol_l (ol_l h)))))))))
  | 14, _ => (ol_r (ol_r (ol_r (ol_l (ol_l (ol_r (ol_r (ol_l (ol_l h)))))))))
  | 15, _ => (ol_l (ol_l (ol_r (ol_l (ol_r (ol_r (ol_l (ol_l h))))))))
  | 16, _ => (ol_r (ol_l (ol_r (ol_l (ol_r (ol_r (ol_l (ol_l h))))))))
  | 17, _ => (ol_l (ol_r (ol_r (ol_l (ol_r (ol_r (ol_l (ol_l h))))))))
  | j + 18, hj => absurd hj (by omega)
set_option maxRecDepth 100000 in
theorem ol_el_13 {args : Array Value} {s : State} (h : narrow_1.before args s = true) : ∀ j, j < 19 → (Cond.eq (.elem (.field (Term.string "OneTreeTours$Reader" 137) "java/lang/String" "value" "[B") (.int (Int32.ofNat j))) (.int ((oc_sb.getD 13 []).getD j 0))).before args s = true := fun j hj => match j, hj with
  | 0, _ => (ol_l (ol_l (ol_r (ol_l (ol_r (ol_l (ol_l (ol_l h))))))))
  | 1, _ => (ol_r (ol_l (ol_r (ol_l (ol_r (ol_l (ol_l (ol_l h))))))))
  | 2, _ => (ol_l (ol_r (ol_r (ol_l (ol_r (ol_l (ol_l (ol_l h))))))))
  | 3, _ => (ol_l (ol_r (ol_r (ol_r (ol_l (ol_r (ol_l (ol_l (ol_l h)))))))))
  | 4, _ => (ol_r (ol_r (ol_r (ol_r (ol_l (ol_r (ol_l (ol_l (ol_l h)))))))))
  | 5, _ => (ol_l (ol_l (ol_l (ol_r (ol_r (ol_l (ol_l (ol_l h))))))))
  | 6, _ => (ol_r (ol_l (ol_l (ol_r (ol_r (ol_l (ol_l (ol_l h))))))))
  | 7, _ => (ol_l (ol_r (ol_l (ol_r (ol_r (ol_l (ol_l (ol_l h))))))))
  | 8, _ => (ol_l (ol_r (ol_r (ol_l (ol_r (ol_r (ol_l (ol_l (ol_l h)))))))))
  | 9, _ => (ol_r (ol_r (ol_r (ol_l (ol_r (ol_r (ol_l (ol_l (ol_l h)))))))))
  | 10, _ => (ol_l (ol_l (ol_r (ol_r (ol_r (ol_l (ol_l (ol_l h))))))))
  | 11, _ => (ol_r (ol_l (ol_r (ol_r (ol_r (ol_l (ol_l (ol_l h))))))))
  | 12, _ => (ol_l (ol_r (ol_r (ol_r (ol_r (ol_l (ol_l (ol_l h))))))))
  | 13, _ => (ol_l (ol_r (ol_r (ol_r (ol_r (ol_r (ol_l (ol_l (ol_l h)))))))))
  | 14, _ => (ol_r (ol_r (ol_r (ol_r (ol_r (ol_r (ol_l (ol_l (ol_l h)))))))))
  | 15, _ => (ol_l (ol_l (ol_l (ol_l (ol_l (ol_r (ol_l (ol_l h))))))))
  | 16, _ => (ol_r (ol_l (ol_l (ol_l (ol_l (ol_r (ol_l (ol_l h))))))))
  | 17, _ => (ol_l (ol_r (ol_l (ol_l (ol_l (ol_r (ol_l (ol_l h))))))))
  | 18, _ => (ol_r (ol_r (ol_l (ol_l (ol_l (ol_r (ol_l (ol_l h))))))))
  | j + 19, hj => absurd hj (by omega)
set_option maxRecDepth 100000 in
theorem ol_ne_0 {args : Array Value} {s : State} (h : narrow_1.before args s = true) : ∀ j, j < 14 → 0 ≠ j → (Cond.not (Cond.eq (Term.string "OneTreeTours$Reader" 145) (Term.string "OneTreeTours$Reader" (oc_six.getD j 0)))).before args s = true ∨ (Cond.not (Cond.eq (Term.string "OneTreeTours$Reader" (oc_six.getD j 0)) (Term.string "OneTreeTours$Reader" 145))).before args s = true := fun j hj hn => match j, hj, hn with
  | 0, _, hn => absurd rfl hn
  | 1, _, _ => Or.inr (ol_l (ol_r (ol_r (ol_l (ol_r (ol_r (ol_r (ol_r h))))))))
  | 2, _, _ => Or.inr (ol_l (ol_l (ol_l (ol_r (ol_r (ol_r (ol_r (ol_r h))))))))
  | 3, _, _ => Or.inr (ol_r (ol_l (ol_l (ol_r (ol_r (ol_r (ol_r (ol_r h))))))))
  | 4, _, _ => Or.inr (ol_r (ol_l (ol_r (ol_r (ol_r (ol_r (ol_r (ol_r h))))))))
  | 5, _, _ => Or.inr (ol_l (ol_r (ol_r (ol_r (ol_r (ol_r (ol_r (ol_r h))))))))
  | 6, _, _ => Or.inr (ol_l (ol_r (ol_r (ol_r (ol_r (ol_r (ol_r (ol_r (ol_r h)))))))))
  | 7, _, _ => Or.inr (ol_r (ol_r (ol_r (ol_r (ol_r (ol_r (ol_r (ol_r (ol_r h)))))))))
  | 8, _, _ => Or.inr (ol_l (ol_r (ol_l (ol_r (ol_r (ol_r (ol_r (ol_r h))))))))
  | 9, _, _ => Or.inr (ol_l (ol_r (ol_r (ol_l (ol_r (ol_r (ol_r (ol_r (ol_r h)))))))))
  | 10, _, _ => Or.inr (ol_r (ol_r (ol_r (ol_l (ol_r (ol_r (ol_r (ol_r (ol_r h)))))))))
  | 11, _, _ => Or.inr (ol_l (ol_l (ol_r (ol_r (ol_r (ol_r (ol_r (ol_r h))))))))
  | 12, _, _ => Or.inr (ol_r (ol_r (ol_r (ol_r (ol_l (ol_r (ol_r (ol_r (ol_r h)))))))))
  | 13, _, _ => Or.inr (ol_l (ol_r (ol_r (ol_r (ol_l (ol_r (ol_r (ol_r (ol_r h)))))))))
  | j + 14, hj, _ => absurd hj (by omega)
set_option maxRecDepth 100000 in
theorem ol_ne_1 {args : Array Value} {s : State} (h : narrow_1.before args s = true) : ∀ j, j < 14 → 1 ≠ j → (Cond.not (Cond.eq (Term.string "OneTreeTours$Reader" 88) (Term.string "OneTreeTours$Reader" (oc_six.getD j 0)))).before args s = true ∨ (Cond.not (Cond.eq (Term.string "OneTreeTours$Reader" (oc_six.getD j 0)) (Term.string "OneTreeTours$Reader" 88))).before args s = true := fun j hj hn => match j, hj, hn with
  | 0, _, _ => Or.inl (ol_l (ol_r (ol_r (ol_l (ol_r (ol_r (ol_r (ol_r h))))))))
  | 1, _, hn => absurd rfl hn
  | 2, _, _ => Or.inl (ol_l (ol_l (ol_r (ol_l (ol_l (ol_l (ol_r (ol_l h))))))))
  | 3, _, _ => Or.inl (ol_l (ol_l (ol_l (ol_r (ol_r (ol_l (ol_r (ol_l h))))))))
  | 4, _, _ => Or.inl (ol_l (ol_l (ol_l (ol_r (ol_l (ol_r (ol_l (ol_r h))))))))
  | 5, _, _ => Or.inl (ol_r (ol_r (ol_r (ol_l (ol_r (ol_r (ol_r (ol_l (ol_r h)))))))))
  | 6, _, _ => Or.inl (ol_l (ol_r (ol_r (ol_r (ol_r (ol_l (ol_l (ol_r (ol_r h)))))))))
  | 7, _, _ => Or.inl (ol_l (ol_r (ol_r (ol_r (ol_l (ol_l (ol_r (ol_r (ol_r h)))))))))
  | 8, _, _ => Or.inl (ol_l (ol_r (ol_r (ol_l (ol_l (ol_r (ol_r (ol_l h))))))))
  | 9, _, _ => Or.inl (ol_l (ol_r (ol_l (ol_l (ol_r (ol_r (ol_r (ol_l h))))))))
  | 10, _, _ => Or.inl (ol_r (ol_r (ol_r (ol_r (ol_r (ol_r (ol_r (ol_r (ol_l h)))))))))
  | 11, _, _ => Or.inl (ol_l (ol_r (ol_r (ol_r (ol_l (ol_l (ol_l (ol_r h))))))))
  | 12, _, _ => Or.inl (ol_l (ol_r (ol_r (ol_r (ol_l (ol_r (ol_r (ol_l (ol_l h)))))))))
  | 13, _, _ => Or.inl (ol_l (ol_l (ol_r (ol_l (ol_l (ol_r (ol_l (ol_l h))))))))
  | j + 14, hj, _ => absurd hj (by omega)
set_option maxRecDepth 100000 in
theorem ol_ne_2 {args : Array Value} {s : State} (h : narrow_1.before args s = true) : ∀ j, j < 14 → 2 ≠ j → (Cond.not (Cond.eq (Term.string "OneTreeTours$Reader" 100) (Term.string "OneTreeTours$Reader" (oc_six.getD j 0)))).before args s = true ∨ (Cond.not (Cond.eq (Term.string "OneTreeTours$Reader" (oc_six.getD j 0)) (Term.string "OneTreeTours$Reader" 100))).before args s = true := fun j hj hn => match j, hj, hn with
  | 0, _, _ => Or.inl (ol_l (ol_l (ol_l (ol_r (ol_r (ol_r (ol_r (ol_r h))))))))
  | 1, _, _ => Or.inr (ol_l (ol_l (ol_r (ol_l (ol_l (ol_l (ol_r (ol_l h))))))))
  | 2, _, hn => absurd rfl hn
  | 3, _, _ => Or.inl (ol_l (ol_r (ol_r (ol_l (ol_r (ol_r (ol_l (ol_r (ol_l h)))))))))
  | 4, _, _ => Or.inl (ol_l (ol_r (ol_r (ol_l (ol_r (ol_l (ol_r (ol_l (ol_r h)))))))))
  | 5, _, _ => Or.inl (ol_l (ol_r (ol_r (ol_r (ol_r (ol_r (ol_l (ol_r h))))))))
  | 6, _, _ => Or.inl (ol_r (ol_l (ol_l (ol_l (ol_r (ol_l (ol_r (ol_r h))))))))
  | 7, _, _ => Or.inl (ol_r (ol_l (ol_l (ol_r (ol_l (ol_r (ol_r (ol_r h))))))))
  | 8, _, _ => Or.inl (ol_l (ol_l (ol_l (ol_r (ol_l (ol_r (ol_r (ol_l h))))))))
  | 9, _, _ => Or.inl (ol_l (ol_l (ol_r (ol_l (ol_r (ol_r (ol_r (ol_l h))))))))
  | 10, _, _ => Or.inl (ol_l (ol_r (ol_l (ol_l (ol_l (ol_l (ol_l (ol_r h))))))))
  | 11, _, _ => Or.inl (ol_l (ol_l (ol_l (ol_l (ol_r (ol_l (ol_l (ol_r h))))))))
  | 12, _, _ => Or.inr (ol_l (ol_r (ol_r (ol_l (ol_l (ol_l (ol_r (ol_l h))))))))
  | 13, _, _ => Or.inr (ol_r (ol_l (ol_r (ol_l (ol_l (ol_l (ol_r (ol_l h))))))))
  | j + 14, hj, _ => absurd hj (by omega)
set_option maxRecDepth 100000 in
theorem ol_ne_3 {args : Array Value} {s : State} (h : narrow_1.before args s = true) : ∀ j, j < 14 → 3 ≠ j → (Cond.not (Cond.eq (Term.string "OneTreeTours$Reader" 109) (Term.string "OneTreeTours$Reader" (oc_six.getD j 0)))).before args s = true ∨ (Cond.not (Cond.eq (Term.string "OneTreeTours$Reader" (oc_six.getD j 0)) (Term.string "OneTreeTours$Reader" 109))).before args s = true := fun j hj hn => match j, hj, hn with
  | 0, _, _ => Or.inl (ol_r (ol_l (ol_l (ol_r (ol_r (ol_r (ol_r (ol_r h))))))))
  | 1, _, _ => Or.inr (ol_l (ol_l (ol_l (ol_r (ol_r (ol_l (ol_r (ol_l h))))))))
  | 2, _, _ => Or.inr (ol_l (ol_r (ol_r (ol_l (ol_r (ol_r (ol_l (ol_r (ol_l h)))))))))
  | 3, _, hn => absurd rfl hn
  | 4, _, _ => Or.inl (ol_r (ol_r (ol_r (ol_l (ol_r (ol_l (ol_r (ol_l (ol_r h)))))))))
  | 5, _, _ => Or.inl (ol_l (ol_r (ol_r (ol_r (ol_r (ol_r (ol_r (ol_l (ol_r h)))))))))
  | 6, _, _ => Or.inl (ol_l (ol_r (ol_l (ol_l (ol_r (ol_l (ol_r (ol_r h))))))))
  | 7, _, _ => Or.inl (ol_l (ol_r (ol_l (ol_r (ol_l (ol_r (ol_r (ol_r h))))))))
  | 8, _, _ => Or.inl (ol_r (ol_l (ol_l (ol_r (ol_l (ol_r (ol_r (ol_l h))))))))
  | 9, _, _ => Or.inl (ol_r (ol_l (ol_r (ol_l (ol_r (ol_r (ol_r (ol_l h))))))))
  | 10, _, _ => Or.inl (ol_r (ol_r (ol_l (ol_l (ol_l (ol_l (ol_l (ol_r h))))))))
  | 11, _, _ => Or.inl (ol_r (ol_l (ol_l (ol_l (ol_r (ol_l (ol_l (ol_r h))))))))
  | 12, _, _ => Or.inr (ol_l (ol_r (ol_l (ol_r (ol_r (ol_l (ol_r (ol_l h))))))))
  | 13, _, _ => Or.inr (ol_r (ol_l (ol_l (ol_r (ol_r (ol_l (ol_r (ol_l h))))))))
  | j + 14, hj, _ => absurd hj (by omega)
set_option maxRecDepth 100000 in
theorem ol_ne_4 {args : Array Value} {s : State} (h : narrow_1.before args s = true) : ∀ j, j < 14 → 4 ≠ j → (Cond.not (Cond.eq (Term.string "OneTreeTours$Reader" 114) (Term.string "OneTreeTours$Reader" (oc_six.getD j 0)))).before args s = true ∨ (Cond.not (Cond.eq (Term.string "OneTreeTours$Reader" (oc_six.getD j 0)) (Term.string "OneTreeTours$Reader" 114))).before args s = true := fun j hj hn => match j, hj, hn with
  | 0, _, _ => Or.inl (ol_r (ol_l (ol_r (ol_r (ol_r (ol_r (ol_r (ol_r h))))))))
  | 1, _, _ => Or.inr (ol_l (ol_l (ol_l (ol_r (ol_l (ol_r (ol_l (ol_r h))))))))
  | 2, _, _ => Or.inr (ol_l (ol_r (ol_r (ol_l (ol_r (ol_l (ol_r (ol_l (ol_r h)))))))))
  | 3, _, _ => Or.inr (ol_r (ol_r (ol_r (ol_l (ol_r (ol_l (ol_r (ol_l (ol_r h)))))))))
  | 4, _, hn => absurd rfl hn
  | 5, _, _ => Or.inl (ol_r (ol_r (ol_l (ol_l (ol_l (ol_l (ol_r (ol_r h))))))))
  | 6, _, _ => Or.inl (ol_l (ol_r (ol_r (ol_l (ol_r (ol_l (ol_r (ol_r h))))))))
  | 7, _, _ => Or.inl (ol_l (ol_r (ol_r (ol_r (ol_l (ol_r (ol_r (ol_r h))))))))
  | 8, _, _ => Or.inr (ol_l (ol_l (ol_r (ol_r (ol_l (ol_r (ol_l (ol_r h))))))))
  | 9, _, _ => Or.inr (ol_r (ol_l (ol_r (ol_r (ol_l (ol_r (ol_l (ol_r h))))))))
  | 10, _, _ => Or.inr (ol_l (ol_r (ol_r (ol_r (ol_l (ol_r (ol_l (ol_r h))))))))
  | 11, _, _ => Or.inr (ol_l (ol_r (ol_r (ol_r (ol_r (ol_l (ol_r (ol_l (ol_r h)))))))))
  | 12, _, _ => Or.inr (ol_l (ol_r (ol_l (ol_r (ol_l (ol_r (ol_l (ol_r h))))))))
  | 13, _, _ => Or.inr (ol_r (ol_l (ol_l (ol_r (ol_l (ol_r (ol_l (ol_r h))))))))
  | j + 14, hj, _ => absurd hj (by omega)
set_option maxRecDepth 100000 in
theorem ol_ne_5 {args : Array Value} {s : State} (h : narrow_1.before args s = true) : ∀ j, j < 14 → 5 ≠ j → (Cond.not (Cond.eq (Term.string "OneTreeTours$Reader" 131) (Term.string "OneTreeTours$Reader" (oc_six.getD j 0)))).before args s = true ∨ (Cond.not (Cond.eq (Term.string "OneTreeTours$Reader" (oc_six.getD j 0)) (Term.string "OneTreeTours$Reader" 131))).before args s = true := fun j hj hn => match j, hj, hn with
  | 0, _, _ => Or.inl (ol_l (ol_r (ol_r (ol_r (ol_r (ol_r (ol_r (ol_r h))))))))
  | 1, _, _ => Or.inr (ol_r (ol_r (ol_r (ol_l (ol_r (ol_r (ol_r (ol_l (ol_r h)))))))))
  | 2, _, _ => Or.inr (ol_l (ol_r (ol_r (ol_r (ol_r (ol_r (ol_l (ol_r h))))))))
  | 3, _, _ => Or.inr (ol_l (ol_r (ol_r (ol_r (ol_r (ol_r (ol_r (ol_l (ol_r h)))))))))
  | 4, _, _ => Or.inr (ol_r (ol_r (ol_l (ol_l (ol_l (ol_l (ol_r (ol_r h))))))))
  | 5, _, hn => absurd rfl hn
  | 6, _, _ => Or.inl (ol_l (ol_r (ol_r (ol_r (ol_l (ol_r (ol_l (ol_r (ol_r h)))))))))
  | 7, _, _ => Or.inl (ol_l (ol_r (ol_r (ol_r (ol_r (ol_l (ol_r (ol_r (ol_r h)))))))))
  | 8, _, _ => Or.inr (ol_r (ol_r (ol_r (ol_r (ol_r (ol_r (ol_r (ol_l (ol_r h)))))))))
  | 9, _, _ => Or.inr (ol_l (ol_l (ol_l (ol_l (ol_l (ol_l (ol_r (ol_r h))))))))
  | 10, _, _ => Or.inr (ol_r (ol_l (ol_l (ol_l (ol_l (ol_l (ol_r (ol_r h))))))))
  | 11, _, _ => Or.inr (ol_l (ol_r (ol_l (ol_l (ol_l (ol_l (ol_r (ol_r h))))))))
  | 12, _, _ => Or.inr (ol_r (ol_l (ol_r (ol_r (ol_r (ol_r (ol_l (ol_r h))))))))
  | 13, _, _ => Or.inr (ol_l (ol_l (ol_r (ol_r (ol_r (ol_r (ol_l (ol_r h))))))))
  | j + 14, hj, _ => absurd hj (by omega)
set_option maxRecDepth 100000 in
theorem ol_ne_6 {args : Array Value} {s : State} (h : narrow_1.before args s = true) : ∀ j, j < 14 → 6 ≠ j → (Cond.not (Cond.eq (Term.string "OneTreeTours$Reader" 133) (Term.string "OneTreeTours$Reader" (oc_six.getD j 0)))).before args s = true ∨ (Cond.not (Cond.eq (Term.string "OneTreeTours$Reader" (oc_six.getD j 0)) (Term.string "OneTreeTours$Reader" 133))).before args s = true := fun j hj hn => match j, hj, hn with
  | 0, _, _ => Or.inl (ol_l (ol_r (ol_r (ol_r (ol_r (ol_r (ol_r (ol_r (ol_r h)))))))))
  | 1, _, _ => Or.inr (ol_l (ol_r (ol_r (ol_r (ol_r (ol_l (ol_l (ol_r (ol_r h)))))))))
  | 2, _, _ => Or.inr (ol_r (ol_l (ol_l (ol_l (ol_r (ol_l (ol_r (ol_r h))))))))
  | 3, _, _ => Or.inr (ol_l (ol_r (ol_l (ol_l (ol_r (ol_l (ol_r (ol_r h))))))))
  | 4, _, _ => Or.inr (ol_l (ol_r (ol_r (ol_l (ol_r (ol_l (ol_r (ol_r h))))))))
  | 5, _, _ => Or.inr (ol_l (ol_r (ol_r (ol_r (ol_l (ol_r (ol_l (ol_r (ol_r h)))))))))
  | 6, _, hn => absurd rfl hn
  | 7, _, _ => Or.inl (ol_r (ol_r (ol_r (ol_r (ol_r (ol_l (ol_r (ol_r (ol_r h)))))))))
  | 8, _, _ => Or.inr (ol_l (ol_r (ol_r (ol_l (ol_l (ol_r (ol_l (ol_r (ol_r h)))))))))
  | 9, _, _ => Or.inr (ol_r (ol_r (ol_r (ol_l (ol_l (ol_r (ol_l (ol_r (ol_r h)))))))))
  | 10, _, _ => Or.inr (ol_l (ol_l (ol_r (ol_l (ol_r (ol_l (ol_r (ol_r h))))))))
  | 11, _, _ => Or.inr (ol_r (ol_l (ol_r (ol_l (ol_r (ol_l (ol_r (ol_r h))))))))
  | 12, _, _ => Or.inr (ol_l (ol_l (ol_l (ol_l (ol_r (ol_l (ol_r (ol_r h))))))))
  | 13, _, _ => Or.inr (ol_r (ol_r (ol_r (ol_r (ol_r (ol_l (ol_l (ol_r (ol_r h)))))))))
  | j + 14, hj, _ => absurd hj (by omega)
set_option maxRecDepth 100000 in
theorem ol_ne_7 {args : Array Value} {s : State} (h : narrow_1.before args s = true) : ∀ j, j < 14 → 7 ≠ j → (Cond.not (Cond.eq (Term.string "OneTreeTours$Reader" 135) (Term.string "OneTreeTours$Reader" (oc_six.getD j 0)))).before args s = true ∨ (Cond.not (Cond.eq (Term.string "OneTreeTours$Reader" (oc_six.getD j 0)) (Term.string "OneTreeTours$Reader" 135))).before args s = true := fun j hj hn => match j, hj, hn with
  | 0, _, _ => Or.inl (ol_r (ol_r (ol_r (ol_r (ol_r (ol_r (ol_r (ol_r (ol_r h)))))))))
  | 1, _, _ => Or.inr (ol_l (ol_r (ol_r (ol_r (ol_l (ol_l (ol_r (ol_r (ol_r h)))))))))
  | 2, _, _ => Or.inr (ol_r (ol_l (ol_l (ol_r (ol_l (ol_r (ol_r (ol_r h))))))))
  | 3, _, _ => Or.inr (ol_l (ol_r (ol_l (ol_r (ol_l (ol_r (ol_r (ol_r h))))))))
  | 4, _, _ => Or.inr (ol_l (ol_r (ol_r (ol_r (ol_l (ol_r (ol_r (ol_r h))))))))
  | 5, _, _ => Or.inr (ol_l (ol_r (ol_r (ol_r (ol_r (ol_l (ol_r (ol_r (ol_r h)))))))))
  | 6, _, _ => Or.inr (ol_r (ol_r (ol_r (ol_r (ol_r (ol_l (ol_r (ol_r (ol_r h)))))))))
  | 7, _, hn => absurd rfl hn
  | 8, _, _ => Or.inr (ol_l (ol_r (ol_r (ol_l (ol_r (ol_l (ol_r (ol_r (ol_r h)))))))))
  | 9, _, _ => Or.inr (ol_r (ol_r (ol_r (ol_l (ol_r (ol_l (ol_r (ol_r (ol_r h)))))))))
  | 10, _, _ => Or.inr (ol_l (ol_l (ol_r (ol_r (ol_l (ol_r (ol_r (ol_r h))))))))
  | 11, _, _ => Or.inr (ol_r (ol_l (ol_r (ol_r (ol_l (ol_r (ol_r (ol_r h))))))))
  | 12, _, _ => Or.inr (ol_l (ol_l (ol_l (ol_r (ol_l (ol_r (ol_r (ol_r h))))))))
  | 13, _, _ => Or.inr (ol_r (ol_r (ol_r (ol_r (ol_l (ol_l (ol_r (ol_r (ol_r h)))))))))
  | j + 14, hj, _ => absurd hj (by omega)
set_option maxRecDepth 100000 in
theorem ol_ne_8 {args : Array Value} {s : State} (h : narrow_1.before args s = true) : ∀ j, j < 14 → 8 ≠ j → (Cond.not (Cond.eq (Term.string "OneTreeTours$Reader" 123) (Term.string "OneTreeTours$Reader" (oc_six.getD j 0)))).before args s = true ∨ (Cond.not (Cond.eq (Term.string "OneTreeTours$Reader" (oc_six.getD j 0)) (Term.string "OneTreeTours$Reader" 123))).before args s = true := fun j hj hn => match j, hj, hn with
  | 0, _, _ => Or.inl (ol_l (ol_r (ol_l (ol_r (ol_r (ol_r (ol_r (ol_r h))))))))
  | 1, _, _ => Or.inr (ol_l (ol_r (ol_r (ol_l (ol_l (ol_r (ol_r (ol_l h))))))))
  | 2, _, _ => Or.inr (ol_l (ol_l (ol_l (ol_r (ol_l (ol_r (ol_r (ol_l h))))))))
  | 3, _, _ => Or.inr (ol_r (ol_l (ol_l (ol_r (ol_l (ol_r (ol_r (ol_l h))))))))
  | 4, _, _ => Or.inl (ol_l (ol_l (ol_r (ol_r (ol_l (ol_r (ol_l (ol_r h))))))))
  | 5, _, _ => Or.inl (ol_r (ol_r (ol_r (ol_r (ol_r (ol_r (ol_r (ol_l (ol_r h)))))))))
  | 6, _, _ => Or.inl (ol_l (ol_r (ol_r (ol_l (ol_l (ol_r (ol_l (ol_r (ol_r h)))))))))
  | 7, _, _ => Or.inl (ol_l (ol_r (ol_r (ol_l (ol_r (ol_l (ol_r (ol_r (ol_r h)))))))))
  | 8, _, hn => absurd rfl hn
  | 9, _, _ => Or.inl (ol_l (ol_r (ol_r (ol_l (ol_r (ol_r (ol_r (ol_l h))))))))
  | 10, _, _ => Or.inl (ol_l (ol_l (ol_r (ol_l (ol_l (ol_l (ol_l (ol_r h))))))))
  | 11, _, _ => Or.inl (ol_l (ol_r (ol_l (ol_l (ol_r (ol_l (ol_l (ol_r h))))))))
  | 12, _, _ => Or.inr (ol_r (ol_r (ol_r (ol_r (ol_l (ol_l (ol_r (ol_r (ol_l h)))))))))
  | 13, _, _ => Or.inr (ol_l (ol_r (ol_r (ol_r (ol_l (ol_l (ol_r (ol_r (ol_l h)))))))))
  | j + 14, hj, _ => absurd hj (by omega)
set_option maxRecDepth 100000 in
theorem ol_ne_9 {args : Array Value} {s : State} (h : narrow_1.before args s = true) : ∀ j, j < 14 → 9 ≠ j → (Cond.not (Cond.eq (Term.string "OneTreeTours$Reader" 125) (Term.string "OneTreeTours$Reader" (oc_six.getD j 0)))).before args s = true ∨ (Cond.not (Cond.eq (Term.string "OneTreeTours$Reader" (oc_six.getD j 0)) (Term.string "OneTreeTours$Reader" 125))).before args s = true := fun j hj hn => match j, hj, hn with
  | 0, _, _ => Or.inl (ol_l (ol_r (ol_r (ol_l (ol_r (ol_r (ol_r (ol_r (ol_r h)))))))))
  | 1, _, _ => Or.inr (ol_l (ol_r (ol_l (ol_l (ol_r (ol_r (ol_r (ol_l h))))))))
  | 2, _, _ => Or.inr (ol_l (ol_l (ol_r (ol_l (ol_r (ol_r (ol_r (ol_l h))))))))
  | 3, _, _ => Or.inr (ol_r (ol_l (ol_r (ol_l (ol_r (ol_r (ol_r (ol_l h))))))))
  | 4, _, _ => Or.inl (ol_r (ol_l (ol_r (ol_r (ol_l (ol_r (ol_l (ol_r h))))))))
  | 5, _, _ => Or.inl (ol_l (ol_l (ol_l (ol_l (ol_l (ol_l (ol_r (ol_r h))))))))
  | 6, _, _ => Or.inl (ol_r (ol_r (ol_r (ol_l (ol_l (ol_r (ol_l (ol_r (ol_r h)))))))))
  | 7, _, _ => Or.inl (ol_r (ol_r (ol_r (ol_l (ol_r (ol_l (ol_r (ol_r (ol_r h)))))))))
  | 8, _, _ => Or.inr (ol_l (ol_r (ol_r (ol_l (ol_r (ol_r (ol_r (ol_l h))))))))
  | 9, _, hn => absurd rfl hn
  | 10, _, _ => Or.inl (ol_r (ol_l (ol_r (ol_l (ol_l (ol_l (ol_l (ol_r h))))))))
  | 11, _, _ => Or.inl (ol_r (ol_r (ol_l (ol_l (ol_r (ol_l (ol_l (ol_r h))))))))
  | 12, _, _ => Or.inr (ol_r (ol_r (ol_r (ol_l (ol_l (ol_r (ol_r (ol_r (ol_l h)))))))))
  | 13, _, _ => Or.inr (ol_l (ol_r (ol_r (ol_l (ol_l (ol_r (ol_r (ol_r (ol_l h)))))))))
  | j + 14, hj, _ => absurd hj (by omega)
set_option maxRecDepth 100000 in
theorem ol_ne_10 {args : Array Value} {s : State} (h : narrow_1.before args s = true) : ∀ j, j < 14 → 10 ≠ j → (Cond.not (Cond.eq (Term.string "OneTreeTours$Reader" 127) (Term.string "OneTreeTours$Reader" (oc_six.getD j 0)))).before args s = true ∨ (Cond.not (Cond.eq (Term.string "OneTreeTours$Reader" (oc_six.getD j 0)) (Term.string "OneTreeTours$Reader" 127))).before args s = true := fun j hj hn => match j, hj, hn with
  | 0, _, _ => Or.inl (ol_r (ol_r (ol_r (ol_l (ol_r (ol_r (ol_r (ol_r (ol_r h)))))))))
  | 1, _, _ => Or.inr (ol_r (ol_r (ol_r (ol_r (ol_r (ol_r (ol_r (ol_r (ol_l h)))))))))
  | 2, _, _ => Or.inr (ol_l (ol_r (ol_l (ol_l (ol_l (ol_l (ol_l (ol_r h))))))))
  | 3, _, _ => Or.inr (ol_r (ol_r (ol_l (ol_l (ol_l (ol_l (ol_l (ol_r h))))))))
  | 4, _, _ => Or.inl (ol_l (ol_r (ol_r (ol_r (ol_l (ol_r (ol_l (ol_r h))))))))
  | 5, _, _ => Or.inl (ol_r (ol_l (ol_l (ol_l (ol_l (ol_l (ol_r (ol_r h))))))))
  | 6, _, _ => Or.inl (ol_l (ol_l (ol_r (ol_l (ol_r (ol_l (ol_r (ol_r h))))))))
  | 7, _, _ => Or.inl (ol_l (ol_l (ol_r (ol_r (ol_l (ol_r (ol_r (ol_r h))))))))
  | 8, _, _ => Or.inr (ol_l (ol_l (ol_r (ol_l (ol_l (ol_l (ol_l (ol_r h))))))))
  | 9, _, _ => Or.inr (ol_r (ol_l (ol_r (ol_l (ol_l (ol_l (ol_l (ol_r h))))))))
  | 10, _, hn => absurd rfl hn
  | 11, _, _ => Or.inl (ol_l (ol_l (ol_r (ol_l (ol_r (ol_l (ol_l (ol_r h))))))))
  | 12, _, _ => Or.inr (ol_r (ol_l (ol_l (ol_l (ol_l (ol_l (ol_l (ol_r h))))))))
  | 13, _, _ => Or.inr (ol_l (ol_l (ol_l (ol_l (ol_l (ol_l (ol_l (ol_r h))))))))
  | j + 14, hj, _ => absurd hj (by omega)
set_option maxRecDepth 100000 in
theorem ol_ne_11 {args : Array Value} {s : State} (h : narrow_1.before args s = true) : ∀ j, j < 14 → 11 ≠ j → (Cond.not (Cond.eq (Term.string "OneTreeTours$Reader" 129) (Term.string "OneTreeTours$Reader" (oc_six.getD j 0)))).before args s = true ∨ (Cond.not (Cond.eq (Term.string "OneTreeTours$Reader" (oc_six.getD j 0)) (Term.string "OneTreeTours$Reader" 129))).before args s = true := fun j hj hn => match j, hj, hn with
  | 0, _, _ => Or.inl (ol_l (ol_l (ol_r (ol_r (ol_r (ol_r (ol_r (ol_r h))))))))
  | 1, _, _ => Or.inr (ol_l (ol_r (ol_r (ol_r (ol_l (ol_l (ol_l (ol_r h))))))))
  | 2, _, _ => Or.inr (ol_l (ol_l (ol_l (ol_l (ol_r (ol_l (ol_l (ol_r h))))))))
  | 3, _, _ => Or.inr (ol_r (ol_l (ol_l (ol_l (ol_r (ol_l (ol_l (ol_r h))))))))
  | 4, _, _ => Or.inl (ol_l (ol_r (ol_r (ol_r (ol_r (ol_l (ol_r (ol_l (ol_r h)))))))))
  | 5, _, _ => Or.inl (ol_l (ol_r (ol_l (ol_l (ol_l (ol_l (ol_r (ol_r h))))))))
  | 6, _, _ => Or.inl (ol_r (ol_l (ol_r (ol_l (ol_r (ol_l (ol_r (ol_r h))))))))
  | 7, _, _ => Or.inl (ol_r (ol_l (ol_r (ol_r (ol_l (ol_r (ol_r (ol_r h))))))))
  | 8, _, _ => Or.inr (ol_l (ol_r (ol_l (ol_l (ol_r (ol_l (ol_l (ol_r h))))))))
  | 9, _, _ => Or.inr (ol_r (ol_r (ol_l (ol_l (ol_r (ol_l (ol_l (ol_r h))))))))
  | 10, _, _ => Or.inr (ol_l (ol_l (ol_r (ol_l (ol_r (ol_l (ol_l (ol_r h))))))))
  | 11, _, hn => absurd rfl hn
  | 12, _, _ => Or.inr (ol_r (ol_r (ol_r (ol_r (ol_r (ol_l (ol_l (ol_l (ol_r h)))))))))
  | 13, _, _ => Or.inr (ol_l (ol_r (ol_r (ol_r (ol_r (ol_l (ol_l (ol_l (ol_r h)))))))))
  | j + 14, hj, _ => absurd hj (by omega)
set_option maxRecDepth 100000 in
theorem ol_ne_12 {args : Array Value} {s : State} (h : narrow_1.before args s = true) : ∀ j, j < 14 → 12 ≠ j → (Cond.not (Cond.eq (Term.string "OneTreeTours$Reader" 139) (Term.string "OneTreeTours$Reader" (oc_six.getD j 0)))).before args s = true ∨ (Cond.not (Cond.eq (Term.string "OneTreeTours$Reader" (oc_six.getD j 0)) (Term.string "OneTreeTours$Reader" 139))).before args s = true := fun j hj hn => match j, hj, hn with
  | 0, _, _ => Or.inl (ol_r (ol_r (ol_r (ol_r (ol_l (ol_r (ol_r (ol_r (ol_r h)))))))))
  | 1, _, _ => Or.inr (ol_l (ol_r (ol_r (ol_r (ol_l (ol_r (ol_r (ol_l (ol_l h)))))))))
  | 2, _, _ => Or.inl (ol_l (ol_r (ol_r (ol_l (ol_l (ol_l (ol_r (ol_l h))))))))
  | 3, _, _ => Or.inl (ol_l (ol_r (ol_l (ol_r (ol_r (ol_l (ol_r (ol_l h))))))))
  | 4, _, _ => Or.inl (ol_l (ol_r (ol_l (ol_r (ol_l (ol_r (ol_l (ol_r h))))))))
  | 5, _, _ => Or.inl (ol_r (ol_l (ol_r (ol_r (ol_r (ol_r (ol_l (ol_r h))))))))
  | 6, _, _ => Or.inl (ol_l (ol_l (ol_l (ol_l (ol_r (ol_l (ol_r (ol_r h))))))))
  | 7, _, _ => Or.inl (ol_l (ol_l (ol_l (ol_r (ol_l (ol_r (ol_r (ol_r h))))))))
  | 8, _, _ => Or.inl (ol_r (ol_r (ol_r (ol_r (ol_l (ol_l (ol_r (ol_r (ol_l h)))))))))
  | 9, _, _ => Or.inl (ol_r (ol_r (ol_r (ol_l (ol_l (ol_r (ol_r (ol_r (ol_l h)))))))))
  | 10, _, _ => Or.inl (ol_r (ol_l (ol_l (ol_l (ol_l (ol_l (ol_l (ol_r h))))))))
  | 11, _, _ => Or.inl (ol_r (ol_r (ol_r (ol_r (ol_r (ol_l (ol_l (ol_l (ol_r h)))))))))
  | 12, _, hn => absurd rfl hn
  | 13, _, _ => Or.inr (ol_r (ol_r (ol_r (ol_r (ol_l (ol_r (ol_r (ol_l (ol_l h)))))))))
  | j + 14, hj, _ => absurd hj (by omega)
set_option maxRecDepth 100000 in
theorem ol_ne_13 {args : Array Value} {s : State} (h : narrow_1.before args s = true) : ∀ j, j < 14 → 13 ≠ j → (Cond.not (Cond.eq (Term.string "OneTreeTours$Reader" 137) (Term.string "OneTreeTours$Reader" (oc_six.getD j 0)))).before args s = true ∨ (Cond.not (Cond.eq (Term.string "OneTreeTours$Reader" (oc_six.getD j 0)) (Term.string "OneTreeTours$Reader" 137))).before args s = true := fun j hj hn => match j, hj, hn with
  | 0, _, _ => Or.inl (ol_l (ol_r (ol_r (ol_r (ol_l (ol_r (ol_r (ol_r (ol_r h)))))))))
  | 1, _, _ => Or.inr (ol_l (ol_l (ol_r (ol_l (ol_l (ol_r (ol_l (ol_l h))))))))
  | 2, _, _ => Or.inl (ol_r (ol_l (ol_r (ol_l (ol_l (ol_l (ol_r (ol_l h))))))))
  | 3, _, _ => Or.inl (ol_r (ol_l (ol_l (ol_r (ol_r (ol_l (ol_r (ol_l h))))))))
  | 4, _, _ => Or.inl (ol_r (ol_l (ol_l (ol_r (ol_l (ol_r (ol_l (ol_r h))))))))
  | 5, _, _ => Or.inl (ol_l (ol_l (ol_r (ol_r (ol_r (ol_r (ol_l (ol_r h))))))))
  | 6, _, _ => Or.inl (ol_r (ol_r (ol_r (ol_r (ol_r (ol_l (ol_l (ol_r (ol_r h)))))))))
  | 7, _, _ => Or.inl (ol_r (ol_r (ol_r (ol_r (ol_l (ol_l (ol_r (ol_r (ol_r h)))))))))
  | 8, _, _ => Or.inl (ol_l (ol_r (ol_r (ol_r (ol_l (ol_l (ol_r (ol_r (ol_l h)))))))))
  | 9, _, _ => Or.inl (ol_l (ol_r (ol_r (ol_l (ol_l (ol_r (ol_r (ol_r (ol_l h)))))))))
  | 10, _, _ => Or.inl (ol_l (ol_l (ol_l (ol_l (ol_l (ol_l (ol_l (ol_r h))))))))
  | 11, _, _ => Or.inl (ol_l (ol_r (ol_r (ol_r (ol_r (ol_l (ol_l (ol_l (ol_r h)))))))))
  | 12, _, _ => Or.inl (ol_r (ol_r (ol_r (ol_r (ol_l (ol_r (ol_r (ol_l (ol_l h)))))))))
  | 13, _, hn => absurd rfl hn
  | j + 14, hj, _ => absurd hj (by omega)
theorem ol_strs {s : State} {args : Array Value} {A : Nat → Prop} (hts : ∀ w ∈ lw_tbl, w.before args s = true) (hg : (Jvm.Cond.and given_1 narrow_1).before args s = true) (hA : ∀ a : Nat, a < s.heap.size → ¬ A a) : ∃ adK adV : Nat → Nat, oc_str adK adV A s s.heap := by
  have hs := flat_of_before _ hg
  have h : narrow_1.before args s = true := ol_r hg
  obtain ⟨adK, adV, h1, h2⟩ := vk_Sof (args := args) (s := s) (N := oc_nS) (tm := fun i => (Term.string "OneTreeTours$Reader" (oc_six.getD i 0))) (len := oc_sl) (byt := oc_sb) (A := A) (by decide)
    (fun i hi => hs _ ((by decide +kernel : ∀ i, i < oc_nS → Cond.exactly (Term.string "OneTreeTours$Reader" (oc_six.getD i 0)) "java/lang/String" ∈ flatC (Jvm.Cond.and given_1 narrow_1)) i hi))
    (fun i hi => hs _ ((by decide +kernel : ∀ i, i < oc_nS → Cond.eq (.field (Term.string "OneTreeTours$Reader" (oc_six.getD i 0)) "java/lang/String" "coder" "B") (.int 0) ∈ flatC (Jvm.Cond.and given_1 narrow_1)) i hi))
    (fun i hi => hs _ ((by decide +kernel : ∀ i, i < oc_nS → Cond.arrayOf (.field (Term.string "OneTreeTours$Reader" (oc_six.getD i 0)) "java/lang/String" "value" "[B") .byte ∈ flatC (Jvm.Cond.and given_1 narrow_1)) i hi))
    (fun i hi => hs _ ((by decide +kernel : ∀ i, i < oc_nS → Cond.eq (.length (.field (Term.string "OneTreeTours$Reader" (oc_six.getD i 0)) "java/lang/String" "value" "[B")) (.int (Int32.ofNat (oc_sl.getD i 0))) ∈ flatC (Jvm.Cond.and given_1 narrow_1)) i hi))
    (fun i hi => match i, hi with | 0, _ => ol_el_0 h | 1, _ => ol_el_1 h | 2, _ => ol_el_2 h | 3, _ => ol_el_3 h | 4, _ => ol_el_4 h | 5, _ => ol_el_5 h | 6, _ => ol_el_6 h | 7, _ => ol_el_7 h | 8, _ => ol_el_8 h | 9, _ => ol_el_9 h | 10, _ => ol_el_10 h | 11, _ => ol_el_11 h | 12, _ => ol_el_12 h | 13, _ => ol_el_13 h | i + 14, hi => absurd hi (by simp [oc_nS]))
    (fun i j hi hj hij => match i, hi, hij with | 0, _, hij => ol_ne_0 h j hj hij | 1, _, hij => ol_ne_1 h j hj hij | 2, _, hij => ol_ne_2 h j hj hij | 3, _, hij => ol_ne_3 h j hj hij | 4, _, hij => ol_ne_4 h j hj hij | 5, _, hij => ol_ne_5 h j hj hij | 6, _, hij => ol_ne_6 h j hj hij | 7, _, hij => ol_ne_7 h j hj hij | 8, _, hij => ol_ne_8 h j hj hij | 9, _, hij => ol_ne_9 h j hj hij | 10, _, hij => ol_ne_10 h j hj hij | 11, _, hij => ol_ne_11 h j hj hij | 12, _, hij => ol_ne_12 h j hj hij | 13, _, hij => ol_ne_13 h j hj hij | i + 14, hi, _ => absurd hi (by simp [oc_nS])) hA
  refine ⟨adK, adV, h1, fun i hi => vk_R.of (hts _ (List.mem_append_right _ ((by decide +kernel : ∀ i, i < oc_nS → Cond.stringRef oR_Reader (oc_six.getD i 0) (oc_stx.getD i "") ∈ tables_1) i hi))) (h2 i hi), ?_, ?_⟩
  · exact va_Zof (hts _ (List.mem_append_right _ (by decide +kernel : Cond.laysStatic "java/lang/String" "COMPACT_STRINGS" "Z" ∈ tables_1))) (hts _ (List.mem_append_right _ (by decide +kernel : Cond.initialized "java/lang/String" ∈ tables_1))) (va_eqi (hs _ (by decide +kernel))) hA
  · exact va_Zqof (hts _ (List.mem_append_right _ (by decide +kernel : Cond.laysStatic "jdk/internal/util/Preconditions" "SIOOBE_FORMATTER" "Ljava/util/function/BiFunction;" ∈ tables_1))) (hts _ (List.mem_append_right _ (by decide +kernel : Cond.initialized "jdk/internal/util/Preconditions" ∈ tables_1))) (hs _ (by decide +kernel)) hA
set_option maxRecDepth 100000 in
set_option maxHeartbeats 16000000 in
theorem ol_start {p : Program} {e : Env} {s : State} {m : MethodId} {below : List Frame} {meth : Method} {c : Code} (l : Launch) {b L : Nat} {xs : Nat → Int32} (hL : L ≤ 2048) (C0 : lw_At p s m meth c b L xs) {Rl : ox_S → ox_S → Prop} (h00 : Rl ol_0 ol_0) (hsim : ol_sim Rl) : W p l e room_1 s m #[Value.ref b] below meth c s.heap [] 0 0 (lw_Z below #[Value.ref b] s) (entryFrame m ([Value.ref b] : List Value).toArray 4) := by
  obtain ⟨hx, hb, hr, hml, hown, hts, hX, hbl, hlk, hgv⟩ := C0
  have B : ox_B p s m #[.ref b] c 4 code "OneTreeToursLaw" ox_ws := ⟨hx, hb, hml, hown, fun w h => hts w (List.mem_filter.mp h).1⟩
  obtain ⟨D, hK⟩ := ol_known B.hts
  have hN := ol_nest hts
  obtain ⟨adK, adV, hstr⟩ := ol_strs (A := fun q => s.heap.size ≤ q) hts hgv (fun a h1 h2 => by omega)
  have F : (∀ q, s.heap.size ≤ q → s.heap.size ≤ q) ∧ ox_nst oz_nest s := ⟨fun q h => h, hN.1⟩
  have key : oz_M p l e room_1 s m #[.ref b] below meth c D (fun q => s.heap.size ≤ q) 4 (lw_Z below #[Value.ref b] s) 0 0 0 [some (.ref b), none, none, none] [] [] [] := by
    refine oz_new B F.1 oin_T oty_T otk_T (fs := [.null, .null, .null, .null, .null, .null, .null]) od_law_0 (ox_t1 18 rfl rfl) (ox_t1 19 rfl rfl) (ox_t1 1 rfl rfl) (ci := 0) rfl (by decide) (Nat.le_of_ble_eq_true rfl) (Nat.le_of_ble_eq_true rfl) (fun h0 => ?_)
    change oz_M p l e room_1 s m #[.ref b] below meth c D (fun q => s.heap.size ≤ q) 4 _ _ _ 3 [some (.ref b), none, none, none] [.ref h0] [(h0, .inr (0, [.null, .null, .null, .null, .null, .null, .null]))] []
    refine ox_dup B od_law_3 rfl ?_
    refine oz_callI B F 0 od_law_4 (As := []) (rest := [.ref h0]) (ct_T_init h0) rfl (ox_t1 22 rfl rfl) (ox_t1 1 rfl rfl) (ox_t1 20 rfl rfl) (ox_t1 21 rfl rfl) ⟨by decide, by decide, by decide +kernel⟩ ⟨rfl, rfl, Nat.le_of_ble_eq_true rfl, Nat.le_of_ble_eq_true rfl⟩ rfl (Nat.le_of_ble_eq_true rfl) rfl ⟨Nat.le_of_ble_eq_true rfl, Nat.le_of_ble_eq_true rfl⟩ (fun ws2 tys2 hE => ?_)
    obtain ⟨q1_T, q1_Text, q2_T, q1_Reader, q2_Reader, q3_Reader, q4_Reader, q1_Line, q2_Line, q3_T, q1_Land, q2_Land, q3_Land, q4_Land, q5_Land, q4_T, q1_OneTree, q2_OneTree, q5_T, q1_TourList, q2_TourList, q3_TourList, q6_T, q1_Round, q7_T, q1_Cases, q2_Cases, c1_Text, c1_Reader, c2_Reader, c3_Reader, c1_Line, c2_Line, c1_Land, c2_Land, c3_Land, c4_Land, c5_Land, c1_OneTree, c2_OneTree, c1_TourList, c2_TourList, c3_TourList, c1_Round, c1_Cases, c2_Cases, rfl, rfl⟩ := hE
    change oz_M p l e room_1 s m #[.ref b] below meth c D (fun q => s.heap.size ≤ q) 4 _ _ _ 7 [some (.ref b), none, none, none] [.ref h0] [(h0, .inr (0, [.ref q1_T, .ref q2_T, .ref q3_T, .ref q4_T, .ref q5_T, .ref q6_T, .ref q7_T])), (q1_T, .inr (1, [.ref q1_Text, .int 0])), (q1_Text, .inl (c1_Text, 480, .inl (fun _ => 0))), (q2_T, .inr (3, [.ref q1_T, .ref q4_Reader, .int 0, .int 0, .int 0, .int 0, .int 0, .ref q1_Reader, .ref q2_Reader, .int 0, .ref q3_Reader])), (q1_Reader, .inl (c1_Reader, 8, .inl (fun _ => 0))), (q2_Reader, .inl (c2_Reader, 8, .inl (fun _ => 0))), (q3_Reader, .inl (c3_Reader, 64, .inl (fun _ => 0))), (q4_Reader, .inr (2, [.ref q1_Text, .ref q1_Line, .ref q2_Line, .int 0, .int 0, .int 0])), (q1_Line, .inl (c1_Line, 240, .inl (fun _ => 0))), (q2_Line, .inl (c2_Line, 240, .inl (fun _ => 0))), (q3_T, .inr (4, [.ref q1_Land, .ref q2_Land, .ref q3_Land, .ref q4_Land, .ref q5_Land, .int 0, .int 0, .int 0, .int 0])), (q1_Land, .inl (c1_Land, 64, .inl (fun _ => 0))), (q2_Land, .inl (c2_Land, 64, .inl (fun _ => 0))), (q3_Land, .inl (c3_Land, 28, .inl (fun _ => 0))), (q4_Land, .inl (c4_Land, 28, .inl (fun _ => 0))), (q5_Land, .inl (c5_Land, 8, .inl (fun _ => 0))), (q4_T, .inr (5, [.ref q3_T, .ref q1_OneTree, .int 0, .int 0, .int 0, .ref q2_OneTree])), (q1_OneTree, .inl (c1_OneTree, 8, .inl (fun _ => 0))), (q2_OneTree, .inl (c2_OneTree, 8, .inl (fun _ => 0))), (q5_T, .inr (6, [.ref q3_T, .ref q1_TourList, .ref q2_TourList, .ref q3_TourList, .int 0])), (q1_TourList, .inl (c1_TourList, 8, .inl (fun _ => 0))), (q2_TourList, .inl (c2_TourList, 2520, .inl (fun _ => 0))), (q3_TourList, .inl (c3_TourList, 2520, .inl (fun _ => 0))), (q6_T, .inr (7, [.ref q3_T, .ref q1_Round, .int 0])), (q1_Round, .inl (c1_Round, 8, .inl (fun _ => 0))), (q7_T, .inr (8, [.ref q1_Cases, .ref q2_Cases, .int 0])), (q1_Cases, .inl (c1_Cases, 10, .inl (fun _ => 0))), (q2_Cases, .inl (c2_Cases, 10, .inl (fun _ => 0)))] [(c1_Text, .char), (c1_Reader, .int), (c2_Reader, .int), (c3_Reader, .int), (c1_Line, .int), (c2_Line, .int), (c1_Land, .int), (c2_Land, .int), (c3_Land, .int), (c4_Land, .int), (c5_Land, .int), (c1_OneTree, .int), (c2_OneTree, .int), (c1_TourList, .int), (c2_TourList, .int), (c3_TourList, .int), (c1_Round, .int), (c1_Cases, .int), (c2_Cases, .int)]
    refine ox_astore_n B 1 od_law_7 rfl (by decide) rfl (L2 := [some (.ref b), some (.ref h0), none, none]) rfl ?_
    refine oz_new B F.1 oin_Mo oty_Mo otk_Mo (fs := [.int 0, .null, .int 0, .null, .null, .null, .int 0, .null, .int 0, .null, .null, .int 0, .int 0, .int 0, .int 0, .int 0, .int 0, .int 0, .int 0, .int 0, .null, .null, .null, .null, .null, .null, .null]) od_law_8 (ox_t3 214 rfl rfl) (ox_t3 215 rfl rfl) (ox_t1 10 rfl rfl) (ci := 9) rfl (by decide) (Nat.le_of_ble_eq_true rfl) (Nat.le_of_ble_eq_true rfl) (fun hm => ?_)
    change oz_M p l e room_1 s m #[.ref b] below meth c D (fun q => s.heap.size ≤ q) 4 _ _ _ 11 [some (.ref b), some (.ref h0), none, none] [.ref hm] [(h0, .inr (0, [.ref q1_T, .ref q2_T, .ref q3_T, .ref q4_T, .ref q5_T, .ref q6_T, .ref q7_T])), (q1_T, .inr (1, [.ref q1_Text, .int 0])), (q1_Text, .inl (c1_Text, 480, .inl (fun _ => 0))), (q2_T, .inr (3, [.ref q1_T, .ref q4_Reader, .int 0, .int 0, .int 0, .int 0, .int 0, .ref q1_Reader, .ref q2_Reader, .int 0, .ref q3_Reader])), (q1_Reader, .inl (c1_Reader, 8, .inl (fun _ => 0))), (q2_Reader, .inl (c2_Reader, 8, .inl (fun _ => 0))), (q3_Reader, .inl (c3_Reader, 64, .inl (fun _ => 0))), (q4_Reader, .inr (2, [.ref q1_Text, .ref q1_Line, .ref q2_Line, .int 0, .int 0, .int 0])), (q1_Line, .inl (c1_Line, 240, .inl (fun _ => 0))), (q2_Line, .inl (c2_Line, 240, .inl (fun _ => 0))), (q3_T, .inr (4, [.ref q1_Land, .ref q2_Land, .ref q3_Land, .ref q4_Land, .ref q5_Land, .int 0, .int 0, .int 0, .int 0])), (q1_Land, .inl (c1_Land, 64, .inl (fun _ => 0))), (q2_Land, .inl (c2_Land, 64, .inl (fun _ => 0))), (q3_Land, .inl (c3_Land, 28, .inl (fun _ => 0))), (q4_Land, .inl (c4_Land, 28, .inl (fun _ => 0))), (q5_Land, .inl (c5_Land, 8, .inl (fun _ => 0))), (q4_T, .inr (5, [.ref q3_T, .ref q1_OneTree, .int 0, .int 0, .int 0, .ref q2_OneTree])), (q1_OneTree, .inl (c1_OneTree, 8, .inl (fun _ => 0))), (q2_OneTree, .inl (c2_OneTree, 8, .inl (fun _ => 0))), (q5_T, .inr (6, [.ref q3_T, .ref q1_TourList, .ref q2_TourList, .ref q3_TourList, .int 0])), (q1_TourList, .inl (c1_TourList, 8, .inl (fun _ => 0))), (q2_TourList, .inl (c2_TourList, 2520, .inl (fun _ => 0))), (q3_TourList, .inl (c3_TourList, 2520, .inl (fun _ => 0))), (q6_T, .inr (7, [.ref q3_T, .ref q1_Round, .int 0])), (q1_Round, .inl (c1_Round, 8, .inl (fun _ => 0))), (q7_T, .inr (8, [.ref q1_Cases, .ref q2_Cases, .int 0])), (q1_Cases, .inl (c1_Cases, 10, .inl (fun _ => 0))), (q2_Cases, .inl (c2_Cases, 10, .inl (fun _ => 0))), (hm, .inr (9, [.int 0, .null, .int 0, .null, .null, .null, .int 0, .null, .int 0, .null, .null, .int 0, .int 0, .int 0, .int 0, .int 0, .int 0, .int 0, .int 0, .int 0, .null, .null, .null, .null, .null, .null, .null]))] [(c1_Text, .char), (c1_Reader, .int), (c2_Reader, .int), (c3_Reader, .int), (c1_Line, .int), (c2_Line, .int), (c1_Land, .int), (c2_Land, .int), (c3_Land, .int), (c4_Land, .int), (c5_Land, .int), (c1_OneTree, .int), (c2_OneTree, .int), (c1_TourList, .int), (c2_TourList, .int), (c3_TourList, .int), (c1_Round, .int), (c1_Cases, .int), (c2_Cases, .int)]
    refine ox_dup B od_law_11 rfl ?_
    refine oz_callI B F 0 od_law_12 (As := []) (rest := [.ref hm]) (ct_Mo_init h0 q1_T q1_Text q2_T q1_Reader q2_Reader q3_Reader q4_Reader q1_Line q2_Line q3_T q1_Land q2_Land q3_Land q4_Land q5_Land q4_T q1_OneTree q2_OneTree q5_T q1_TourList q2_TourList q3_TourList q6_T q1_Round q7_T q1_Cases q2_Cases hm c1_Text c1_Reader c2_Reader c3_Reader c1_Line c2_Line c1_Land c2_Land c3_Land c4_Land c5_Land c1_OneTree c2_OneTree c1_TourList c2_TourList c3_TourList c1_Round c1_Cases c2_Cases) rfl (ox_t3 218 rfl rfl) (ox_t1 10 rfl rfl) (ox_t3 216 rfl rfl) (ox_t3 217 rfl rfl) ⟨by decide, by decide, by decide +kernel⟩ ⟨rfl, rfl, Nat.le_of_ble_eq_true rfl, Nat.le_of_ble_eq_true rfl⟩ rfl (Nat.le_of_ble_eq_true rfl) rfl ⟨Nat.le_of_ble_eq_true rfl, Nat.le_of_ble_eq_true rfl⟩ (fun ws2 tys2 hE => ?_)
    obtain ⟨q1_Mo, q2_Mo, q3_Mo, q4_Mo, q5_Mo, q6_Mo, q7_Mo, q8_Mo, q9_Mo, q10_Mo, q11_Mo, q12_Mo, q13_Mo, q14_Mo, c1_Mo, c2_Mo, c3_Mo, c4_Mo, c5_Mo, c6_Mo, c7_Mo, c8_Mo, c9_Mo, c10_Mo, c11_Mo, c12_Mo, c13_Mo, c14_Mo, rfl, rfl⟩ := hE
    change oz_M p l e room_1 s m #[.ref b] below meth c D (fun q => s.heap.size ≤ q) 4 _ _ _ 15 [some (.ref b), some (.ref h0), none, none] [.ref hm] [(h0, .inr (0, [.ref q1_T, .ref q2_T, .ref q3_T, .ref q4_T, .ref q5_T, .ref q6_T, .ref q7_T])), (q1_T, .inr (1, [.ref q1_Text, .int 0])), (q1_Text, .inl (c1_Text, 480, .inl (fun _ => 0))), (q2_T, .inr (3, [.ref q1_T, .ref q4_Reader, .int 0, .int 0, .int 0, .int 0, .int 0, .ref q1_Reader, .ref q2_Reader, .int 0, .ref q3_Reader])), (q1_Reader, .inl (c1_Reader, 8, .inl (fun _ => 0))), (q2_Reader, .inl (c2_Reader, 8, .inl (fun _ => 0))), (q3_Reader, .inl (c3_Reader, 64, .inl (fun _ => 0))), (q4_Reader, .inr (2, [.ref q1_Text, .ref q1_Line, .ref q2_Line, .int 0, .int 0, .int 0])), (q1_Line, .inl (c1_Line, 240, .inl (fun _ => 0))), (q2_Line, .inl (c2_Line, 240, .inl (fun _ => 0))), (q3_T, .inr (4, [.ref q1_Land, .ref q2_Land, .ref q3_Land, .ref q4_Land, .ref q5_Land, .int 0, .int 0, .int 0, .int 0])), (q1_Land, .inl (c1_Land, 64, .inl (fun _ => 0))), (q2_Land, .inl (c2_Land, 64, .inl (fun _ => 0))), (q3_Land, .inl (c3_Land, 28, .inl (fun _ => 0))), (q4_Land, .inl (c4_Land, 28, .inl (fun _ => 0))), (q5_Land, .inl (c5_Land, 8, .inl (fun _ => 0))), (q4_T, .inr (5, [.ref q3_T, .ref q1_OneTree, .int 0, .int 0, .int 0, .ref q2_OneTree])), (q1_OneTree, .inl (c1_OneTree, 8, .inl (fun _ => 0))), (q2_OneTree, .inl (c2_OneTree, 8, .inl (fun _ => 0))), (q5_T, .inr (6, [.ref q3_T, .ref q1_TourList, .ref q2_TourList, .ref q3_TourList, .int 0])), (q1_TourList, .inl (c1_TourList, 8, .inl (fun _ => 0))), (q2_TourList, .inl (c2_TourList, 2520, .inl (fun _ => 0))), (q3_TourList, .inl (c3_TourList, 2520, .inl (fun _ => 0))), (q6_T, .inr (7, [.ref q3_T, .ref q1_Round, .int 0])), (q1_Round, .inl (c1_Round, 8, .inl (fun _ => 0))), (q7_T, .inr (8, [.ref q1_Cases, .ref q2_Cases, .int 0])), (q1_Cases, .inl (c1_Cases, 10, .inl (fun _ => 0))), (q2_Cases, .inl (c2_Cases, 10, .inl (fun _ => 0))), (hm, .inr (9, [.int 0, .ref q1_Mo, .int 0, .ref q2_Mo, .ref q3_Mo, .ref q4_Mo, .int 0, .ref q5_Mo, .int 0, .ref q6_Mo, .ref q7_Mo, .int 0, .int 0, .int 0, .int 0, .int 0, .int 0, .int 0, .int 0, .int 0, .ref q8_Mo, .ref q9_Mo, .ref q10_Mo, .ref q11_Mo, .ref q12_Mo, .ref q13_Mo, .ref q14_Mo])), (q1_Mo, .inl (c1_Mo, 480, .inl (fun _ => 0))), (q2_Mo, .inl (c2_Mo, 64, .inl (fun _ => 0))), (q3_Mo, .inl (c3_Mo, 64, .inl (fun _ => 0))), (q4_Mo, .inl (c4_Mo, 8, .inl (fun _ => 0))), (q5_Mo, .inl (c5_Mo, 8, .inl (fun _ => 0))), (q6_Mo, .inl (c6_Mo, 10, .inl (fun _ => 0))), (q7_Mo, .inl (c7_Mo, 10, .inl (fun _ => 0))), (q8_Mo, .inl (c8_Mo, 64, .inl (fun _ => 0))), (q9_Mo, .inl (c9_Mo, 8, .inl (fun _ => 0))), (q10_Mo, .inl (c10_Mo, 8, .inl (fun _ => 0))), (q11_Mo, .inl (c11_Mo, 64, .inl (fun _ => 0))), (q12_Mo, .inl (c12_Mo, 64, .inl (fun _ => 0))), (q13_Mo, .inl (c13_Mo, 8, .inl (fun _ => 0))), (q14_Mo, .inl (c14_Mo, 8, .inl (fun _ => 0)))] [(c1_Text, .char), (c1_Reader, .int), (c2_Reader, .int), (c3_Reader, .int), (c1_Line, .int), (c2_Line, .int), (c1_Land, .int), (c2_Land, .int), (c3_Land, .int), (c4_Land, .int), (c5_Land, .int), (c1_OneTree, .int), (c2_OneTree, .int), (c1_TourList, .int), (c2_TourList, .int), (c3_TourList, .int), (c1_Round, .int), (c1_Cases, .int), (c2_Cases, .int), (c1_Mo, .char), (c2_Mo, .int), (c3_Mo, .int), (c4_Mo, .int), (c5_Mo, .int), (c6_Mo, .int), (c7_Mo, .int), (c8_Mo, .int), (c9_Mo, .int), (c10_Mo, .int), (c11_Mo, .boolean), (c12_Mo, .int), (c13_Mo, .int), (c14_Mo, .int)]
    refine ox_astore_n B 2 od_law_15 rfl (by decide) rfl (L2 := [some (.ref b), some (.ref h0), some (.ref hm), none]) rfl ?_
    refine ox_iconst (v := (0 : Int32)) B od_law_16 (by decide) ?_
    refine ox_istore_n B 3 od_law_17 rfl (by decide) rfl (L2 := [some (.ref b), some (.ref h0), some (.ref hm), some (.int (0 : Int32))]) rfl ?_
    intro ls H locs hl hP hS
    have hK2 := hP.2.2
    have e2 : c1_Reader = c2_Reader := ol_same (ty := .int) hK2 (fun C h => by cases h) 1 2 rfl rfl
    have e3 : c1_Reader = c3_Reader := ol_same (ty := .int) hK2 (fun C h => by cases h) 1 3 rfl rfl
    have e4 : c1_Reader = c1_Line := ol_same (ty := .int) hK2 (fun C h => by cases h) 1 4 rfl rfl
    have e5 : c1_Reader = c2_Line := ol_same (ty := .int) hK2 (fun C h => by cases h) 1 5 rfl rfl
    have e6 : c1_Reader = c1_Land := ol_same (ty := .int) hK2 (fun C h => by cases h) 1 6 rfl rfl
    have e7 : c1_Reader = c2_Land := ol_same (ty := .int) hK2 (fun C h => by cases h) 1 7 rfl rfl
    have e8 : c1_Reader = c3_Land := ol_same (ty := .int) hK2 (fun C h => by cases h) 1 8 rfl rfl
    have e9 : c1_Reader = c4_Land := ol_same (ty := .int) hK2 (fun C h => by cases h) 1 9 rfl rfl
    have e10 : c1_Reader = c5_Land := ol_same (ty := .int) hK2 (fun C h => by cases h) 1 10 rfl rfl
    have e11 : c1_Reader = c1_OneTree := ol_same (ty := .int) hK2 (fun C h => by cases h) 1 11 rfl rfl
    have e12 : c1_Reader = c2_OneTree := ol_same (ty := .int) hK2 (fun C h => by cases h) 1 12 rfl rfl
    have e13 : c1_Reader = c1_TourList := ol_same (ty := .int) hK2 (fun C h => by cases h) 1 13 rfl rfl
    have e14 : c1_Reader = c2_TourList := ol_same (ty := .int) hK2 (fun C h => by cases h) 1 14 rfl rfl
    have e15 : c1_Reader = c3_TourList := ol_same (ty := .int) hK2 (fun C h => by cases h) 1 15 rfl rfl
    have e16 : c1_Reader = c1_Round := ol_same (ty := .int) hK2 (fun C h => by cases h) 1 16 rfl rfl
    have e17 : c1_Reader = c1_Cases := ol_same (ty := .int) hK2 (fun C h => by cases h) 1 17 rfl rfl
    have e18 : c1_Reader = c2_Cases := ol_same (ty := .int) hK2 (fun C h => by cases h) 1 18 rfl rfl
    have e19 : c1_Text = c1_Mo := ol_same (ty := .char) hK2 (fun C h => by cases h) 0 19 rfl rfl
    have e20 : c1_Reader = c2_Mo := ol_same (ty := .int) hK2 (fun C h => by cases h) 1 20 rfl rfl
    have e21 : c1_Reader = c3_Mo := ol_same (ty := .int) hK2 (fun C h => by cases h) 1 21 rfl rfl
    have e22 : c1_Reader = c4_Mo := ol_same (ty := .int) hK2 (fun C h => by cases h) 1 22 rfl rfl
    have e23 : c1_Reader = c5_Mo := ol_same (ty := .int) hK2 (fun C h => by cases h) 1 23 rfl rfl
    have e24 : c1_Reader = c6_Mo := ol_same (ty := .int) hK2 (fun C h => by cases h) 1 24 rfl rfl
    have e25 : c1_Reader = c7_Mo := ol_same (ty := .int) hK2 (fun C h => by cases h) 1 25 rfl rfl
    have e26 : c1_Reader = c8_Mo := ol_same (ty := .int) hK2 (fun C h => by cases h) 1 26 rfl rfl
    have e27 : c1_Reader = c9_Mo := ol_same (ty := .int) hK2 (fun C h => by cases h) 1 27 rfl rfl
    have e28 : c1_Reader = c10_Mo := ol_same (ty := .int) hK2 (fun C h => by cases h) 1 28 rfl rfl
    have e30 : c1_Reader = c12_Mo := ol_same (ty := .int) hK2 (fun C h => by cases h) 1 30 rfl rfl
    have e31 : c1_Reader = c13_Mo := ol_same (ty := .int) hK2 (fun C h => by cases h) 1 31 rfl rfl
    have e32 : c1_Reader = c14_Mo := ol_same (ty := .int) hK2 (fun C h => by cases h) 1 32 rfl rfl
    subst e2
    subst e3
    subst e4
    subst e5
    subst e6
    subst e7
    subst e8
    subst e9
    subst e10
    subst e11
    subst e12
    subst e13
    subst e14
    subst e15
    subst e16
    subst e17
    subst e18
    subst e19
    subst e20
    subst e21
    subst e22
    subst e23
    subst e24
    subst e25
    subst e26
    subst e27
    subst e28
    subst e30
    subst e31
    subst e32
    have hall := hP.2.1.sub (ws' := ox_wd (ol_c D (fun k => ([h0, q1_T, q4_Reader, q2_T, q3_T, q4_T, q5_T, q6_T, q7_T, q1_Text, q1_Line, q2_Line, q1_Reader, q2_Reader, q3_Reader, q1_Land, q2_Land, q3_Land, q4_Land, q5_Land, q1_OneTree, q2_OneTree, q1_TourList, q2_TourList, q3_TourList, q1_Round, q1_Cases, q2_Cases] : List Nat).getD k 0) c1_Reader c1_Text adK adV) ol_0 ++ ox_wd (ol_m D (fun k => ([hm, q1_Mo, q2_Mo, q3_Mo, q4_Mo, q5_Mo, q6_Mo, q7_Mo, q8_Mo, q9_Mo, q10_Mo, q11_Mo, q12_Mo, q13_Mo, q14_Mo] : List Nat).getD k 0) c1_Reader c1_Text c11_Mo) ol_0) [0, 1, 7, 3, 10, 16, 19, 23, 25, 2, 8, 9, 4, 5, 6, 11, 12, 13, 14, 15, 17, 18, 20, 21, 22, 24, 26, 27, 28, 29, 30, 31, 32, 33, 34, 35, 36, 37, 38, 39, 40, 41, 42] (by decide) rfl
    have hsp := ol_split (a1 := fun k => ([h0, q1_T, q4_Reader, q2_T, q3_T, q4_T, q5_T, q6_T, q7_T, q1_Text, q1_Line, q2_Line, q1_Reader, q2_Reader, q3_Reader, q1_Land, q2_Land, q3_Land, q4_Land, q5_Land, q1_OneTree, q2_OneTree, q1_TourList, q2_TourList, q3_TourList, q1_Round, q1_Cases, q2_Cases] : List Nat).getD k 0) (a2 := fun k => ([hm, q1_Mo, q2_Mo, q3_Mo, q4_Mo, q5_Mo, q6_Mo, q7_Mo, q8_Mo, q9_Mo, q10_Mo, q11_Mo, q12_Mo, q13_Mo, q14_Mo] : List Nat).getD k 0) (n1 := 28) (n2 := 15) rfl rfl hall
    have hPc : ox_hp (ol_c D (fun k => ([h0, q1_T, q4_Reader, q2_T, q3_T, q4_T, q5_T, q6_T, q7_T, q1_Text, q1_Line, q2_Line, q1_Reader, q2_Reader, q3_Reader, q1_Land, q2_Land, q3_Land, q4_Land, q5_Land, q1_OneTree, q2_OneTree, q1_TourList, q2_TourList, q3_TourList, q1_Round, q1_Cases, q2_Cases] : List Nat).getD k 0) c1_Reader c1_Text adK adV) ol_0 H := hP.1.sub [0, 1, 7, 3, 10, 16, 19, 23, 25, 2, 8, 9, 4, 5, 6, 11, 12, 13, 14, 15, 17, 18, 20, 21, 22, 24, 26, 27] rfl
    have hPm : ox_hp (ol_m D (fun k => ([hm, q1_Mo, q2_Mo, q3_Mo, q4_Mo, q5_Mo, q6_Mo, q7_Mo, q8_Mo, q9_Mo, q10_Mo, q11_Mo, q12_Mo, q13_Mo, q14_Mo] : List Nat).getD k 0) c1_Reader c1_Text c11_Mo) ol_0 H := hP.1.sub [28, 29, 30, 31, 32, 33, 34, 35, 36, 37, 38, 39, 40, 41, 42] rfl
    have hKc := hK2.sub (tys' := [(c1_Reader, .int), (c1_Text, .char)]) [1, 0] rfl
    have hKm := hK2.sub (tys' := [(c1_Reader, .int), (c1_Text, .char), (c11_Mo, .boolean)]) [1, 0, 29] rfl
    obtain ⟨s1, s2, s3, s4, s5⟩ := hsp
    have hAc : ∀ q, (∃ k, k < 28 ∧ q = _) → s.heap.size ≤ q := fun q ⟨k, hk, hq⟩ => hq ▸ s1 k hk
    have hAm : ∀ q, (∃ k, k < 15 ∧ q = _) → s.heap.size ≤ q := fun q ⟨k, hk, hq⟩ => hq ▸ s2 k hk
    refine ol_loop (adc := fun k => ([h0, q1_T, q4_Reader, q2_T, q3_T, q4_T, q5_T, q6_T, q7_T, q1_Text, q1_Line, q2_Line, q1_Reader, q2_Reader, q3_Reader, q1_Land, q2_Land, q3_Land, q4_Land, q5_Land, q1_OneTree, q2_OneTree, q1_TourList, q2_TourList, q3_TourList, q1_Round, q1_Cases, q2_Cases] : List Nat).getD k 0) (adm := fun k => ([hm, q1_Mo, q2_Mo, q3_Mo, q4_Mo, q5_Mo, q6_Mo, q7_Mo, q8_Mo, q9_Mo, q10_Mo, q11_Mo, q12_Mo, q13_Mo, q14_Mo] : List Nat).getD k 0) (cI := c1_Reader) (cC := c1_Text) (cZ := c11_Mo) (adK := adK) (adV := adV) B hX hbl (ol_okc s4) (ol_okm s5) hKc hKm ⟨hN.2, hstr.1.narrow hAc, hstr.2.1, hstr.2.2.1.narrow hAc, hstr.2.2.2.narrow hAc⟩ hAc hAm (fun q ⟨j, hj, e1⟩ ⟨k, hk, e2⟩ => s3 k j hk hj (e2.symm.trans e1)) hr hlk hL hsim (L + 1) 0 ol_0 ol_0 (by omega) (by omega) h00 ls H locs hl ⟨hPc, hPm⟩ hS
  have hl := lv_entry ([.ref b]) (n := 4) (Nat.le_of_ble_eq_true rfl)
  rw [lg_entry_eq]
  refine key _ s.heap [] ⟨hl.1, hl.2.1, fun i v hi => ?_⟩ ⟨fun k q h => (by cases h), ⟨fun i j p q h => (by cases h), fun k q h => (by cases h)⟩, hK⟩ va_S.rf
  match i, hi with
  | 0, hi => cases hi; rfl
  | 1, hi => cases hi
  | 2, hi => cases hi
  | 3, hi => cases hi
  | i + 4, hi => cases hi
