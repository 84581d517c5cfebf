abbrev rm_oc_Reader_begin : Room := { frames := 1, cells := 0, slots := 0, locals := 23 }
set_option maxRecDepth 100000 in
set_option maxHeartbeats 4000000 in
theorem ct_oc_Reader_begin {l : Launch} {D : va_G} {ad : Nat → Nat} {cI cC : ClassId} {A : Nat → Prop} {adK adV : Nat → Nat} (hok : ox_ok (oc_W D ad cI cC A adK adV))  (σ : ox_S) (t : ox_S) (h : oc_Reader_begin  σ = some t) : Met l oy_Reader_begin (Cond.code oy_Reader_begin prog_6_method_3_code 1 none :: ox_ws) rm_oc_Reader_begin (ox_P (oc_W D ad cI cC A adK adV) [.ref (ad 3)] σ) (ox_Q (oc_W D ad cI cC A adK adV) none t) 0 0 A := by
  refine ox_met (ω := oc_W D ad cI cC A adK adV) (by decide) rfl hok (Nat.le_of_ble_eq_true rfl) ?_
  intro p e s m args below meth c B F
  generalize hres : (none : Option Value) = res
  have hG : res = none ∧ t = t := ⟨hres.symm, rfl⟩
  obtain ⟨σf, hσf⟩ : ∃ z, z = t := ⟨_, rfl⟩
  have hG : (fun t : ox_S => res = none ∧ σf = t) t := ⟨hres.symm, hσf⟩
  rw [show ox_M p l e rm_oc_Reader_begin s m args below meth c (oc_W D ad cI cC A adK adV) 1 res t 0 (ox_l0 [.ref (ad 3)] 1) [] σ = ox_M p l e rm_oc_Reader_begin s m args below meth c (oc_W D ad cI cC A adK adV) 1 res σf 0 (ox_l0 [.ref (ad 3)] 1) [] σ by rw [hσf]]
  change ox_M p l e rm_oc_Reader_begin s m args below meth c (oc_W D ad cI cC A adK adV) 1 res σf 0 [some (.ref (ad 3))] [] σ
  unfold oc_Reader_begin at h
  refine ox_aload_n B 0 od_Reader_begin_0 rfl rfl ?_
  refine ox_iconst B od_Reader_begin_1 oxk_i0 ?_
  obtain ⟨s1, es1, h⟩ := ox_let_some h
  refine ocp_Reader_11 B F od_Reader_begin_2 es1 ?_
  refine ox_aload_n B 0 od_Reader_begin_5 rfl rfl ?_
  refine ox_iconst B od_Reader_begin_6 oxk_i0 ?_
  obtain ⟨s2, es2, h⟩ := ox_let_some h
  refine ocp_Reader_34 B F od_Reader_begin_7 es2 ?_
  refine ox_aload_n B 0 od_Reader_begin_10 rfl rfl ?_
  refine ox_iconst B od_Reader_begin_11 oxk_i0 ?_
  obtain ⟨s3, es3, h⟩ := ox_let_some h
  refine ocp_Reader_15 B F od_Reader_begin_12 es3 ?_
  refine ox_aload_n B 0 od_Reader_begin_15 rfl rfl ?_
  refine ox_iconst B od_Reader_begin_16 oxk_i0 ?_
  obtain ⟨s4, es4, h⟩ := ox_let_some h
  refine ocp_Reader_18 B F od_Reader_begin_17 es4 ?_
  refine ox_aload_n B 0 od_Reader_begin_20 rfl rfl ?_
  refine ocg_Reader_37 B F od_Reader_begin_21 ?_
  refine ox_iconst B od_Reader_begin_24 oxk_i0 ?_
  obtain ⟨s5, es5, h⟩ := ox_let_some h
  refine oc_fill_Reader_73_5 B F od_Reader_begin_25 (Nat.le_of_ble_eq_true rfl) (Nat.le_of_ble_eq_true rfl) (rest := []) (Nat.le_of_ble_eq_true rfl) es5 ?_
  cases h
  exact ox_vret B F od_Reader_begin_28 rfl hG
abbrev rm_oc_Line_stands : Room := { frames := 4, cells := 0, slots := 0, locals := 85 }
set_option maxRecDepth 100000 in
set_option maxHeartbeats 4000000 in
theorem ct_oc_Line_stands {l : Launch} {D : va_G} {ad : Nat → Nat} {cI cC : ClassId} {A : Nat → Prop} {adK adV : Nat → Nat} (hok : ox_ok (oc_W D ad cI cC A adK adV)) (x1 : Int32) (x2 : Nat) (σ : ox_S) (t : Int32) (h : oc_Line_stands x1 x2 σ = some t) : Met l oy_Line_stands (Cond.code oy_Line_stands prog_4_method_7_code 4 (some .boolean) :: ox_ws) rm_oc_Line_stands (ox_P (oc_W D ad cI cC A adK adV) [.ref (ad 2), .int x1, .ref (adK x2)] σ) (ox_Q (oc_W D ad cI cC A adK adV) (some (.int t)) σ) 0 0 A := by
  refine ox_met (ω := oc_W D ad cI cC A adK adV) (by decide) rfl hok (Nat.le_of_ble_eq_true rfl) ?_
  intro p e s m args below meth c B F
  generalize hres : (some (.int t) : Option Value) = res
  have hG : (fun t : Int32 => res = some (.int t) ∧ σ = σ) t := ⟨hres.symm, rfl⟩
  have t_b2 : ∀ (x1 : Int32) (x2 : Nat) (x3 : Int32)  (t : (Int32 ⊕ Int32)), oc_Line_stands_b2 x1 x2 x3 σ = some t → (ox_G (fun t : Int32 => ox_M p l e rm_oc_Line_stands s m args below meth c (oc_W D ad cI cC A adK adV) 4 res σ 2 [some (.ref (ad 2)), some (.int x1), some (.ref (adK x2)), some (.int t)] [] σ) (fun t : Int32 => res = some (.int t) ∧ σ = σ)) t → ox_M p l e rm_oc_Line_stands s m args below meth c (oc_W D ad cI cC A adK adV) 4 res σ 2 [some (.ref (ad 2)), some (.int x1), some (.ref (adK x2)), some (.int x3)] [] σ := by
    intro x1 x2 x3  t h hG
    unfold oc_Line_stands_b2 at h
    refine ox_iload_n B 3 od_Line_stands_2 rfl rfl ?_
    refine ox_aload_n B 2 od_Line_stands_3 rfl rfl ?_
    obtain ⟨r1, hr1, h⟩ := ox_bind h
    refine occ_Line_35 B F od_Line_stands_4 ⟨Nat.le_of_ble_eq_true rfl, Nat.le_of_ble_eq_true rfl⟩ hr1 (rest := [.int x3]) (st2 := [.int r1, .int x3]) (Nat.le_of_ble_eq_true rfl) rfl ?_
    refine ox_icmp_ge B 34 od_Line_stands_7 rfl (fun hc => ?_) (fun hc => ?_)
    · rw [if_pos hc] at h
      refine ox_iconst B od_Line_stands_34 oxk_i1 ?_
      cases h
      exact ox_iret B F od_Line_stands_35 rfl (ox_nz (Or.inr rfl)) hG
    · rw [if_neg hc] at h
      refine ox_aload_n B 0 od_Line_stands_10 rfl rfl ?_
      refine ocg_Line_34 B F od_Line_stands_11 ?_
      refine ox_iload_n B 1 od_Line_stands_14 rfl rfl ?_
      refine ox_iload_n B 3 od_Line_stands_15 rfl rfl ?_
      refine ox_iadd B od_Line_stands_16 ?_
      obtain ⟨j2, ej2, hj2, h⟩ := ox_ix_some2 h
      refine ocal_0 B F od_Line_stands_17 hj2 ej2 ?_
      refine ox_aload_n B 2 od_Line_stands_18 rfl rfl ?_
      refine ox_iload_n B 3 od_Line_stands_19 rfl rfl ?_
      obtain ⟨r3, hr3, h⟩ := ox_bind h
      refine occ_Line_49 B F od_Line_stands_20 ⟨Nat.le_of_ble_eq_true rfl, Nat.le_of_ble_eq_true rfl⟩ hr3 (rest := [.int (σ.2 0 j2)]) (st2 := [.int r3, .int (σ.2 0 j2)]) (Nat.le_of_ble_eq_true rfl) rfl ?_
      refine ox_icmp_eq B 28 od_Line_stands_23 rfl (fun hc => ?_) (fun hc => ?_)
      · rw [if_pos hc] at h
        obtain ⟨v4, ev4, h⟩ := ox_let_some h
        refine ox_iinc B od_Line_stands_28 rfl ((congrArg (x3 + ·) oxk_i1).trans ev4.symm) (by decide) rfl (L2 := [some (.ref (ad 2)), some (.int x1), some (.ref (adK x2)), some (.int v4)]) rfl ?_
        refine ox_goto B 2 od_Line_stands_31 rfl ?_
        cases h
        exact hG
      · rw [if_neg hc] at h
        refine ox_iconst B od_Line_stands_26 oxk_i0 ?_
        cases h
        exact ox_iret B F od_Line_stands_27 rfl (ox_nz (Or.inl rfl)) hG
  have t_2 : ∀ (x1 : Int32) (x2 : Nat) (x3 : Int32)  (t : Int32), oc_Line_stands_h2 x1 x2 x3 σ = some t → (fun t : Int32 => res = some (.int t) ∧ σ = σ) t → ox_M p l e rm_oc_Line_stands s m args below meth c (oc_W D ad cI cC A adK adV) 4 res σ 2 [some (.ref (ad 2)), some (.int x1), some (.ref (adK x2)), some (.int x3)] [] σ := by
    intro x1 x2 x3  t h hG
    exact ox_w_run (fun t : Int32 => ox_M p l e rm_oc_Line_stands s m args below meth c (oc_W D ad cI cC A adK adV) 4 res σ 2 [some (.ref (ad 2)), some (.int x1), some (.ref (adK x2)), some (.int t)] [] σ) (fun t : Int32 => res = some (.int t) ∧ σ = σ) (fun a t h hG => t_b2 x1 x2 a  t h hG) x3 t h hG
  change ox_M p l e rm_oc_Line_stands s m args below meth c (oc_W D ad cI cC A adK adV) 4 res σ 0 [some (.ref (ad 2)), some (.int x1), some (.ref (adK x2)), none] [] σ
  unfold oc_Line_stands at h
  refine ox_iconst B od_Line_stands_0 oxk_i0 ?_
  refine ox_istore_n B 3 od_Line_stands_1 rfl (by decide) rfl (L2 := [some (.ref (ad 2)), some (.int x1), some (.ref (adK x2)), some (.int (0 : Int32))]) rfl ?_
  exact (t_2 x1 x2 (0 : Int32) _ h hG)
abbrev rm_oc_Line_wordIs : Room := { frames := 5, cells := 0, slots := 0, locals := 108 }
set_option maxRecDepth 100000 in
set_option maxHeartbeats 4000000 in
theorem ct_oc_Line_wordIs {l : Launch} {D : va_G} {ad : Nat → Nat} {cI cC : ClassId} {A : Nat → Prop} {adK adV : Nat → Nat} (hok : ox_ok (oc_W D ad cI cC A adK adV)) (x1 : Int32) (x2 : Nat) (σ : ox_S) (t : Int32) (h : oc_Line_wordIs x1 x2 σ = some t) : Met l oy_Line_wordIs (Cond.code oy_Line_wordIs prog_4_method_4_code 3 (some .boolean) :: ox_ws) rm_oc_Line_wordIs (ox_P (oc_W D ad cI cC A adK adV) [.ref (ad 2), .int x1, .ref (adK x2)] σ) (ox_Q (oc_W D ad cI cC A adK adV) (some (.int t)) σ) 0 0 A := by
  refine ox_met (ω := oc_W D ad cI cC A adK adV) (by decide) rfl hok (Nat.le_of_ble_eq_true rfl) ?_
  intro p e s m args below meth c B F
  generalize hres : (some (.int t) : Option Value) = res
  have hG : (fun t : Int32 => res = some (.int t) ∧ σ = σ) t := ⟨hres.symm, rfl⟩
  change ox_M p l e rm_oc_Line_wordIs s m args below meth c (oc_W D ad cI cC A adK adV) 3 res σ 0 [some (.ref (ad 2)), some (.int x1), some (.ref (adK x2))] [] σ
  unfold oc_Line_wordIs at h
  refine ox_iload_n B 1 od_Line_wordIs_0 rfl rfl ?_
  refine ox_aload_n B 0 od_Line_wordIs_1 rfl rfl ?_
  refine ocg_Line_25 B F od_Line_wordIs_2 ?_
  refine ox_icmp_ge B 46 od_Line_wordIs_5 rfl (fun hc => ?_) (fun hc => ?_)
  · rw [if_pos hc] at h
    refine ox_iconst B od_Line_wordIs_46 oxk_i0 ?_
    cases h
    exact ox_iret B F od_Line_wordIs_47 rfl (ox_nz (Or.inl rfl)) hG
  · rw [if_neg hc] at h
    refine ox_aload_n B 0 od_Line_wordIs_8 rfl rfl ?_
    refine ocg_Line_15 B F od_Line_wordIs_9 ?_
    refine ox_iload_n B 1 od_Line_wordIs_12 rfl rfl ?_
    obtain ⟨j1, ej1, hj1, h⟩ := ox_ix_some2 h
    refine ocal_2 B F od_Line_wordIs_13 hj1 ej1 ?_
    refine ox_aload_n B 0 od_Line_wordIs_14 rfl rfl ?_
    refine ocg_Line_11 B F od_Line_wordIs_15 ?_
    refine ox_iload_n B 1 od_Line_wordIs_18 rfl rfl ?_
    obtain ⟨j2, ej2, hj2, h⟩ := ox_ix_some2 h
    refine ocal_1 B F od_Line_wordIs_19 hj2 ej2 ?_
    refine ox_isub B od_Line_wordIs_20 ?_
    refine ox_aload_n B 2 od_Line_wordIs_21 rfl rfl ?_
    obtain ⟨r3, hr3, h⟩ := ox_bind h
    refine occ_Line_35 B F od_Line_wordIs_22 ⟨Nat.le_of_ble_eq_true rfl, Nat.le_of_ble_eq_true rfl⟩ hr3 (rest := [.int ((σ.2 2 j1) - (σ.2 1 j2))]) (st2 := [.int r3, .int ((σ.2 2 j1) - (σ.2 1 j2))]) (Nat.le_of_ble_eq_true rfl) rfl ?_
    refine ox_icmp_ne B 46 od_Line_wordIs_25 rfl (fun hc => ?_) (fun hc => ?_)
    · rw [if_neg hc] at h
      refine ox_iconst B od_Line_wordIs_46 oxk_i0 ?_
      cases h
      exact ox_iret B F od_Line_wordIs_47 rfl (ox_nz (Or.inl rfl)) hG
    · rw [if_pos hc] at h
      refine ox_aload_n B 0 od_Line_wordIs_28 rfl rfl ?_
      refine ox_aload_n B 0 od_Line_wordIs_29 rfl rfl ?_
      refine ocg_Line_11 B F od_Line_wordIs_30 ?_
      refine ox_iload_n B 1 od_Line_wordIs_33 rfl rfl ?_
      obtain ⟨j4, ej4, hj4, h⟩ := ox_ix_some2 h
      refine ocal_1 B F od_Line_wordIs_34 hj4 ej4 ?_
      refine ox_aload_n B 2 od_Line_wordIs_35 rfl rfl ?_
      obtain ⟨r5, hr5, h⟩ := ox_bind h
      refine occ_Line_41 B F od_Line_wordIs_36 (As := [.int (σ.2 1 j4), .ref (adK x2)]) (rest := []) (st2 := [.int r5]) (ct_oc_Line_stands hok (σ.2 1 j4) x2 σ _ hr5) ⟨rfl, rfl, Nat.le_of_ble_eq_true rfl, Nat.le_of_ble_eq_true rfl⟩ rfl (Nat.le_of_ble_eq_true rfl) rfl rfl ?_
      refine ox_if_eq B 46 od_Line_wordIs_39 rfl (fun hc => ?_) (fun hc => ?_)
      · rw [if_pos hc] at h
        refine ox_iconst B od_Line_wordIs_46 oxk_i0 ?_
        cases h
        exact ox_iret B F od_Line_wordIs_47 rfl (ox_nz (Or.inl rfl)) hG
      · rw [if_neg hc] at h
        refine ox_iconst B od_Line_wordIs_42 oxk_i1 ?_
        refine ox_goto B 47 od_Line_wordIs_43 rfl ?_
        cases h
        exact ox_iret B F od_Line_wordIs_47 rfl (ox_nz (Or.inr rfl)) hG
abbrev rm_oc_Reader_acceptsEnd : Room := { frames := 6, cells := 0, slots := 0, locals := 130 }
set_option maxRecDepth 100000 in
set_option maxHeartbeats 4000000 in
theorem ct_oc_Reader_acceptsEnd {l : Launch} {D : va_G} {ad : Nat → Nat} {cI cC : ClassId} {A : Nat → Prop} {adK adV : Nat → Nat} (hok : ox_ok (oc_W D ad cI cC A adK adV))  (σ : ox_S) (t : (Int32 × ox_S)) (h : oc_Reader_acceptsEnd  σ = some t) : Met l oy_Reader_acceptsEnd (Cond.code oy_Reader_acceptsEnd prog_6_method_10_code 1 (some .boolean) :: ox_ws) rm_oc_Reader_acceptsEnd (ox_P (oc_W D ad cI cC A adK adV) [.ref (ad 3)] σ) (ox_Q (oc_W D ad cI cC A adK adV) (some (.int t.1)) t.2) 0 0 A := by
  refine ox_met (ω := oc_W D ad cI cC A adK adV) (by decide) rfl hok (Nat.le_of_ble_eq_true rfl) ?_
  intro p e s m args below meth c B F
  generalize hres : (some (.int t.1) : Option Value) = res
  generalize hσf : t.2 = σf
  have hG : (fun t : (Int32 × ox_S) => res = some (.int t.1) ∧ σf = t.2) t := ⟨hres.symm, hσf.symm⟩
  change ox_M p l e rm_oc_Reader_acceptsEnd s m args below meth c (oc_W D ad cI cC A adK adV) 1 res σf 0 [some (.ref (ad 3))] [] σ
  unfold oc_Reader_acceptsEnd at h
  refine ox_aload_n B 0 od_Reader_acceptsEnd_0 rfl rfl ?_
  refine ocg_Reader_49 B F od_Reader_acceptsEnd_1 ?_
  refine ocg_Reader_94 B F od_Reader_acceptsEnd_4 ?_
  refine ox_iconst B od_Reader_acceptsEnd_7 oxk_i1 ?_
  refine ox_icmp_ne B 24 od_Reader_acceptsEnd_8 rfl (fun hc => ?_) (fun hc => ?_)
  · rw [if_neg hc] at h
    refine ox_iconst B od_Reader_acceptsEnd_24 oxk_i0 ?_
    cases h
    exact ox_iret B F od_Reader_acceptsEnd_25 rfl (ox_nz (Or.inl rfl)) hG
  · rw [if_pos hc] at h
    refine ox_aload_n B 0 od_Reader_acceptsEnd_11 rfl rfl ?_
    refine ocg_Reader_49 B F od_Reader_acceptsEnd_12 ?_
    refine ox_iconst B od_Reader_acceptsEnd_15 oxk_i0 ?_
    refine ocs_Reader_145 B F od_Reader_acceptsEnd_16 ?_
    obtain ⟨r1, hr1, h⟩ := ox_bind h
    refine occ_Reader_102 B F od_Reader_acceptsEnd_18 (As := [.int (0 : Int32), .ref (adK 0)]) (rest := []) (st2 := [.int r1]) (ct_oc_Line_wordIs hok (0 : Int32) 0 σ _ hr1) ⟨rfl, rfl, Nat.le_of_ble_eq_true rfl, Nat.le_of_ble_eq_true rfl⟩ rfl (Nat.le_of_ble_eq_true rfl) rfl rfl ?_
    refine ox_if_ne B 26 od_Reader_acceptsEnd_21 rfl (fun hc => ?_) (fun hc => ?_)
    · rw [if_neg hc] at h
      refine ox_aload_n B 0 od_Reader_acceptsEnd_26 rfl rfl ?_
      refine ox_iconst B od_Reader_acceptsEnd_27 oxk_i2 ?_
      obtain ⟨s2, es2, h⟩ := ox_let_some h
      refine ocp_Reader_11 B F od_Reader_acceptsEnd_28 es2 ?_
      refine ox_iconst B od_Reader_acceptsEnd_31 oxk_i1 ?_
      cases h
      exact ox_iret B F od_Reader_acceptsEnd_32 rfl (ox_nz (Or.inr rfl)) hG
    · rw [if_pos hc] at h
      refine ox_iconst B od_Reader_acceptsEnd_24 oxk_i0 ?_
      cases h
      exact ox_iret B F od_Reader_acceptsEnd_25 rfl (ox_nz (Or.inl rfl)) hG
abbrev rm_oc_Reader_acceptsPlace : Room := { frames := 7, cells := 0, slots := 0, locals := 150 }
set_option maxRecDepth 100000 in
set_option maxHeartbeats 4000000 in
theorem ct_oc_Reader_acceptsPlace {l : Launch} {D : va_G} {ad : Nat → Nat} {cI cC : ClassId} {A : Nat → Prop} {adK adV : Nat → Nat} (hok : ox_ok (oc_W D ad cI cC A adK adV))  (σ : ox_S) (t : (Int32 × ox_S)) (h : oc_Reader_acceptsPlace  σ = some t) : Met l oy_Reader_acceptsPlace (Cond.code oy_Reader_acceptsPlace prog_6_method_17_code 5 (some .boolean) :: ox_ws) rm_oc_Reader_acceptsPlace (ox_P (oc_W D ad cI cC A adK adV) [.ref (ad 3)] σ) (ox_Q (oc_W D ad cI cC A adK adV) (some (.int t.1)) t.2) 0 0 A := by
  refine ox_met (ω := oc_W D ad cI cC A adK adV) (by decide) rfl hok (Nat.le_of_ble_eq_true rfl) ?_
  intro p e s m args below meth c B F
  generalize hres : (some (.int t.1) : Option Value) = res
  generalize hσf : t.2 = σf
  have hG : (fun t : (Int32 × ox_S) => res = some (.int t.1) ∧ σf = t.2) t := ⟨hres.symm, hσf.symm⟩
  have t_b100 : ∀ (x1 : Int32) (x2 : Int32) (x3 : Int32) (σ : ox_S) (t : ((Int32 × ox_S) ⊕ (Int32 × ox_S))), oc_Reader_acceptsPlace_b100 x1 x2 x3 σ = some t → (ox_G (fun t : (Int32 × ox_S) => ox_M p l e rm_oc_Reader_acceptsPlace s m args below meth c (oc_W D ad cI cC A adK adV) 5 res σf 100 [some (.ref (ad 3)), some (.int x1), some (.int x2), some (.int t.1), none] [] t.2) (fun t : (Int32 × ox_S) => res = some (.int t.1) ∧ σf = t.2)) t → ox_M p l e rm_oc_Reader_acceptsPlace s m args below meth c (oc_W D ad cI cC A adK adV) 5 res σf 100 [some (.ref (ad 3)), some (.int x1), some (.int x2), some (.int x3), none] [] σ := by
    intro x1 x2 x3 σ t h hG
    unfold oc_Reader_acceptsPlace_b100 at h
    refine ox_iload_n B 3 od_Reader_acceptsPlace_100 rfl rfl ?_
    refine ox_aload_n B 0 od_Reader_acceptsPlace_101 rfl rfl ?_
    refine ocg_Reader_21 B F od_Reader_acceptsPlace_102 ?_
    refine ox_icmp_ge B 174 od_Reader_acceptsPlace_105 rfl (fun hc => ?_) (fun hc => ?_)
    · rw [if_pos hc] at h
      refine ox_aload_n B 0 od_Reader_acceptsPlace_174 rfl rfl ?_
      refine ox_dup B od_Reader_acceptsPlace_175 rfl ?_
      refine ocg_Reader_21 B F od_Reader_acceptsPlace_176 ?_
      refine ox_iconst B od_Reader_acceptsPlace_179 oxk_i1 ?_
      refine ox_iadd B od_Reader_acceptsPlace_180 ?_
      obtain ⟨s10, es10, h⟩ := ox_let_some h
      refine ocp_Reader_21 B F od_Reader_acceptsPlace_181 es10 ?_
      refine ox_iconst B od_Reader_acceptsPlace_184 oxk_i1 ?_
      cases h
      exact ox_iret B F od_Reader_acceptsPlace_185 rfl (ox_nz (Or.inr rfl)) hG
    · rw [if_neg hc] at h
      refine ox_aload_n B 0 od_Reader_acceptsPlace_108 rfl rfl ?_
      refine ox_iload_n B 1 od_Reader_acceptsPlace_109 rfl rfl ?_
      refine ox_aload_n B 0 od_Reader_acceptsPlace_110 rfl rfl ?_
      refine ocg_Reader_27 B F od_Reader_acceptsPlace_111 ?_
      refine ox_iload_n B 3 od_Reader_acceptsPlace_114 rfl rfl ?_
      obtain ⟨j11, ej11, hj11, h⟩ := ox_ix_some2 h
      refine ocal_3 B F od_Reader_acceptsPlace_115 hj11 ej11 ?_
      refine ox_isub B od_Reader_acceptsPlace_116 ?_
      refine oc_abs_Reader_169 B F od_Reader_acceptsPlace_117 (Nat.le_of_ble_eq_true rfl) (Nat.le_of_ble_eq_true rfl) ?_
      refine ox_iload_n B 2 od_Reader_acceptsPlace_120 rfl rfl ?_
      refine ox_aload_n B 0 od_Reader_acceptsPlace_121 rfl rfl ?_
      refine ocg_Reader_31 B F od_Reader_acceptsPlace_122 ?_
      refine ox_iload_n B 3 od_Reader_acceptsPlace_125 rfl rfl ?_
      obtain ⟨j12, ej12, hj12, h⟩ := ox_ix_some2 h
      refine ocal_4 B F od_Reader_acceptsPlace_126 hj12 ej12 ?_
      refine ox_isub B od_Reader_acceptsPlace_127 ?_
      refine oc_abs_Reader_169 B F od_Reader_acceptsPlace_128 (Nat.le_of_ble_eq_true rfl) (Nat.le_of_ble_eq_true rfl) ?_
      obtain ⟨r13, hr13, h⟩ := ox_bind h
      refine occ_Reader_174 B F od_Reader_acceptsPlace_131 (As := [.int (if 0 ≤ (x1 - (σ.2 3 j11)) then (x1 - (σ.2 3 j11)) else 0 - (x1 - (σ.2 3 j11))), .int (if 0 ≤ (x2 - (σ.2 4 j12)) then (x2 - (σ.2 4 j12)) else 0 - (x2 - (σ.2 4 j12)))]) (rest := []) (st2 := [.int r13]) (ct_oc_Reader_apart hok (if 0 ≤ (x1 - (σ.2 3 j11)) then (x1 - (σ.2 3 j11)) else 0 - (x1 - (σ.2 3 j11))) (if 0 ≤ (x2 - (σ.2 4 j12)) then (x2 - (σ.2 4 j12)) else 0 - (x2 - (σ.2 4 j12))) σ _ hr13) ⟨rfl, rfl, Nat.le_of_ble_eq_true rfl, Nat.le_of_ble_eq_true rfl⟩ rfl (Nat.le_of_ble_eq_true rfl) rfl rfl ?_
      refine ox_istore B od_Reader_acceptsPlace_134 (by decide) rfl (L2 := [some (.ref (ad 3)), some (.int x1), some (.int x2), some (.int x3), some (.int r13)]) rfl ?_
      refine ox_aload_n B 0 od_Reader_acceptsPlace_136 rfl rfl ?_
      refine ocg_Reader_37 B F od_Reader_acceptsPlace_137 ?_
      refine ox_aload_n B 0 od_Reader_acceptsPlace_140 rfl rfl ?_
      refine ocg_Reader_21 B F od_Reader_acceptsPlace_141 ?_
      refine ox_bipush B od_Reader_acceptsPlace_144 oxk_b8 ?_
      refine ox_imul B od_Reader_acceptsPlace_146 ?_
      refine ox_iload_n B 3 od_Reader_acceptsPlace_147 rfl rfl ?_
      refine ox_iadd B od_Reader_acceptsPlace_148 ?_
      refine ox_iload B od_Reader_acceptsPlace_149 rfl ?_
      obtain ⟨j14, ej14, hj14, h⟩ := ox_ix_some2 h
      obtain ⟨s15, es15, h⟩ := ox_let_some h
      refine ocas_5 B F od_Reader_acceptsPlace_151 hj14 ej14 es15 ?_
      refine ox_aload_n B 0 od_Reader_acceptsPlace_152 rfl rfl ?_
      refine ocg_Reader_37 B F od_Reader_acceptsPlace_153 ?_
      refine ox_iload_n B 3 od_Reader_acceptsPlace_156 rfl rfl ?_
      refine ox_bipush B od_Reader_acceptsPlace_157 oxk_b8 ?_
      refine ox_imul B od_Reader_acceptsPlace_159 ?_
      refine ox_aload_n B 0 od_Reader_acceptsPlace_160 rfl rfl ?_
      refine ocg_Reader_21 B F od_Reader_acceptsPlace_161 ?_
      refine ox_iadd B od_Reader_acceptsPlace_164 ?_
      refine ox_iload B od_Reader_acceptsPlace_165 rfl ?_
      obtain ⟨j16, ej16, hj16, h⟩ := ox_ix_some2 h
      obtain ⟨s17, es17, h⟩ := ox_let_some h
      refine ocas_5 B F od_Reader_acceptsPlace_167 hj16 ej16 es17 ?_
      obtain ⟨v18, ev18, h⟩ := ox_let_some h
      refine ox_iinc B od_Reader_acceptsPlace_168 rfl ((congrArg (x3 + ·) oxk_i1).trans ev18.symm) (by decide) rfl (L2 := [some (.ref (ad 3)), some (.int x1), some (.int x2), some (.int v18), some (.int r13)]) rfl ?_
      refine ox_goto B 100 od_Reader_acceptsPlace_171 rfl ?_
      cases h
      exact (ox_mask [true, true, true, true, false] hG)
  have t_100 : ∀ (x1 : Int32) (x2 : Int32) (x3 : Int32) (σ : ox_S) (t : (Int32 × ox_S)), oc_Reader_acceptsPlace_h100 x1 x2 x3 σ = some t → (fun t : (Int32 × ox_S) => res = some (.int t.1) ∧ σf = t.2) t → ox_M p l e rm_oc_Reader_acceptsPlace s m args below meth c (oc_W D ad cI cC A adK adV) 5 res σf 100 [some (.ref (ad 3)), some (.int x1), some (.int x2), some (.int x3), none] [] σ := by
    intro x1 x2 x3 σ t h hG
    exact ox_w_run (fun t : (Int32 × ox_S) => ox_M p l e rm_oc_Reader_acceptsPlace s m args below meth c (oc_W D ad cI cC A adK adV) 5 res σf 100 [some (.ref (ad 3)), some (.int x1), some (.int x2), some (.int t.1), none] [] t.2) (fun t : (Int32 × ox_S) => res = some (.int t.1) ∧ σf = t.2) (fun a t h hG => t_b100 x1 x2 a.1 a.2 t h hG) (x3, σ) t h hG
  change ox_M p l e rm_oc_Reader_acceptsPlace s m args below meth c (oc_W D ad cI cC A adK adV) 5 res σf 0 [some (.ref (ad 3)), none, none, none, none] [] σ
  unfold oc_Reader_acceptsPlace at h
  refine ox_aload_n B 0 od_Reader_acceptsPlace_0 rfl rfl ?_
  refine ocg_Reader_21 B F od_Reader_acceptsPlace_1 ?_
  refine ox_aload_n B 0 od_Reader_acceptsPlace_4 rfl rfl ?_
  refine ocg_Reader_34 B F od_Reader_acceptsPlace_5 ?_
  refine ox_icmp_lt B 16 od_Reader_acceptsPlace_8 rfl (fun hc => ?_) (fun hc => ?_)
  · rw [if_pos hc] at h
    refine ox_aload_n B 0 od_Reader_acceptsPlace_16 rfl rfl ?_
    refine ocg_Reader_49 B F od_Reader_acceptsPlace_17 ?_
    refine ox_iconst B od_Reader_acceptsPlace_20 oxk_i1 ?_
    obtain ⟨r1, hr1, h⟩ := ox_bind h
    refine occ_Reader_119 B F od_Reader_acceptsPlace_21 (As := [.int (1 : Int32)]) (rest := []) (st2 := [.int r1]) (ct_oc_Line_number hok (1 : Int32) σ _ hr1) ⟨rfl, rfl, Nat.le_of_ble_eq_true rfl, Nat.le_of_ble_eq_true rfl⟩ rfl (Nat.le_of_ble_eq_true rfl) rfl rfl ?_
    refine ox_istore_n B 1 od_Reader_acceptsPlace_24 rfl (by decide) rfl (L2 := [some (.ref (ad 3)), some (.int r1), none, none, none]) rfl ?_
    refine ox_aload_n B 0 od_Reader_acceptsPlace_25 rfl rfl ?_
    refine ocg_Reader_49 B F od_Reader_acceptsPlace_26 ?_
    refine ox_iconst B od_Reader_acceptsPlace_29 oxk_i2 ?_
    obtain ⟨r2, hr2, h⟩ := ox_bind h
    refine occ_Reader_119 B F od_Reader_acceptsPlace_30 (As := [.int (2 : Int32)]) (rest := []) (st2 := [.int r2]) (ct_oc_Line_number hok (2 : Int32) σ _ hr2) ⟨rfl, rfl, Nat.le_of_ble_eq_true rfl, Nat.le_of_ble_eq_true rfl⟩ rfl (Nat.le_of_ble_eq_true rfl) rfl rfl ?_
    refine ox_istore_n B 2 od_Reader_acceptsPlace_33 rfl (by decide) rfl (L2 := [some (.ref (ad 3)), some (.int r1), some (.int r2), none, none]) rfl ?_
    refine ox_aload_n B 0 od_Reader_acceptsPlace_34 rfl rfl ?_
    refine ocg_Reader_49 B F od_Reader_acceptsPlace_35 ?_
    refine ocg_Reader_94 B F od_Reader_acceptsPlace_38 ?_
    refine ox_iconst B od_Reader_acceptsPlace_41 oxk_i3 ?_
    refine ox_icmp_ne B 76 od_Reader_acceptsPlace_42 rfl (fun hc => ?_) (fun hc => ?_)
    · rw [if_neg hc] at h
      refine ox_iconst B od_Reader_acceptsPlace_76 oxk_i0 ?_
      cases h
      exact ox_iret B F od_Reader_acceptsPlace_77 rfl (ox_nz (Or.inl rfl)) hG
    · rw [if_pos hc] at h
      refine ox_aload_n B 0 od_Reader_acceptsPlace_45 rfl rfl ?_
      refine ocg_Reader_49 B F od_Reader_acceptsPlace_46 ?_
      refine ox_iconst B od_Reader_acceptsPlace_49 oxk_i0 ?_
      obtain ⟨r3, hr3, h⟩ := ox_bind h
      refine occ_Reader_119 B F od_Reader_acceptsPlace_50 (As := [.int (0 : Int32)]) (rest := []) (st2 := [.int r3]) (ct_oc_Line_number hok (0 : Int32) σ _ hr3) ⟨rfl, rfl, Nat.le_of_ble_eq_true rfl, Nat.le_of_ble_eq_true rfl⟩ rfl (Nat.le_of_ble_eq_true rfl) rfl rfl ?_
      refine ox_aload_n B 0 od_Reader_acceptsPlace_53 rfl rfl ?_
      refine ocg_Reader_21 B F od_Reader_acceptsPlace_54 ?_
      refine ox_iconst B od_Reader_acceptsPlace_57 oxk_i1 ?_
      refine ox_iadd B od_Reader_acceptsPlace_58 ?_
      refine ox_icmp_ne B 76 od_Reader_acceptsPlace_59 rfl (fun hc => ?_) (fun hc => ?_)
      · rw [if_neg hc] at h
        refine ox_iconst B od_Reader_acceptsPlace_76 oxk_i0 ?_
        cases h
        exact ox_iret B F od_Reader_acceptsPlace_77 rfl (ox_nz (Or.inl rfl)) hG
      · rw [if_pos hc] at h
        refine ox_iload_n B 1 od_Reader_acceptsPlace_62 rfl rfl ?_
        obtain ⟨r4, hr4, h⟩ := ox_bind h
        refine occ_Reader_166 B F od_Reader_acceptsPlace_63 (As := [.int r1]) (rest := []) (st2 := [.int r4]) (ct_oc_Reader_isPlace hok r1 σ _ hr4) ⟨rfl, rfl, Nat.le_of_ble_eq_true rfl, Nat.le_of_ble_eq_true rfl⟩ rfl (Nat.le_of_ble_eq_true rfl) rfl rfl ?_
        refine ox_if_eq B 76 od_Reader_acceptsPlace_66 rfl (fun hc => ?_) (fun hc => ?_)
        · rw [if_pos hc] at h
          refine ox_iconst B od_Reader_acceptsPlace_76 oxk_i0 ?_
          cases h
          exact ox_iret B F od_Reader_acceptsPlace_77 rfl (ox_nz (Or.inl rfl)) hG
        · rw [if_neg hc] at h
          refine ox_iload_n B 2 od_Reader_acceptsPlace_69 rfl rfl ?_
          obtain ⟨r5, hr5, h⟩ := ox_bind h
          refine occ_Reader_166 B F od_Reader_acceptsPlace_70 (As := [.int r2]) (rest := []) (st2 := [.int r5]) (ct_oc_Reader_isPlace hok r2 σ _ hr5) ⟨rfl, rfl, Nat.le_of_ble_eq_true rfl, Nat.le_of_ble_eq_true rfl⟩ rfl (Nat.le_of_ble_eq_true rfl) rfl rfl ?_
          refine ox_if_ne B 78 od_Reader_acceptsPlace_73 rfl (fun hc => ?_) (fun hc => ?_)
          · rw [if_neg hc] at h
            refine ox_aload_n B 0 od_Reader_acceptsPlace_78 rfl rfl ?_
            refine ocg_Reader_27 B F od_Reader_acceptsPlace_79 ?_
            refine ox_aload_n B 0 od_Reader_acceptsPlace_82 rfl rfl ?_
            refine ocg_Reader_21 B F od_Reader_acceptsPlace_83 ?_
            refine ox_iload_n B 1 od_Reader_acceptsPlace_86 rfl rfl ?_
            obtain ⟨j6, ej6, hj6, h⟩ := ox_ix_some2 h
            obtain ⟨s7, es7, h⟩ := ox_let_some h
            refine ocas_3 B F od_Reader_acceptsPlace_87 hj6 ej6 es7 ?_
            refine ox_aload_n B 0 od_Reader_acceptsPlace_88 rfl rfl ?_
            refine ocg_Reader_31 B F od_Reader_acceptsPlace_89 ?_
            refine ox_aload_n B 0 od_Reader_acceptsPlace_92 rfl rfl ?_
            refine ocg_Reader_21 B F od_Reader_acceptsPlace_93 ?_
            refine ox_iload_n B 2 od_Reader_acceptsPlace_96 rfl rfl ?_
            obtain ⟨j8, ej8, hj8, h⟩ := ox_ix_some2 h
            obtain ⟨s9, es9, h⟩ := ox_let_some h
            refine ocas_4 B F od_Reader_acceptsPlace_97 hj8 ej8 es9 ?_
            refine ox_iconst B od_Reader_acceptsPlace_98 oxk_i0 ?_
            refine ox_istore_n B 3 od_Reader_acceptsPlace_99 rfl (by decide) rfl (L2 := [some (.ref (ad 3)), some (.int r1), some (.int r2), some (.int (0 : Int32)), none]) rfl ?_
            exact (t_100 r1 r2 (0 : Int32) s9 _ h hG)
          · rw [if_pos hc] at h
            refine ox_iconst B od_Reader_acceptsPlace_76 oxk_i0 ?_
            cases h
            exact ox_iret B F od_Reader_acceptsPlace_77 rfl (ox_nz (Or.inl rfl)) hG
  · rw [if_neg hc] at h
    refine ox_aload_n B 0 od_Reader_acceptsPlace_11 rfl rfl ?_
    obtain ⟨r19, s20, hr19, h⟩ := ox_b2_some h
    refine occ_Reader_150 B F od_Reader_acceptsPlace_12 (As := []) (rest := []) (st2 := [.int r19]) (ct_oc_Reader_acceptsEnd hok σ _ hr19) ⟨rfl, rfl, Nat.le_of_ble_eq_true rfl, Nat.le_of_ble_eq_true rfl⟩ rfl (Nat.le_of_ble_eq_true rfl) rfl rfl ?_
    obtain ⟨hz, h⟩ := ox_z_some h
    cases h
    exact ox_iret B F od_Reader_acceptsPlace_15 rfl (ox_nz hz) hG
abbrev rm_oc_Reader_acceptsDistances : Room := { frames := 7, cells := 0, slots := 0, locals := 150 }
set_option maxRecDepth 100000 in
set_option maxHeartbeats 4000000 in
theorem ct_oc_Reader_acceptsDistances {l : Launch} {D : va_G} {ad : Nat → Nat} {cI cC : ClassId} {A : Nat → Prop} {adK adV : Nat → Nat} (hok : ox_ok (oc_W D ad cI cC A adK adV))  (σ : ox_S) (t : (Int32 × ox_S)) (h : oc_Reader_acceptsDistances  σ = some t) : Met l oy_Reader_acceptsDistances (Cond.code oy_Reader_acceptsDistances prog_6_method_11_code 3 (some .boolean) :: ox_ws) rm_oc_Reader_acceptsDistances (ox_P (oc_W D ad cI cC A adK adV) [.ref (ad 3)] σ) (ox_Q (oc_W D ad cI cC A adK adV) (some (.int t.1)) t.2) 0 0 A := by
  refine ox_met (ω := oc_W D ad cI cC A adK adV) (by decide) rfl hok (Nat.le_of_ble_eq_true rfl) ?_
  intro p e s m args below meth c B F
  generalize hres : (some (.int t.1) : Option Value) = res
  generalize hσf : t.2 = σf
  have hG : (fun t : (Int32 × ox_S) => res = some (.int t.1) ∧ σf = t.2) t := ⟨hres.symm, hσf.symm⟩
  have t_b28 : ∀ (x1 : Int32) (σ : ox_S) (t : ((Int32 × ox_S) ⊕ (Int32 × ox_S))), oc_Reader_acceptsDistances_b28 x1 σ = some t → (ox_G (fun t : (Int32 × ox_S) => ox_M p l e rm_oc_Reader_acceptsDistances s m args below meth c (oc_W D ad cI cC A adK adV) 3 res σf 28 [some (.ref (ad 3)), some (.int t.1), none] [] t.2) (fun t : (Int32 × ox_S) => res = some (.int t.1) ∧ σf = t.2)) t → ox_M p l e rm_oc_Reader_acceptsDistances s m args below meth c (oc_W D ad cI cC A adK adV) 3 res σf 28 [some (.ref (ad 3)), some (.int x1), none] [] σ := by
    intro x1 σ t h hG
    unfold oc_Reader_acceptsDistances_b28 at h
    refine ox_iload_n B 1 od_Reader_acceptsDistances_28 rfl rfl ?_
    refine ox_aload_n B 0 od_Reader_acceptsDistances_29 rfl rfl ?_
    refine ocg_Reader_49 B F od_Reader_acceptsDistances_30 ?_
    refine ocg_Reader_94 B F od_Reader_acceptsDistances_33 ?_
    refine ox_icmp_ge B 119 od_Reader_acceptsDistances_36 rfl (fun hc => ?_) (fun hc => ?_)
    · rw [if_pos hc] at h
      refine ox_iconst B od_Reader_acceptsDistances_119 oxk_i1 ?_
      cases h
      exact ox_iret B F od_Reader_acceptsDistances_120 rfl (ox_nz (Or.inr rfl)) hG
    · rw [if_neg hc] at h
      refine ox_aload_n B 0 od_Reader_acceptsDistances_39 rfl rfl ?_
      refine ocg_Reader_49 B F od_Reader_acceptsDistances_40 ?_
      refine ox_iload_n B 1 od_Reader_acceptsDistances_43 rfl rfl ?_
      obtain ⟨r2, hr2, h⟩ := ox_bind h
      refine occ_Reader_153 B F od_Reader_acceptsDistances_44 (As := [.int x1]) (rest := []) (st2 := [.int r2]) (ct_oc_Line_unsigned hok x1 σ _ hr2) ⟨rfl, rfl, Nat.le_of_ble_eq_true rfl, Nat.le_of_ble_eq_true rfl⟩ rfl (Nat.le_of_ble_eq_true rfl) rfl rfl ?_
      refine ox_istore_n B 2 od_Reader_acceptsDistances_47 rfl (by decide) rfl (L2 := [some (.ref (ad 3)), some (.int x1), some (.int r2)]) rfl ?_
      refine ox_aload_n B 0 od_Reader_acceptsDistances_48 rfl rfl ?_
      refine ocg_Reader_21 B F od_Reader_acceptsDistances_49 ?_
      refine ox_aload_n B 0 od_Reader_acceptsDistances_52 rfl rfl ?_
      obtain ⟨r3, hr3, h⟩ := ox_bind h
      refine occ_Reader_147 B F od_Reader_acceptsDistances_53 (As := []) (rest := [.int (σ.1 7)]) (st2 := [.int r3, .int (σ.1 7)]) (ct_oc_Reader_rows hok σ _ hr3) ⟨rfl, rfl, Nat.le_of_ble_eq_true rfl, Nat.le_of_ble_eq_true rfl⟩ rfl (Nat.le_of_ble_eq_true rfl) rfl rfl ?_
      refine ox_icmp_ge B 71 od_Reader_acceptsDistances_56 rfl (fun hc => ?_) (fun hc => ?_)
      · rw [if_pos hc] at h
        refine ox_iconst B od_Reader_acceptsDistances_71 oxk_i0 ?_
        cases h
        exact ox_iret B F od_Reader_acceptsDistances_72 rfl (ox_nz (Or.inl rfl)) hG
      · rw [if_neg hc] at h
        refine ox_iload_n B 2 od_Reader_acceptsDistances_59 rfl rfl ?_
        refine ox_if_lt B 71 od_Reader_acceptsDistances_60 rfl (fun hc => ?_) (fun hc => ?_)
        · rw [if_pos hc] at h
          refine ox_iconst B od_Reader_acceptsDistances_71 oxk_i0 ?_
          cases h
          exact ox_iret B F od_Reader_acceptsDistances_72 rfl (ox_nz (Or.inl rfl)) hG
        · rw [if_neg hc] at h
          refine ox_aload_n B 0 od_Reader_acceptsDistances_63 rfl rfl ?_
          refine ox_iload_n B 2 od_Reader_acceptsDistances_64 rfl rfl ?_
          obtain ⟨r4, hr4, h⟩ := ox_bind h
          refine occ_Reader_156 B F od_Reader_acceptsDistances_65 (As := [.int r2]) (rest := []) (st2 := [.int r4]) (ct_oc_Reader_fits hok r2 σ _ hr4) ⟨rfl, rfl, Nat.le_of_ble_eq_true rfl, Nat.le_of_ble_eq_true rfl⟩ rfl (Nat.le_of_ble_eq_true rfl) rfl rfl ?_
          refine ox_if_ne B 73 od_Reader_acceptsDistances_68 rfl (fun hc => ?_) (fun hc => ?_)
          · rw [if_neg hc] at h
            refine ox_aload_n B 0 od_Reader_acceptsDistances_73 rfl rfl ?_
            refine ocg_Reader_37 B F od_Reader_acceptsDistances_74 ?_
            refine ox_aload_n B 0 od_Reader_acceptsDistances_77 rfl rfl ?_
            refine ocg_Reader_21 B F od_Reader_acceptsDistances_78 ?_
            refine ox_bipush B od_Reader_acceptsDistances_81 oxk_b8 ?_
            refine ox_imul B od_Reader_acceptsDistances_83 ?_
            refine ox_aload_n B 0 od_Reader_acceptsDistances_84 rfl rfl ?_
            refine ocg_Reader_24 B F od_Reader_acceptsDistances_85 ?_
            refine ox_iadd B od_Reader_acceptsDistances_88 ?_
            refine ox_iload_n B 2 od_Reader_acceptsDistances_89 rfl rfl ?_
            obtain ⟨j5, ej5, hj5, h⟩ := ox_ix_some2 h
            obtain ⟨s6, es6, h⟩ := ox_let_some h
            refine ocas_5 B F od_Reader_acceptsDistances_90 hj5 ej5 es6 ?_
            refine ox_aload_n B 0 od_Reader_acceptsDistances_91 rfl rfl ?_
            refine ocg_Reader_37 B F od_Reader_acceptsDistances_92 ?_
            refine ox_aload_n B 0 od_Reader_acceptsDistances_95 rfl rfl ?_
            refine ocg_Reader_24 B F od_Reader_acceptsDistances_96 ?_
            refine ox_bipush B od_Reader_acceptsDistances_99 oxk_b8 ?_
            refine ox_imul B od_Reader_acceptsDistances_101 ?_
            refine ox_aload_n B 0 od_Reader_acceptsDistances_102 rfl rfl ?_
            refine ocg_Reader_21 B F od_Reader_acceptsDistances_103 ?_
            refine ox_iadd B od_Reader_acceptsDistances_106 ?_
            refine ox_iload_n B 2 od_Reader_acceptsDistances_107 rfl rfl ?_
            obtain ⟨j7, ej7, hj7, h⟩ := ox_ix_some2 h
            obtain ⟨s8, es8, h⟩ := ox_let_some h
            refine ocas_5 B F od_Reader_acceptsDistances_108 hj7 ej7 es8 ?_
            refine ox_aload_n B 0 od_Reader_acceptsDistances_109 rfl rfl ?_
            obtain ⟨s9, hs9, h⟩ := ox_bind h
            refine occ_Reader_160 B F od_Reader_acceptsDistances_110 (As := []) (rest := []) (st2 := []) (ct_oc_Reader_goToNextCell hok s8 _ hs9) ⟨rfl, rfl, Nat.le_of_ble_eq_true rfl, Nat.le_of_ble_eq_true rfl⟩ rfl (Nat.le_of_ble_eq_true rfl) rfl rfl ?_
            obtain ⟨v10, ev10, h⟩ := ox_let_some h
            refine ox_iinc B od_Reader_acceptsDistances_113 rfl ((congrArg (x1 + ·) oxk_i1).trans ev10.symm) (by decide) rfl (L2 := [some (.ref (ad 3)), some (.int v10), some (.int r2)]) rfl ?_
            refine ox_goto B 28 od_Reader_acceptsDistances_116 rfl ?_
            cases h
            exact (ox_mask [true, true, false] hG)
          · rw [if_pos hc] at h
            refine ox_iconst B od_Reader_acceptsDistances_71 oxk_i0 ?_
            cases h
            exact ox_iret B F od_Reader_acceptsDistances_72 rfl (ox_nz (Or.inl rfl)) hG
  have t_28 : ∀ (x1 : Int32) (σ : ox_S) (t : (Int32 × ox_S)), oc_Reader_acceptsDistances_h28 x1 σ = some t → (fun t : (Int32 × ox_S) => res = some (.int t.1) ∧ σf = t.2) t → ox_M p l e rm_oc_Reader_acceptsDistances s m args below meth c (oc_W D ad cI cC A adK adV) 3 res σf 28 [some (.ref (ad 3)), some (.int x1), none] [] σ := by
    intro x1 σ t h hG
    exact ox_w_run (fun t : (Int32 × ox_S) => ox_M p l e rm_oc_Reader_acceptsDistances s m args below meth c (oc_W D ad cI cC A adK adV) 3 res σf 28 [some (.ref (ad 3)), some (.int t.1), none] [] t.2) (fun t : (Int32 × ox_S) => res = some (.int t.1) ∧ σf = t.2) (fun a t h hG => t_b28 a.1 a.2 t h hG) (x1, σ) t h hG
  change ox_M p l e rm_oc_Reader_acceptsDistances s m args below meth c (oc_W D ad cI cC A adK adV) 3 res σf 0 [some (.ref (ad 3)), none, none] [] σ
  unfold oc_Reader_acceptsDistances at h
  refine ox_aload_n B 0 od_Reader_acceptsDistances_0 rfl rfl ?_
  refine ocg_Reader_21 B F od_Reader_acceptsDistances_1 ?_
  refine ox_aload_n B 0 od_Reader_acceptsDistances_4 rfl rfl ?_
  obtain ⟨r1, hr1, h⟩ := ox_bind h
  refine occ_Reader_147 B F od_Reader_acceptsDistances_5 (As := []) (rest := [.int (σ.1 7)]) (st2 := [.int r1, .int (σ.1 7)]) (ct_oc_Reader_rows hok σ _ hr1) ⟨rfl, rfl, Nat.le_of_ble_eq_true rfl, Nat.le_of_ble_eq_true rfl⟩ rfl (Nat.le_of_ble_eq_true rfl) rfl rfl ?_
  refine ox_icmp_lt B 26 od_Reader_acceptsDistances_8 rfl (fun hc => ?_) (fun hc => ?_)
  · rw [if_pos hc] at h
    refine ox_iconst B od_Reader_acceptsDistances_26 oxk_i0 ?_
    refine ox_istore_n B 1 od_Reader_acceptsDistances_27 rfl (by decide) rfl (L2 := [some (.ref (ad 3)), some (.int (0 : Int32)), none]) rfl ?_
    exact (t_28 (0 : Int32) σ _ h hG)
  · rw [if_neg hc] at h
    refine ox_aload_n B 0 od_Reader_acceptsDistances_11 rfl rfl ?_
    refine ocg_Reader_49 B F od_Reader_acceptsDistances_12 ?_
    refine ocg_Reader_94 B F od_Reader_acceptsDistances_15 ?_
    refine ox_if_le B 26 od_Reader_acceptsDistances_18 rfl (fun hc => ?_) (fun hc => ?_)
    · rw [if_pos hc] at h
      refine ox_iconst B od_Reader_acceptsDistances_26 oxk_i0 ?_
      refine ox_istore_n B 1 od_Reader_acceptsDistances_27 rfl (by decide) rfl (L2 := [some (.ref (ad 3)), some (.int (0 : Int32)), none]) rfl ?_
      exact (t_28 (0 : Int32) σ _ h hG)
    · rw [if_neg hc] at h
      refine ox_aload_n B 0 od_Reader_acceptsDistances_21 rfl rfl ?_
      obtain ⟨r11, s12, hr11, h⟩ := ox_b2_some h
      refine occ_Reader_150 B F od_Reader_acceptsDistances_22 (As := []) (rest := []) (st2 := [.int r11]) (ct_oc_Reader_acceptsEnd hok σ _ hr11) ⟨rfl, rfl, Nat.le_of_ble_eq_true rfl, Nat.le_of_ble_eq_true rfl⟩ rfl (Nat.le_of_ble_eq_true rfl) rfl rfl ?_
      obtain ⟨hz, h⟩ := ox_z_some h
      cases h
      exact ox_iret B F od_Reader_acceptsDistances_25 rfl (ox_nz hz) hG
abbrev rm_oc_Line_beginsWith : Room := { frames := 5, cells := 0, slots := 0, locals := 108 }
set_option maxRecDepth 100000 in
set_option maxHeartbeats 4000000 in
theorem ct_oc_Line_beginsWith {l : Launch} {D : va_G} {ad : Nat → Nat} {cI cC : ClassId} {A : Nat → Prop} {adK adV : Nat → Nat} (hok : ox_ok (oc_W D ad cI cC A adK adV)) (x1 : Nat) (σ : ox_S) (t : Int32) (h : oc_Line_beginsWith x1 σ = some t) : Met l oy_Line_beginsWith (Cond.code oy_Line_beginsWith prog_4_method_3_code 2 (some .boolean) :: ox_ws) rm_oc_Line_beginsWith (ox_P (oc_W D ad cI cC A adK adV) [.ref (ad 2), .ref (adK x1)] σ) (ox_Q (oc_W D ad cI cC A adK adV) (some (.int t)) σ) 0 0 A := by
  refine ox_met (ω := oc_W D ad cI cC A adK adV) (by decide) rfl hok (Nat.le_of_ble_eq_true rfl) ?_
  intro p e s m args below meth c B F
  generalize hres : (some (.int t) : Option Value) = res
  have hG : (fun t : Int32 => res = some (.int t) ∧ σ = σ) t := ⟨hres.symm, rfl⟩
  change ox_M p l e rm_oc_Line_beginsWith s m args below meth c (oc_W D ad cI cC A adK adV) 2 res σ 0 [some (.ref (ad 2)), some (.ref (adK x1))] [] σ
  unfold oc_Line_beginsWith at h
  refine ox_aload_n B 0 od_Line_beginsWith_0 rfl rfl ?_
  refine ocg_Line_22 B F od_Line_beginsWith_1 ?_
  refine ox_aload_n B 0 od_Line_beginsWith_4 rfl rfl ?_
  refine ocg_Line_18 B F od_Line_beginsWith_5 ?_
  refine ox_isub B od_Line_beginsWith_8 ?_
  refine ox_aload_n B 1 od_Line_beginsWith_9 rfl rfl ?_
  obtain ⟨r1, hr1, h⟩ := ox_bind h
  refine occ_Line_35 B F od_Line_beginsWith_10 ⟨Nat.le_of_ble_eq_true rfl, Nat.le_of_ble_eq_true rfl⟩ hr1 (rest := [.int ((σ.1 2) - (σ.1 1))]) (st2 := [.int r1, .int ((σ.1 2) - (σ.1 1))]) (Nat.le_of_ble_eq_true rfl) rfl ?_
  refine ox_icmp_lt B 32 od_Line_beginsWith_13 rfl (fun hc => ?_) (fun hc => ?_)
  · rw [if_pos hc] at h
    refine ox_iconst B od_Line_beginsWith_32 oxk_i0 ?_
    cases h
    exact ox_iret B F od_Line_beginsWith_33 rfl (ox_nz (Or.inl rfl)) hG
  · rw [if_neg hc] at h
    refine ox_aload_n B 0 od_Line_beginsWith_16 rfl rfl ?_
    refine ox_aload_n B 0 od_Line_beginsWith_17 rfl rfl ?_
    refine ocg_Line_18 B F od_Line_beginsWith_18 ?_
    refine ox_aload_n B 1 od_Line_beginsWith_21 rfl rfl ?_
    obtain ⟨r2, hr2, h⟩ := ox_bind h
    refine occ_Line_41 B F od_Line_beginsWith_22 (As := [.int (σ.1 1), .ref (adK x1)]) (rest := []) (st2 := [.int r2]) (ct_oc_Line_stands hok (σ.1 1) x1 σ _ hr2) ⟨rfl, rfl, Nat.le_of_ble_eq_true rfl, Nat.le_of_ble_eq_true rfl⟩ rfl (Nat.le_of_ble_eq_true rfl) rfl rfl ?_
    refine ox_if_eq B 32 od_Line_beginsWith_25 rfl (fun hc => ?_) (fun hc => ?_)
    · rw [if_pos hc] at h
      refine ox_iconst B od_Line_beginsWith_32 oxk_i0 ?_
      cases h
      exact ox_iret B F od_Line_beginsWith_33 rfl (ox_nz (Or.inl rfl)) hG
    · rw [if_neg hc] at h
      refine ox_iconst B od_Line_beginsWith_28 oxk_i1 ?_
      refine ox_goto B 33 od_Line_beginsWith_29 rfl ?_
      cases h
      exact ox_iret B F od_Line_beginsWith_33 rfl (ox_nz (Or.inr rfl)) hG
abbrev rm_oc_Reader_acceptsFormat : Room := { frames := 6, cells := 0, slots := 0, locals := 130 }
set_option maxRecDepth 100000 in
set_option maxHeartbeats 4000000 in
theorem ct_oc_Reader_acceptsFormat {l : Launch} {D : va_G} {ad : Nat → Nat} {cI cC : ClassId} {A : Nat → Prop} {adK adV : Nat → Nat} (hok : ox_ok (oc_W D ad cI cC A adK adV))  (σ : ox_S) (t : (Int32 × ox_S)) (h : oc_Reader_acceptsFormat  σ = some t) : Met l oy_Reader_acceptsFormat (Cond.code oy_Reader_acceptsFormat prog_6_method_8_code 1 (some .boolean) :: ox_ws) rm_oc_Reader_acceptsFormat (ox_P (oc_W D ad cI cC A adK adV) [.ref (ad 3)] σ) (ox_Q (oc_W D ad cI cC A adK adV) (some (.int t.1)) t.2) 0 0 A := by
  refine ox_met (ω := oc_W D ad cI cC A adK adV) (by decide) rfl hok (Nat.le_of_ble_eq_true rfl) ?_
  intro p e s m args below meth c B F
  generalize hres : (some (.int t.1) : Option Value) = res
  generalize hσf : t.2 = σf
  have hG : (fun t : (Int32 × ox_S) => res = some (.int t.1) ∧ σf = t.2) t := ⟨hres.symm, hσf.symm⟩
  change ox_M p l e rm_oc_Reader_acceptsFormat s m args below meth c (oc_W D ad cI cC A adK adV) 1 res σf 0 [some (.ref (ad 3))] [] σ
  unfold oc_Reader_acceptsFormat at h
  refine ox_aload_n B 0 od_Reader_acceptsFormat_0 rfl rfl ?_
  refine ocg_Reader_15 B F od_Reader_acceptsFormat_1 ?_
  refine ox_iconst B od_Reader_acceptsFormat_4 oxk_i1 ?_
  refine ox_icmp_ne B 15 od_Reader_acceptsFormat_5 rfl (fun hc => ?_) (fun hc => ?_)
  · rw [if_neg hc] at h
    refine ox_iconst B od_Reader_acceptsFormat_15 oxk_i0 ?_
    cases h
    exact ox_iret B F od_Reader_acceptsFormat_16 rfl (ox_nz (Or.inl rfl)) hG
  · rw [if_pos hc] at h
    refine ox_aload_n B 0 od_Reader_acceptsFormat_8 rfl rfl ?_
    refine ocg_Reader_18 B F od_Reader_acceptsFormat_9 ?_
    refine ox_if_eq B 17 od_Reader_acceptsFormat_12 rfl (fun hc => ?_) (fun hc => ?_)
    · rw [if_pos hc] at h
      refine ox_aload_n B 0 od_Reader_acceptsFormat_17 rfl rfl ?_
      refine ocg_Reader_49 B F od_Reader_acceptsFormat_18 ?_
      refine ox_iconst B od_Reader_acceptsFormat_21 oxk_i1 ?_
      refine ocs_Reader_131 B F od_Reader_acceptsFormat_22 ?_
      obtain ⟨r1, hr1, h⟩ := ox_bind h
      refine occ_Reader_102 B F od_Reader_acceptsFormat_24 (As := [.int (1 : Int32), .ref (adK 5)]) (rest := []) (st2 := [.int r1]) (ct_oc_Line_wordIs hok (1 : Int32) 5 σ _ hr1) ⟨rfl, rfl, Nat.le_of_ble_eq_true rfl, Nat.le_of_ble_eq_true rfl⟩ rfl (Nat.le_of_ble_eq_true rfl) rfl rfl ?_
      refine ox_if_eq B 38 od_Reader_acceptsFormat_27 rfl (fun hc => ?_) (fun hc => ?_)
      · rw [if_pos hc] at h
        refine ox_aload_n B 0 od_Reader_acceptsFormat_38 rfl rfl ?_
        refine ocg_Reader_49 B F od_Reader_acceptsFormat_39 ?_
        refine ox_iconst B od_Reader_acceptsFormat_42 oxk_i1 ?_
        refine ocs_Reader_133 B F od_Reader_acceptsFormat_43 ?_
        obtain ⟨r2, hr2, h⟩ := ox_bind h
        refine occ_Reader_102 B F od_Reader_acceptsFormat_45 (As := [.int (1 : Int32), .ref (adK 6)]) (rest := []) (st2 := [.int r2]) (ct_oc_Line_wordIs hok (1 : Int32) 6 σ _ hr2) ⟨rfl, rfl, Nat.le_of_ble_eq_true rfl, Nat.le_of_ble_eq_true rfl⟩ rfl (Nat.le_of_ble_eq_true rfl) rfl rfl ?_
        refine ox_if_eq B 59 od_Reader_acceptsFormat_48 rfl (fun hc => ?_) (fun hc => ?_)
        · rw [if_pos hc] at h
          refine ox_aload_n B 0 od_Reader_acceptsFormat_59 rfl rfl ?_
          refine ocg_Reader_49 B F od_Reader_acceptsFormat_60 ?_
          refine ox_iconst B od_Reader_acceptsFormat_63 oxk_i1 ?_
          refine ocs_Reader_135 B F od_Reader_acceptsFormat_64 ?_
          obtain ⟨r3, hr3, h⟩ := ox_bind h
          refine occ_Reader_102 B F od_Reader_acceptsFormat_66 (As := [.int (1 : Int32), .ref (adK 7)]) (rest := []) (st2 := [.int r3]) (ct_oc_Line_wordIs hok (1 : Int32) 7 σ _ hr3) ⟨rfl, rfl, Nat.le_of_ble_eq_true rfl, Nat.le_of_ble_eq_true rfl⟩ rfl (Nat.le_of_ble_eq_true rfl) rfl rfl ?_
          refine ox_if_eq B 77 od_Reader_acceptsFormat_69 rfl (fun hc => ?_) (fun hc => ?_)
          · rw [if_pos hc] at h
            refine ox_aload_n B 0 od_Reader_acceptsFormat_77 rfl rfl ?_
            refine ocg_Reader_18 B F od_Reader_acceptsFormat_78 ?_
            refine ox_if_eq B 88 od_Reader_acceptsFormat_81 rfl (fun hc => ?_) (fun hc => ?_)
            · rw [if_pos hc] at h
              refine ox_iconst B od_Reader_acceptsFormat_88 oxk_i0 ?_
              cases h
              exact ox_iret B F od_Reader_acceptsFormat_89 rfl (ox_nz (Or.inl rfl)) hG
            · rw [if_neg hc] at h
              refine ox_iconst B od_Reader_acceptsFormat_84 oxk_i1 ?_
              refine ox_goto B 89 od_Reader_acceptsFormat_85 rfl ?_
              cases h
              exact ox_iret B F od_Reader_acceptsFormat_89 rfl (ox_nz (Or.inr rfl)) hG
          · rw [if_neg hc] at h
            refine ox_aload_n B 0 od_Reader_acceptsFormat_72 rfl rfl ?_
            refine ox_iconst B od_Reader_acceptsFormat_73 oxk_i3 ?_
            obtain ⟨s4, es4, h⟩ := ox_let_some h
            refine ocp_Reader_18 B F od_Reader_acceptsFormat_74 es4 ?_
            refine ox_aload_n B 0 od_Reader_acceptsFormat_77 rfl rfl ?_
            refine ocg_Reader_18 B F od_Reader_acceptsFormat_78 ?_
            refine ox_if_eq B 88 od_Reader_acceptsFormat_81 rfl (fun hc => ?_) (fun hc => ?_)
            · rw [if_pos hc] at h
              refine ox_iconst B od_Reader_acceptsFormat_88 oxk_i0 ?_
              cases h
              exact ox_iret B F od_Reader_acceptsFormat_89 rfl (ox_nz (Or.inl rfl)) hG
            · rw [if_neg hc] at h
              refine ox_iconst B od_Reader_acceptsFormat_84 oxk_i1 ?_
              refine ox_goto B 89 od_Reader_acceptsFormat_85 rfl ?_
              cases h
              exact ox_iret B F od_Reader_acceptsFormat_89 rfl (ox_nz (Or.inr rfl)) hG
        · rw [if_neg hc] at h
          refine ox_aload_n B 0 od_Reader_acceptsFormat_51 rfl rfl ?_
          refine ox_iconst B od_Reader_acceptsFormat_52 oxk_i2 ?_
          obtain ⟨s5, es5, h⟩ := ox_let_some h
          refine ocp_Reader_18 B F od_Reader_acceptsFormat_53 es5 ?_
          refine ox_goto B 77 od_Reader_acceptsFormat_56 rfl ?_
          refine ox_aload_n B 0 od_Reader_acceptsFormat_77 rfl rfl ?_
          refine ocg_Reader_18 B F od_Reader_acceptsFormat_78 ?_
          refine ox_if_eq B 88 od_Reader_acceptsFormat_81 rfl (fun hc => ?_) (fun hc => ?_)
          · rw [if_pos hc] at h
            refine ox_iconst B od_Reader_acceptsFormat_88 oxk_i0 ?_
            cases h
            exact ox_iret B F od_Reader_acceptsFormat_89 rfl (ox_nz (Or.inl rfl)) hG
          · rw [if_neg hc] at h
            refine ox_iconst B od_Reader_acceptsFormat_84 oxk_i1 ?_
            refine ox_goto B 89 od_Reader_acceptsFormat_85 rfl ?_
            cases h
            exact ox_iret B F od_Reader_acceptsFormat_89 rfl (ox_nz (Or.inr rfl)) hG
      · rw [if_neg hc] at h
        refine ox_aload_n B 0 od_Reader_acceptsFormat_30 rfl rfl ?_
        refine ox_iconst B od_Reader_acceptsFormat_31 oxk_i1 ?_
        obtain ⟨s6, es6, h⟩ := ox_let_some h
        refine ocp_Reader_18 B F od_Reader_acceptsFormat_32 es6 ?_
        refine ox_goto B 77 od_Reader_acceptsFormat_35 rfl ?_
        refine ox_aload_n B 0 od_Reader_acceptsFormat_77 rfl rfl ?_
        refine ocg_Reader_18 B F od_Reader_acceptsFormat_78 ?_
        refine ox_if_eq B 88 od_Reader_acceptsFormat_81 rfl (fun hc => ?_) (fun hc => ?_)
        · rw [if_pos hc] at h
          refine ox_iconst B od_Reader_acceptsFormat_88 oxk_i0 ?_
          cases h
          exact ox_iret B F od_Reader_acceptsFormat_89 rfl (ox_nz (Or.inl rfl)) hG
        · rw [if_neg hc] at h
          refine ox_iconst B od_Reader_acceptsFormat_84 oxk_i1 ?_
          refine ox_goto B 89 od_Reader_acceptsFormat_85 rfl ?_
          cases h
          exact ox_iret B F od_Reader_acceptsFormat_89 rfl (ox_nz (Or.inr rfl)) hG
    · rw [if_neg hc] at h
      refine ox_iconst B od_Reader_acceptsFormat_15 oxk_i0 ?_
      cases h
      exact ox_iret B F od_Reader_acceptsFormat_16 rfl (ox_nz (Or.inl rfl)) hG
