abbrev rm_om_Mo_mark : Room := { frames := 1, cells := 0, slots := 0, locals := 21 }
set_option maxRecDepth 100000 in
set_option maxHeartbeats 4000000 in
theorem ct_om_Mo_mark {l : Launch} {D : va_G} {ad : Nat → Nat} {cI cC cZ : ClassId} {A : Nat → Prop} (hok : ox_ok (om_W D ad cI cC cZ A)) (x1 : Int32) (x2 : Int32) (x3 : Int32) (σ : ox_S) (t : (Int32 × ox_S)) (h : om_Mo_mark x1 x2 x3 σ = some t) : Met l oy_Mo_mark (Cond.code oy_Mo_mark prog_11_method_26_code 4 (some .boolean) :: ox_ws) rm_om_Mo_mark (ox_P (om_W D ad cI cC cZ A) [.ref (ad 0), .int x1, .int x2, .int x3] σ) (ox_Q (om_W D ad cI cC cZ A) (some (.int t.1)) t.2) 0 0 A := by
  refine ox_met (ω := om_W D ad cI cC cZ A) (by decide) rfl hok (Nat.le_of_ble_eq_true rfl) ?_
  intro p e s m args below meth c B F
  generalize hres : (some (.int t.1) : Option Value) = res
  generalize hσf : t.2 = σf
  have hG : (fun t : (Int32 × ox_S) => res = some (.int t.1) ∧ σf = t.2) t := ⟨hres.symm, hσf.symm⟩
  change ox_M p l e rm_om_Mo_mark s m args below meth c (om_W D ad cI cC cZ A) 4 res σf 0 [some (.ref (ad 0)), some (.int x1), some (.int x2), some (.int x3)] [] σ
  unfold om_Mo_mark at h
  refine ox_aload_n B 0 od_Mo_mark_0 rfl rfl ?_
  refine ox_iload_n B 1 od_Mo_mark_1 rfl rfl ?_
  obtain ⟨r1, hr1, h⟩ := ox_bind h
  refine omc_Mo_205 B F od_Mo_mark_2 (As := [.int x1]) (rest := []) (st2 := [.int r1]) (ct_om_Mo_city hok x1 σ _ hr1) ⟨rfl, rfl, Nat.le_of_ble_eq_true rfl, Nat.le_of_ble_eq_true rfl⟩ rfl (Nat.le_of_ble_eq_true rfl) rfl rfl ?_
  refine ox_if_eq B 30 od_Mo_mark_5 rfl (fun hc => ?_) (fun hc => ?_)
  · rw [if_pos hc] at h
    refine ox_iconst B od_Mo_mark_30 oxk_i0 ?_
    cases h
    exact ox_iret B F od_Mo_mark_31 rfl (ox_nz (Or.inl rfl)) hG
  · rw [if_neg hc] at h
    refine ox_aload_n B 0 od_Mo_mark_8 rfl rfl ?_
    refine ox_iload_n B 2 od_Mo_mark_9 rfl rfl ?_
    obtain ⟨r2, hr2, h⟩ := ox_bind h
    refine omc_Mo_205 B F od_Mo_mark_10 (As := [.int x2]) (rest := []) (st2 := [.int r2]) (ct_om_Mo_city hok x2 σ _ hr2) ⟨rfl, rfl, Nat.le_of_ble_eq_true rfl, Nat.le_of_ble_eq_true rfl⟩ rfl (Nat.le_of_ble_eq_true rfl) rfl rfl ?_
    refine ox_if_eq B 30 od_Mo_mark_13 rfl (fun hc => ?_) (fun hc => ?_)
    · rw [if_pos hc] at h
      refine ox_iconst B od_Mo_mark_30 oxk_i0 ?_
      cases h
      exact ox_iret B F od_Mo_mark_31 rfl (ox_nz (Or.inl rfl)) hG
    · rw [if_neg hc] at h
      refine ox_iload_n B 1 od_Mo_mark_16 rfl rfl ?_
      refine ox_iload_n B 2 od_Mo_mark_17 rfl rfl ?_
      refine ox_icmp_eq B 30 od_Mo_mark_18 rfl (fun hc => ?_) (fun hc => ?_)
      · rw [if_pos hc] at h
        refine ox_iconst B od_Mo_mark_30 oxk_i0 ?_
        cases h
        exact ox_iret B F od_Mo_mark_31 rfl (ox_nz (Or.inl rfl)) hG
      · rw [if_neg hc] at h
        refine ox_iload_n B 3 od_Mo_mark_21 rfl rfl ?_
        refine ox_if_lt B 30 od_Mo_mark_22 rfl (fun hc => ?_) (fun hc => ?_)
        · rw [if_pos hc] at h
          refine ox_iconst B od_Mo_mark_30 oxk_i0 ?_
          cases h
          exact ox_iret B F od_Mo_mark_31 rfl (ox_nz (Or.inl rfl)) hG
        · rw [if_neg hc] at h
          refine ox_iload_n B 3 od_Mo_mark_25 rfl rfl ?_
          refine ox_iconst B od_Mo_mark_26 oxk_i2 ?_
          refine ox_icmp_le B 32 od_Mo_mark_27 rfl (fun hc => ?_) (fun hc => ?_)
          · rw [if_pos hc] at h
            refine ox_aload_n B 0 od_Mo_mark_32 rfl rfl ?_
            refine omg_Mo_17 B F od_Mo_mark_33 ?_
            refine ox_bipush B od_Mo_mark_36 oxk_b8 ?_
            refine ox_iload_n B 1 od_Mo_mark_38 rfl rfl ?_
            refine ox_imul B od_Mo_mark_39 ?_
            refine ox_iload_n B 2 od_Mo_mark_40 rfl rfl ?_
            refine ox_iadd B od_Mo_mark_41 ?_
            refine ox_iload_n B 3 od_Mo_mark_42 rfl rfl ?_
            obtain ⟨j3, ej3, hj3, h⟩ := ox_ix_some2 h
            obtain ⟨s4, es4, h⟩ := ox_let_some h
            refine omas_2 B F od_Mo_mark_43 hj3 ej3 es4 ?_
            refine ox_aload_n B 0 od_Mo_mark_44 rfl rfl ?_
            refine omg_Mo_17 B F od_Mo_mark_45 ?_
            refine ox_bipush B od_Mo_mark_48 oxk_b8 ?_
            refine ox_iload_n B 2 od_Mo_mark_50 rfl rfl ?_
            refine ox_imul B od_Mo_mark_51 ?_
            refine ox_iload_n B 1 od_Mo_mark_52 rfl rfl ?_
            refine ox_iadd B od_Mo_mark_53 ?_
            refine ox_iload_n B 3 od_Mo_mark_54 rfl rfl ?_
            obtain ⟨j5, ej5, hj5, h⟩ := ox_ix_some2 h
            obtain ⟨s6, es6, h⟩ := ox_let_some h
            refine omas_2 B F od_Mo_mark_55 hj5 ej5 es6 ?_
            refine ox_iconst B od_Mo_mark_56 oxk_i1 ?_
            cases h
            exact ox_iret B F od_Mo_mark_57 rfl (ox_nz (Or.inr rfl)) hG
          · rw [if_neg hc] at h
            refine ox_iconst B od_Mo_mark_30 oxk_i0 ?_
            cases h
            exact ox_iret B F od_Mo_mark_31 rfl (ox_nz (Or.inl rfl)) hG
abbrev rm_om_Mo_lift : Room := { frames := 1, cells := 0, slots := 0, locals := 21 }
set_option maxRecDepth 100000 in
set_option maxHeartbeats 4000000 in
theorem ct_om_Mo_lift {l : Launch} {D : va_G} {ad : Nat → Nat} {cI cC cZ : ClassId} {A : Nat → Prop} (hok : ox_ok (om_W D ad cI cC cZ A)) (x1 : Int32) (x2 : Int32) (σ : ox_S) (t : (Int32 × ox_S)) (h : om_Mo_lift x1 x2 σ = some t) : Met l oy_Mo_lift (Cond.code oy_Mo_lift prog_11_method_27_code 3 (some .boolean) :: ox_ws) rm_om_Mo_lift (ox_P (om_W D ad cI cC cZ A) [.ref (ad 0), .int x1, .int x2] σ) (ox_Q (om_W D ad cI cC cZ A) (some (.int t.1)) t.2) 0 0 A := by
  refine ox_met (ω := om_W D ad cI cC cZ A) (by decide) rfl hok (Nat.le_of_ble_eq_true rfl) ?_
  intro p e s m args below meth c B F
  generalize hres : (some (.int t.1) : Option Value) = res
  generalize hσf : t.2 = σf
  have hG : (fun t : (Int32 × ox_S) => res = some (.int t.1) ∧ σf = t.2) t := ⟨hres.symm, hσf.symm⟩
  change ox_M p l e rm_om_Mo_lift s m args below meth c (om_W D ad cI cC cZ A) 3 res σf 0 [some (.ref (ad 0)), some (.int x1), some (.int x2)] [] σ
  unfold om_Mo_lift at h
  refine ox_aload_n B 0 od_Mo_lift_0 rfl rfl ?_
  refine ox_iload_n B 1 od_Mo_lift_1 rfl rfl ?_
  obtain ⟨r1, hr1, h⟩ := ox_bind h
  refine omc_Mo_205 B F od_Mo_lift_2 (As := [.int x1]) (rest := []) (st2 := [.int r1]) (ct_om_Mo_city hok x1 σ _ hr1) ⟨rfl, rfl, Nat.le_of_ble_eq_true rfl, Nat.le_of_ble_eq_true rfl⟩ rfl (Nat.le_of_ble_eq_true rfl) rfl rfl ?_
  refine ox_if_eq B 20 od_Mo_lift_5 rfl (fun hc => ?_) (fun hc => ?_)
  · rw [if_pos hc] at h
    refine ox_iconst B od_Mo_lift_20 oxk_i0 ?_
    cases h
    exact ox_iret B F od_Mo_lift_21 rfl (ox_nz (Or.inl rfl)) hG
  · rw [if_neg hc] at h
    refine ox_iload_n B 2 od_Mo_lift_8 rfl rfl ?_
    refine ox_ldc B od_Mo_lift_9 omk_Mo_208 ?_
    refine ox_icmp_lt B 20 od_Mo_lift_11 rfl (fun hc => ?_) (fun hc => ?_)
    · rw [if_pos hc] at h
      refine ox_iconst B od_Mo_lift_20 oxk_i0 ?_
      cases h
      exact ox_iret B F od_Mo_lift_21 rfl (ox_nz (Or.inl rfl)) hG
    · rw [if_neg hc] at h
      refine ox_iload_n B 2 od_Mo_lift_14 rfl rfl ?_
      refine ox_ldc B od_Mo_lift_15 omk_Mo_209 ?_
      refine ox_icmp_le B 22 od_Mo_lift_17 rfl (fun hc => ?_) (fun hc => ?_)
      · rw [if_pos hc] at h
        refine ox_aload_n B 0 od_Mo_lift_22 rfl rfl ?_
        refine omg_Mo_20 B F od_Mo_lift_23 ?_
        refine ox_iload_n B 1 od_Mo_lift_26 rfl rfl ?_
        refine ox_iload_n B 2 od_Mo_lift_27 rfl rfl ?_
        obtain ⟨j2, ej2, hj2, h⟩ := ox_ix_some2 h
        obtain ⟨s3, es3, h⟩ := ox_let_some h
        refine omas_3 B F od_Mo_lift_28 hj2 ej2 es3 ?_
        refine ox_iconst B od_Mo_lift_29 oxk_i1 ?_
        cases h
        exact ox_iret B F od_Mo_lift_30 rfl (ox_nz (Or.inr rfl)) hG
      · rw [if_neg hc] at h
        refine ox_iconst B od_Mo_lift_20 oxk_i0 ?_
        cases h
        exact ox_iret B F od_Mo_lift_21 rfl (ox_nz (Or.inl rfl)) hG
abbrev rm_om_Mo_potential : Room := { frames := 1, cells := 0, slots := 0, locals := 21 }
set_option maxRecDepth 100000 in
set_option maxHeartbeats 4000000 in
theorem ct_om_Mo_potential {l : Launch} {D : va_G} {ad : Nat → Nat} {cI cC cZ : ClassId} {A : Nat → Prop} (hok : ox_ok (om_W D ad cI cC cZ A)) (x1 : Int32) (σ : ox_S) (t : Int32) (h : om_Mo_potential x1 σ = some t) : Met l oy_Mo_potential (Cond.code oy_Mo_potential prog_11_method_28_code 2 (some .int) :: ox_ws) rm_om_Mo_potential (ox_P (om_W D ad cI cC cZ A) [.ref (ad 0), .int x1] σ) (ox_Q (om_W D ad cI cC cZ A) (some (.int t)) σ) 0 0 A := by
  refine ox_met (ω := om_W D ad cI cC cZ A) (by decide) rfl hok (Nat.le_of_ble_eq_true rfl) ?_
  intro p e s m args below meth c B F
  generalize hres : (some (.int t) : Option Value) = res
  have hG : (fun t : Int32 => res = some (.int t) ∧ σ = σ) t := ⟨hres.symm, rfl⟩
  change ox_M p l e rm_om_Mo_potential s m args below meth c (om_W D ad cI cC cZ A) 2 res σ 0 [some (.ref (ad 0)), some (.int x1)] [] σ
  unfold om_Mo_potential at h
  refine ox_aload_n B 0 od_Mo_potential_0 rfl rfl ?_
  refine ox_iload_n B 1 od_Mo_potential_1 rfl rfl ?_
  obtain ⟨r1, hr1, h⟩ := ox_bind h
  refine omc_Mo_205 B F od_Mo_potential_2 (As := [.int x1]) (rest := []) (st2 := [.int r1]) (ct_om_Mo_city hok x1 σ _ hr1) ⟨rfl, rfl, Nat.le_of_ble_eq_true rfl, Nat.le_of_ble_eq_true rfl⟩ rfl (Nat.le_of_ble_eq_true rfl) rfl rfl ?_
  refine ox_if_eq B 17 od_Mo_potential_5 rfl (fun hc => ?_) (fun hc => ?_)
  · rw [if_pos hc] at h
    refine ox_iconst B od_Mo_potential_17 oxk_i0 ?_
    cases h
    exact ox_iret B F od_Mo_potential_18 rfl rfl hG
  · rw [if_neg hc] at h
    refine ox_aload_n B 0 od_Mo_potential_8 rfl rfl ?_
    refine omg_Mo_20 B F od_Mo_potential_9 ?_
    refine ox_iload_n B 1 od_Mo_potential_12 rfl rfl ?_
    obtain ⟨j2, ej2, hj2, h⟩ := ox_ix_some2 h
    refine omal_3 B F od_Mo_potential_13 hj2 ej2 ?_
    refine ox_goto B 18 od_Mo_potential_14 rfl ?_
    cases h
    exact ox_iret B F od_Mo_potential_18 rfl rfl hG
abbrev rm_om_Mo_ownRules : Room := { frames := 0, cells := 0, slots := 0, locals := 0 }
set_option maxRecDepth 100000 in
set_option maxHeartbeats 4000000 in
theorem ct_om_Mo_ownRules {l : Launch} {D : va_G} {ad : Nat → Nat} {cI cC cZ : ClassId} {A : Nat → Prop} (hok : ox_ok (om_W D ad cI cC cZ A))  (σ : ox_S) (t : ox_S) (h : om_Mo_ownRules  σ = some t) : Met l oy_Mo_ownRules (Cond.code oy_Mo_ownRules prog_11_method_36_code 2 none :: ox_ws) rm_om_Mo_ownRules (ox_P (om_W D ad cI cC cZ A) [.ref (ad 0)] σ) (ox_Q (om_W D ad cI cC cZ A) none t) 0 0 A := by
  refine ox_met (ω := om_W D ad cI cC cZ A) (by decide) rfl hok (Nat.le_of_ble_eq_true rfl) ?_
  intro p e s m args below meth c B F
  generalize hres : (none : Option Value) = res
  have hG : res = none ∧ t = t := ⟨hres.symm, rfl⟩
  obtain ⟨σf, hσf⟩ : ∃ z, z = t := ⟨_, rfl⟩
  have hG : (fun t : ox_S => res = none ∧ σf = t) t := ⟨hres.symm, hσf⟩
  rw [show ox_M p l e rm_om_Mo_ownRules s m args below meth c (om_W D ad cI cC cZ A) 2 res t 0 (ox_l0 [.ref (ad 0)] 2) [] σ = ox_M p l e rm_om_Mo_ownRules s m args below meth c (om_W D ad cI cC cZ A) 2 res σf 0 (ox_l0 [.ref (ad 0)] 2) [] σ by rw [hσf]]
  have t_b2 : ∀ (x1 : Int32) (σ : ox_S) (t : ((Int32 × ox_S) ⊕ ox_S)), om_Mo_ownRules_b2 x1 σ = some t → (ox_G (fun t : (Int32 × ox_S) => ox_M p l e rm_om_Mo_ownRules s m args below meth c (om_W D ad cI cC cZ A) 2 res σf 2 [some (.ref (ad 0)), some (.int t.1)] [] t.2) (fun t : ox_S => res = none ∧ σf = t)) t → ox_M p l e rm_om_Mo_ownRules s m args below meth c (om_W D ad cI cC cZ A) 2 res σf 2 [some (.ref (ad 0)), some (.int x1)] [] σ := by
    intro x1 σ t h hG
    unfold om_Mo_ownRules_b2 at h
    refine ox_iload_n B 1 od_Mo_ownRules_2 rfl rfl ?_
    refine ox_bipush B od_Mo_ownRules_3 oxk_b64 ?_
    refine ox_icmp_ge B 26 od_Mo_ownRules_5 rfl (fun hc => ?_) (fun hc => ?_)
    · rw [if_pos hc] at h
      cases h
      exact ox_vret B F od_Mo_ownRules_26 rfl hG
    · rw [if_neg hc] at h
      refine ox_aload_n B 0 od_Mo_ownRules_8 rfl rfl ?_
      refine omg_Mo_45 B F od_Mo_ownRules_9 ?_
      refine ox_iload_n B 1 od_Mo_ownRules_12 rfl rfl ?_
      refine ox_aload_n B 0 od_Mo_ownRules_13 rfl rfl ?_
      refine omg_Mo_17 B F od_Mo_ownRules_14 ?_
      refine ox_iload_n B 1 od_Mo_ownRules_17 rfl rfl ?_
      obtain ⟨j1, ej1, hj1, h⟩ := ox_ix_some2 h
      refine omal_2 B F od_Mo_ownRules_18 hj1 ej1 ?_
      obtain ⟨j2, ej2, hj2, h⟩ := ox_ix_some2 h
      obtain ⟨s3, es3, h⟩ := ox_let_some h
      refine omas_11 B F od_Mo_ownRules_19 hj2 ej2 es3 ?_
      obtain ⟨v4, ev4, h⟩ := ox_let_some h
      refine ox_iinc B od_Mo_ownRules_20 rfl ((congrArg (x1 + ·) oxk_i1).trans ev4.symm) (by decide) rfl (L2 := [some (.ref (ad 0)), some (.int v4)]) rfl ?_
      refine ox_goto B 2 od_Mo_ownRules_23 rfl ?_
      cases h
      exact hG
  have t_2 : ∀ (x1 : Int32) (σ : ox_S) (t : ox_S), om_Mo_ownRules_h2 x1 σ = some t → (fun t : ox_S => res = none ∧ σf = t) t → ox_M p l e rm_om_Mo_ownRules s m args below meth c (om_W D ad cI cC cZ A) 2 res σf 2 [some (.ref (ad 0)), some (.int x1)] [] σ := by
    intro x1 σ t h hG
    exact ox_w_run (fun t : (Int32 × ox_S) => ox_M p l e rm_om_Mo_ownRules s m args below meth c (om_W D ad cI cC cZ A) 2 res σf 2 [some (.ref (ad 0)), some (.int t.1)] [] t.2) (fun t : ox_S => res = none ∧ σf = t) (fun a t h hG => t_b2 a.1 a.2 t h hG) (x1, σ) t h hG
  change ox_M p l e rm_om_Mo_ownRules s m args below meth c (om_W D ad cI cC cZ A) 2 res σf 0 [some (.ref (ad 0)), none] [] σ
  unfold om_Mo_ownRules at h
  refine ox_iconst B od_Mo_ownRules_0 oxk_i0 ?_
  refine ox_istore_n B 1 od_Mo_ownRules_1 rfl (by decide) rfl (L2 := [some (.ref (ad 0)), some (.int (0 : Int32))]) rfl ?_
  exact (t_2 (0 : Int32) σ _ h hG)
abbrev rm_om_Mo_weight : Room := { frames := 0, cells := 0, slots := 0, locals := 0 }
set_option maxRecDepth 100000 in
set_option maxHeartbeats 4000000 in
theorem ct_om_Mo_weight {l : Launch} {D : va_G} {ad : Nat → Nat} {cI cC cZ : ClassId} {A : Nat → Prop} (hok : ox_ok (om_W D ad cI cC cZ A)) (x1 : Int32) (x2 : Int32) (σ : ox_S) (t : Int32) (h : om_Mo_weight x1 x2 σ = some t) : Met l oy_Mo_weight (Cond.code oy_Mo_weight prog_11_method_29_code 3 (some .int) :: ox_ws) rm_om_Mo_weight (ox_P (om_W D ad cI cC cZ A) [.ref (ad 0), .int x1, .int x2] σ) (ox_Q (om_W D ad cI cC cZ A) (some (.int t)) σ) 0 0 A := by
  refine ox_met (ω := om_W D ad cI cC cZ A) (by decide) rfl hok (Nat.le_of_ble_eq_true rfl) ?_
  intro p e s m args below meth c B F
  generalize hres : (some (.int t) : Option Value) = res
  have hG : (fun t : Int32 => res = some (.int t) ∧ σ = σ) t := ⟨hres.symm, rfl⟩
  change ox_M p l e rm_om_Mo_weight s m args below meth c (om_W D ad cI cC cZ A) 3 res σ 0 [some (.ref (ad 0)), some (.int x1), some (.int x2)] [] σ
  unfold om_Mo_weight at h
  refine ox_aload_n B 0 od_Mo_weight_0 rfl rfl ?_
  refine omg_Mo_13 B F od_Mo_weight_1 ?_
  refine ox_bipush B od_Mo_weight_4 oxk_b8 ?_
  refine ox_iload_n B 1 od_Mo_weight_6 rfl rfl ?_
  refine ox_imul B od_Mo_weight_7 ?_
  refine ox_iload_n B 2 od_Mo_weight_8 rfl rfl ?_
  refine ox_iadd B od_Mo_weight_9 ?_
  obtain ⟨j1, ej1, hj1, h⟩ := ox_ix_some2 h
  refine omal_1 B F od_Mo_weight_10 hj1 ej1 ?_
  refine ox_aload_n B 0 od_Mo_weight_11 rfl rfl ?_
  refine omg_Mo_20 B F od_Mo_weight_12 ?_
  refine ox_iload_n B 1 od_Mo_weight_15 rfl rfl ?_
  obtain ⟨j2, ej2, hj2, h⟩ := ox_ix_some2 h
  refine omal_3 B F od_Mo_weight_16 hj2 ej2 ?_
  refine ox_iadd B od_Mo_weight_17 ?_
  refine ox_aload_n B 0 od_Mo_weight_18 rfl rfl ?_
  refine omg_Mo_20 B F od_Mo_weight_19 ?_
  refine ox_iload_n B 2 od_Mo_weight_22 rfl rfl ?_
  obtain ⟨j3, ej3, hj3, h⟩ := ox_ix_some2 h
  refine omal_3 B F od_Mo_weight_23 hj3 ej3 ?_
  refine ox_iadd B od_Mo_weight_24 ?_
  cases h
  exact ox_iret B F od_Mo_weight_25 rfl rfl hG
abbrev rm_om_Mo_worse : Room := { frames := 1, cells := 0, slots := 0, locals := 22 }
set_option maxRecDepth 100000 in
set_option maxHeartbeats 4000000 in
theorem ct_om_Mo_worse {l : Launch} {D : va_G} {ad : Nat → Nat} {cI cC cZ : ClassId} {A : Nat → Prop} (hok : ox_ok (om_W D ad cI cC cZ A)) (x1 : Int32) (x2 : Int32) (σ : ox_S) (t : Int32) (h : om_Mo_worse x1 x2 σ = some t) : Met l oy_Mo_worse (Cond.code oy_Mo_worse prog_11_method_32_code 5 (some .boolean) :: ox_ws) rm_om_Mo_worse (ox_P (om_W D ad cI cC cZ A) [.ref (ad 0), .int x1, .int x2] σ) (ox_Q (om_W D ad cI cC cZ A) (some (.int t)) σ) 0 0 A := by
  refine ox_met (ω := om_W D ad cI cC cZ A) (by decide) rfl hok (Nat.le_of_ble_eq_true rfl) ?_
  intro p e s m args below meth c B F
  generalize hres : (some (.int t) : Option Value) = res
  have hG : (fun t : Int32 => res = some (.int t) ∧ σ = σ) t := ⟨hres.symm, rfl⟩
  change ox_M p l e rm_om_Mo_worse s m args below meth c (om_W D ad cI cC cZ A) 5 res σ 0 [some (.ref (ad 0)), some (.int x1), some (.int x2), none, none] [] σ
  unfold om_Mo_worse at h
  refine ox_aload_n B 0 od_Mo_worse_0 rfl rfl ?_
  refine ox_iload_n B 1 od_Mo_worse_1 rfl rfl ?_
  refine ox_bipush B od_Mo_worse_2 oxk_b8 ?_
  refine ox_idiv B od_Mo_worse_4 (by decide) ?_
  refine ox_iload_n B 1 od_Mo_worse_5 rfl rfl ?_
  refine ox_bipush B od_Mo_worse_6 oxk_b8 ?_
  refine ox_irem B od_Mo_worse_8 (by decide) ?_
  obtain ⟨r1, hr1, h⟩ := ox_bind h
  refine omc_Mo_214 B F od_Mo_worse_9 (As := [.int (x1 / (8 : Int32)), .int (x1 - x1 / (8 : Int32) * (8 : Int32))]) (rest := []) (st2 := [.int r1]) (ct_om_Mo_weight hok (x1 / (8 : Int32)) (x1 - x1 / (8 : Int32) * (8 : Int32)) σ _ hr1) ⟨rfl, rfl, Nat.le_of_ble_eq_true rfl, Nat.le_of_ble_eq_true rfl⟩ rfl (Nat.le_of_ble_eq_true rfl) rfl rfl ?_
  refine ox_istore_n B 3 od_Mo_worse_12 rfl (by decide) rfl (L2 := [some (.ref (ad 0)), some (.int x1), some (.int x2), some (.int r1), none]) rfl ?_
  refine ox_aload_n B 0 od_Mo_worse_13 rfl rfl ?_
  refine ox_iload_n B 2 od_Mo_worse_14 rfl rfl ?_
  refine ox_bipush B od_Mo_worse_15 oxk_b8 ?_
  refine ox_idiv B od_Mo_worse_17 (by decide) ?_
  refine ox_iload_n B 2 od_Mo_worse_18 rfl rfl ?_
  refine ox_bipush B od_Mo_worse_19 oxk_b8 ?_
  refine ox_irem B od_Mo_worse_21 (by decide) ?_
  obtain ⟨r2, hr2, h⟩ := ox_bind h
  refine omc_Mo_214 B F od_Mo_worse_22 (As := [.int (x2 / (8 : Int32)), .int (x2 - x2 / (8 : Int32) * (8 : Int32))]) (rest := []) (st2 := [.int r2]) (ct_om_Mo_weight hok (x2 / (8 : Int32)) (x2 - x2 / (8 : Int32) * (8 : Int32)) σ _ hr2) ⟨rfl, rfl, Nat.le_of_ble_eq_true rfl, Nat.le_of_ble_eq_true rfl⟩ rfl (Nat.le_of_ble_eq_true rfl) rfl rfl ?_
  refine ox_istore B od_Mo_worse_25 (by decide) rfl (L2 := [some (.ref (ad 0)), some (.int x1), some (.int x2), some (.int r1), some (.int r2)]) rfl ?_
  refine ox_iload_n B 3 od_Mo_worse_27 rfl rfl ?_
  refine ox_iload B od_Mo_worse_28 rfl ?_
  refine ox_icmp_eq B 47 od_Mo_worse_30 rfl (fun hc => ?_) (fun hc => ?_)
  · rw [if_pos hc] at h
    refine ox_iload_n B 1 od_Mo_worse_47 rfl rfl ?_
    refine ox_iload_n B 2 od_Mo_worse_48 rfl rfl ?_
    refine ox_icmp_le B 56 od_Mo_worse_49 rfl (fun hc => ?_) (fun hc => ?_)
    · rw [if_pos hc] at h
      refine ox_iconst B od_Mo_worse_56 oxk_i0 ?_
      cases h
      exact ox_iret B F od_Mo_worse_57 rfl (ox_nz (Or.inl rfl)) hG
    · rw [if_neg hc] at h
      refine ox_iconst B od_Mo_worse_52 oxk_i1 ?_
      refine ox_goto B 57 od_Mo_worse_53 rfl ?_
      cases h
      exact ox_iret B F od_Mo_worse_57 rfl (ox_nz (Or.inr rfl)) hG
  · rw [if_neg hc] at h
    refine ox_iload_n B 3 od_Mo_worse_33 rfl rfl ?_
    refine ox_iload B od_Mo_worse_34 rfl ?_
    refine ox_icmp_le B 43 od_Mo_worse_36 rfl (fun hc => ?_) (fun hc => ?_)
    · rw [if_pos hc] at h
      refine ox_iconst B od_Mo_worse_43 oxk_i0 ?_
      refine ox_goto B 57 od_Mo_worse_44 rfl ?_
      cases h
      exact ox_iret B F od_Mo_worse_57 rfl (ox_nz (Or.inl rfl)) hG
    · rw [if_neg hc] at h
      refine ox_iconst B od_Mo_worse_39 oxk_i1 ?_
      refine ox_goto B 57 od_Mo_worse_40 rfl ?_
      cases h
      exact ox_iret B F od_Mo_worse_57 rfl (ox_nz (Or.inr rfl)) hG
abbrev rm_om_Mo_worst : Room := { frames := 2, cells := 0, slots := 0, locals := 46 }
set_option maxRecDepth 100000 in
set_option maxHeartbeats 4000000 in
theorem ct_om_Mo_worst {l : Launch} {D : va_G} {ad : Nat → Nat} {cI cC cZ : ClassId} {A : Nat → Prop} (hok : ox_ok (om_W D ad cI cC cZ A)) (x1 : Int32) (x2 : Int32) (σ : ox_S) (t : Int32) (h : om_Mo_worst x1 x2 σ = some t) : Met l oy_Mo_worst (Cond.code oy_Mo_worst prog_11_method_31_code 8 (some .int) :: ox_ws) rm_om_Mo_worst (ox_P (om_W D ad cI cC cZ A) [.ref (ad 0), .int x1, .int x2] σ) (ox_Q (om_W D ad cI cC cZ A) (some (.int t)) σ) 0 0 A := by
  refine ox_met (ω := om_W D ad cI cC cZ A) (by decide) rfl hok (Nat.le_of_ble_eq_true rfl) ?_
  intro p e s m args below meth c B F
  generalize hres : (some (.int t) : Option Value) = res
  have hG : (fun t : Int32 => res = some (.int t) ∧ σ = σ) t := ⟨hres.symm, rfl⟩
  have t_93 : ∀ (x1 : Int32) (x2 : Int32) (x3 : Int32) (x4 : Int32) (x5 : Int32) (x6 : Int32) (y0 : Int32)  (t : ((Int32 × Int32) ⊕ ((Int32 × Int32) ⊕ Int32))), om_Mo_worst_j93 x1 x2 x3 x4 x5 x6 y0 σ = some t → (ox_G (fun t : (Int32 × Int32) => ox_M p l e rm_om_Mo_worst s m args below meth c (om_W D ad cI cC cZ A) 8 res σ 20 [some (.ref (ad 0)), some (.int x1), some (.int x2), some (.int t.1), some (.int x4), some (.int t.2), none, none] [] σ) (ox_G (fun t : (Int32 × Int32) => ox_M p l e rm_om_Mo_worst s m args below meth c (om_W D ad cI cC cZ A) 8 res σ 5 [some (.ref (ad 0)), some (.int x1), some (.int x2), some (.int t.1), some (.int t.2), none, none, none] [] σ) (fun t : Int32 => res = some (.int t) ∧ σ = σ))) t → ox_M p l e rm_om_Mo_worst s m args below meth c (om_W D ad cI cC cZ A) 8 res σ 93 [some (.ref (ad 0)), some (.int x1), some (.int x2), some (.int x3), some (.int x4), some (.int x5), some (.int x6), none] [.int y0] σ := by
    intro x1 x2 x3 x4 x5 x6 y0  t h hG
    unfold om_Mo_worst_j93 at h
    refine ox_istore B od_Mo_worst_93 (by decide) rfl (L2 := [some (.ref (ad 0)), some (.int x1), some (.int x2), some (.int x3), some (.int x4), some (.int x5), some (.int x6), some (.int y0)]) rfl ?_
    refine ox_iload B od_Mo_worst_95 rfl ?_
    refine ox_if_eq B 119 od_Mo_worst_97 rfl (fun hc => ?_) (fun hc => ?_)
    · rw [if_pos hc] at h
      refine ox_iload_n B 3 od_Mo_worst_119 rfl rfl ?_
      refine ox_istore_n B 3 od_Mo_worst_120 rfl (by decide) rfl (L2 := [some (.ref (ad 0)), some (.int x1), some (.int x2), some (.int x3), some (.int x4), some (.int x5), some (.int x6), some (.int y0)]) rfl ?_
      obtain ⟨v5, ev5, h⟩ := ox_let_some h
      refine ox_iinc B od_Mo_worst_121 rfl ((congrArg (x5 + ·) oxk_i1).trans ev5.symm) (by decide) rfl (L2 := [some (.ref (ad 0)), some (.int x1), some (.int x2), some (.int x3), some (.int x4), some (.int v5), some (.int x6), some (.int y0)]) rfl ?_
      refine ox_goto B 20 od_Mo_worst_124 rfl ?_
      cases h
      exact (ox_mask [true, true, true, true, true, true, false, false] hG)
    · rw [if_neg hc] at h
      refine ox_iload_n B 3 od_Mo_worst_100 rfl rfl ?_
      refine ox_if_lt B 114 od_Mo_worst_101 rfl (fun hc => ?_) (fun hc => ?_)
      · rw [if_pos hc] at h
        refine ox_iload B od_Mo_worst_114 rfl ?_
        refine ox_goto B 120 od_Mo_worst_116 rfl ?_
        refine ox_istore_n B 3 od_Mo_worst_120 rfl (by decide) rfl (L2 := [some (.ref (ad 0)), some (.int x1), some (.int x2), some (.int x6), some (.int x4), some (.int x5), some (.int x6), some (.int y0)]) rfl ?_
        obtain ⟨v6, ev6, h⟩ := ox_let_some h
        refine ox_iinc B od_Mo_worst_121 rfl ((congrArg (x5 + ·) oxk_i1).trans ev6.symm) (by decide) rfl (L2 := [some (.ref (ad 0)), some (.int x1), some (.int x2), some (.int x6), some (.int x4), some (.int v6), some (.int x6), some (.int y0)]) rfl ?_
        refine ox_goto B 20 od_Mo_worst_124 rfl ?_
        cases h
        exact (ox_mask [true, true, true, true, true, true, false, false] hG)
      · rw [if_neg hc] at h
        refine ox_aload_n B 0 od_Mo_worst_104 rfl rfl ?_
        refine ox_iload B od_Mo_worst_105 rfl ?_
        refine ox_iload_n B 3 od_Mo_worst_107 rfl rfl ?_
        obtain ⟨r7, hr7, h⟩ := ox_bind h
        refine omc_Mo_210 B F od_Mo_worst_108 (As := [.int x6, .int x3]) (rest := []) (st2 := [.int r7]) (ct_om_Mo_worse hok x6 x3 σ _ hr7) ⟨rfl, rfl, Nat.le_of_ble_eq_true rfl, Nat.le_of_ble_eq_true rfl⟩ rfl (Nat.le_of_ble_eq_true rfl) rfl rfl ?_
        refine ox_if_eq B 119 od_Mo_worst_111 rfl (fun hc => ?_) (fun hc => ?_)
        · rw [if_pos hc] at h
          refine ox_iload_n B 3 od_Mo_worst_119 rfl rfl ?_
          refine ox_istore_n B 3 od_Mo_worst_120 rfl (by decide) rfl (L2 := [some (.ref (ad 0)), some (.int x1), some (.int x2), some (.int x3), some (.int x4), some (.int x5), some (.int x6), some (.int y0)]) rfl ?_
          obtain ⟨v8, ev8, h⟩ := ox_let_some h
          refine ox_iinc B od_Mo_worst_121 rfl ((congrArg (x5 + ·) oxk_i1).trans ev8.symm) (by decide) rfl (L2 := [some (.ref (ad 0)), some (.int x1), some (.int x2), some (.int x3), some (.int x4), some (.int v8), some (.int x6), some (.int y0)]) rfl ?_
          refine ox_goto B 20 od_Mo_worst_124 rfl ?_
          cases h
          exact (ox_mask [true, true, true, true, true, true, false, false] hG)
        · rw [if_neg hc] at h
          refine ox_iload B od_Mo_worst_114 rfl ?_
          refine ox_goto B 120 od_Mo_worst_116 rfl ?_
          refine ox_istore_n B 3 od_Mo_worst_120 rfl (by decide) rfl (L2 := [some (.ref (ad 0)), some (.int x1), some (.int x2), some (.int x6), some (.int x4), some (.int x5), some (.int x6), some (.int y0)]) rfl ?_
          obtain ⟨v9, ev9, h⟩ := ox_let_some h
          refine ox_iinc B od_Mo_worst_121 rfl ((congrArg (x5 + ·) oxk_i1).trans ev9.symm) (by decide) rfl (L2 := [some (.ref (ad 0)), some (.int x1), some (.int x2), some (.int x6), some (.int x4), some (.int v9), some (.int x6), some (.int y0)]) rfl ?_
          refine ox_goto B 20 od_Mo_worst_124 rfl ?_
          cases h
          exact (ox_mask [true, true, true, true, true, true, false, false] hG)
  have t_70 : ∀ (x1 : Int32) (x2 : Int32) (x3 : Int32) (x4 : Int32) (x5 : Int32) (x6 : Int32) (y0 : Int32)  (t : ((Int32 × Int32) ⊕ ((Int32 × Int32) ⊕ Int32))), om_Mo_worst_j70 x1 x2 x3 x4 x5 x6 y0 σ = some t → (ox_G (fun t : (Int32 × Int32) => ox_M p l e rm_om_Mo_worst s m args below meth c (om_W D ad cI cC cZ A) 8 res σ 20 [some (.ref (ad 0)), some (.int x1), some (.int x2), some (.int t.1), some (.int x4), some (.int t.2), none, none] [] σ) (ox_G (fun t : (Int32 × Int32) => ox_M p l e rm_om_Mo_worst s m args below meth c (om_W D ad cI cC cZ A) 8 res σ 5 [some (.ref (ad 0)), some (.int x1), some (.int x2), some (.int t.1), some (.int t.2), none, none, none] [] σ) (fun t : Int32 => res = some (.int t) ∧ σ = σ))) t → ox_M p l e rm_om_Mo_worst s m args below meth c (om_W D ad cI cC cZ A) 8 res σ 70 [some (.ref (ad 0)), some (.int x1), some (.int x2), some (.int x3), some (.int x4), some (.int x5), some (.int x6), none] [.int y0] σ := by
    intro x1 x2 x3 x4 x5 x6 y0  t h hG
    unfold om_Mo_worst_j70 at h
    refine ox_iload_n B 1 od_Mo_worst_70 rfl rfl ?_
    refine ox_icmp_ne B 92 od_Mo_worst_71 rfl (fun hc => ?_) (fun hc => ?_)
    · rw [if_neg hc] at h
      refine ox_iconst B od_Mo_worst_92 oxk_i0 ?_
      exact (t_93 x1 x2 x3 x4 x5 x6 (0 : Int32) _ h hG)
    · rw [if_pos hc] at h
      refine ox_iload_n B 2 od_Mo_worst_74 rfl rfl ?_
      refine ox_if_lt B 88 od_Mo_worst_75 rfl (fun hc => ?_) (fun hc => ?_)
      · rw [if_pos hc] at h
        refine ox_iconst B od_Mo_worst_88 oxk_i1 ?_
        refine ox_goto B 93 od_Mo_worst_89 rfl ?_
        exact (t_93 x1 x2 x3 x4 x5 x6 (1 : Int32) _ h hG)
      · rw [if_neg hc] at h
        refine ox_aload_n B 0 od_Mo_worst_78 rfl rfl ?_
        refine ox_iload_n B 2 od_Mo_worst_79 rfl rfl ?_
        refine ox_iload B od_Mo_worst_80 rfl ?_
        obtain ⟨r11, hr11, h⟩ := ox_bind h
        refine omc_Mo_210 B F od_Mo_worst_82 (As := [.int x2, .int x6]) (rest := []) (st2 := [.int r11]) (ct_om_Mo_worse hok x2 x6 σ _ hr11) ⟨rfl, rfl, Nat.le_of_ble_eq_true rfl, Nat.le_of_ble_eq_true rfl⟩ rfl (Nat.le_of_ble_eq_true rfl) rfl rfl ?_
        refine ox_if_eq B 92 od_Mo_worst_85 rfl (fun hc => ?_) (fun hc => ?_)
        · rw [if_pos hc] at h
          refine ox_iconst B od_Mo_worst_92 oxk_i0 ?_
          exact (t_93 x1 x2 x3 x4 x5 x6 (0 : Int32) _ h hG)
        · rw [if_neg hc] at h
          refine ox_iconst B od_Mo_worst_88 oxk_i1 ?_
          refine ox_goto B 93 od_Mo_worst_89 rfl ?_
          exact (t_93 x1 x2 x3 x4 x5 x6 (1 : Int32) _ h hG)
  have t_b20 : ∀ (x1 : Int32) (x2 : Int32) (x3 : Int32) (x4 : Int32) (x5 : Int32)  (t : ((Int32 × Int32) ⊕ ((Int32 × Int32) ⊕ Int32))), om_Mo_worst_b20 x1 x2 x3 x4 x5 σ = some t → (ox_G (fun t : (Int32 × Int32) => ox_M p l e rm_om_Mo_worst s m args below meth c (om_W D ad cI cC cZ A) 8 res σ 20 [some (.ref (ad 0)), some (.int x1), some (.int x2), some (.int t.1), some (.int x4), some (.int t.2), none, none] [] σ) (ox_G (fun t : (Int32 × Int32) => ox_M p l e rm_om_Mo_worst s m args below meth c (om_W D ad cI cC cZ A) 8 res σ 5 [some (.ref (ad 0)), some (.int x1), some (.int x2), some (.int t.1), some (.int t.2), none, none, none] [] σ) (fun t : Int32 => res = some (.int t) ∧ σ = σ))) t → ox_M p l e rm_om_Mo_worst s m args below meth c (om_W D ad cI cC cZ A) 8 res σ 20 [some (.ref (ad 0)), some (.int x1), some (.int x2), some (.int x3), some (.int x4), some (.int x5), none, none] [] σ := by
    intro x1 x2 x3 x4 x5  t h hG
    unfold om_Mo_worst_b20 at h
    refine ox_iload B od_Mo_worst_20 rfl ?_
    refine ox_aload_n B 0 od_Mo_worst_22 rfl rfl ?_
    refine omg_Mo_187 B F od_Mo_worst_23 ?_
    refine ox_icmp_ge B 127 od_Mo_worst_26 rfl (fun hc => ?_) (fun hc => ?_)
    · rw [if_pos hc] at h
      obtain ⟨v2, ev2, h⟩ := ox_let_some h
      refine ox_iinc B od_Mo_worst_127 rfl ((congrArg (x4 + ·) oxk_i1).trans ev2.symm) (by decide) rfl (L2 := [some (.ref (ad 0)), some (.int x1), some (.int x2), some (.int x3), some (.int v2), some (.int x5), none, none]) rfl ?_
      refine ox_goto B 5 od_Mo_worst_130 rfl ?_
      cases h
      exact (ox_mask [true, true, true, true, true, false, false, false] hG)
    · rw [if_neg hc] at h
      refine ox_bipush B od_Mo_worst_29 oxk_b8 ?_
      refine ox_iload B od_Mo_worst_31 rfl ?_
      refine ox_imul B od_Mo_worst_33 ?_
      refine ox_iload B od_Mo_worst_34 rfl ?_
      refine ox_iadd B od_Mo_worst_36 ?_
      obtain ⟨v3, ev3, h⟩ := ox_let_some h
      refine ox_topi ev3 ?_
      refine ox_istore B od_Mo_worst_37 (by decide) rfl (L2 := [some (.ref (ad 0)), some (.int x1), some (.int x2), some (.int x3), some (.int x4), some (.int x5), some (.int v3), none]) rfl ?_
      refine ox_aload_n B 0 od_Mo_worst_39 rfl rfl ?_
      refine omg_Mo_41 B F od_Mo_worst_40 ?_
      refine ox_iload B od_Mo_worst_43 rfl ?_
      obtain ⟨j4, ej4, hj4, h⟩ := ox_ix_some2 h
      refine omal_10 B F od_Mo_worst_45 hj4 ej4 ?_
      refine ox_if_eq B 92 od_Mo_worst_46 rfl (fun hc => ?_) (fun hc => ?_)
      · rw [if_pos hc] at h
        refine ox_iconst B od_Mo_worst_92 oxk_i0 ?_
        exact (t_93 x1 x2 x3 x4 x5 v3 (0 : Int32) _ h hG)
      · rw [if_neg hc] at h
        refine ox_aload_n B 0 od_Mo_worst_49 rfl rfl ?_
        refine omg_Mo_45 B F od_Mo_worst_50 ?_
        refine ox_iload B od_Mo_worst_53 rfl ?_
        obtain ⟨j10, ej10, hj10, h⟩ := ox_ix_some2 h
        refine omal_11 B F od_Mo_worst_55 hj10 ej10 ?_
        refine ox_iconst B od_Mo_worst_56 oxk_i1 ?_
        refine ox_icmp_eq B 92 od_Mo_worst_57 rfl (fun hc => ?_) (fun hc => ?_)
        · rw [if_pos hc] at h
          refine ox_iconst B od_Mo_worst_92 oxk_i0 ?_
          exact (t_93 x1 x2 x3 x4 x5 v3 (0 : Int32) _ h hG)
        · rw [if_neg hc] at h
          refine ox_iload B od_Mo_worst_60 rfl ?_
          refine ox_if_ne B 69 od_Mo_worst_62 rfl (fun hc => ?_) (fun hc => ?_)
          · rw [if_neg hc] at h
            refine ox_iconst B od_Mo_worst_69 oxk_i0 ?_
            exact (t_70 x1 x2 x3 x4 x5 v3 (0 : Int32) _ h hG)
          · rw [if_pos hc] at h
            refine ox_iconst B od_Mo_worst_65 oxk_i1 ?_
            refine ox_goto B 70 od_Mo_worst_66 rfl ?_
            exact (t_70 x1 x2 x3 x4 x5 v3 (1 : Int32) _ h hG)
  have t_20 : ∀ (x1 : Int32) (x2 : Int32) (x3 : Int32) (x4 : Int32) (x5 : Int32)  (t : ((Int32 × Int32) ⊕ Int32)), om_Mo_worst_h20 x1 x2 x3 x4 x5 σ = some t → (ox_G (fun t : (Int32 × Int32) => ox_M p l e rm_om_Mo_worst s m args below meth c (om_W D ad cI cC cZ A) 8 res σ 5 [some (.ref (ad 0)), some (.int x1), some (.int x2), some (.int t.1), some (.int t.2), none, none, none] [] σ) (fun t : Int32 => res = some (.int t) ∧ σ = σ)) t → ox_M p l e rm_om_Mo_worst s m args below meth c (om_W D ad cI cC cZ A) 8 res σ 20 [some (.ref (ad 0)), some (.int x1), some (.int x2), some (.int x3), some (.int x4), some (.int x5), none, none] [] σ := by
    intro x1 x2 x3 x4 x5  t h hG
    exact ox_w_run (fun t : (Int32 × Int32) => ox_M p l e rm_om_Mo_worst s m args below meth c (om_W D ad cI cC cZ A) 8 res σ 20 [some (.ref (ad 0)), some (.int x1), some (.int x2), some (.int t.1), some (.int x4), some (.int t.2), none, none] [] σ) (ox_G (fun t : (Int32 × Int32) => ox_M p l e rm_om_Mo_worst s m args below meth c (om_W D ad cI cC cZ A) 8 res σ 5 [some (.ref (ad 0)), some (.int x1), some (.int x2), some (.int t.1), some (.int t.2), none, none, none] [] σ) (fun t : Int32 => res = some (.int t) ∧ σ = σ)) (fun a t h hG => t_b20 x1 x2 a.1 x4 a.2  t h hG) (x3, x5) t h hG
  have t_b5 : ∀ (x1 : Int32) (x2 : Int32) (x3 : Int32) (x4 : Int32)  (t : ((Int32 × Int32) ⊕ Int32)), om_Mo_worst_b5 x1 x2 x3 x4 σ = some t → (ox_G (fun t : (Int32 × Int32) => ox_M p l e rm_om_Mo_worst s m args below meth c (om_W D ad cI cC cZ A) 8 res σ 5 [some (.ref (ad 0)), some (.int x1), some (.int x2), some (.int t.1), some (.int t.2), none, none, none] [] σ) (fun t : Int32 => res = some (.int t) ∧ σ = σ)) t → ox_M p l e rm_om_Mo_worst s m args below meth c (om_W D ad cI cC cZ A) 8 res σ 5 [some (.ref (ad 0)), some (.int x1), some (.int x2), some (.int x3), some (.int x4), none, none, none] [] σ := by
    intro x1 x2 x3 x4  t h hG
    unfold om_Mo_worst_b5 at h
    refine ox_iload B od_Mo_worst_5 rfl ?_
    refine ox_aload_n B 0 od_Mo_worst_7 rfl rfl ?_
    refine omg_Mo_187 B F od_Mo_worst_8 ?_
    refine ox_icmp_ge B 133 od_Mo_worst_11 rfl (fun hc => ?_) (fun hc => ?_)
    · rw [if_pos hc] at h
      refine ox_iload_n B 3 od_Mo_worst_133 rfl rfl ?_
      cases h
      exact ox_iret B F od_Mo_worst_134 rfl rfl hG
    · rw [if_neg hc] at h
      refine ox_iload B od_Mo_worst_14 rfl ?_
      refine ox_iconst B od_Mo_worst_16 oxk_i1 ?_
      refine ox_iadd B od_Mo_worst_17 ?_
      obtain ⟨v1, ev1, h⟩ := ox_let_some h
      refine ox_topi ev1 ?_
      refine ox_istore B od_Mo_worst_18 (by decide) rfl (L2 := [some (.ref (ad 0)), some (.int x1), some (.int x2), some (.int x3), some (.int x4), some (.int v1), none, none]) rfl ?_
      exact (t_20 x1 x2 x3 x4 v1 _ h hG)
  have t_5 : ∀ (x1 : Int32) (x2 : Int32) (x3 : Int32) (x4 : Int32)  (t : Int32), om_Mo_worst_h5 x1 x2 x3 x4 σ = some t → (fun t : Int32 => res = some (.int t) ∧ σ = σ) t → ox_M p l e rm_om_Mo_worst s m args below meth c (om_W D ad cI cC cZ A) 8 res σ 5 [some (.ref (ad 0)), some (.int x1), some (.int x2), some (.int x3), some (.int x4), none, none, none] [] σ := by
    intro x1 x2 x3 x4  t h hG
    exact ox_w_run (fun t : (Int32 × Int32) => ox_M p l e rm_om_Mo_worst s m args below meth c (om_W D ad cI cC cZ A) 8 res σ 5 [some (.ref (ad 0)), some (.int x1), some (.int x2), some (.int t.1), some (.int t.2), none, none, none] [] σ) (fun t : Int32 => res = some (.int t) ∧ σ = σ) (fun a t h hG => t_b5 x1 x2 a.1 a.2  t h hG) (x3, x4) t h hG
  change ox_M p l e rm_om_Mo_worst s m args below meth c (om_W D ad cI cC cZ A) 8 res σ 0 [some (.ref (ad 0)), some (.int x1), some (.int x2), none, none, none, none, none] [] σ
  unfold om_Mo_worst at h
  refine ox_iconst B od_Mo_worst_0 oxk_im1 ?_
  refine ox_istore_n B 3 od_Mo_worst_1 rfl (by decide) rfl (L2 := [some (.ref (ad 0)), some (.int x1), some (.int x2), some (.int (-1 : Int32)), none, none, none, none]) rfl ?_
  refine ox_iconst B od_Mo_worst_2 oxk_i0 ?_
  refine ox_istore B od_Mo_worst_3 (by decide) rfl (L2 := [some (.ref (ad 0)), some (.int x1), some (.int x2), some (.int (-1 : Int32)), some (.int (0 : Int32)), none, none, none]) rfl ?_
  exact (t_5 x1 x2 (-1 : Int32) (0 : Int32) _ h hG)
abbrev rm_om_Mo_count : Room := { frames := 0, cells := 0, slots := 0, locals := 0 }
set_option maxRecDepth 100000 in
set_option maxHeartbeats 4000000 in
theorem ct_om_Mo_count {l : Launch} {D : va_G} {ad : Nat → Nat} {cI cC cZ : ClassId} {A : Nat → Prop} (hok : ox_ok (om_W D ad cI cC cZ A)) (x1 : Int32) (σ : ox_S) (t : Int32) (h : om_Mo_count x1 σ = some t) : Met l oy_Mo_count (Cond.code oy_Mo_count prog_11_method_33_code 5 (some .int) :: ox_ws) rm_om_Mo_count (ox_P (om_W D ad cI cC cZ A) [.ref (ad 0), .int x1] σ) (ox_Q (om_W D ad cI cC cZ A) (some (.int t)) σ) 0 0 A := by
  refine ox_met (ω := om_W D ad cI cC cZ A) (by decide) rfl hok (Nat.le_of_ble_eq_true rfl) ?_
  intro p e s m args below meth c B F
  generalize hres : (some (.int t) : Option Value) = res
  have hG : (fun t : Int32 => res = some (.int t) ∧ σ = σ) t := ⟨hres.symm, rfl⟩
  have t_51 : ∀ (x1 : Int32) (x3 : Int32) (x4 : Int32) (y0 : Int32) (y1 : Int32)  (t : ((Int32 × Int32) ⊕ ((Int32 × Int32) ⊕ Int32))), om_Mo_count_j51 x1 x3 x4 y0 y1 σ = some t → (ox_G (fun t : (Int32 × Int32) => ox_M p l e rm_om_Mo_count s m args below meth c (om_W D ad cI cC cZ A) 5 res σ 17 [some (.ref (ad 0)), some (.int x1), some (.int t.1), some (.int x3), some (.int t.2)] [] σ) (ox_G (fun t : (Int32 × Int32) => ox_M p l e rm_om_Mo_count s m args below meth c (om_W D ad cI cC cZ A) 5 res σ 4 [some (.ref (ad 0)), some (.int x1), some (.int t.1), some (.int t.2), none] [] σ) (fun t : Int32 => res = some (.int t) ∧ σ = σ))) t → ox_M p l e rm_om_Mo_count s m args below meth c (om_W D ad cI cC cZ A) 5 res σ 51 [some (.ref (ad 0)), some (.int x1), none, some (.int x3), some (.int x4)] [.int y0, .int y1] σ := by
    intro x1 x3 x4 y0 y1  t h hG
    unfold om_Mo_count_j51 at h
    refine ox_iload_n B 1 od_Mo_count_51 rfl rfl ?_
    refine ox_icmp_ne B 59 od_Mo_count_52 rfl (fun hc => ?_) (fun hc => ?_)
    · rw [if_neg hc] at h
      refine ox_iconst B od_Mo_count_59 oxk_i0 ?_
      refine ox_iadd B od_Mo_count_60 ?_
      obtain ⟨v6, ev6, h⟩ := ox_let_some h
      refine ox_topi ev6 ?_
      refine ox_istore_n B 2 od_Mo_count_61 rfl (by decide) rfl (L2 := [some (.ref (ad 0)), some (.int x1), some (.int v6), some (.int x3), some (.int x4)]) rfl ?_
      obtain ⟨v7, ev7, h⟩ := ox_let_some h
      refine ox_iinc B od_Mo_count_62 rfl ((congrArg (x4 + ·) oxk_i1).trans ev7.symm) (by decide) rfl (L2 := [some (.ref (ad 0)), some (.int x1), some (.int v6), some (.int x3), some (.int v7)]) rfl ?_
      refine ox_goto B 17 od_Mo_count_65 rfl ?_
      cases h
      exact hG
    · rw [if_pos hc] at h
      refine ox_iconst B od_Mo_count_55 oxk_i1 ?_
      refine ox_goto B 60 od_Mo_count_56 rfl ?_
      refine ox_iadd B od_Mo_count_60 ?_
      obtain ⟨v8, ev8, h⟩ := ox_let_some h
      refine ox_topi ev8 ?_
      refine ox_istore_n B 2 od_Mo_count_61 rfl (by decide) rfl (L2 := [some (.ref (ad 0)), some (.int x1), some (.int v8), some (.int x3), some (.int x4)]) rfl ?_
      obtain ⟨v9, ev9, h⟩ := ox_let_some h
      refine ox_iinc B od_Mo_count_62 rfl ((congrArg (x4 + ·) oxk_i1).trans ev9.symm) (by decide) rfl (L2 := [some (.ref (ad 0)), some (.int x1), some (.int v8), some (.int x3), some (.int v9)]) rfl ?_
      refine ox_goto B 17 od_Mo_count_65 rfl ?_
      cases h
      exact hG
  have t_b17 : ∀ (x1 : Int32) (x2 : Int32) (x3 : Int32) (x4 : Int32)  (t : ((Int32 × Int32) ⊕ ((Int32 × Int32) ⊕ Int32))), om_Mo_count_b17 x1 x2 x3 x4 σ = some t → (ox_G (fun t : (Int32 × Int32) => ox_M p l e rm_om_Mo_count s m args below meth c (om_W D ad cI cC cZ A) 5 res σ 17 [some (.ref (ad 0)), some (.int x1), some (.int t.1), some (.int x3), some (.int t.2)] [] σ) (ox_G (fun t : (Int32 × Int32) => ox_M p l e rm_om_Mo_count s m args below meth c (om_W D ad cI cC cZ A) 5 res σ 4 [some (.ref (ad 0)), some (.int x1), some (.int t.1), some (.int t.2), none] [] σ) (fun t : Int32 => res = some (.int t) ∧ σ = σ))) t → ox_M p l e rm_om_Mo_count s m args below meth c (om_W D ad cI cC cZ A) 5 res σ 17 [some (.ref (ad 0)), some (.int x1), some (.int x2), some (.int x3), some (.int x4)] [] σ := by
    intro x1 x2 x3 x4  t h hG
    unfold om_Mo_count_b17 at h
    refine ox_iload B od_Mo_count_17 rfl ?_
    refine ox_aload_n B 0 od_Mo_count_19 rfl rfl ?_
    refine omg_Mo_187 B F od_Mo_count_20 ?_
    refine ox_icmp_ge B 68 od_Mo_count_23 rfl (fun hc => ?_) (fun hc => ?_)
    · rw [if_pos hc] at h
      obtain ⟨v2, ev2, h⟩ := ox_let_some h
      refine ox_iinc B od_Mo_count_68 rfl ((congrArg (x3 + ·) oxk_i1).trans ev2.symm) (by decide) rfl (L2 := [some (.ref (ad 0)), some (.int x1), some (.int x2), some (.int v2), some (.int x4)]) rfl ?_
      refine ox_goto B 4 od_Mo_count_71 rfl ?_
      cases h
      exact (ox_mask [true, true, true, true, false] hG)
    · rw [if_neg hc] at h
      refine ox_iload_n B 2 od_Mo_count_26 rfl rfl ?_
      refine ox_aload_n B 0 od_Mo_count_27 rfl rfl ?_
      refine omg_Mo_41 B F od_Mo_count_28 ?_
      refine ox_bipush B od_Mo_count_31 oxk_b8 ?_
      refine ox_iload_n B 3 od_Mo_count_33 rfl rfl ?_
      refine ox_imul B od_Mo_count_34 ?_
      refine ox_iload B od_Mo_count_35 rfl ?_
      refine ox_iadd B od_Mo_count_37 ?_
      obtain ⟨j3, ej3, hj3, h⟩ := ox_ix_some2 h
      refine omal_10 B F od_Mo_count_38 hj3 ej3 ?_
      refine ox_if_eq B 59 od_Mo_count_39 rfl (fun hc => ?_) (fun hc => ?_)
      · rw [if_pos hc] at h
        refine ox_iconst B od_Mo_count_59 oxk_i0 ?_
        refine ox_iadd B od_Mo_count_60 ?_
        obtain ⟨v4, ev4, h⟩ := ox_let_some h
        refine ox_topi ev4 ?_
        refine ox_istore_n B 2 od_Mo_count_61 rfl (by decide) rfl (L2 := [some (.ref (ad 0)), some (.int x1), some (.int v4), some (.int x3), some (.int x4)]) rfl ?_
        obtain ⟨v5, ev5, h⟩ := ox_let_some h
        refine ox_iinc B od_Mo_count_62 rfl ((congrArg (x4 + ·) oxk_i1).trans ev5.symm) (by decide) rfl (L2 := [some (.ref (ad 0)), some (.int x1), some (.int v4), some (.int x3), some (.int v5)]) rfl ?_
        refine ox_goto B 17 od_Mo_count_65 rfl ?_
        cases h
        exact hG
      · rw [if_neg hc] at h
        refine ox_iload_n B 3 od_Mo_count_42 rfl rfl ?_
        refine ox_if_ne B 50 od_Mo_count_43 rfl (fun hc => ?_) (fun hc => ?_)
        · rw [if_neg hc] at h
          refine ox_iconst B od_Mo_count_50 oxk_i0 ?_
          exact (ox_mask [true, true, false, true, true] (t_51 x1 x3 x4 (0 : Int32) x2 _ h hG))
        · rw [if_pos hc] at h
          refine ox_iconst B od_Mo_count_46 oxk_i1 ?_
          refine ox_goto B 51 od_Mo_count_47 rfl ?_
          exact (ox_mask [true, true, false, true, true] (t_51 x1 x3 x4 (1 : Int32) x2 _ h hG))
  have t_17 : ∀ (x1 : Int32) (x2 : Int32) (x3 : Int32) (x4 : Int32)  (t : ((Int32 × Int32) ⊕ Int32)), om_Mo_count_h17 x1 x2 x3 x4 σ = some t → (ox_G (fun t : (Int32 × Int32) => ox_M p l e rm_om_Mo_count s m args below meth c (om_W D ad cI cC cZ A) 5 res σ 4 [some (.ref (ad 0)), some (.int x1), some (.int t.1), some (.int t.2), none] [] σ) (fun t : Int32 => res = some (.int t) ∧ σ = σ)) t → ox_M p l e rm_om_Mo_count s m args below meth c (om_W D ad cI cC cZ A) 5 res σ 17 [some (.ref (ad 0)), some (.int x1), some (.int x2), some (.int x3), some (.int x4)] [] σ := by
    intro x1 x2 x3 x4  t h hG
    exact ox_w_run (fun t : (Int32 × Int32) => ox_M p l e rm_om_Mo_count s m args below meth c (om_W D ad cI cC cZ A) 5 res σ 17 [some (.ref (ad 0)), some (.int x1), some (.int t.1), some (.int x3), some (.int t.2)] [] σ) (ox_G (fun t : (Int32 × Int32) => ox_M p l e rm_om_Mo_count s m args below meth c (om_W D ad cI cC cZ A) 5 res σ 4 [some (.ref (ad 0)), some (.int x1), some (.int t.1), some (.int t.2), none] [] σ) (fun t : Int32 => res = some (.int t) ∧ σ = σ)) (fun a t h hG => t_b17 x1 a.1 x3 a.2  t h hG) (x2, x4) t h hG
  have t_b4 : ∀ (x1 : Int32) (x2 : Int32) (x3 : Int32)  (t : ((Int32 × Int32) ⊕ Int32)), om_Mo_count_b4 x1 x2 x3 σ = some t → (ox_G (fun t : (Int32 × Int32) => ox_M p l e rm_om_Mo_count s m args below meth c (om_W D ad cI cC cZ A) 5 res σ 4 [some (.ref (ad 0)), some (.int x1), some (.int t.1), some (.int t.2), none] [] σ) (fun t : Int32 => res = some (.int t) ∧ σ = σ)) t → ox_M p l e rm_om_Mo_count s m args below meth c (om_W D ad cI cC cZ A) 5 res σ 4 [some (.ref (ad 0)), some (.int x1), some (.int x2), some (.int x3), none] [] σ := by
    intro x1 x2 x3  t h hG
    unfold om_Mo_count_b4 at h
    refine ox_iload_n B 3 od_Mo_count_4 rfl rfl ?_
    refine ox_aload_n B 0 od_Mo_count_5 rfl rfl ?_
    refine omg_Mo_187 B F od_Mo_count_6 ?_
    refine ox_icmp_ge B 74 od_Mo_count_9 rfl (fun hc => ?_) (fun hc => ?_)
    · rw [if_pos hc] at h
      refine ox_iload_n B 2 od_Mo_count_74 rfl rfl ?_
      cases h
      exact ox_iret B F od_Mo_count_75 rfl rfl hG
    · rw [if_neg hc] at h
      refine ox_iload_n B 3 od_Mo_count_12 rfl rfl ?_
      refine ox_iconst B od_Mo_count_13 oxk_i1 ?_
      refine ox_iadd B od_Mo_count_14 ?_
      obtain ⟨v1, ev1, h⟩ := ox_let_some h
      refine ox_topi ev1 ?_
      refine ox_istore B od_Mo_count_15 (by decide) rfl (L2 := [some (.ref (ad 0)), some (.int x1), some (.int x2), some (.int x3), some (.int v1)]) rfl ?_
      exact (t_17 x1 x2 x3 v1 _ h hG)
  have t_4 : ∀ (x1 : Int32) (x2 : Int32) (x3 : Int32)  (t : Int32), om_Mo_count_h4 x1 x2 x3 σ = some t → (fun t : Int32 => res = some (.int t) ∧ σ = σ) t → ox_M p l e rm_om_Mo_count s m args below meth c (om_W D ad cI cC cZ A) 5 res σ 4 [some (.ref (ad 0)), some (.int x1), some (.int x2), some (.int x3), none] [] σ := by
    intro x1 x2 x3  t h hG
    exact ox_w_run (fun t : (Int32 × Int32) => ox_M p l e rm_om_Mo_count s m args below meth c (om_W D ad cI cC cZ A) 5 res σ 4 [some (.ref (ad 0)), some (.int x1), some (.int t.1), some (.int t.2), none] [] σ) (fun t : Int32 => res = some (.int t) ∧ σ = σ) (fun a t h hG => t_b4 x1 a.1 a.2  t h hG) (x2, x3) t h hG
  change ox_M p l e rm_om_Mo_count s m args below meth c (om_W D ad cI cC cZ A) 5 res σ 0 [some (.ref (ad 0)), some (.int x1), none, none, none] [] σ
  unfold om_Mo_count at h
  refine ox_iconst B od_Mo_count_0 oxk_i0 ?_
  refine ox_istore_n B 2 od_Mo_count_1 rfl (by decide) rfl (L2 := [some (.ref (ad 0)), some (.int x1), some (.int (0 : Int32)), none, none]) rfl ?_
  refine ox_iconst B od_Mo_count_2 oxk_i0 ?_
  refine ox_istore_n B 3 od_Mo_count_3 rfl (by decide) rfl (L2 := [some (.ref (ad 0)), some (.int x1), some (.int (0 : Int32)), some (.int (0 : Int32)), none]) rfl ?_
  exact (t_4 x1 (0 : Int32) (0 : Int32) _ h hG)
abbrev rm_om_Mo_joins : Room := { frames := 0, cells := 0, slots := 0, locals := 0 }
set_option maxRecDepth 100000 in
set_option maxHeartbeats 4000000 in
theorem ct_om_Mo_joins {l : Launch} {D : va_G} {ad : Nat → Nat} {cI cC cZ : ClassId} {A : Nat → Prop} (hok : ox_ok (om_W D ad cI cC cZ A)) (x1 : Int32) (x2 : Int32) (σ : ox_S) (t : (Int32 × ox_S)) (h : om_Mo_joins x1 x2 σ = some t) : Met l oy_Mo_joins (Cond.code oy_Mo_joins prog_11_method_30_code 7 (some .boolean) :: ox_ws) rm_om_Mo_joins (ox_P (om_W D ad cI cC cZ A) [.ref (ad 0), .int x1, .int x2] σ) (ox_Q (om_W D ad cI cC cZ A) (some (.int t.1)) t.2) 0 0 A := by
  refine ox_met (ω := om_W D ad cI cC cZ A) (by decide) rfl hok (Nat.le_of_ble_eq_true rfl) ?_
  intro p e s m args below meth c B F
  generalize hres : (some (.int t.1) : Option Value) = res
  generalize hσf : t.2 = σf
  have hG : (fun t : (Int32 × ox_S) => res = some (.int t.1) ∧ σf = t.2) t := ⟨hres.symm, hσf.symm⟩
  have t_b163 : ∀ (x4 : Int32) (x5 : Int32) (σ : ox_S) (t : ((Int32 × Int32) ⊕ (Int32 × ox_S))), om_Mo_joins_b163 x4 x5 σ = some t → (ox_G (fun t : (Int32 × Int32) => ox_M p l e rm_om_Mo_joins s m args below meth c (om_W D ad cI cC cZ A) 7 res σf 163 [some (.ref (ad 0)), none, none, none, some (.int t.1), some (.int t.2), none] [] σ) (fun t : (Int32 × ox_S) => res = some (.int t.1) ∧ σf = t.2)) t → ox_M p l e rm_om_Mo_joins s m args below meth c (om_W D ad cI cC cZ A) 7 res σf 163 [some (.ref (ad 0)), none, none, none, some (.int x4), some (.int x5), none] [] σ := by
    intro x4 x5 σ t h hG
    unfold om_Mo_joins_b163 at h
    refine ox_iload B od_Mo_joins_163 rfl ?_
    refine ox_aload_n B 0 od_Mo_joins_165 rfl rfl ?_
    refine omg_Mo_187 B F od_Mo_joins_166 ?_
    refine ox_icmp_ge B 190 od_Mo_joins_169 rfl (fun hc => ?_) (fun hc => ?_)
    · rw [if_pos hc] at h
      refine ox_iload B od_Mo_joins_190 rfl ?_
      refine ox_aload_n B 0 od_Mo_joins_192 rfl rfl ?_
      refine omg_Mo_187 B F od_Mo_joins_193 ?_
      refine ox_iconst B od_Mo_joins_196 oxk_i1 ?_
      refine ox_isub B od_Mo_joins_197 ?_
      refine ox_icmp_ne B 205 od_Mo_joins_198 rfl (fun hc => ?_) (fun hc => ?_)
      · rw [if_neg hc] at h
        refine ox_iconst B od_Mo_joins_205 oxk_i0 ?_
        cases h
        exact ox_iret B F od_Mo_joins_206 rfl (ox_nz (Or.inl rfl)) hG
      · rw [if_pos hc] at h
        refine ox_iconst B od_Mo_joins_201 oxk_i1 ?_
        refine ox_goto B 206 od_Mo_joins_202 rfl ?_
        cases h
        exact ox_iret B F od_Mo_joins_206 rfl (ox_nz (Or.inr rfl)) hG
    · rw [if_neg hc] at h
      refine ox_iload B od_Mo_joins_172 rfl ?_
      refine ox_aload_n B 0 od_Mo_joins_174 rfl rfl ?_
      refine omg_Mo_48 B F od_Mo_joins_175 ?_
      refine ox_iload B od_Mo_joins_178 rfl ?_
      obtain ⟨j1, ej1, hj1, h⟩ := ox_ix_some2 h
      refine omal_12 B F od_Mo_joins_180 hj1 ej1 ?_
      refine ox_iadd B od_Mo_joins_181 ?_
      obtain ⟨v2, ev2, h⟩ := ox_let_some h
      refine ox_topi ev2 ?_
      refine ox_istore B od_Mo_joins_182 (by decide) rfl (L2 := [some (.ref (ad 0)), none, none, none, some (.int v2), some (.int x5), none]) rfl ?_
      obtain ⟨v3, ev3, h⟩ := ox_let_some h
      refine ox_iinc B od_Mo_joins_184 rfl ((congrArg (x5 + ·) oxk_i1).trans ev3.symm) (by decide) rfl (L2 := [some (.ref (ad 0)), none, none, none, some (.int v2), some (.int v3), none]) rfl ?_
      refine ox_goto B 163 od_Mo_joins_187 rfl ?_
      cases h
      exact hG
  have t_163 : ∀ (x4 : Int32) (x5 : Int32) (σ : ox_S) (t : (Int32 × ox_S)), om_Mo_joins_h163 x4 x5 σ = some t → (fun t : (Int32 × ox_S) => res = some (.int t.1) ∧ σf = t.2) t → ox_M p l e rm_om_Mo_joins s m args below meth c (om_W D ad cI cC cZ A) 7 res σf 163 [some (.ref (ad 0)), none, none, none, some (.int x4), some (.int x5), none] [] σ := by
    intro x4 x5 σ t h hG
    exact ox_w_run (fun t : (Int32 × Int32) => ox_M p l e rm_om_Mo_joins s m args below meth c (om_W D ad cI cC cZ A) 7 res σf 163 [some (.ref (ad 0)), none, none, none, some (.int t.1), some (.int t.2), none] [] σ) (fun t : (Int32 × ox_S) => res = some (.int t.1) ∧ σf = t.2) (fun a t h hG => t_b163 a.1 a.2 σ t h hG) (x4, x5) t h hG
  have t_100 : ∀ (x1 : Int32) (x2 : Int32) (x3 : Int32) (x4 : Int32) (x5 : Int32) (y0 : Int32) (σ : ox_S) (t : ((Int32 × Int32 × ox_S) ⊕ ((Int32 × Int32 × ox_S) ⊕ ((Int32 × ox_S) ⊕ (Int32 × ox_S))))), om_Mo_joins_j100 x1 x2 x3 x4 x5 y0 σ = some t → (ox_G (fun t : (Int32 × Int32 × ox_S) => ox_M p l e rm_om_Mo_joins s m args below meth c (om_W D ad cI cC cZ A) 7 res σf 58 [some (.ref (ad 0)), some (.int x1), some (.int x2), some (.int t.1), some (.int x4), some (.int t.2.1), none] [] t.2.2) (ox_G (fun t : (Int32 × Int32 × ox_S) => ox_M p l e rm_om_Mo_joins s m args below meth c (om_W D ad cI cC cZ A) 7 res σf 43 [some (.ref (ad 0)), some (.int x1), some (.int x2), some (.int t.1), some (.int t.2.1), none, none] [] t.2.2) (ox_G (fun t : (Int32 × ox_S) => ox_M p l e rm_om_Mo_joins s m args below meth c (om_W D ad cI cC cZ A) 7 res σf 34 [some (.ref (ad 0)), some (.int x1), some (.int x2), some (.int t.1), none, none, none] [] t.2) (fun t : (Int32 × ox_S) => res = some (.int t.1) ∧ σf = t.2)))) t → ox_M p l e rm_om_Mo_joins s m args below meth c (om_W D ad cI cC cZ A) 7 res σf 100 [some (.ref (ad 0)), some (.int x1), some (.int x2), some (.int x3), some (.int x4), some (.int x5), none] [.int y0] σ := by
    intro x1 x2 x3 x4 x5 y0 σ t h hG
    unfold om_Mo_joins_j100 at h
    refine ox_istore B od_Mo_joins_100 (by decide) rfl (L2 := [some (.ref (ad 0)), some (.int x1), some (.int x2), some (.int x3), some (.int x4), some (.int x5), some (.int y0)]) rfl ?_
    refine ox_iload B od_Mo_joins_102 rfl ?_
    refine ox_if_eq B 142 od_Mo_joins_104 rfl (fun hc => ?_) (fun hc => ?_)
    · rw [if_pos hc] at h
      obtain ⟨v7, ev7, h⟩ := ox_let_some h
      refine ox_iinc B od_Mo_joins_142 rfl ((congrArg (x5 + ·) oxk_i1).trans ev7.symm) (by decide) rfl (L2 := [some (.ref (ad 0)), some (.int x1), some (.int x2), some (.int x3), some (.int x4), some (.int v7), some (.int y0)]) rfl ?_
      refine ox_goto B 58 od_Mo_joins_145 rfl ?_
      cases h
      exact (ox_mask [true, true, true, true, true, true, false] hG)
    · rw [if_neg hc] at h
      refine ox_aload_n B 0 od_Mo_joins_107 rfl rfl ?_
      refine omg_Mo_48 B F od_Mo_joins_108 ?_
      refine ox_iload B od_Mo_joins_111 rfl ?_
      obtain ⟨j8, ej8, hj8, h⟩ := ox_ix_some2 h
      refine omal_12 B F od_Mo_joins_113 hj8 ej8 ?_
      refine ox_aload_n B 0 od_Mo_joins_114 rfl rfl ?_
      refine omg_Mo_48 B F od_Mo_joins_115 ?_
      refine ox_iload B od_Mo_joins_118 rfl ?_
      obtain ⟨j9, ej9, hj9, h⟩ := ox_ix_some2 h
      refine omal_12 B F od_Mo_joins_120 hj9 ej9 ?_
      refine ox_icmp_eq B 142 od_Mo_joins_121 rfl (fun hc => ?_) (fun hc => ?_)
      · rw [if_pos hc] at h
        obtain ⟨v10, ev10, h⟩ := ox_let_some h
        refine ox_iinc B od_Mo_joins_142 rfl ((congrArg (x5 + ·) oxk_i1).trans ev10.symm) (by decide) rfl (L2 := [some (.ref (ad 0)), some (.int x1), some (.int x2), some (.int x3), some (.int x4), some (.int v10), some (.int y0)]) rfl ?_
        refine ox_goto B 58 od_Mo_joins_145 rfl ?_
        cases h
        exact (ox_mask [true, true, true, true, true, true, false] hG)
      · rw [if_neg hc] at h
        refine ox_aload_n B 0 od_Mo_joins_124 rfl rfl ?_
        refine omg_Mo_48 B F od_Mo_joins_125 ?_
        refine ox_iload B od_Mo_joins_128 rfl ?_
        refine ox_iconst B od_Mo_joins_130 oxk_i1 ?_
        obtain ⟨j11, ej11, hj11, h⟩ := ox_ix_some2 h
        obtain ⟨s12, es12, h⟩ := ox_let_some h
        refine omas_12 B F od_Mo_joins_131 hj11 ej11 es12 ?_
        refine ox_aload_n B 0 od_Mo_joins_132 rfl rfl ?_
        refine omg_Mo_48 B F od_Mo_joins_133 ?_
        refine ox_iload B od_Mo_joins_136 rfl ?_
        refine ox_iconst B od_Mo_joins_138 oxk_i1 ?_
        obtain ⟨j13, ej13, hj13, h⟩ := ox_ix_some2 h
        obtain ⟨s14, es14, h⟩ := ox_let_some h
        refine omas_12 B F od_Mo_joins_139 hj13 ej13 es14 ?_
        refine ox_iconst B od_Mo_joins_140 oxk_i1 ?_
        refine ox_istore_n B 3 od_Mo_joins_141 rfl (by decide) rfl (L2 := [some (.ref (ad 0)), some (.int x1), some (.int x2), some (.int (1 : Int32)), some (.int x4), some (.int x5), some (.int y0)]) rfl ?_
        obtain ⟨v15, ev15, h⟩ := ox_let_some h
        refine ox_iinc B od_Mo_joins_142 rfl ((congrArg (x5 + ·) oxk_i1).trans ev15.symm) (by decide) rfl (L2 := [some (.ref (ad 0)), some (.int x1), some (.int x2), some (.int (1 : Int32)), some (.int x4), some (.int v15), some (.int y0)]) rfl ?_
        refine ox_goto B 58 od_Mo_joins_145 rfl ?_
        cases h
        exact (ox_mask [true, true, true, true, true, true, false] hG)
  have t_b58 : ∀ (x1 : Int32) (x2 : Int32) (x3 : Int32) (x4 : Int32) (x5 : Int32) (σ : ox_S) (t : ((Int32 × Int32 × ox_S) ⊕ ((Int32 × Int32 × ox_S) ⊕ ((Int32 × ox_S) ⊕ (Int32 × ox_S))))), om_Mo_joins_b58 x1 x2 x3 x4 x5 σ = some t → (ox_G (fun t : (Int32 × Int32 × ox_S) => ox_M p l e rm_om_Mo_joins s m args below meth c (om_W D ad cI cC cZ A) 7 res σf 58 [some (.ref (ad 0)), some (.int x1), some (.int x2), some (.int t.1), some (.int x4), some (.int t.2.1), none] [] t.2.2) (ox_G (fun t : (Int32 × Int32 × ox_S) => ox_M p l e rm_om_Mo_joins s m args below meth c (om_W D ad cI cC cZ A) 7 res σf 43 [some (.ref (ad 0)), some (.int x1), some (.int x2), some (.int t.1), some (.int t.2.1), none, none] [] t.2.2) (ox_G (fun t : (Int32 × ox_S) => ox_M p l e rm_om_Mo_joins s m args below meth c (om_W D ad cI cC cZ A) 7 res σf 34 [some (.ref (ad 0)), some (.int x1), some (.int x2), some (.int t.1), none, none, none] [] t.2) (fun t : (Int32 × ox_S) => res = some (.int t.1) ∧ σf = t.2)))) t → ox_M p l e rm_om_Mo_joins s m args below meth c (om_W D ad cI cC cZ A) 7 res σf 58 [some (.ref (ad 0)), some (.int x1), some (.int x2), some (.int x3), some (.int x4), some (.int x5), none] [] σ := by
    intro x1 x2 x3 x4 x5 σ t h hG
    unfold om_Mo_joins_b58 at h
    refine ox_iload B od_Mo_joins_58 rfl ?_
    refine ox_aload_n B 0 od_Mo_joins_60 rfl rfl ?_
    refine omg_Mo_187 B F od_Mo_joins_61 ?_
    refine ox_icmp_ge B 148 od_Mo_joins_64 rfl (fun hc => ?_) (fun hc => ?_)
    · rw [if_pos hc] at h
      obtain ⟨v5, ev5, h⟩ := ox_let_some h
      refine ox_iinc B od_Mo_joins_148 rfl ((congrArg (x4 + ·) oxk_i1).trans ev5.symm) (by decide) rfl (L2 := [some (.ref (ad 0)), some (.int x1), some (.int x2), some (.int x3), some (.int v5), some (.int x5), none]) rfl ?_
      refine ox_goto B 43 od_Mo_joins_151 rfl ?_
      cases h
      exact (ox_mask [true, true, true, true, true, false, false] hG)
    · rw [if_neg hc] at h
      refine ox_aload_n B 0 od_Mo_joins_67 rfl rfl ?_
      refine omg_Mo_41 B F od_Mo_joins_68 ?_
      refine ox_bipush B od_Mo_joins_71 oxk_b8 ?_
      refine ox_iload B od_Mo_joins_73 rfl ?_
      refine ox_imul B od_Mo_joins_75 ?_
      refine ox_iload B od_Mo_joins_76 rfl ?_
      refine ox_iadd B od_Mo_joins_78 ?_
      obtain ⟨j6, ej6, hj6, h⟩ := ox_ix_some2 h
      refine omal_10 B F od_Mo_joins_79 hj6 ej6 ?_
      refine ox_if_eq B 99 od_Mo_joins_80 rfl (fun hc => ?_) (fun hc => ?_)
      · rw [if_pos hc] at h
        refine ox_iconst B od_Mo_joins_99 oxk_i0 ?_
        exact (t_100 x1 x2 x3 x4 x5 (0 : Int32) σ _ h hG)
      · rw [if_neg hc] at h
        refine ox_iload B od_Mo_joins_83 rfl ?_
        refine ox_iload_n B 1 od_Mo_joins_85 rfl rfl ?_
        refine ox_icmp_ne B 95 od_Mo_joins_86 rfl (fun hc => ?_) (fun hc => ?_)
        · rw [if_neg hc] at h
          refine ox_iconst B od_Mo_joins_95 oxk_i1 ?_
          refine ox_goto B 100 od_Mo_joins_96 rfl ?_
          exact (t_100 x1 x2 x3 x4 x5 (1 : Int32) σ _ h hG)
        · rw [if_pos hc] at h
          refine ox_iload B od_Mo_joins_89 rfl ?_
          refine ox_iload_n B 2 od_Mo_joins_91 rfl rfl ?_
          refine ox_icmp_eq B 99 od_Mo_joins_92 rfl (fun hc => ?_) (fun hc => ?_)
          · rw [if_pos hc] at h
            refine ox_iconst B od_Mo_joins_99 oxk_i0 ?_
            exact (t_100 x1 x2 x3 x4 x5 (0 : Int32) σ _ h hG)
          · rw [if_neg hc] at h
            refine ox_iconst B od_Mo_joins_95 oxk_i1 ?_
            refine ox_goto B 100 od_Mo_joins_96 rfl ?_
            exact (t_100 x1 x2 x3 x4 x5 (1 : Int32) σ _ h hG)
  have t_58 : ∀ (x1 : Int32) (x2 : Int32) (x3 : Int32) (x4 : Int32) (x5 : Int32) (σ : ox_S) (t : ((Int32 × Int32 × ox_S) ⊕ ((Int32 × ox_S) ⊕ (Int32 × ox_S)))), om_Mo_joins_h58 x1 x2 x3 x4 x5 σ = some t → (ox_G (fun t : (Int32 × Int32 × ox_S) => ox_M p l e rm_om_Mo_joins s m args below meth c (om_W D ad cI cC cZ A) 7 res σf 43 [some (.ref (ad 0)), some (.int x1), some (.int x2), some (.int t.1), some (.int t.2.1), none, none] [] t.2.2) (ox_G (fun t : (Int32 × ox_S) => ox_M p l e rm_om_Mo_joins s m args below meth c (om_W D ad cI cC cZ A) 7 res σf 34 [some (.ref (ad 0)), some (.int x1), some (.int x2), some (.int t.1), none, none, none] [] t.2) (fun t : (Int32 × ox_S) => res = some (.int t.1) ∧ σf = t.2))) t → ox_M p l e rm_om_Mo_joins s m args below meth c (om_W D ad cI cC cZ A) 7 res σf 58 [some (.ref (ad 0)), some (.int x1), some (.int x2), some (.int x3), some (.int x4), some (.int x5), none] [] σ := by
    intro x1 x2 x3 x4 x5 σ t h hG
    exact ox_w_run (fun t : (Int32 × Int32 × ox_S) => ox_M p l e rm_om_Mo_joins s m args below meth c (om_W D ad cI cC cZ A) 7 res σf 58 [some (.ref (ad 0)), some (.int x1), some (.int x2), some (.int t.1), some (.int x4), some (.int t.2.1), none] [] t.2.2) (ox_G (fun t : (Int32 × Int32 × ox_S) => ox_M p l e rm_om_Mo_joins s m args below meth c (om_W D ad cI cC cZ A) 7 res σf 43 [some (.ref (ad 0)), some (.int x1), some (.int x2), some (.int t.1), some (.int t.2.1), none, none] [] t.2.2) (ox_G (fun t : (Int32 × ox_S) => ox_M p l e rm_om_Mo_joins s m args below meth c (om_W D ad cI cC cZ A) 7 res σf 34 [some (.ref (ad 0)), some (.int x1), some (.int x2), some (.int t.1), none, none, none] [] t.2) (fun t : (Int32 × ox_S) => res = some (.int t.1) ∧ σf = t.2))) (fun a t h hG => t_b58 x1 x2 a.1 x4 a.2.1 a.2.2 t h hG) (x3, x5, σ) t h hG
  have t_b43 : ∀ (x1 : Int32) (x2 : Int32) (x3 : Int32) (x4 : Int32) (σ : ox_S) (t : ((Int32 × Int32 × ox_S) ⊕ ((Int32 × ox_S) ⊕ (Int32 × ox_S)))), om_Mo_joins_b43 x1 x2 x3 x4 σ = some t → (ox_G (fun t : (Int32 × Int32 × ox_S) => ox_M p l e rm_om_Mo_joins s m args below meth c (om_W D ad cI cC cZ A) 7 res σf 43 [some (.ref (ad 0)), some (.int x1), some (.int x2), some (.int t.1), some (.int t.2.1), none, none] [] t.2.2) (ox_G (fun t : (Int32 × ox_S) => ox_M p l e rm_om_Mo_joins s m args below meth c (om_W D ad cI cC cZ A) 7 res σf 34 [some (.ref (ad 0)), some (.int x1), some (.int x2), some (.int t.1), none, none, none] [] t.2) (fun t : (Int32 × ox_S) => res = some (.int t.1) ∧ σf = t.2))) t → ox_M p l e rm_om_Mo_joins s m args below meth c (om_W D ad cI cC cZ A) 7 res σf 43 [some (.ref (ad 0)), some (.int x1), some (.int x2), some (.int x3), some (.int x4), none, none] [] σ := by
    intro x1 x2 x3 x4 σ t h hG
    unfold om_Mo_joins_b43 at h
    refine ox_iload B od_Mo_joins_43 rfl ?_
    refine ox_aload_n B 0 od_Mo_joins_45 rfl rfl ?_
    refine omg_Mo_187 B F od_Mo_joins_46 ?_
    refine ox_icmp_ge B 154 od_Mo_joins_49 rfl (fun hc => ?_) (fun hc => ?_)
    · rw [if_pos hc] at h
      refine ox_goto B 34 od_Mo_joins_154 rfl ?_
      cases h
      exact (ox_mask [true, true, true, true, false, false, false] hG)
    · rw [if_neg hc] at h
      refine ox_iload B od_Mo_joins_52 rfl ?_
      refine ox_iconst B od_Mo_joins_54 oxk_i1 ?_
      refine ox_iadd B od_Mo_joins_55 ?_
      obtain ⟨v4, ev4, h⟩ := ox_let_some h
      refine ox_topi ev4 ?_
      refine ox_istore B od_Mo_joins_56 (by decide) rfl (L2 := [some (.ref (ad 0)), some (.int x1), some (.int x2), some (.int x3), some (.int x4), some (.int v4), none]) rfl ?_
      exact (t_58 x1 x2 x3 x4 v4 σ _ h hG)
  have t_43 : ∀ (x1 : Int32) (x2 : Int32) (x3 : Int32) (x4 : Int32) (σ : ox_S) (t : ((Int32 × ox_S) ⊕ (Int32 × ox_S))), om_Mo_joins_h43 x1 x2 x3 x4 σ = some t → (ox_G (fun t : (Int32 × ox_S) => ox_M p l e rm_om_Mo_joins s m args below meth c (om_W D ad cI cC cZ A) 7 res σf 34 [some (.ref (ad 0)), some (.int x1), some (.int x2), some (.int t.1), none, none, none] [] t.2) (fun t : (Int32 × ox_S) => res = some (.int t.1) ∧ σf = t.2)) t → ox_M p l e rm_om_Mo_joins s m args below meth c (om_W D ad cI cC cZ A) 7 res σf 43 [some (.ref (ad 0)), some (.int x1), some (.int x2), some (.int x3), some (.int x4), none, none] [] σ := by
    intro x1 x2 x3 x4 σ t h hG
    exact ox_w_run (fun t : (Int32 × Int32 × ox_S) => ox_M p l e rm_om_Mo_joins s m args below meth c (om_W D ad cI cC cZ A) 7 res σf 43 [some (.ref (ad 0)), some (.int x1), some (.int x2), some (.int t.1), some (.int t.2.1), none, none] [] t.2.2) (ox_G (fun t : (Int32 × ox_S) => ox_M p l e rm_om_Mo_joins s m args below meth c (om_W D ad cI cC cZ A) 7 res σf 34 [some (.ref (ad 0)), some (.int x1), some (.int x2), some (.int t.1), none, none, none] [] t.2) (fun t : (Int32 × ox_S) => res = some (.int t.1) ∧ σf = t.2)) (fun a t h hG => t_b43 x1 x2 a.1 a.2.1 a.2.2 t h hG) (x3, x4, σ) t h hG
  have t_b34 : ∀ (x1 : Int32) (x2 : Int32) (x3 : Int32) (σ : ox_S) (t : ((Int32 × ox_S) ⊕ (Int32 × ox_S))), om_Mo_joins_b34 x1 x2 x3 σ = some t → (ox_G (fun t : (Int32 × ox_S) => ox_M p l e rm_om_Mo_joins s m args below meth c (om_W D ad cI cC cZ A) 7 res σf 34 [some (.ref (ad 0)), some (.int x1), some (.int x2), some (.int t.1), none, none, none] [] t.2) (fun t : (Int32 × ox_S) => res = some (.int t.1) ∧ σf = t.2)) t → ox_M p l e rm_om_Mo_joins s m args below meth c (om_W D ad cI cC cZ A) 7 res σf 34 [some (.ref (ad 0)), some (.int x1), some (.int x2), some (.int x3), none, none, none] [] σ := by
    intro x1 x2 x3 σ t h hG
    unfold om_Mo_joins_b34 at h
    refine ox_iload_n B 3 od_Mo_joins_34 rfl rfl ?_
    refine ox_if_eq B 157 od_Mo_joins_35 rfl (fun hc => ?_) (fun hc => ?_)
    · rw [if_pos hc] at h
      refine ox_iconst B od_Mo_joins_157 oxk_i0 ?_
      refine ox_istore B od_Mo_joins_158 (by decide) rfl (L2 := [some (.ref (ad 0)), some (.int x1), some (.int x2), some (.int x3), some (.int (0 : Int32)), none, none]) rfl ?_
      refine ox_iconst B od_Mo_joins_160 oxk_i1 ?_
      refine ox_istore B od_Mo_joins_161 (by decide) rfl (L2 := [some (.ref (ad 0)), some (.int x1), some (.int x2), some (.int x3), some (.int (0 : Int32)), some (.int (1 : Int32)), none]) rfl ?_
      obtain ⟨t', h', e'⟩ := ox_map h
      subst e'
      exact (ox_mask [true, false, false, false, true, true, false] (t_163 (0 : Int32) (1 : Int32) σ _ h' hG))
    · rw [if_neg hc] at h
      refine ox_iconst B od_Mo_joins_38 oxk_i0 ?_
      refine ox_istore_n B 3 od_Mo_joins_39 rfl (by decide) rfl (L2 := [some (.ref (ad 0)), some (.int x1), some (.int x2), some (.int (0 : Int32)), none, none, none]) rfl ?_
      refine ox_iconst B od_Mo_joins_40 oxk_i1 ?_
      refine ox_istore B od_Mo_joins_41 (by decide) rfl (L2 := [some (.ref (ad 0)), some (.int x1), some (.int x2), some (.int (0 : Int32)), some (.int (1 : Int32)), none, none]) rfl ?_
      exact (t_43 x1 x2 (0 : Int32) (1 : Int32) σ _ h hG)
  have t_34 : ∀ (x1 : Int32) (x2 : Int32) (x3 : Int32) (σ : ox_S) (t : (Int32 × ox_S)), om_Mo_joins_h34 x1 x2 x3 σ = some t → (fun t : (Int32 × ox_S) => res = some (.int t.1) ∧ σf = t.2) t → ox_M p l e rm_om_Mo_joins s m args below meth c (om_W D ad cI cC cZ A) 7 res σf 34 [some (.ref (ad 0)), some (.int x1), some (.int x2), some (.int x3), none, none, none] [] σ := by
    intro x1 x2 x3 σ t h hG
    exact ox_w_run (fun t : (Int32 × ox_S) => ox_M p l e rm_om_Mo_joins s m args below meth c (om_W D ad cI cC cZ A) 7 res σf 34 [some (.ref (ad 0)), some (.int x1), some (.int x2), some (.int t.1), none, none, none] [] t.2) (fun t : (Int32 × ox_S) => res = some (.int t.1) ∧ σf = t.2) (fun a t h hG => t_b34 x1 x2 a.1 a.2 t h hG) (x3, σ) t h hG
  have t_b2 : ∀ (x1 : Int32) (x2 : Int32) (x3 : Int32) (σ : ox_S) (t : ((Int32 × ox_S) ⊕ (Int32 × ox_S))), om_Mo_joins_b2 x1 x2 x3 σ = some t → (ox_G (fun t : (Int32 × ox_S) => ox_M p l e rm_om_Mo_joins s m args below meth c (om_W D ad cI cC cZ A) 7 res σf 2 [some (.ref (ad 0)), some (.int x1), some (.int x2), some (.int t.1), none, none, none] [] t.2) (fun t : (Int32 × ox_S) => res = some (.int t.1) ∧ σf = t.2)) t → ox_M p l e rm_om_Mo_joins s m args below meth c (om_W D ad cI cC cZ A) 7 res σf 2 [some (.ref (ad 0)), some (.int x1), some (.int x2), some (.int x3), none, none, none] [] σ := by
    intro x1 x2 x3 σ t h hG
    unfold om_Mo_joins_b2 at h
    refine ox_iload_n B 3 od_Mo_joins_2 rfl rfl ?_
    refine ox_aload_n B 0 od_Mo_joins_3 rfl rfl ?_
    refine omg_Mo_187 B F od_Mo_joins_4 ?_
    refine ox_icmp_ge B 32 od_Mo_joins_7 rfl (fun hc => ?_) (fun hc => ?_)
    · rw [if_pos hc] at h
      refine ox_iconst B od_Mo_joins_32 oxk_i1 ?_
      refine ox_istore_n B 3 od_Mo_joins_33 rfl (by decide) rfl (L2 := [some (.ref (ad 0)), some (.int x1), some (.int x2), some (.int (1 : Int32)), none, none, none]) rfl ?_
      obtain ⟨t', h', e'⟩ := ox_map h
      subst e'
      exact (t_34 x1 x2 (1 : Int32) σ _ h' hG)
    · rw [if_neg hc] at h
      refine ox_aload_n B 0 od_Mo_joins_10 rfl rfl ?_
      refine omg_Mo_48 B F od_Mo_joins_11 ?_
      refine ox_iload_n B 3 od_Mo_joins_14 rfl rfl ?_
      refine ox_iload_n B 3 od_Mo_joins_15 rfl rfl ?_
      refine ox_iconst B od_Mo_joins_16 oxk_i1 ?_
      refine ox_icmp_ne B 24 od_Mo_joins_17 rfl (fun hc => ?_) (fun hc => ?_)
      · rw [if_neg hc] at h
        refine ox_iconst B od_Mo_joins_24 oxk_i0 ?_
        obtain ⟨j16, ej16, hj16, h⟩ := ox_ix_some2 h
        obtain ⟨s17, es17, h⟩ := ox_let_some h
        refine omas_12 B F od_Mo_joins_25 hj16 ej16 es17 ?_
        obtain ⟨v18, ev18, h⟩ := ox_let_some h
        refine ox_iinc B od_Mo_joins_26 rfl ((congrArg (x3 + ·) oxk_i1).trans ev18.symm) (by decide) rfl (L2 := [some (.ref (ad 0)), some (.int x1), some (.int x2), some (.int v18), none, none, none]) rfl ?_
        refine ox_goto B 2 od_Mo_joins_29 rfl ?_
        cases h
        exact hG
      · rw [if_pos hc] at h
        refine ox_iconst B od_Mo_joins_20 oxk_i1 ?_
        refine ox_goto B 25 od_Mo_joins_21 rfl ?_
        obtain ⟨j19, ej19, hj19, h⟩ := ox_ix_some2 h
        obtain ⟨s20, es20, h⟩ := ox_let_some h
        refine omas_12 B F od_Mo_joins_25 hj19 ej19 es20 ?_
        obtain ⟨v21, ev21, h⟩ := ox_let_some h
        refine ox_iinc B od_Mo_joins_26 rfl ((congrArg (x3 + ·) oxk_i1).trans ev21.symm) (by decide) rfl (L2 := [some (.ref (ad 0)), some (.int x1), some (.int x2), some (.int v21), none, none, none]) rfl ?_
        refine ox_goto B 2 od_Mo_joins_29 rfl ?_
        cases h
        exact hG
  have t_2 : ∀ (x1 : Int32) (x2 : Int32) (x3 : Int32) (σ : ox_S) (t : (Int32 × ox_S)), om_Mo_joins_h2 x1 x2 x3 σ = some t → (fun t : (Int32 × ox_S) => res = some (.int t.1) ∧ σf = t.2) t → ox_M p l e rm_om_Mo_joins s m args below meth c (om_W D ad cI cC cZ A) 7 res σf 2 [some (.ref (ad 0)), some (.int x1), some (.int x2), some (.int x3), none, none, none] [] σ := by
    intro x1 x2 x3 σ t h hG
    exact ox_w_run (fun t : (Int32 × ox_S) => ox_M p l e rm_om_Mo_joins s m args below meth c (om_W D ad cI cC cZ A) 7 res σf 2 [some (.ref (ad 0)), some (.int x1), some (.int x2), some (.int t.1), none, none, none] [] t.2) (fun t : (Int32 × ox_S) => res = some (.int t.1) ∧ σf = t.2) (fun a t h hG => t_b2 x1 x2 a.1 a.2 t h hG) (x3, σ) t h hG
  change ox_M p l e rm_om_Mo_joins s m args below meth c (om_W D ad cI cC cZ A) 7 res σf 0 [some (.ref (ad 0)), some (.int x1), some (.int x2), none, none, none, none] [] σ
  unfold om_Mo_joins at h
  refine ox_iconst B od_Mo_joins_0 oxk_i0 ?_
  refine ox_istore_n B 3 od_Mo_joins_1 rfl (by decide) rfl (L2 := [some (.ref (ad 0)), some (.int x1), some (.int x2), some (.int (0 : Int32)), none, none, none]) rfl ?_
  exact (t_2 x1 x2 (0 : Int32) σ _ h hG)
abbrev rm_om_Mo_tree : Room := { frames := 3, cells := 0, slots := 0, locals := 73 }
set_option maxRecDepth 100000 in
set_option maxHeartbeats 4000000 in
theorem ct_om_Mo_tree {l : Launch} {D : va_G} {ad : Nat → Nat} {cI cC cZ : ClassId} {A : Nat → Prop} (hok : ox_ok (om_W D ad cI cC cZ A))  (σ : ox_S) (t : (Int32 × ox_S)) (h : om_Mo_tree  σ = some t) : Met l oy_Mo_tree (Cond.code oy_Mo_tree prog_11_method_34_code 3 (some .boolean) :: ox_ws) rm_om_Mo_tree (ox_P (om_W D ad cI cC cZ A) [.ref (ad 0)] σ) (ox_Q (om_W D ad cI cC cZ A) (some (.int t.1)) t.2) 0 0 A := by
  refine ox_met (ω := om_W D ad cI cC cZ A) (by decide) rfl hok (Nat.le_of_ble_eq_true rfl) ?_
  intro p e s m args below meth c B F
  generalize hres : (some (.int t.1) : Option Value) = res
  generalize hσf : t.2 = σf
  have hG : (fun t : (Int32 × ox_S) => res = some (.int t.1) ∧ σf = t.2) t := ⟨hres.symm, hσf.symm⟩
  have t_b138 : ∀ (x2 : Int32) (σ : ox_S) (t : ((Int32 × ox_S) ⊕ (Int32 × ox_S))), om_Mo_tree_b138 x2 σ = some t → (ox_G (fun t : (Int32 × ox_S) => ox_M p l e rm_om_Mo_tree s m args below meth c (om_W D ad cI cC cZ A) 3 res σf 138 [some (.ref (ad 0)), none, some (.int t.1)] [] t.2) (fun t : (Int32 × ox_S) => res = some (.int t.1) ∧ σf = t.2)) t → ox_M p l e rm_om_Mo_tree s m args below meth c (om_W D ad cI cC cZ A) 3 res σf 138 [some (.ref (ad 0)), none, some (.int x2)] [] σ := by
    intro x2 σ t h hG
    unfold om_Mo_tree_b138 at h
    refine ox_iload_n B 2 od_Mo_tree_138 rfl rfl ?_
    refine ox_if_lt B 174 od_Mo_tree_139 rfl (fun hc => ?_) (fun hc => ?_)
    · rw [if_pos hc] at h
      refine ox_aload_n B 0 od_Mo_tree_174 rfl rfl ?_
      refine ox_iconst B od_Mo_tree_175 oxk_i0 ?_
      obtain ⟨r7, hr7, h⟩ := ox_bind h
      refine omc_Mo_221 B F od_Mo_tree_176 (As := [.int (0 : Int32)]) (rest := []) (st2 := [.int r7]) (ct_om_Mo_count hok (0 : Int32) σ _ hr7) ⟨rfl, rfl, Nat.le_of_ble_eq_true rfl, Nat.le_of_ble_eq_true rfl⟩ rfl (Nat.le_of_ble_eq_true rfl) rfl rfl ?_
      refine ox_aload_n B 0 od_Mo_tree_179 rfl rfl ?_
      refine omg_Mo_187 B F od_Mo_tree_180 ?_
      refine ox_iconst B od_Mo_tree_183 oxk_i2 ?_
      refine ox_isub B od_Mo_tree_184 ?_
      refine ox_icmp_ne B 192 od_Mo_tree_185 rfl (fun hc => ?_) (fun hc => ?_)
      · rw [if_neg hc] at h
        refine ox_iconst B od_Mo_tree_192 oxk_i0 ?_
        cases h
        exact ox_iret B F od_Mo_tree_193 rfl (ox_nz (Or.inl rfl)) hG
      · rw [if_pos hc] at h
        refine ox_iconst B od_Mo_tree_188 oxk_i1 ?_
        refine ox_goto B 193 od_Mo_tree_189 rfl ?_
        cases h
        exact ox_iret B F od_Mo_tree_193 rfl (ox_nz (Or.inr rfl)) hG
    · rw [if_neg hc] at h
      refine ox_aload_n B 0 od_Mo_tree_142 rfl rfl ?_
      refine ox_iload_n B 2 od_Mo_tree_143 rfl rfl ?_
      refine ox_bipush B od_Mo_tree_144 oxk_b8 ?_
      refine ox_idiv B od_Mo_tree_146 (by decide) ?_
      refine ox_iload_n B 2 od_Mo_tree_147 rfl rfl ?_
      refine ox_bipush B od_Mo_tree_148 oxk_b8 ?_
      refine ox_irem B od_Mo_tree_150 (by decide) ?_
      obtain ⟨r8, s9, hr8, h⟩ := ox_b2_some h
      refine omc_Mo_225 B F od_Mo_tree_151 (As := [.int (x2 / (8 : Int32)), .int (x2 - x2 / (8 : Int32) * (8 : Int32))]) (rest := []) (st2 := [.int r8]) (ct_om_Mo_joins hok (x2 / (8 : Int32)) (x2 - x2 / (8 : Int32) * (8 : Int32)) σ _ hr8) ⟨rfl, rfl, Nat.le_of_ble_eq_true rfl, Nat.le_of_ble_eq_true rfl⟩ rfl (Nat.le_of_ble_eq_true rfl) rfl rfl ?_
      refine ox_if_eq B 164 od_Mo_tree_154 rfl (fun hc => ?_) (fun hc => ?_)
      · rw [if_pos hc] at h
        refine ox_aload_n B 0 od_Mo_tree_164 rfl rfl ?_
        refine ox_iconst B od_Mo_tree_165 oxk_i0 ?_
        refine ox_iload_n B 2 od_Mo_tree_166 rfl rfl ?_
        obtain ⟨r10, hr10, h⟩ := ox_bind h
        refine omc_Mo_217 B F od_Mo_tree_167 (As := [.int (0 : Int32), .int x2]) (rest := []) (st2 := [.int r10]) (ct_om_Mo_worst hok (0 : Int32) x2 s9 _ hr10) ⟨rfl, rfl, Nat.le_of_ble_eq_true rfl, Nat.le_of_ble_eq_true rfl⟩ rfl (Nat.le_of_ble_eq_true rfl) rfl rfl ?_
        refine ox_istore_n B 2 od_Mo_tree_170 rfl (by decide) rfl (L2 := [some (.ref (ad 0)), none, some (.int r10)]) rfl ?_
        refine ox_goto B 138 od_Mo_tree_171 rfl ?_
        cases h
        exact hG
      · rw [if_neg hc] at h
        refine ox_aload_n B 0 od_Mo_tree_157 rfl rfl ?_
        refine omg_Mo_41 B F od_Mo_tree_158 ?_
        refine ox_iload_n B 2 od_Mo_tree_161 rfl rfl ?_
        refine ox_iconst B od_Mo_tree_162 oxk_i0 ?_
        obtain ⟨j11, ej11, hj11, h⟩ := ox_ix_some2 h
        obtain ⟨s12, es12, h⟩ := ox_let_some h
        refine omas_10 B F od_Mo_tree_163 hj11 ej11 (Or.inl rfl) es12 ?_
        refine ox_aload_n B 0 od_Mo_tree_164 rfl rfl ?_
        refine ox_iconst B od_Mo_tree_165 oxk_i0 ?_
        refine ox_iload_n B 2 od_Mo_tree_166 rfl rfl ?_
        obtain ⟨r13, hr13, h⟩ := ox_bind h
        refine omc_Mo_217 B F od_Mo_tree_167 (As := [.int (0 : Int32), .int x2]) (rest := []) (st2 := [.int r13]) (ct_om_Mo_worst hok (0 : Int32) x2 s12 _ hr13) ⟨rfl, rfl, Nat.le_of_ble_eq_true rfl, Nat.le_of_ble_eq_true rfl⟩ rfl (Nat.le_of_ble_eq_true rfl) rfl rfl ?_
        refine ox_istore_n B 2 od_Mo_tree_170 rfl (by decide) rfl (L2 := [some (.ref (ad 0)), none, some (.int r13)]) rfl ?_
        refine ox_goto B 138 od_Mo_tree_171 rfl ?_
        cases h
        exact hG
  have t_138 : ∀ (x2 : Int32) (σ : ox_S) (t : (Int32 × ox_S)), om_Mo_tree_h138 x2 σ = some t → (fun t : (Int32 × ox_S) => res = some (.int t.1) ∧ σf = t.2) t → ox_M p l e rm_om_Mo_tree s m args below meth c (om_W D ad cI cC cZ A) 3 res σf 138 [some (.ref (ad 0)), none, some (.int x2)] [] σ := by
    intro x2 σ t h hG
    exact ox_w_run (fun t : (Int32 × ox_S) => ox_M p l e rm_om_Mo_tree s m args below meth c (om_W D ad cI cC cZ A) 3 res σf 138 [some (.ref (ad 0)), none, some (.int t.1)] [] t.2) (fun t : (Int32 × ox_S) => res = some (.int t.1) ∧ σf = t.2) (fun a t h hG => t_b138 a.1 a.2 t h hG) (x2, σ) t h hG
  have t_111 : ∀  (σ : ox_S) (t : (Int32 × ox_S)), om_Mo_tree_j111  σ = some t → (fun t : (Int32 × ox_S) => res = some (.int t.1) ∧ σf = t.2) t → ox_M p l e rm_om_Mo_tree s m args below meth c (om_W D ad cI cC cZ A) 3 res σf 111 [some (.ref (ad 0)), none, none] [] σ := by
    intro  σ t h hG
    unfold om_Mo_tree_j111 at h
    refine ox_aload_n B 0 od_Mo_tree_111 rfl rfl ?_
    refine ox_iconst B od_Mo_tree_112 oxk_i1 ?_
    obtain ⟨r3, hr3, h⟩ := ox_bind h
    refine omc_Mo_221 B F od_Mo_tree_113 (As := [.int (1 : Int32)]) (rest := []) (st2 := [.int r3]) (ct_om_Mo_count hok (1 : Int32) σ _ hr3) ⟨rfl, rfl, Nat.le_of_ble_eq_true rfl, Nat.le_of_ble_eq_true rfl⟩ rfl (Nat.le_of_ble_eq_true rfl) rfl rfl ?_
    refine ox_iconst B od_Mo_tree_116 oxk_i2 ?_
    refine ox_icmp_ne B 129 od_Mo_tree_117 rfl (fun hc => ?_) (fun hc => ?_)
    · rw [if_neg hc] at h
      refine ox_iconst B od_Mo_tree_129 oxk_i0 ?_
      cases h
      exact ox_iret B F od_Mo_tree_130 rfl (ox_nz (Or.inl rfl)) hG
    · rw [if_pos hc] at h
      refine ox_aload_n B 0 od_Mo_tree_120 rfl rfl ?_
      refine ox_iconst B od_Mo_tree_121 oxk_im1 ?_
      refine ox_iconst B od_Mo_tree_122 oxk_im1 ?_
      obtain ⟨r4, s5, hr4, h⟩ := ox_b2_some h
      refine omc_Mo_225 B F od_Mo_tree_123 (As := [.int (-1 : Int32), .int (-1 : Int32)]) (rest := []) (st2 := [.int r4]) (ct_om_Mo_joins hok (-1 : Int32) (-1 : Int32) σ _ hr4) ⟨rfl, rfl, Nat.le_of_ble_eq_true rfl, Nat.le_of_ble_eq_true rfl⟩ rfl (Nat.le_of_ble_eq_true rfl) rfl rfl ?_
      refine ox_if_ne B 131 od_Mo_tree_126 rfl (fun hc => ?_) (fun hc => ?_)
      · rw [if_neg hc] at h
        refine ox_aload_n B 0 od_Mo_tree_131 rfl rfl ?_
        refine ox_iconst B od_Mo_tree_132 oxk_i0 ?_
        refine ox_iconst B od_Mo_tree_133 oxk_im1 ?_
        obtain ⟨r6, hr6, h⟩ := ox_bind h
        refine omc_Mo_217 B F od_Mo_tree_134 (As := [.int (0 : Int32), .int (-1 : Int32)]) (rest := []) (st2 := [.int r6]) (ct_om_Mo_worst hok (0 : Int32) (-1 : Int32) s5 _ hr6) ⟨rfl, rfl, Nat.le_of_ble_eq_true rfl, Nat.le_of_ble_eq_true rfl⟩ rfl (Nat.le_of_ble_eq_true rfl) rfl rfl ?_
        refine ox_istore_n B 2 od_Mo_tree_137 rfl (by decide) rfl (L2 := [some (.ref (ad 0)), none, some (.int r6)]) rfl ?_
        exact (t_138 r6 s5 _ h hG)
      · rw [if_pos hc] at h
        refine ox_iconst B od_Mo_tree_129 oxk_i0 ?_
        cases h
        exact ox_iret B F od_Mo_tree_130 rfl (ox_nz (Or.inl rfl)) hG
  have t_b81 : ∀ (x1 : Int32) (σ : ox_S) (t : ((Int32 × ox_S) ⊕ (Int32 × ox_S))), om_Mo_tree_b81 x1 σ = some t → (ox_G (fun t : (Int32 × ox_S) => ox_M p l e rm_om_Mo_tree s m args below meth c (om_W D ad cI cC cZ A) 3 res σf 81 [some (.ref (ad 0)), some (.int t.1), none] [] t.2) (fun t : (Int32 × ox_S) => res = some (.int t.1) ∧ σf = t.2)) t → ox_M p l e rm_om_Mo_tree s m args below meth c (om_W D ad cI cC cZ A) 3 res σf 81 [some (.ref (ad 0)), some (.int x1), none] [] σ := by
    intro x1 σ t h hG
    unfold om_Mo_tree_b81 at h
    refine ox_aload_n B 0 od_Mo_tree_81 rfl rfl ?_
    refine ox_iconst B od_Mo_tree_82 oxk_i1 ?_
    obtain ⟨r2, hr2, h⟩ := ox_bind h
    refine omc_Mo_221 B F od_Mo_tree_83 (As := [.int (1 : Int32)]) (rest := []) (st2 := [.int r2]) (ct_om_Mo_count hok (1 : Int32) σ _ hr2) ⟨rfl, rfl, Nat.le_of_ble_eq_true rfl, Nat.le_of_ble_eq_true rfl⟩ rfl (Nat.le_of_ble_eq_true rfl) rfl rfl ?_
    refine ox_iconst B od_Mo_tree_86 oxk_i2 ?_
    refine ox_icmp_le B 111 od_Mo_tree_87 rfl (fun hc => ?_) (fun hc => ?_)
    · rw [if_pos hc] at h
      obtain ⟨t', h', e'⟩ := ox_map h
      subst e'
      exact (ox_mask [true, false, false] (t_111 σ _ h' hG))
    · rw [if_neg hc] at h
      refine ox_iload_n B 1 od_Mo_tree_90 rfl rfl ?_
      refine ox_if_lt B 111 od_Mo_tree_91 rfl (fun hc => ?_) (fun hc => ?_)
      · rw [if_pos hc] at h
        obtain ⟨t', h', e'⟩ := ox_map h
        subst e'
        exact (ox_mask [true, false, false] (t_111 σ _ h' hG))
      · rw [if_neg hc] at h
        refine ox_aload_n B 0 od_Mo_tree_94 rfl rfl ?_
        refine omg_Mo_41 B F od_Mo_tree_95 ?_
        refine ox_iload_n B 1 od_Mo_tree_98 rfl rfl ?_
        refine ox_iconst B od_Mo_tree_99 oxk_i0 ?_
        obtain ⟨j14, ej14, hj14, h⟩ := ox_ix_some2 h
        obtain ⟨s15, es15, h⟩ := ox_let_some h
        refine omas_10 B F od_Mo_tree_100 hj14 ej14 (Or.inl rfl) es15 ?_
        refine ox_aload_n B 0 od_Mo_tree_101 rfl rfl ?_
        refine ox_iconst B od_Mo_tree_102 oxk_i1 ?_
        refine ox_iconst B od_Mo_tree_103 oxk_im1 ?_
        obtain ⟨r16, hr16, h⟩ := ox_bind h
        refine omc_Mo_217 B F od_Mo_tree_104 (As := [.int (1 : Int32), .int (-1 : Int32)]) (rest := []) (st2 := [.int r16]) (ct_om_Mo_worst hok (1 : Int32) (-1 : Int32) s15 _ hr16) ⟨rfl, rfl, Nat.le_of_ble_eq_true rfl, Nat.le_of_ble_eq_true rfl⟩ rfl (Nat.le_of_ble_eq_true rfl) rfl rfl ?_
        refine ox_istore_n B 1 od_Mo_tree_107 rfl (by decide) rfl (L2 := [some (.ref (ad 0)), some (.int r16), none]) rfl ?_
        refine ox_goto B 81 od_Mo_tree_108 rfl ?_
        cases h
        exact hG
  have t_81 : ∀ (x1 : Int32) (σ : ox_S) (t : (Int32 × ox_S)), om_Mo_tree_h81 x1 σ = some t → (fun t : (Int32 × ox_S) => res = some (.int t.1) ∧ σf = t.2) t → ox_M p l e rm_om_Mo_tree s m args below meth c (om_W D ad cI cC cZ A) 3 res σf 81 [some (.ref (ad 0)), some (.int x1), none] [] σ := by
    intro x1 σ t h hG
    exact ox_w_run (fun t : (Int32 × ox_S) => ox_M p l e rm_om_Mo_tree s m args below meth c (om_W D ad cI cC cZ A) 3 res σf 81 [some (.ref (ad 0)), some (.int t.1), none] [] t.2) (fun t : (Int32 × ox_S) => res = some (.int t.1) ∧ σf = t.2) (fun a t h hG => t_b81 a.1 a.2 t h hG) (x1, σ) t h hG
  have t_b23 : ∀ (x1 : Int32) (x2 : Int32) (σ : ox_S) (t : ((Int32 × ox_S) ⊕ ((Int32 × ox_S) ⊕ (Int32 × ox_S)))), om_Mo_tree_b23 x1 x2 σ = some t → (ox_G (fun t : (Int32 × ox_S) => ox_M p l e rm_om_Mo_tree s m args below meth c (om_W D ad cI cC cZ A) 3 res σf 23 [some (.ref (ad 0)), some (.int x1), some (.int t.1)] [] t.2) (ox_G (fun t : (Int32 × ox_S) => ox_M p l e rm_om_Mo_tree s m args below meth c (om_W D ad cI cC cZ A) 3 res σf 11 [some (.ref (ad 0)), some (.int t.1), none] [] t.2) (fun t : (Int32 × ox_S) => res = some (.int t.1) ∧ σf = t.2))) t → ox_M p l e rm_om_Mo_tree s m args below meth c (om_W D ad cI cC cZ A) 3 res σf 23 [some (.ref (ad 0)), some (.int x1), some (.int x2)] [] σ := by
    intro x1 x2 σ t h hG
    unfold om_Mo_tree_b23 at h
    refine ox_iload_n B 2 od_Mo_tree_23 rfl rfl ?_
    refine ox_aload_n B 0 od_Mo_tree_24 rfl rfl ?_
    refine omg_Mo_187 B F od_Mo_tree_25 ?_
    refine ox_icmp_ge B 68 od_Mo_tree_28 rfl (fun hc => ?_) (fun hc => ?_)
    · rw [if_pos hc] at h
      obtain ⟨v18, ev18, h⟩ := ox_let_some h
      refine ox_iinc B od_Mo_tree_68 rfl ((congrArg (x1 + ·) oxk_i1).trans ev18.symm) (by decide) rfl (L2 := [some (.ref (ad 0)), some (.int v18), some (.int x2)]) rfl ?_
      refine ox_goto B 11 od_Mo_tree_71 rfl ?_
      cases h
      exact (ox_mask [true, true, false] hG)
    · rw [if_neg hc] at h
      refine ox_aload_n B 0 od_Mo_tree_31 rfl rfl ?_
      refine omg_Mo_41 B F od_Mo_tree_32 ?_
      refine ox_bipush B od_Mo_tree_35 oxk_b8 ?_
      refine ox_iload_n B 1 od_Mo_tree_37 rfl rfl ?_
      refine ox_imul B od_Mo_tree_38 ?_
      refine ox_iload_n B 2 od_Mo_tree_39 rfl rfl ?_
      refine ox_iadd B od_Mo_tree_40 ?_
      refine ox_aload_n B 0 od_Mo_tree_41 rfl rfl ?_
      refine omg_Mo_45 B F od_Mo_tree_42 ?_
      refine ox_bipush B od_Mo_tree_45 oxk_b8 ?_
      refine ox_iload_n B 1 od_Mo_tree_47 rfl rfl ?_
      refine ox_imul B od_Mo_tree_48 ?_
      refine ox_iload_n B 2 od_Mo_tree_49 rfl rfl ?_
      refine ox_iadd B od_Mo_tree_50 ?_
      obtain ⟨j19, ej19, hj19, h⟩ := ox_ix_some2 h
      refine omal_11 B F od_Mo_tree_51 hj19 ej19 ?_
      refine ox_iconst B od_Mo_tree_52 oxk_i2 ?_
      refine ox_icmp_eq B 60 od_Mo_tree_53 rfl (fun hc => ?_) (fun hc => ?_)
      · rw [if_pos hc] at h
        refine ox_iconst B od_Mo_tree_60 oxk_i0 ?_
        obtain ⟨j20, ej20, hj20, h⟩ := ox_ix_some2 h
        obtain ⟨s21, es21, h⟩ := ox_let_some h
        refine omas_10 B F od_Mo_tree_61 hj20 ej20 (Or.inl rfl) es21 ?_
        obtain ⟨v22, ev22, h⟩ := ox_let_some h
        refine ox_iinc B od_Mo_tree_62 rfl ((congrArg (x2 + ·) oxk_i1).trans ev22.symm) (by decide) rfl (L2 := [some (.ref (ad 0)), some (.int x1), some (.int v22)]) rfl ?_
        refine ox_goto B 23 od_Mo_tree_65 rfl ?_
        cases h
        exact hG
      · rw [if_neg hc] at h
        refine ox_iconst B od_Mo_tree_56 oxk_i1 ?_
        refine ox_goto B 61 od_Mo_tree_57 rfl ?_
        obtain ⟨j23, ej23, hj23, h⟩ := ox_ix_some2 h
        obtain ⟨s24, es24, h⟩ := ox_let_some h
        refine omas_10 B F od_Mo_tree_61 hj23 ej23 (Or.inr rfl) es24 ?_
        obtain ⟨v25, ev25, h⟩ := ox_let_some h
        refine ox_iinc B od_Mo_tree_62 rfl ((congrArg (x2 + ·) oxk_i1).trans ev25.symm) (by decide) rfl (L2 := [some (.ref (ad 0)), some (.int x1), some (.int v25)]) rfl ?_
        refine ox_goto B 23 od_Mo_tree_65 rfl ?_
        cases h
        exact hG
  have t_23 : ∀ (x1 : Int32) (x2 : Int32) (σ : ox_S) (t : ((Int32 × ox_S) ⊕ (Int32 × ox_S))), om_Mo_tree_h23 x1 x2 σ = some t → (ox_G (fun t : (Int32 × ox_S) => ox_M p l e rm_om_Mo_tree s m args below meth c (om_W D ad cI cC cZ A) 3 res σf 11 [some (.ref (ad 0)), some (.int t.1), none] [] t.2) (fun t : (Int32 × ox_S) => res = some (.int t.1) ∧ σf = t.2)) t → ox_M p l e rm_om_Mo_tree s m args below meth c (om_W D ad cI cC cZ A) 3 res σf 23 [some (.ref (ad 0)), some (.int x1), some (.int x2)] [] σ := by
    intro x1 x2 σ t h hG
    exact ox_w_run (fun t : (Int32 × ox_S) => ox_M p l e rm_om_Mo_tree s m args below meth c (om_W D ad cI cC cZ A) 3 res σf 23 [some (.ref (ad 0)), some (.int x1), some (.int t.1)] [] t.2) (ox_G (fun t : (Int32 × ox_S) => ox_M p l e rm_om_Mo_tree s m args below meth c (om_W D ad cI cC cZ A) 3 res σf 11 [some (.ref (ad 0)), some (.int t.1), none] [] t.2) (fun t : (Int32 × ox_S) => res = some (.int t.1) ∧ σf = t.2)) (fun a t h hG => t_b23 x1 a.1 a.2 t h hG) (x2, σ) t h hG
  have t_b11 : ∀ (x1 : Int32) (σ : ox_S) (t : ((Int32 × ox_S) ⊕ (Int32 × ox_S))), om_Mo_tree_b11 x1 σ = some t → (ox_G (fun t : (Int32 × ox_S) => ox_M p l e rm_om_Mo_tree s m args below meth c (om_W D ad cI cC cZ A) 3 res σf 11 [some (.ref (ad 0)), some (.int t.1), none] [] t.2) (fun t : (Int32 × ox_S) => res = some (.int t.1) ∧ σf = t.2)) t → ox_M p l e rm_om_Mo_tree s m args below meth c (om_W D ad cI cC cZ A) 3 res σf 11 [some (.ref (ad 0)), some (.int x1), none] [] σ := by
    intro x1 σ t h hG
    unfold om_Mo_tree_b11 at h
    refine ox_iload_n B 1 od_Mo_tree_11 rfl rfl ?_
    refine ox_aload_n B 0 od_Mo_tree_12 rfl rfl ?_
    refine omg_Mo_187 B F od_Mo_tree_13 ?_
    refine ox_icmp_ge B 74 od_Mo_tree_16 rfl (fun hc => ?_) (fun hc => ?_)
    · rw [if_pos hc] at h
      refine ox_aload_n B 0 od_Mo_tree_74 rfl rfl ?_
      refine ox_iconst B od_Mo_tree_75 oxk_i1 ?_
      refine ox_iconst B od_Mo_tree_76 oxk_im1 ?_
      obtain ⟨r1, hr1, h⟩ := ox_bind h
      refine omc_Mo_217 B F od_Mo_tree_77 (As := [.int (1 : Int32), .int (-1 : Int32)]) (rest := []) (st2 := [.int r1]) (ct_om_Mo_worst hok (1 : Int32) (-1 : Int32) σ _ hr1) ⟨rfl, rfl, Nat.le_of_ble_eq_true rfl, Nat.le_of_ble_eq_true rfl⟩ rfl (Nat.le_of_ble_eq_true rfl) rfl rfl ?_
      refine ox_istore_n B 1 od_Mo_tree_80 rfl (by decide) rfl (L2 := [some (.ref (ad 0)), some (.int r1), none]) rfl ?_
      obtain ⟨t', h', e'⟩ := ox_map h
      subst e'
      exact (t_81 r1 σ _ h' hG)
    · rw [if_neg hc] at h
      refine ox_iload_n B 1 od_Mo_tree_19 rfl rfl ?_
      refine ox_iconst B od_Mo_tree_20 oxk_i1 ?_
      refine ox_iadd B od_Mo_tree_21 ?_
      obtain ⟨v17, ev17, h⟩ := ox_let_some h
      refine ox_topi ev17 ?_
      refine ox_istore_n B 2 od_Mo_tree_22 rfl (by decide) rfl (L2 := [some (.ref (ad 0)), some (.int x1), some (.int v17)]) rfl ?_
      exact (t_23 x1 v17 σ _ h hG)
  have t_11 : ∀ (x1 : Int32) (σ : ox_S) (t : (Int32 × ox_S)), om_Mo_tree_h11 x1 σ = some t → (fun t : (Int32 × ox_S) => res = some (.int t.1) ∧ σf = t.2) t → ox_M p l e rm_om_Mo_tree s m args below meth c (om_W D ad cI cC cZ A) 3 res σf 11 [some (.ref (ad 0)), some (.int x1), none] [] σ := by
    intro x1 σ t h hG
    exact ox_w_run (fun t : (Int32 × ox_S) => ox_M p l e rm_om_Mo_tree s m args below meth c (om_W D ad cI cC cZ A) 3 res σf 11 [some (.ref (ad 0)), some (.int t.1), none] [] t.2) (fun t : (Int32 × ox_S) => res = some (.int t.1) ∧ σf = t.2) (fun a t h hG => t_b11 a.1 a.2 t h hG) (x1, σ) t h hG
  change ox_M p l e rm_om_Mo_tree s m args below meth c (om_W D ad cI cC cZ A) 3 res σf 0 [some (.ref (ad 0)), none, none] [] σ
  unfold om_Mo_tree at h
  refine ox_aload_n B 0 od_Mo_tree_0 rfl rfl ?_
  refine omg_Mo_187 B F od_Mo_tree_1 ?_
  refine ox_if_ne B 9 od_Mo_tree_4 rfl (fun hc => ?_) (fun hc => ?_)
  · rw [if_neg hc] at h
    refine ox_iconst B od_Mo_tree_9 oxk_i0 ?_
    refine ox_istore_n B 1 od_Mo_tree_10 rfl (by decide) rfl (L2 := [some (.ref (ad 0)), some (.int (0 : Int32)), none]) rfl ?_
    exact (t_11 (0 : Int32) σ _ h hG)
  · rw [if_pos hc] at h
    refine ox_iconst B od_Mo_tree_7 oxk_i0 ?_
    cases h
    exact ox_iret B F od_Mo_tree_8 rfl (ox_nz (Or.inl rfl)) hG
abbrev rm_om_Mo_boundNow : Room := { frames := 4, cells := 0, slots := 0, locals := 95 }
set_option maxRecDepth 100000 in
set_option maxHeartbeats 4000000 in
theorem ct_om_Mo_boundNow {l : Launch} {D : va_G} {ad : Nat → Nat} {cI cC cZ : ClassId} {A : Nat → Prop} (hok : ox_ok (om_W D ad cI cC cZ A))  (σ : ox_S) (t : (Int32 × ox_S)) (h : om_Mo_boundNow  σ = some t) : Met l oy_Mo_boundNow (Cond.code oy_Mo_boundNow prog_11_method_35_code 4 (some .int) :: ox_ws) rm_om_Mo_boundNow (ox_P (om_W D ad cI cC cZ A) [.ref (ad 0)] σ) (ox_Q (om_W D ad cI cC cZ A) (some (.int t.1)) t.2) 0 0 A := by
  refine ox_met (ω := om_W D ad cI cC cZ A) (by decide) rfl hok (Nat.le_of_ble_eq_true rfl) ?_
  intro p e s m args below meth c B F
  generalize hres : (some (.int t.1) : Option Value) = res
  generalize hσf : t.2 = σf
  have hG : (fun t : (Int32 × ox_S) => res = some (.int t.1) ∧ σf = t.2) t := ⟨hres.symm, hσf.symm⟩
  have t_b37 : ∀ (x1 : Int32) (x2 : Int32) (x3 : Int32) (σ : ox_S) (t : ((Int32 × Int32) ⊕ ((Int32 × Int32) ⊕ (Int32 × ox_S)))), om_Mo_boundNow_b37 x1 x2 x3 σ = some t → (ox_G (fun t : (Int32 × Int32) => ox_M p l e rm_om_Mo_boundNow s m args below meth c (om_W D ad cI cC cZ A) 4 res σf 37 [some (.ref (ad 0)), some (.int t.1), some (.int x2), some (.int t.2)] [] σ) (ox_G (fun t : (Int32 × Int32) => ox_M p l e rm_om_Mo_boundNow s m args below meth c (om_W D ad cI cC cZ A) 4 res σf 14 [some (.ref (ad 0)), some (.int t.1), some (.int t.2), none] [] σ) (fun t : (Int32 × ox_S) => res = some (.int t.1) ∧ σf = t.2))) t → ox_M p l e rm_om_Mo_boundNow s m args below meth c (om_W D ad cI cC cZ A) 4 res σf 37 [some (.ref (ad 0)), some (.int x1), some (.int x2), some (.int x3)] [] σ := by
    intro x1 x2 x3 σ t h hG
    unfold om_Mo_boundNow_b37 at h
    refine ox_iload_n B 3 od_Mo_boundNow_37 rfl rfl ?_
    refine ox_aload_n B 0 od_Mo_boundNow_38 rfl rfl ?_
    refine omg_Mo_187 B F od_Mo_boundNow_39 ?_
    refine ox_icmp_ge B 78 od_Mo_boundNow_42 rfl (fun hc => ?_) (fun hc => ?_)
    · rw [if_pos hc] at h
      obtain ⟨v6, ev6, h⟩ := ox_let_some h
      refine ox_iinc B od_Mo_boundNow_78 rfl ((congrArg (x2 + ·) oxk_i1).trans ev6.symm) (by decide) rfl (L2 := [some (.ref (ad 0)), some (.int x1), some (.int v6), some (.int x3)]) rfl ?_
      refine ox_goto B 14 od_Mo_boundNow_81 rfl ?_
      cases h
      exact (ox_mask [true, true, true, false] hG)
    · rw [if_neg hc] at h
      refine ox_iload_n B 1 od_Mo_boundNow_45 rfl rfl ?_
      refine ox_aload_n B 0 od_Mo_boundNow_46 rfl rfl ?_
      refine omg_Mo_41 B F od_Mo_boundNow_47 ?_
      refine ox_bipush B od_Mo_boundNow_50 oxk_b8 ?_
      refine ox_iload_n B 2 od_Mo_boundNow_52 rfl rfl ?_
      refine ox_imul B od_Mo_boundNow_53 ?_
      refine ox_iload_n B 3 od_Mo_boundNow_54 rfl rfl ?_
      refine ox_iadd B od_Mo_boundNow_55 ?_
      obtain ⟨j7, ej7, hj7, h⟩ := ox_ix_some2 h
      refine omal_10 B F od_Mo_boundNow_56 hj7 ej7 ?_
      refine ox_if_eq B 69 od_Mo_boundNow_57 rfl (fun hc => ?_) (fun hc => ?_)
      · rw [if_pos hc] at h
        refine ox_iconst B od_Mo_boundNow_69 oxk_i0 ?_
        refine ox_iadd B od_Mo_boundNow_70 ?_
        obtain ⟨v8, ev8, h⟩ := ox_let_some h
        refine ox_topi ev8 ?_
        refine ox_istore_n B 1 od_Mo_boundNow_71 rfl (by decide) rfl (L2 := [some (.ref (ad 0)), some (.int v8), some (.int x2), some (.int x3)]) rfl ?_
        obtain ⟨v9, ev9, h⟩ := ox_let_some h
        refine ox_iinc B od_Mo_boundNow_72 rfl ((congrArg (x3 + ·) oxk_i1).trans ev9.symm) (by decide) rfl (L2 := [some (.ref (ad 0)), some (.int v8), some (.int x2), some (.int v9)]) rfl ?_
        refine ox_goto B 37 od_Mo_boundNow_75 rfl ?_
        cases h
        exact hG
      · rw [if_neg hc] at h
        refine ox_aload_n B 0 od_Mo_boundNow_60 rfl rfl ?_
        refine ox_iload_n B 2 od_Mo_boundNow_61 rfl rfl ?_
        refine ox_iload_n B 3 od_Mo_boundNow_62 rfl rfl ?_
        obtain ⟨r10, hr10, h⟩ := ox_bind h
        refine omc_Mo_214 B F od_Mo_boundNow_63 (As := [.int x2, .int x3]) (rest := [.int x1]) (st2 := [.int r10, .int x1]) (ct_om_Mo_weight hok x2 x3 σ _ hr10) ⟨rfl, rfl, Nat.le_of_ble_eq_true rfl, Nat.le_of_ble_eq_true rfl⟩ rfl (Nat.le_of_ble_eq_true rfl) rfl rfl ?_
        refine ox_goto B 70 od_Mo_boundNow_66 rfl ?_
        refine ox_iadd B od_Mo_boundNow_70 ?_
        obtain ⟨v11, ev11, h⟩ := ox_let_some h
        refine ox_topi ev11 ?_
        refine ox_istore_n B 1 od_Mo_boundNow_71 rfl (by decide) rfl (L2 := [some (.ref (ad 0)), some (.int v11), some (.int x2), some (.int x3)]) rfl ?_
        obtain ⟨v12, ev12, h⟩ := ox_let_some h
        refine ox_iinc B od_Mo_boundNow_72 rfl ((congrArg (x3 + ·) oxk_i1).trans ev12.symm) (by decide) rfl (L2 := [some (.ref (ad 0)), some (.int v11), some (.int x2), some (.int v12)]) rfl ?_
        refine ox_goto B 37 od_Mo_boundNow_75 rfl ?_
        cases h
        exact hG
  have t_37 : ∀ (x1 : Int32) (x2 : Int32) (x3 : Int32) (σ : ox_S) (t : ((Int32 × Int32) ⊕ (Int32 × ox_S))), om_Mo_boundNow_h37 x1 x2 x3 σ = some t → (ox_G (fun t : (Int32 × Int32) => ox_M p l e rm_om_Mo_boundNow s m args below meth c (om_W D ad cI cC cZ A) 4 res σf 14 [some (.ref (ad 0)), some (.int t.1), some (.int t.2), none] [] σ) (fun t : (Int32 × ox_S) => res = some (.int t.1) ∧ σf = t.2)) t → ox_M p l e rm_om_Mo_boundNow s m args below meth c (om_W D ad cI cC cZ A) 4 res σf 37 [some (.ref (ad 0)), some (.int x1), some (.int x2), some (.int x3)] [] σ := by
    intro x1 x2 x3 σ t h hG
    exact ox_w_run (fun t : (Int32 × Int32) => ox_M p l e rm_om_Mo_boundNow s m args below meth c (om_W D ad cI cC cZ A) 4 res σf 37 [some (.ref (ad 0)), some (.int t.1), some (.int x2), some (.int t.2)] [] σ) (ox_G (fun t : (Int32 × Int32) => ox_M p l e rm_om_Mo_boundNow s m args below meth c (om_W D ad cI cC cZ A) 4 res σf 14 [some (.ref (ad 0)), some (.int t.1), some (.int t.2), none] [] σ) (fun t : (Int32 × ox_S) => res = some (.int t.1) ∧ σf = t.2)) (fun a t h hG => t_b37 a.1 x2 a.2 σ t h hG) (x1, x3) t h hG
  have t_b14 : ∀ (x1 : Int32) (x2 : Int32) (σ : ox_S) (t : ((Int32 × Int32) ⊕ (Int32 × ox_S))), om_Mo_boundNow_b14 x1 x2 σ = some t → (ox_G (fun t : (Int32 × Int32) => ox_M p l e rm_om_Mo_boundNow s m args below meth c (om_W D ad cI cC cZ A) 4 res σf 14 [some (.ref (ad 0)), some (.int t.1), some (.int t.2), none] [] σ) (fun t : (Int32 × ox_S) => res = some (.int t.1) ∧ σf = t.2)) t → ox_M p l e rm_om_Mo_boundNow s m args below meth c (om_W D ad cI cC cZ A) 4 res σf 14 [some (.ref (ad 0)), some (.int x1), some (.int x2), none] [] σ := by
    intro x1 x2 σ t h hG
    unfold om_Mo_boundNow_b14 at h
    refine ox_iload_n B 2 od_Mo_boundNow_14 rfl rfl ?_
    refine ox_aload_n B 0 od_Mo_boundNow_15 rfl rfl ?_
    refine omg_Mo_187 B F od_Mo_boundNow_16 ?_
    refine ox_icmp_ge B 84 od_Mo_boundNow_19 rfl (fun hc => ?_) (fun hc => ?_)
    · rw [if_pos hc] at h
      refine ox_iload_n B 1 od_Mo_boundNow_84 rfl rfl ?_
      cases h
      exact ox_iret B F od_Mo_boundNow_85 rfl rfl hG
    · rw [if_neg hc] at h
      refine ox_iload_n B 1 od_Mo_boundNow_22 rfl rfl ?_
      refine ox_iconst B od_Mo_boundNow_23 oxk_i2 ?_
      refine ox_aload_n B 0 od_Mo_boundNow_24 rfl rfl ?_
      refine omg_Mo_20 B F od_Mo_boundNow_25 ?_
      refine ox_iload_n B 2 od_Mo_boundNow_28 rfl rfl ?_
      obtain ⟨j3, ej3, hj3, h⟩ := ox_ix_some2 h
      refine omal_3 B F od_Mo_boundNow_29 hj3 ej3 ?_
      refine ox_imul B od_Mo_boundNow_30 ?_
      refine ox_isub B od_Mo_boundNow_31 ?_
      obtain ⟨v4, ev4, h⟩ := ox_let_some h
      refine ox_topi ev4 ?_
      refine ox_istore_n B 1 od_Mo_boundNow_32 rfl (by decide) rfl (L2 := [some (.ref (ad 0)), some (.int v4), some (.int x2), none]) rfl ?_
      refine ox_iload_n B 2 od_Mo_boundNow_33 rfl rfl ?_
      refine ox_iconst B od_Mo_boundNow_34 oxk_i1 ?_
      refine ox_iadd B od_Mo_boundNow_35 ?_
      obtain ⟨v5, ev5, h⟩ := ox_let_some h
      refine ox_topi ev5 ?_
      refine ox_istore_n B 3 od_Mo_boundNow_36 rfl (by decide) rfl (L2 := [some (.ref (ad 0)), some (.int v4), some (.int x2), some (.int v5)]) rfl ?_
      exact (t_37 v4 x2 v5 σ _ h hG)
  have t_14 : ∀ (x1 : Int32) (x2 : Int32) (σ : ox_S) (t : (Int32 × ox_S)), om_Mo_boundNow_h14 x1 x2 σ = some t → (fun t : (Int32 × ox_S) => res = some (.int t.1) ∧ σf = t.2) t → ox_M p l e rm_om_Mo_boundNow s m args below meth c (om_W D ad cI cC cZ A) 4 res σf 14 [some (.ref (ad 0)), some (.int x1), some (.int x2), none] [] σ := by
    intro x1 x2 σ t h hG
    exact ox_w_run (fun t : (Int32 × Int32) => ox_M p l e rm_om_Mo_boundNow s m args below meth c (om_W D ad cI cC cZ A) 4 res σf 14 [some (.ref (ad 0)), some (.int t.1), some (.int t.2), none] [] σ) (fun t : (Int32 × ox_S) => res = some (.int t.1) ∧ σf = t.2) (fun a t h hG => t_b14 a.1 a.2 σ t h hG) (x1, x2) t h hG
  change ox_M p l e rm_om_Mo_boundNow s m args below meth c (om_W D ad cI cC cZ A) 4 res σf 0 [some (.ref (ad 0)), none, none, none] [] σ
  unfold om_Mo_boundNow at h
  refine ox_aload_n B 0 od_Mo_boundNow_0 rfl rfl ?_
  obtain ⟨r1, s2, hr1, h⟩ := ox_b2_some h
  refine omc_Mo_228 B F od_Mo_boundNow_1 (As := []) (rest := []) (st2 := [.int r1]) (ct_om_Mo_tree hok σ _ hr1) ⟨rfl, rfl, Nat.le_of_ble_eq_true rfl, Nat.le_of_ble_eq_true rfl⟩ rfl (Nat.le_of_ble_eq_true rfl) rfl rfl ?_
  refine ox_if_ne B 10 od_Mo_boundNow_4 rfl (fun hc => ?_) (fun hc => ?_)
  · rw [if_neg hc] at h
    refine ox_iconst B od_Mo_boundNow_10 oxk_i0 ?_
    refine ox_istore_n B 1 od_Mo_boundNow_11 rfl (by decide) rfl (L2 := [some (.ref (ad 0)), some (.int (0 : Int32)), none, none]) rfl ?_
    refine ox_iconst B od_Mo_boundNow_12 oxk_i0 ?_
    refine ox_istore_n B 2 od_Mo_boundNow_13 rfl (by decide) rfl (L2 := [some (.ref (ad 0)), some (.int (0 : Int32)), some (.int (0 : Int32)), none]) rfl ?_
    exact (t_14 (0 : Int32) (0 : Int32) s2 _ h hG)
  · rw [if_pos hc] at h
    refine ox_ldc B od_Mo_boundNow_7 omk_Mo_231 ?_
    cases h
    exact ox_iret B F od_Mo_boundNow_9 rfl rfl hG
abbrev rm_om_Mo_bound : Room := { frames := 5, cells := 0, slots := 0, locals := 118 }
set_option maxRecDepth 100000 in
set_option maxHeartbeats 4000000 in
theorem ct_om_Mo_bound {l : Launch} {D : va_G} {ad : Nat → Nat} {cI cC cZ : ClassId} {A : Nat → Prop} (hok : ox_ok (om_W D ad cI cC cZ A))  (σ : ox_S) (t : (Int32 × ox_S)) (h : om_Mo_bound  σ = some t) : Met l oy_Mo_bound (Cond.code oy_Mo_bound prog_11_method_37_code 1 (some .int) :: ox_ws) rm_om_Mo_bound (ox_P (om_W D ad cI cC cZ A) [.ref (ad 0)] σ) (ox_Q (om_W D ad cI cC cZ A) (some (.int t.1)) t.2) 0 0 A := by
  refine ox_met (ω := om_W D ad cI cC cZ A) (by decide) rfl hok (Nat.le_of_ble_eq_true rfl) ?_
  intro p e s m args below meth c B F
  generalize hres : (some (.int t.1) : Option Value) = res
  generalize hσf : t.2 = σf
  have hG : (fun t : (Int32 × ox_S) => res = some (.int t.1) ∧ σf = t.2) t := ⟨hres.symm, hσf.symm⟩
  change ox_M p l e rm_om_Mo_bound s m args below meth c (om_W D ad cI cC cZ A) 1 res σf 0 [some (.ref (ad 0))] [] σ
  unfold om_Mo_bound at h
  refine ox_aload_n B 0 od_Mo_bound_0 rfl rfl ?_
  obtain ⟨s1, hs1, h⟩ := ox_bind h
  refine omc_Mo_232 B F od_Mo_bound_1 (As := []) (rest := []) (st2 := []) (ct_om_Mo_ownRules hok σ _ hs1) ⟨rfl, rfl, Nat.le_of_ble_eq_true rfl, Nat.le_of_ble_eq_true rfl⟩ rfl (Nat.le_of_ble_eq_true rfl) rfl rfl ?_
  refine ox_aload_n B 0 od_Mo_bound_4 rfl rfl ?_
  obtain ⟨r2, s3, hr2, h⟩ := ox_b2_some h
  refine omc_Mo_235 B F od_Mo_bound_5 (As := []) (rest := []) (st2 := [.int r2]) (ct_om_Mo_boundNow hok s1 _ hr2) ⟨rfl, rfl, Nat.le_of_ble_eq_true rfl, Nat.le_of_ble_eq_true rfl⟩ rfl (Nat.le_of_ble_eq_true rfl) rfl rfl ?_
  cases h
  exact ox_iret B F od_Mo_bound_8 rfl rfl hG
