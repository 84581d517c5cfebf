abbrev rm_oc_TourList_listAll : Room := { frames := 2, cells := 0, slots := 0, locals := 49 }
set_option maxRecDepth 100000 in
set_option maxHeartbeats 4000000 in
theorem ct_oc_TourList_listAll {l : Launch} {D : va_G} {ad : Nat → Nat} {cI cC : ClassId} {A : Nat → Prop} {adK adV : Nat → Nat} (hok : ox_ok (oc_W D ad cI cC A adK adV))  (σ : ox_S) (t : ox_S) (h : oc_TourList_listAll  σ = some t) : Met l oy_TourList_listAll (Cond.code oy_TourList_listAll prog_9_method_2_code 3 none :: ox_ws) rm_oc_TourList_listAll (ox_P (oc_W D ad cI cC A adK adV) [.ref (ad 6)] σ) (ox_Q (oc_W D ad cI cC A adK adV) none t) 0 0 A := by
  refine ox_met (ω := oc_W D ad cI cC A adK adV) (by decide) rfl hok (Nat.le_of_ble_eq_true rfl) ?_
  intro p e s m args below meth c B F
  generalize hres : (none : Option Value) = res
  have hG : res = none ∧ t = t := ⟨hres.symm, rfl⟩
  obtain ⟨σf, hσf⟩ : ∃ z, z = t := ⟨_, rfl⟩
  have hG : (fun t : ox_S => res = none ∧ σf = t) t := ⟨hres.symm, hσf⟩
  rw [show ox_M p l e rm_oc_TourList_listAll s m args below meth c (oc_W D ad cI cC A adK adV) 3 res t 0 (ox_l0 [.ref (ad 6)] 3) [] σ = ox_M p l e rm_oc_TourList_listAll s m args below meth c (oc_W D ad cI cC A adK adV) 3 res σf 0 (ox_l0 [.ref (ad 6)] 3) [] σ by rw [hσf]]
  have t_b30 : ∀ (x1 : Int32) (x2 : Int32) (σ : ox_S) (t : ((Int32 × Int32 × ox_S) ⊕ ox_S)), oc_TourList_listAll_b30 x1 x2 σ = some t → (ox_G (fun t : (Int32 × Int32 × ox_S) => ox_M p l e rm_oc_TourList_listAll s m args below meth c (oc_W D ad cI cC A adK adV) 3 res σf 30 [some (.ref (ad 6)), some (.int t.1), some (.int t.2.1)] [] t.2.2) (fun t : ox_S => res = none ∧ σf = t)) t → ox_M p l e rm_oc_TourList_listAll s m args below meth c (oc_W D ad cI cC A adK adV) 3 res σf 30 [some (.ref (ad 6)), some (.int x1), some (.int x2)] [] σ := by
    intro x1 x2 σ t h hG
    unfold oc_TourList_listAll_b30 at h
    refine ox_iload_n B 2 od_TourList_listAll_30 rfl rfl ?_
    refine ox_sipush B od_TourList_listAll_31 oxk_s5040 ?_
    refine ox_icmp_ge B 79 od_TourList_listAll_34 rfl (fun hc => ?_) (fun hc => ?_)
    · rw [if_pos hc] at h
      cases h
      exact ox_vret B F od_TourList_listAll_79 rfl hG
    · rw [if_neg hc] at h
      refine ox_iload_n B 1 od_TourList_listAll_37 rfl rfl ?_
      refine ox_if_eq B 79 od_TourList_listAll_38 rfl (fun hc => ?_) (fun hc => ?_)
      · rw [if_pos hc] at h
        cases h
        exact ox_vret B F od_TourList_listAll_79 rfl hG
      · rw [if_neg hc] at h
        refine ox_aload_n B 0 od_TourList_listAll_41 rfl rfl ?_
        refine ocg_TourList_9 B F od_TourList_listAll_42 ?_
        refine ox_iconst B od_TourList_listAll_45 oxk_i1 ?_
        obtain ⟨j2, ej2, hj2, h⟩ := ox_ix_some2 h
        refine ocal_13 B F od_TourList_listAll_46 hj2 ej2 ?_
        refine ox_aload_n B 0 od_TourList_listAll_47 rfl rfl ?_
        refine ocg_TourList_9 B F od_TourList_listAll_48 ?_
        refine ox_aload_n B 0 od_TourList_listAll_51 rfl rfl ?_
        refine ocg_TourList_25 B F od_TourList_listAll_52 ?_
        refine ocg_TourList_29 B F od_TourList_listAll_55 ?_
        refine ox_iconst B od_TourList_listAll_58 oxk_i1 ?_
        refine ox_isub B od_TourList_listAll_59 ?_
        obtain ⟨j3, ej3, hj3, h⟩ := ox_ix_some2 h
        refine ocal_13 B F od_TourList_listAll_60 hj3 ej3 ?_
        refine ox_icmp_ge B 68 od_TourList_listAll_61 rfl (fun hc => ?_) (fun hc => ?_)
        · rw [if_pos hc] at h
          refine ox_aload_n B 0 od_TourList_listAll_68 rfl rfl ?_
          obtain ⟨r4, s5, hr4, h⟩ := ox_b2_some h
          refine occ_TourList_37 B F od_TourList_listAll_69 (As := []) (rest := []) (st2 := [.int r4]) (ct_oc_TourList_goToNextRow hok σ _ hr4) ⟨rfl, rfl, Nat.le_of_ble_eq_true rfl, Nat.le_of_ble_eq_true rfl⟩ rfl (Nat.le_of_ble_eq_true rfl) rfl rfl ?_
          refine ox_istore_n B 1 od_TourList_listAll_72 rfl (by decide) rfl (L2 := [some (.ref (ad 6)), some (.int r4), some (.int x2)]) rfl ?_
          obtain ⟨v6, ev6, h⟩ := ox_let_some h
          refine ox_iinc B od_TourList_listAll_73 rfl ((congrArg (x2 + ·) oxk_i1).trans ev6.symm) (by decide) rfl (L2 := [some (.ref (ad 6)), some (.int r4), some (.int v6)]) rfl ?_
          refine ox_goto B 30 od_TourList_listAll_76 rfl ?_
          cases h
          exact hG
        · rw [if_neg hc] at h
          refine ox_aload_n B 0 od_TourList_listAll_64 rfl rfl ?_
          obtain ⟨s7, hs7, h⟩ := ox_bind h
          refine occ_TourList_34 B F od_TourList_listAll_65 (As := []) (rest := []) (st2 := []) (ct_oc_TourList_append hok σ _ hs7) ⟨rfl, rfl, Nat.le_of_ble_eq_true rfl, Nat.le_of_ble_eq_true rfl⟩ rfl (Nat.le_of_ble_eq_true rfl) rfl rfl ?_
          refine ox_aload_n B 0 od_TourList_listAll_68 rfl rfl ?_
          obtain ⟨r8, s9, hr8, h⟩ := ox_b2_some h
          refine occ_TourList_37 B F od_TourList_listAll_69 (As := []) (rest := []) (st2 := [.int r8]) (ct_oc_TourList_goToNextRow hok s7 _ hr8) ⟨rfl, rfl, Nat.le_of_ble_eq_true rfl, Nat.le_of_ble_eq_true rfl⟩ rfl (Nat.le_of_ble_eq_true rfl) rfl rfl ?_
          refine ox_istore_n B 1 od_TourList_listAll_72 rfl (by decide) rfl (L2 := [some (.ref (ad 6)), some (.int r8), some (.int x2)]) rfl ?_
          obtain ⟨v10, ev10, h⟩ := ox_let_some h
          refine ox_iinc B od_TourList_listAll_73 rfl ((congrArg (x2 + ·) oxk_i1).trans ev10.symm) (by decide) rfl (L2 := [some (.ref (ad 6)), some (.int r8), some (.int v10)]) rfl ?_
          refine ox_goto B 30 od_TourList_listAll_76 rfl ?_
          cases h
          exact hG
  have t_30 : ∀ (x1 : Int32) (x2 : Int32) (σ : ox_S) (t : ox_S), oc_TourList_listAll_h30 x1 x2 σ = some t → (fun t : ox_S => res = none ∧ σf = t) t → ox_M p l e rm_oc_TourList_listAll s m args below meth c (oc_W D ad cI cC A adK adV) 3 res σf 30 [some (.ref (ad 6)), some (.int x1), some (.int x2)] [] σ := by
    intro x1 x2 σ t h hG
    exact ox_w_run (fun t : (Int32 × Int32 × ox_S) => ox_M p l e rm_oc_TourList_listAll s m args below meth c (oc_W D ad cI cC A adK adV) 3 res σf 30 [some (.ref (ad 6)), some (.int t.1), some (.int t.2.1)] [] t.2.2) (fun t : ox_S => res = none ∧ σf = t) (fun a t h hG => t_b30 a.1 a.2.1 a.2.2 t h hG) (x1, x2, σ) t h hG
  have t_b7 : ∀ (x1 : Int32) (σ : ox_S) (t : ((Int32 × ox_S) ⊕ ox_S)), oc_TourList_listAll_b7 x1 σ = some t → (ox_G (fun t : (Int32 × ox_S) => ox_M p l e rm_oc_TourList_listAll s m args below meth c (oc_W D ad cI cC A adK adV) 3 res σf 7 [some (.ref (ad 6)), some (.int t.1), none] [] t.2) (fun t : ox_S => res = none ∧ σf = t)) t → ox_M p l e rm_oc_TourList_listAll s m args below meth c (oc_W D ad cI cC A adK adV) 3 res σf 7 [some (.ref (ad 6)), some (.int x1), none] [] σ := by
    intro x1 σ t h hG
    unfold oc_TourList_listAll_b7 at h
    refine ox_iload_n B 1 od_TourList_listAll_7 rfl rfl ?_
    refine ox_bipush B od_TourList_listAll_8 oxk_b8 ?_
    refine ox_icmp_ge B 26 od_TourList_listAll_10 rfl (fun hc => ?_) (fun hc => ?_)
    · rw [if_pos hc] at h
      refine ox_iconst B od_TourList_listAll_26 oxk_i1 ?_
      refine ox_istore_n B 1 od_TourList_listAll_27 rfl (by decide) rfl (L2 := [some (.ref (ad 6)), some (.int (1 : Int32)), none]) rfl ?_
      refine ox_iconst B od_TourList_listAll_28 oxk_i0 ?_
      refine ox_istore_n B 2 od_TourList_listAll_29 rfl (by decide) rfl (L2 := [some (.ref (ad 6)), some (.int (1 : Int32)), some (.int (0 : Int32))]) rfl ?_
      obtain ⟨t', h', e'⟩ := ox_map h
      subst e'
      exact (t_30 (1 : Int32) (0 : Int32) σ _ h' hG)
    · rw [if_neg hc] at h
      refine ox_aload_n B 0 od_TourList_listAll_13 rfl rfl ?_
      refine ocg_TourList_9 B F od_TourList_listAll_14 ?_
      refine ox_iload_n B 1 od_TourList_listAll_17 rfl rfl ?_
      refine ox_iload_n B 1 od_TourList_listAll_18 rfl rfl ?_
      obtain ⟨j11, ej11, hj11, h⟩ := ox_ix_some2 h
      obtain ⟨s12, es12, h⟩ := ox_let_some h
      refine ocas_13 B F od_TourList_listAll_19 hj11 ej11 es12 ?_
      obtain ⟨v13, ev13, h⟩ := ox_let_some h
      refine ox_iinc B od_TourList_listAll_20 rfl ((congrArg (x1 + ·) oxk_i1).trans ev13.symm) (by decide) rfl (L2 := [some (.ref (ad 6)), some (.int v13), none]) rfl ?_
      refine ox_goto B 7 od_TourList_listAll_23 rfl ?_
      cases h
      exact hG
  have t_7 : ∀ (x1 : Int32) (σ : ox_S) (t : ox_S), oc_TourList_listAll_h7 x1 σ = some t → (fun t : ox_S => res = none ∧ σf = t) t → ox_M p l e rm_oc_TourList_listAll s m args below meth c (oc_W D ad cI cC A adK adV) 3 res σf 7 [some (.ref (ad 6)), some (.int x1), none] [] σ := by
    intro x1 σ t h hG
    exact ox_w_run (fun t : (Int32 × ox_S) => ox_M p l e rm_oc_TourList_listAll s m args below meth c (oc_W D ad cI cC A adK adV) 3 res σf 7 [some (.ref (ad 6)), some (.int t.1), none] [] t.2) (fun t : ox_S => res = none ∧ σf = t) (fun a t h hG => t_b7 a.1 a.2 t h hG) (x1, σ) t h hG
  change ox_M p l e rm_oc_TourList_listAll s m args below meth c (oc_W D ad cI cC A adK adV) 3 res σf 0 [some (.ref (ad 6)), none, none] [] σ
  unfold oc_TourList_listAll at h
  refine ox_aload_n B 0 od_TourList_listAll_0 rfl rfl ?_
  refine ox_iconst B od_TourList_listAll_1 oxk_i0 ?_
  obtain ⟨s1, es1, h⟩ := ox_let_some h
  refine ocp_TourList_21 B F od_TourList_listAll_2 es1 ?_
  refine ox_iconst B od_TourList_listAll_5 oxk_i0 ?_
  refine ox_istore_n B 1 od_TourList_listAll_6 rfl (by decide) rfl (L2 := [some (.ref (ad 6)), some (.int (0 : Int32)), none]) rfl ?_
  exact (t_7 (0 : Int32) s1 _ h hG)
abbrev rm_oc_T_size : Room := { frames := 0, cells := 0, slots := 0, locals := 0 }
set_option maxRecDepth 100000 in
set_option maxHeartbeats 4000000 in
theorem ct_oc_T_size {l : Launch} {D : va_G} {ad : Nat → Nat} {cI cC : ClassId} {A : Nat → Prop} {adK adV : Nat → Nat} (hok : ox_ok (oc_W D ad cI cC A adK adV))  (σ : ox_S) (t : Int32) (h : oc_T_size  σ = some t) : Met l oy_T_size (Cond.code oy_T_size prog_1_method_5_code 1 (some .int) :: ox_ws) rm_oc_T_size (ox_P (oc_W D ad cI cC A adK adV) [.ref (ad 0)] σ) (ox_Q (oc_W D ad cI cC A adK adV) (some (.int t)) σ) 0 0 A := by
  refine ox_met (ω := oc_W D ad cI cC A adK adV) (by decide) rfl hok (Nat.le_of_ble_eq_true rfl) ?_
  intro p e s m args below meth c B F
  generalize hres : (some (.int t) : Option Value) = res
  have hG : (fun t : Int32 => res = some (.int t) ∧ σ = σ) t := ⟨hres.symm, rfl⟩
  change ox_M p l e rm_oc_T_size s m args below meth c (oc_W D ad cI cC A adK adV) 1 res σ 0 [some (.ref (ad 0))] [] σ
  unfold oc_T_size at h
  refine ox_aload_n B 0 od_T_size_0 rfl rfl ?_
  refine ocg_T_28 B F od_T_size_1 ?_
  refine ocg_T_95 B F od_T_size_4 ?_
  cases h
  exact ox_iret B F od_T_size_7 rfl rfl hG
abbrev rm_oc_Land_isCity : Room := { frames := 0, cells := 0, slots := 0, locals := 0 }
set_option maxRecDepth 100000 in
set_option maxHeartbeats 4000000 in
theorem ct_oc_Land_isCity {l : Launch} {D : va_G} {ad : Nat → Nat} {cI cC : ClassId} {A : Nat → Prop} {adK adV : Nat → Nat} (hok : ox_ok (oc_W D ad cI cC A adK adV)) (x1 : Int32) (σ : ox_S) (t : Int32) (h : oc_Land_isCity x1 σ = some t) : Met l oy_Land_isCity (Cond.code oy_Land_isCity prog_3_method_4_code 2 (some .boolean) :: ox_ws) rm_oc_Land_isCity (ox_P (oc_W D ad cI cC A adK adV) [.ref (ad 4), .int x1] σ) (ox_Q (oc_W D ad cI cC A adK adV) (some (.int t)) σ) 0 0 A := by
  refine ox_met (ω := oc_W D ad cI cC A adK adV) (by decide) rfl hok (Nat.le_of_ble_eq_true rfl) ?_
  intro p e s m args below meth c B F
  generalize hres : (some (.int t) : Option Value) = res
  have hG : (fun t : Int32 => res = some (.int t) ∧ σ = σ) t := ⟨hres.symm, rfl⟩
  change ox_M p l e rm_oc_Land_isCity s m args below meth c (oc_W D ad cI cC A adK adV) 2 res σ 0 [some (.ref (ad 4)), some (.int x1)] [] σ
  unfold oc_Land_isCity at h
  refine ox_iload_n B 1 od_Land_isCity_0 rfl rfl ?_
  refine ox_if_lt B 16 od_Land_isCity_1 rfl (fun hc => ?_) (fun hc => ?_)
  · rw [if_pos hc] at h
    refine ox_iconst B od_Land_isCity_16 oxk_i0 ?_
    cases h
    exact ox_iret B F od_Land_isCity_17 rfl (ox_nz (Or.inl rfl)) hG
  · rw [if_neg hc] at h
    refine ox_iload_n B 1 od_Land_isCity_4 rfl rfl ?_
    refine ox_aload_n B 0 od_Land_isCity_5 rfl rfl ?_
    refine ocg_Land_27 B F od_Land_isCity_6 ?_
    refine ox_icmp_ge B 16 od_Land_isCity_9 rfl (fun hc => ?_) (fun hc => ?_)
    · rw [if_pos hc] at h
      refine ox_iconst B od_Land_isCity_16 oxk_i0 ?_
      cases h
      exact ox_iret B F od_Land_isCity_17 rfl (ox_nz (Or.inl rfl)) hG
    · rw [if_neg hc] at h
      refine ox_iconst B od_Land_isCity_12 oxk_i1 ?_
      refine ox_goto B 17 od_Land_isCity_13 rfl ?_
      cases h
      exact ox_iret B F od_Land_isCity_17 rfl (ox_nz (Or.inr rfl)) hG
abbrev rm_oc_T_distance : Room := { frames := 1, cells := 0, slots := 0, locals := 22 }
set_option maxRecDepth 100000 in
set_option maxHeartbeats 4000000 in
theorem ct_oc_T_distance {l : Launch} {D : va_G} {ad : Nat → Nat} {cI cC : ClassId} {A : Nat → Prop} {adK adV : Nat → Nat} (hok : ox_ok (oc_W D ad cI cC A adK adV)) (x1 : Int32) (x2 : Int32) (σ : ox_S) (t : Int32) (h : oc_T_distance x1 x2 σ = some t) : Met l oy_T_distance (Cond.code oy_T_distance prog_1_method_6_code 3 (some .int) :: ox_ws) rm_oc_T_distance (ox_P (oc_W D ad cI cC A adK adV) [.ref (ad 0), .int x1, .int x2] σ) (ox_Q (oc_W D ad cI cC A adK adV) (some (.int t)) σ) 0 0 A := by
  refine ox_met (ω := oc_W D ad cI cC A adK adV) (by decide) rfl hok (Nat.le_of_ble_eq_true rfl) ?_
  intro p e s m args below meth c B F
  generalize hres : (some (.int t) : Option Value) = res
  have hG : (fun t : Int32 => res = some (.int t) ∧ σ = σ) t := ⟨hres.symm, rfl⟩
  change ox_M p l e rm_oc_T_distance s m args below meth c (oc_W D ad cI cC A adK adV) 3 res σ 0 [some (.ref (ad 0)), some (.int x1), some (.int x2)] [] σ
  unfold oc_T_distance at h
  refine ox_aload_n B 0 od_T_distance_0 rfl rfl ?_
  refine ocg_T_28 B F od_T_distance_1 ?_
  refine ox_iload_n B 1 od_T_distance_4 rfl rfl ?_
  obtain ⟨r1, hr1, h⟩ := ox_bind h
  refine occ_T_98 B F od_T_distance_5 (As := [.int x1]) (rest := []) (st2 := [.int r1]) (ct_oc_Land_isCity hok x1 σ _ hr1) ⟨rfl, rfl, Nat.le_of_ble_eq_true rfl, Nat.le_of_ble_eq_true rfl⟩ rfl (Nat.le_of_ble_eq_true rfl) rfl rfl ?_
  refine ox_if_eq B 34 od_T_distance_8 rfl (fun hc => ?_) (fun hc => ?_)
  · rw [if_pos hc] at h
    refine ox_iconst B od_T_distance_34 oxk_im1 ?_
    cases h
    exact ox_iret B F od_T_distance_35 rfl rfl hG
  · rw [if_neg hc] at h
    refine ox_aload_n B 0 od_T_distance_11 rfl rfl ?_
    refine ocg_T_28 B F od_T_distance_12 ?_
    refine ox_iload_n B 2 od_T_distance_15 rfl rfl ?_
    obtain ⟨r2, hr2, h⟩ := ox_bind h
    refine occ_T_98 B F od_T_distance_16 (As := [.int x2]) (rest := []) (st2 := [.int r2]) (ct_oc_Land_isCity hok x2 σ _ hr2) ⟨rfl, rfl, Nat.le_of_ble_eq_true rfl, Nat.le_of_ble_eq_true rfl⟩ rfl (Nat.le_of_ble_eq_true rfl) rfl rfl ?_
    refine ox_if_eq B 34 od_T_distance_19 rfl (fun hc => ?_) (fun hc => ?_)
    · rw [if_pos hc] at h
      refine ox_iconst B od_T_distance_34 oxk_im1 ?_
      cases h
      exact ox_iret B F od_T_distance_35 rfl rfl hG
    · rw [if_neg hc] at h
      refine ox_aload_n B 0 od_T_distance_22 rfl rfl ?_
      refine ocg_T_28 B F od_T_distance_23 ?_
      refine ox_iload_n B 1 od_T_distance_26 rfl rfl ?_
      refine ox_iload_n B 2 od_T_distance_27 rfl rfl ?_
      obtain ⟨r3, hr3, h⟩ := ox_bind h
      refine occ_T_102 B F od_T_distance_28 (As := [.int x1, .int x2]) (rest := []) (st2 := [.int r3]) (ct_oc_Land_between hok x1 x2 σ _ hr3) ⟨rfl, rfl, Nat.le_of_ble_eq_true rfl, Nat.le_of_ble_eq_true rfl⟩ rfl (Nat.le_of_ble_eq_true rfl) rfl rfl ?_
      refine ox_goto B 35 od_T_distance_31 rfl ?_
      cases h
      exact ox_iret B F od_T_distance_35 rfl rfl hG
abbrev rm_oc_Land_putMark : Room := { frames := 0, cells := 0, slots := 0, locals := 0 }
set_option maxRecDepth 100000 in
set_option maxHeartbeats 4000000 in
theorem ct_oc_Land_putMark {l : Launch} {D : va_G} {ad : Nat → Nat} {cI cC : ClassId} {A : Nat → Prop} {adK adV : Nat → Nat} (hok : ox_ok (oc_W D ad cI cC A adK adV)) (x1 : Int32) (x2 : Int32) (σ : ox_S) (t : ox_S) (h : oc_Land_putMark x1 x2 σ = some t) : Met l oy_Land_putMark (Cond.code oy_Land_putMark prog_3_method_8_code 3 none :: ox_ws) rm_oc_Land_putMark (ox_P (oc_W D ad cI cC A adK adV) [.ref (ad 4), .int x1, .int x2] σ) (ox_Q (oc_W D ad cI cC A adK adV) none t) 0 0 A := by
  refine ox_met (ω := oc_W D ad cI cC A adK adV) (by decide) rfl hok (Nat.le_of_ble_eq_true rfl) ?_
  intro p e s m args below meth c B F
  generalize hres : (none : Option Value) = res
  have hG : res = none ∧ t = t := ⟨hres.symm, rfl⟩
  obtain ⟨σf, hσf⟩ : ∃ z, z = t := ⟨_, rfl⟩
  have hG : (fun t : ox_S => res = none ∧ σf = t) t := ⟨hres.symm, hσf⟩
  rw [show ox_M p l e rm_oc_Land_putMark s m args below meth c (oc_W D ad cI cC A adK adV) 3 res t 0 (ox_l0 [.ref (ad 4), .int x1, .int x2] 3) [] σ = ox_M p l e rm_oc_Land_putMark s m args below meth c (oc_W D ad cI cC A adK adV) 3 res σf 0 (ox_l0 [.ref (ad 4), .int x1, .int x2] 3) [] σ by rw [hσf]]
  have t_23 : ∀ (x1 : Int32) (x2 : Int32) (y0 : Int32) (σ : ox_S) (t : ox_S), oc_Land_putMark_j23 x1 x2 y0 σ = some t → (fun t : ox_S => res = none ∧ σf = t) t → ox_M p l e rm_oc_Land_putMark s m args below meth c (oc_W D ad cI cC A adK adV) 3 res σf 23 [some (.ref (ad 4)), some (.int x1), some (.int x2)] [.int y0, .ref (ad 4)] σ := by
    intro x1 x2 y0 σ t h hG
    unfold oc_Land_putMark_j23 at h
    obtain ⟨s1, es1, h⟩ := ox_let_some h
    refine ocp_Land_34 B F od_Land_putMark_23 es1 ?_
    refine ox_aload_n B 0 od_Land_putMark_26 rfl rfl ?_
    refine ox_iload_n B 2 od_Land_putMark_27 rfl rfl ?_
    refine ox_iconst B od_Land_putMark_28 oxk_i2 ?_
    refine ox_icmp_ne B 41 od_Land_putMark_29 rfl (fun hc => ?_) (fun hc => ?_)
    · rw [if_neg hc] at h
      refine ox_aload_n B 0 od_Land_putMark_41 rfl rfl ?_
      refine ocg_Land_37 B F od_Land_putMark_42 ?_
      refine ox_iload_n B 1 od_Land_putMark_45 rfl rfl ?_
      refine ox_iconst B od_Land_putMark_46 oxk_im1 ?_
      refine ox_ixor B od_Land_putMark_47 ?_
      refine ox_iand B od_Land_putMark_48 ?_
      obtain ⟨s2, es2, h⟩ := ox_let_some h
      refine ocp_Land_37 B F od_Land_putMark_49 es2 ?_
      cases h
      exact ox_vret B F od_Land_putMark_52 rfl hG
    · rw [if_pos hc] at h
      refine ox_aload_n B 0 od_Land_putMark_32 rfl rfl ?_
      refine ocg_Land_37 B F od_Land_putMark_33 ?_
      refine ox_iload_n B 1 od_Land_putMark_36 rfl rfl ?_
      refine ox_ior B od_Land_putMark_37 ?_
      refine ox_goto B 49 od_Land_putMark_38 rfl ?_
      obtain ⟨s3, es3, h⟩ := ox_let_some h
      refine ocp_Land_37 B F od_Land_putMark_49 es3 ?_
      cases h
      exact ox_vret B F od_Land_putMark_52 rfl hG
  change ox_M p l e rm_oc_Land_putMark s m args below meth c (oc_W D ad cI cC A adK adV) 3 res σf 0 [some (.ref (ad 4)), some (.int x1), some (.int x2)] [] σ
  unfold oc_Land_putMark at h
  refine ox_aload_n B 0 od_Land_putMark_0 rfl rfl ?_
  refine ox_iload_n B 2 od_Land_putMark_1 rfl rfl ?_
  refine ox_iconst B od_Land_putMark_2 oxk_i1 ?_
  refine ox_icmp_ne B 15 od_Land_putMark_3 rfl (fun hc => ?_) (fun hc => ?_)
  · rw [if_neg hc] at h
    refine ox_aload_n B 0 od_Land_putMark_15 rfl rfl ?_
    refine ocg_Land_34 B F od_Land_putMark_16 ?_
    refine ox_iload_n B 1 od_Land_putMark_19 rfl rfl ?_
    refine ox_iconst B od_Land_putMark_20 oxk_im1 ?_
    refine ox_ixor B od_Land_putMark_21 ?_
    refine ox_iand B od_Land_putMark_22 ?_
    exact (t_23 x1 x2 ((σ.1 12) &&& (x1 ^^^ (-1 : Int32))) σ _ h hG)
  · rw [if_pos hc] at h
    refine ox_aload_n B 0 od_Land_putMark_6 rfl rfl ?_
    refine ocg_Land_34 B F od_Land_putMark_7 ?_
    refine ox_iload_n B 1 od_Land_putMark_10 rfl rfl ?_
    refine ox_ior B od_Land_putMark_11 ?_
    refine ox_goto B 23 od_Land_putMark_12 rfl ?_
    exact (t_23 x1 x2 ((σ.1 12) ||| x1) σ _ h hG)
abbrev rm_oc_T_mark : Room := { frames := 1, cells := 0, slots := 0, locals := 22 }
set_option maxRecDepth 100000 in
set_option maxHeartbeats 4000000 in
theorem ct_oc_T_mark {l : Launch} {D : va_G} {ad : Nat → Nat} {cI cC : ClassId} {A : Nat → Prop} {adK adV : Nat → Nat} (hok : ox_ok (oc_W D ad cI cC A adK adV)) (x1 : Int32) (x2 : Int32) (x3 : Int32) (σ : ox_S) (t : (Int32 × ox_S)) (h : oc_T_mark x1 x2 x3 σ = some t) : Met l oy_T_mark (Cond.code oy_T_mark prog_1_method_7_code 4 (some .boolean) :: ox_ws) rm_oc_T_mark (ox_P (oc_W D ad cI cC A adK adV) [.ref (ad 0), .int x1, .int x2, .int x3] σ) (ox_Q (oc_W D ad cI cC A adK adV) (some (.int t.1)) t.2) 0 0 A := by
  refine ox_met (ω := oc_W D ad cI cC A adK adV) (by decide) rfl hok (Nat.le_of_ble_eq_true rfl) ?_
  intro p e s m args below meth c B F
  generalize hres : (some (.int t.1) : Option Value) = res
  generalize hσf : t.2 = σf
  have hG : (fun t : (Int32 × ox_S) => res = some (.int t.1) ∧ σf = t.2) t := ⟨hres.symm, hσf.symm⟩
  change ox_M p l e rm_oc_T_mark s m args below meth c (oc_W D ad cI cC A adK adV) 4 res σf 0 [some (.ref (ad 0)), some (.int x1), some (.int x2), some (.int x3)] [] σ
  unfold oc_T_mark at h
  refine ox_aload_n B 0 od_T_mark_0 rfl rfl ?_
  refine ocg_T_28 B F od_T_mark_1 ?_
  refine ox_iload_n B 1 od_T_mark_4 rfl rfl ?_
  obtain ⟨r1, hr1, h⟩ := ox_bind h
  refine occ_T_98 B F od_T_mark_5 (As := [.int x1]) (rest := []) (st2 := [.int r1]) (ct_oc_Land_isCity hok x1 σ _ hr1) ⟨rfl, rfl, Nat.le_of_ble_eq_true rfl, Nat.le_of_ble_eq_true rfl⟩ rfl (Nat.le_of_ble_eq_true rfl) rfl rfl ?_
  refine ox_if_eq B 36 od_T_mark_8 rfl (fun hc => ?_) (fun hc => ?_)
  · rw [if_pos hc] at h
    refine ox_iconst B od_T_mark_36 oxk_i0 ?_
    cases h
    exact ox_iret B F od_T_mark_37 rfl (ox_nz (Or.inl rfl)) hG
  · rw [if_neg hc] at h
    refine ox_aload_n B 0 od_T_mark_11 rfl rfl ?_
    refine ocg_T_28 B F od_T_mark_12 ?_
    refine ox_iload_n B 2 od_T_mark_15 rfl rfl ?_
    obtain ⟨r2, hr2, h⟩ := ox_bind h
    refine occ_T_98 B F od_T_mark_16 (As := [.int x2]) (rest := []) (st2 := [.int r2]) (ct_oc_Land_isCity hok x2 σ _ hr2) ⟨rfl, rfl, Nat.le_of_ble_eq_true rfl, Nat.le_of_ble_eq_true rfl⟩ rfl (Nat.le_of_ble_eq_true rfl) rfl rfl ?_
    refine ox_if_eq B 36 od_T_mark_19 rfl (fun hc => ?_) (fun hc => ?_)
    · rw [if_pos hc] at h
      refine ox_iconst B od_T_mark_36 oxk_i0 ?_
      cases h
      exact ox_iret B F od_T_mark_37 rfl (ox_nz (Or.inl rfl)) hG
    · rw [if_neg hc] at h
      refine ox_iload_n B 1 od_T_mark_22 rfl rfl ?_
      refine ox_iload_n B 2 od_T_mark_23 rfl rfl ?_
      refine ox_icmp_eq B 36 od_T_mark_24 rfl (fun hc => ?_) (fun hc => ?_)
      · rw [if_pos hc] at h
        refine ox_iconst B od_T_mark_36 oxk_i0 ?_
        cases h
        exact ox_iret B F od_T_mark_37 rfl (ox_nz (Or.inl rfl)) hG
      · rw [if_neg hc] at h
        refine ox_iload_n B 3 od_T_mark_27 rfl rfl ?_
        refine ox_if_lt B 36 od_T_mark_28 rfl (fun hc => ?_) (fun hc => ?_)
        · rw [if_pos hc] at h
          refine ox_iconst B od_T_mark_36 oxk_i0 ?_
          cases h
          exact ox_iret B F od_T_mark_37 rfl (ox_nz (Or.inl rfl)) hG
        · rw [if_neg hc] at h
          refine ox_iload_n B 3 od_T_mark_31 rfl rfl ?_
          refine ox_iconst B od_T_mark_32 oxk_i2 ?_
          refine ox_icmp_le B 38 od_T_mark_33 rfl (fun hc => ?_) (fun hc => ?_)
          · rw [if_pos hc] at h
            refine ox_aload_n B 0 od_T_mark_38 rfl rfl ?_
            refine ocg_T_28 B F od_T_mark_39 ?_
            refine ox_aload_n B 0 od_T_mark_42 rfl rfl ?_
            refine ocg_T_28 B F od_T_mark_43 ?_
            refine ox_iload_n B 1 od_T_mark_46 rfl rfl ?_
            refine ox_iload_n B 2 od_T_mark_47 rfl rfl ?_
            obtain ⟨r3, hr3, h⟩ := ox_bind h
            refine occ_T_106 B F od_T_mark_48 (As := [.int x1, .int x2]) (rest := [.ref (ad 4)]) (st2 := [.int r3, .ref (ad 4)]) (ct_oc_Land_edgeBit hok x1 x2 σ _ hr3) ⟨rfl, rfl, Nat.le_of_ble_eq_true rfl, Nat.le_of_ble_eq_true rfl⟩ rfl (Nat.le_of_ble_eq_true rfl) rfl rfl ?_
            refine ox_iload_n B 3 od_T_mark_51 rfl rfl ?_
            obtain ⟨s4, hs4, h⟩ := ox_bind h
            refine occ_T_109 B F od_T_mark_52 (As := [.int r3, .int x3]) (rest := []) (st2 := []) (ct_oc_Land_putMark hok r3 x3 σ _ hs4) ⟨rfl, rfl, Nat.le_of_ble_eq_true rfl, Nat.le_of_ble_eq_true rfl⟩ rfl (Nat.le_of_ble_eq_true rfl) rfl rfl ?_
            refine ox_iconst B od_T_mark_55 oxk_i1 ?_
            cases h
            exact ox_iret B F od_T_mark_56 rfl (ox_nz (Or.inr rfl)) hG
          · rw [if_neg hc] at h
            refine ox_iconst B od_T_mark_36 oxk_i0 ?_
            cases h
            exact ox_iret B F od_T_mark_37 rfl (ox_nz (Or.inl rfl)) hG
abbrev rm_oc_T_isPotential : Room := { frames := 0, cells := 0, slots := 0, locals := 0 }
set_option maxRecDepth 100000 in
set_option maxHeartbeats 4000000 in
theorem ct_oc_T_isPotential {l : Launch} {D : va_G} {ad : Nat → Nat} {cI cC : ClassId} {A : Nat → Prop} {adK adV : Nat → Nat} (hok : ox_ok (oc_W D ad cI cC A adK adV)) (x0 : Int32) (σ : ox_S) (t : Int32) (h : oc_T_isPotential x0 σ = some t) : Met l oy_T_isPotential (Cond.code oy_T_isPotential prog_1_method_22_code 1 (some .boolean) :: ox_ws) rm_oc_T_isPotential (ox_P (oc_W D ad cI cC A adK adV) [.int x0] σ) (ox_Q (oc_W D ad cI cC A adK adV) (some (.int t)) σ) 0 0 A := by
  refine ox_met (ω := oc_W D ad cI cC A adK adV) (by decide) rfl hok (Nat.le_of_ble_eq_true rfl) ?_
  intro p e s m args below meth c B F
  generalize hres : (some (.int t) : Option Value) = res
  have hG : (fun t : Int32 => res = some (.int t) ∧ σ = σ) t := ⟨hres.symm, rfl⟩
  change ox_M p l e rm_oc_T_isPotential s m args below meth c (oc_W D ad cI cC A adK adV) 1 res σ 0 [some (.int x0)] [] σ
  unfold oc_T_isPotential at h
  refine ox_iload_n B 0 od_T_isPotential_0 rfl rfl ?_
  refine ox_ldc B od_T_isPotential_1 ock_T_199 ?_
  refine ox_icmp_lt B 16 od_T_isPotential_3 rfl (fun hc => ?_) (fun hc => ?_)
  · rw [if_pos hc] at h
    refine ox_iconst B od_T_isPotential_16 oxk_i0 ?_
    cases h
    exact ox_iret B F od_T_isPotential_17 rfl (ox_nz (Or.inl rfl)) hG
  · rw [if_neg hc] at h
    refine ox_iload_n B 0 od_T_isPotential_6 rfl rfl ?_
    refine ox_ldc B od_T_isPotential_7 ock_T_200 ?_
    refine ox_icmp_gt B 16 od_T_isPotential_9 rfl (fun hc => ?_) (fun hc => ?_)
    · rw [if_pos hc] at h
      refine ox_iconst B od_T_isPotential_16 oxk_i0 ?_
      cases h
      exact ox_iret B F od_T_isPotential_17 rfl (ox_nz (Or.inl rfl)) hG
    · rw [if_neg hc] at h
      refine ox_iconst B od_T_isPotential_12 oxk_i1 ?_
      refine ox_goto B 17 od_T_isPotential_13 rfl ?_
      cases h
      exact ox_iret B F od_T_isPotential_17 rfl (ox_nz (Or.inr rfl)) hG
abbrev rm_oc_T_lift : Room := { frames := 1, cells := 0, slots := 0, locals := 21 }
set_option maxRecDepth 100000 in
set_option maxHeartbeats 4000000 in
theorem ct_oc_T_lift {l : Launch} {D : va_G} {ad : Nat → Nat} {cI cC : ClassId} {A : Nat → Prop} {adK adV : Nat → Nat} (hok : ox_ok (oc_W D ad cI cC A adK adV)) (x1 : Int32) (x2 : Int32) (σ : ox_S) (t : (Int32 × ox_S)) (h : oc_T_lift x1 x2 σ = some t) : Met l oy_T_lift (Cond.code oy_T_lift prog_1_method_8_code 3 (some .boolean) :: ox_ws) rm_oc_T_lift (ox_P (oc_W D ad cI cC A adK adV) [.ref (ad 0), .int x1, .int x2] σ) (ox_Q (oc_W D ad cI cC A adK adV) (some (.int t.1)) t.2) 0 0 A := by
  refine ox_met (ω := oc_W D ad cI cC A adK adV) (by decide) rfl hok (Nat.le_of_ble_eq_true rfl) ?_
  intro p e s m args below meth c B F
  generalize hres : (some (.int t.1) : Option Value) = res
  generalize hσf : t.2 = σf
  have hG : (fun t : (Int32 × ox_S) => res = some (.int t.1) ∧ σf = t.2) t := ⟨hres.symm, hσf.symm⟩
  change ox_M p l e rm_oc_T_lift s m args below meth c (oc_W D ad cI cC A adK adV) 3 res σf 0 [some (.ref (ad 0)), some (.int x1), some (.int x2)] [] σ
  unfold oc_T_lift at h
  refine ox_aload_n B 0 od_T_lift_0 rfl rfl ?_
  refine ocg_T_28 B F od_T_lift_1 ?_
  refine ox_iload_n B 1 od_T_lift_4 rfl rfl ?_
  obtain ⟨r1, hr1, h⟩ := ox_bind h
  refine occ_T_98 B F od_T_lift_5 (As := [.int x1]) (rest := []) (st2 := [.int r1]) (ct_oc_Land_isCity hok x1 σ _ hr1) ⟨rfl, rfl, Nat.le_of_ble_eq_true rfl, Nat.le_of_ble_eq_true rfl⟩ rfl (Nat.le_of_ble_eq_true rfl) rfl rfl ?_
  refine ox_if_eq B 18 od_T_lift_8 rfl (fun hc => ?_) (fun hc => ?_)
  · rw [if_pos hc] at h
    refine ox_iconst B od_T_lift_18 oxk_i0 ?_
    cases h
    exact ox_iret B F od_T_lift_19 rfl (ox_nz (Or.inl rfl)) hG
  · rw [if_neg hc] at h
    refine ox_iload_n B 2 od_T_lift_11 rfl rfl ?_
    obtain ⟨r2, hr2, h⟩ := ox_bind h
    refine occ_T_113 B F od_T_lift_12 (As := [.int x2]) (rest := []) (st2 := [.int r2]) (ct_oc_T_isPotential hok x2 σ _ hr2) ⟨rfl, rfl, Nat.le_of_ble_eq_true rfl, Nat.le_of_ble_eq_true rfl⟩ rfl (Nat.le_of_ble_eq_true rfl) rfl rfl ?_
    refine ox_if_ne B 20 od_T_lift_15 rfl (fun hc => ?_) (fun hc => ?_)
    · rw [if_neg hc] at h
      refine ox_aload_n B 0 od_T_lift_20 rfl rfl ?_
      refine ocg_T_28 B F od_T_lift_21 ?_
      refine ocg_T_116 B F od_T_lift_24 ?_
      refine ox_iload_n B 1 od_T_lift_27 rfl rfl ?_
      refine ox_iload_n B 2 od_T_lift_28 rfl rfl ?_
      obtain ⟨j3, ej3, hj3, h⟩ := ox_ix_some2 h
      obtain ⟨s4, es4, h⟩ := ox_let_some h
      refine ocas_10 B F od_T_lift_29 hj3 ej3 es4 ?_
      refine ox_iconst B od_T_lift_30 oxk_i1 ?_
      cases h
      exact ox_iret B F od_T_lift_31 rfl (ox_nz (Or.inr rfl)) hG
    · rw [if_pos hc] at h
      refine ox_iconst B od_T_lift_18 oxk_i0 ?_
      cases h
      exact ox_iret B F od_T_lift_19 rfl (ox_nz (Or.inl rfl)) hG
abbrev rm_oc_T_potential : Room := { frames := 1, cells := 0, slots := 0, locals := 21 }
set_option maxRecDepth 100000 in
set_option maxHeartbeats 4000000 in
theorem ct_oc_T_potential {l : Launch} {D : va_G} {ad : Nat → Nat} {cI cC : ClassId} {A : Nat → Prop} {adK adV : Nat → Nat} (hok : ox_ok (oc_W D ad cI cC A adK adV)) (x1 : Int32) (σ : ox_S) (t : Int32) (h : oc_T_potential x1 σ = some t) : Met l oy_T_potential (Cond.code oy_T_potential prog_1_method_9_code 2 (some .int) :: ox_ws) rm_oc_T_potential (ox_P (oc_W D ad cI cC A adK adV) [.ref (ad 0), .int x1] σ) (ox_Q (oc_W D ad cI cC A adK adV) (some (.int t)) σ) 0 0 A := by
  refine ox_met (ω := oc_W D ad cI cC A adK adV) (by decide) rfl hok (Nat.le_of_ble_eq_true rfl) ?_
  intro p e s m args below meth c B F
  generalize hres : (some (.int t) : Option Value) = res
  have hG : (fun t : Int32 => res = some (.int t) ∧ σ = σ) t := ⟨hres.symm, rfl⟩
  change ox_M p l e rm_oc_T_potential s m args below meth c (oc_W D ad cI cC A adK adV) 2 res σ 0 [some (.ref (ad 0)), some (.int x1)] [] σ
  unfold oc_T_potential at h
  refine ox_aload_n B 0 od_T_potential_0 rfl rfl ?_
  refine ocg_T_28 B F od_T_potential_1 ?_
  refine ox_iload_n B 1 od_T_potential_4 rfl rfl ?_
  obtain ⟨r1, hr1, h⟩ := ox_bind h
  refine occ_T_98 B F od_T_potential_5 (As := [.int x1]) (rest := []) (st2 := [.int r1]) (ct_oc_Land_isCity hok x1 σ _ hr1) ⟨rfl, rfl, Nat.le_of_ble_eq_true rfl, Nat.le_of_ble_eq_true rfl⟩ rfl (Nat.le_of_ble_eq_true rfl) rfl rfl ?_
  refine ox_if_eq B 23 od_T_potential_8 rfl (fun hc => ?_) (fun hc => ?_)
  · rw [if_pos hc] at h
    refine ox_iconst B od_T_potential_23 oxk_i0 ?_
    cases h
    exact ox_iret B F od_T_potential_24 rfl rfl hG
  · rw [if_neg hc] at h
    refine ox_aload_n B 0 od_T_potential_11 rfl rfl ?_
    refine ocg_T_28 B F od_T_potential_12 ?_
    refine ocg_T_116 B F od_T_potential_15 ?_
    refine ox_iload_n B 1 od_T_potential_18 rfl rfl ?_
    obtain ⟨j2, ej2, hj2, h⟩ := ox_ix_some2 h
    refine ocal_10 B F od_T_potential_19 hj2 ej2 ?_
    refine ox_goto B 24 od_T_potential_20 rfl ?_
    cases h
    exact ox_iret B F od_T_potential_24 rfl rfl hG
abbrev rm_oc_OneTree_clear : Room := { frames := 0, cells := 0, slots := 0, locals := 0 }
set_option maxRecDepth 100000 in
set_option maxHeartbeats 4000000 in
theorem ct_oc_OneTree_clear {l : Launch} {D : va_G} {ad : Nat → Nat} {cI cC : ClassId} {A : Nat → Prop} {adK adV : Nat → Nat} (hok : ox_ok (oc_W D ad cI cC A adK adV))  (σ : ox_S) (t : ox_S) (h : oc_OneTree_clear  σ = some t) : Met l oy_OneTree_clear (Cond.code oy_OneTree_clear prog_5_method_4_code 2 none :: ox_ws) rm_oc_OneTree_clear (ox_P (oc_W D ad cI cC A adK adV) [.ref (ad 5)] σ) (ox_Q (oc_W D ad cI cC A adK adV) none t) 0 0 A := by
  refine ox_met (ω := oc_W D ad cI cC A adK adV) (by decide) rfl hok (Nat.le_of_ble_eq_true rfl) ?_
  intro p e s m args below meth c B F
  generalize hres : (none : Option Value) = res
  have hG : res = none ∧ t = t := ⟨hres.symm, rfl⟩
  obtain ⟨σf, hσf⟩ : ∃ z, z = t := ⟨_, rfl⟩
  have hG : (fun t : ox_S => res = none ∧ σf = t) t := ⟨hres.symm, hσf⟩
  rw [show ox_M p l e rm_oc_OneTree_clear s m args below meth c (oc_W D ad cI cC A adK adV) 2 res t 0 (ox_l0 [.ref (ad 5)] 2) [] σ = ox_M p l e rm_oc_OneTree_clear s m args below meth c (oc_W D ad cI cC A adK adV) 2 res σf 0 (ox_l0 [.ref (ad 5)] 2) [] σ by rw [hσf]]
  have t_b17 : ∀ (x1 : Int32) (σ : ox_S) (t : ((Int32 × ox_S) ⊕ ox_S)), oc_OneTree_clear_b17 x1 σ = some t → (ox_G (fun t : (Int32 × ox_S) => ox_M p l e rm_oc_OneTree_clear s m args below meth c (oc_W D ad cI cC A adK adV) 2 res σf 17 [some (.ref (ad 5)), some (.int t.1)] [] t.2) (fun t : ox_S => res = none ∧ σf = t)) t → ox_M p l e rm_oc_OneTree_clear s m args below meth c (oc_W D ad cI cC A adK adV) 2 res σf 17 [some (.ref (ad 5)), some (.int x1)] [] σ := by
    intro x1 σ t h hG
    unfold oc_OneTree_clear_b17 at h
    refine ox_iload_n B 1 od_OneTree_clear_17 rfl rfl ?_
    refine ox_bipush B od_OneTree_clear_18 oxk_b8 ?_
    refine ox_icmp_ge B 43 od_OneTree_clear_20 rfl (fun hc => ?_) (fun hc => ?_)
    · rw [if_pos hc] at h
      cases h
      exact ox_vret B F od_OneTree_clear_43 rfl hG
    · rw [if_neg hc] at h
      refine ox_aload_n B 0 od_OneTree_clear_23 rfl rfl ?_
      refine ocg_OneTree_9 B F od_OneTree_clear_24 ?_
      refine ox_iload_n B 1 od_OneTree_clear_27 rfl rfl ?_
      refine ox_iload_n B 1 od_OneTree_clear_28 rfl rfl ?_
      obtain ⟨j4, ej4, hj4, h⟩ := ox_ix_some2 h
      obtain ⟨s5, es5, h⟩ := ox_let_some h
      refine ocas_11 B F od_OneTree_clear_29 hj4 ej4 es5 ?_
      refine ox_aload_n B 0 od_OneTree_clear_30 rfl rfl ?_
      refine ocg_OneTree_25 B F od_OneTree_clear_31 ?_
      refine ox_iload_n B 1 od_OneTree_clear_34 rfl rfl ?_
      refine ox_iconst B od_OneTree_clear_35 oxk_i0 ?_
      obtain ⟨j6, ej6, hj6, h⟩ := ox_ix_some2 h
      obtain ⟨s7, es7, h⟩ := ox_let_some h
      refine ocas_12 B F od_OneTree_clear_36 hj6 ej6 es7 ?_
      obtain ⟨v8, ev8, h⟩ := ox_let_some h
      refine ox_iinc B od_OneTree_clear_37 rfl ((congrArg (x1 + ·) oxk_i1).trans ev8.symm) (by decide) rfl (L2 := [some (.ref (ad 5)), some (.int v8)]) rfl ?_
      refine ox_goto B 17 od_OneTree_clear_40 rfl ?_
      cases h
      exact hG
  have t_17 : ∀ (x1 : Int32) (σ : ox_S) (t : ox_S), oc_OneTree_clear_h17 x1 σ = some t → (fun t : ox_S => res = none ∧ σf = t) t → ox_M p l e rm_oc_OneTree_clear s m args below meth c (oc_W D ad cI cC A adK adV) 2 res σf 17 [some (.ref (ad 5)), some (.int x1)] [] σ := by
    intro x1 σ t h hG
    exact ox_w_run (fun t : (Int32 × ox_S) => ox_M p l e rm_oc_OneTree_clear s m args below meth c (oc_W D ad cI cC A adK adV) 2 res σf 17 [some (.ref (ad 5)), some (.int t.1)] [] t.2) (fun t : ox_S => res = none ∧ σf = t) (fun a t h hG => t_b17 a.1 a.2 t h hG) (x1, σ) t h hG
  change ox_M p l e rm_oc_OneTree_clear s m args below meth c (oc_W D ad cI cC A adK adV) 2 res σf 0 [some (.ref (ad 5)), none] [] σ
  unfold oc_OneTree_clear at h
  refine ox_aload_n B 0 od_OneTree_clear_0 rfl rfl ?_
  refine ox_iconst B od_OneTree_clear_1 oxk_i0 ?_
  obtain ⟨s1, es1, h⟩ := ox_let_some h
  refine ocp_OneTree_15 B F od_OneTree_clear_2 es1 ?_
  refine ox_aload_n B 0 od_OneTree_clear_5 rfl rfl ?_
  refine ox_iconst B od_OneTree_clear_6 oxk_i0 ?_
  obtain ⟨s2, es2, h⟩ := ox_let_some h
  refine ocp_OneTree_19 B F od_OneTree_clear_7 es2 ?_
  refine ox_aload_n B 0 od_OneTree_clear_10 rfl rfl ?_
  refine ox_iconst B od_OneTree_clear_11 oxk_i0 ?_
  obtain ⟨s3, es3, h⟩ := ox_let_some h
  refine ocp_OneTree_22 B F od_OneTree_clear_12 es3 ?_
  refine ox_iconst B od_OneTree_clear_15 oxk_i0 ?_
  refine ox_istore_n B 1 od_OneTree_clear_16 rfl (by decide) rfl (L2 := [some (.ref (ad 5)), some (.int (0 : Int32))]) rfl ?_
  exact (t_17 (0 : Int32) s3 _ h hG)
abbrev rm_oc_OneTree_weigh : Room := { frames := 1, cells := 0, slots := 0, locals := 22 }
set_option maxRecDepth 100000 in
set_option maxHeartbeats 4000000 in
theorem ct_oc_OneTree_weigh {l : Launch} {D : va_G} {ad : Nat → Nat} {cI cC : ClassId} {A : Nat → Prop} {adK adV : Nat → Nat} (hok : ox_ok (oc_W D ad cI cC A adK adV)) (x1 : Int32) (σ : ox_S) (t : Int32) (h : oc_OneTree_weigh x1 σ = some t) : Met l oy_OneTree_weigh (Cond.code oy_OneTree_weigh prog_5_method_7_code 4 (some .int) :: ox_ws) rm_oc_OneTree_weigh (ox_P (oc_W D ad cI cC A adK adV) [.ref (ad 5), .int x1] σ) (ox_Q (oc_W D ad cI cC A adK adV) (some (.int t)) σ) 0 0 A := by
  refine ox_met (ω := oc_W D ad cI cC A adK adV) (by decide) rfl hok (Nat.le_of_ble_eq_true rfl) ?_
  intro p e s m args below meth c B F
  generalize hres : (some (.int t) : Option Value) = res
  have hG : (fun t : Int32 => res = some (.int t) ∧ σ = σ) t := ⟨hres.symm, rfl⟩
  change ox_M p l e rm_oc_OneTree_weigh s m args below meth c (oc_W D ad cI cC A adK adV) 4 res σ 0 [some (.ref (ad 5)), some (.int x1), none, none] [] σ
  unfold oc_OneTree_weigh at h
  refine ox_aload_n B 0 od_OneTree_weigh_0 rfl rfl ?_
  refine ocg_OneTree_28 B F od_OneTree_weigh_1 ?_
  refine ocg_OneTree_67 B F od_OneTree_weigh_4 ?_
  refine ox_iload_n B 1 od_OneTree_weigh_7 rfl rfl ?_
  obtain ⟨j1, ej1, hj1, h⟩ := ox_ix_some2 h
  refine ocal_8 B F od_OneTree_weigh_8 hj1 ej1 ?_
  obtain ⟨v2, ev2, h⟩ := ox_let_some h
  refine ox_topi ev2 ?_
  refine ox_istore_n B 2 od_OneTree_weigh_9 rfl (by decide) rfl (L2 := [some (.ref (ad 5)), some (.int x1), some (.int v2), none]) rfl ?_
  refine ox_aload_n B 0 od_OneTree_weigh_10 rfl rfl ?_
  refine ocg_OneTree_28 B F od_OneTree_weigh_11 ?_
  refine ocg_OneTree_70 B F od_OneTree_weigh_14 ?_
  refine ox_iload_n B 1 od_OneTree_weigh_17 rfl rfl ?_
  obtain ⟨j3, ej3, hj3, h⟩ := ox_ix_some2 h
  refine ocal_9 B F od_OneTree_weigh_18 hj3 ej3 ?_
  obtain ⟨v4, ev4, h⟩ := ox_let_some h
  refine ox_topi ev4 ?_
  refine ox_istore_n B 3 od_OneTree_weigh_19 rfl (by decide) rfl (L2 := [some (.ref (ad 5)), some (.int x1), some (.int v2), some (.int v4)]) rfl ?_
  refine ox_aload_n B 0 od_OneTree_weigh_20 rfl rfl ?_
  refine ocg_OneTree_28 B F od_OneTree_weigh_21 ?_
  refine ox_iload_n B 2 od_OneTree_weigh_24 rfl rfl ?_
  refine ox_iload_n B 3 od_OneTree_weigh_25 rfl rfl ?_
  obtain ⟨r5, hr5, h⟩ := ox_bind h
  refine occ_OneTree_73 B F od_OneTree_weigh_26 (As := [.int v2, .int v4]) (rest := []) (st2 := [.int r5]) (ct_oc_Land_between hok v2 v4 σ _ hr5) ⟨rfl, rfl, Nat.le_of_ble_eq_true rfl, Nat.le_of_ble_eq_true rfl⟩ rfl (Nat.le_of_ble_eq_true rfl) rfl rfl ?_
  refine ox_aload_n B 0 od_OneTree_weigh_29 rfl rfl ?_
  refine ocg_OneTree_28 B F od_OneTree_weigh_30 ?_
  refine ocg_OneTree_77 B F od_OneTree_weigh_33 ?_
  refine ox_iload_n B 2 od_OneTree_weigh_36 rfl rfl ?_
  obtain ⟨j6, ej6, hj6, h⟩ := ox_ix_some2 h
  refine ocal_10 B F od_OneTree_weigh_37 hj6 ej6 ?_
  refine ox_iadd B od_OneTree_weigh_38 ?_
  refine ox_aload_n B 0 od_OneTree_weigh_39 rfl rfl ?_
  refine ocg_OneTree_28 B F od_OneTree_weigh_40 ?_
  refine ocg_OneTree_77 B F od_OneTree_weigh_43 ?_
  refine ox_iload_n B 3 od_OneTree_weigh_46 rfl rfl ?_
  obtain ⟨j7, ej7, hj7, h⟩ := ox_ix_some2 h
  refine ocal_10 B F od_OneTree_weigh_47 hj7 ej7 ?_
  refine ox_iadd B od_OneTree_weigh_48 ?_
  cases h
  exact ox_iret B F od_OneTree_weigh_49 rfl rfl hG
abbrev rm_oc_OneTree_fits : Room := { frames := 0, cells := 0, slots := 0, locals := 0 }
set_option maxRecDepth 100000 in
set_option maxHeartbeats 4000000 in
theorem ct_oc_OneTree_fits {l : Launch} {D : va_G} {ad : Nat → Nat} {cI cC : ClassId} {A : Nat → Prop} {adK adV : Nat → Nat} (hok : ox_ok (oc_W D ad cI cC A adK adV)) (x1 : Int32) (σ : ox_S) (t : Int32) (h : oc_OneTree_fits x1 σ = some t) : Met l oy_OneTree_fits (Cond.code oy_OneTree_fits prog_5_method_6_code 3 (some .boolean) :: ox_ws) rm_oc_OneTree_fits (ox_P (oc_W D ad cI cC A adK adV) [.ref (ad 5), .int x1] σ) (ox_Q (oc_W D ad cI cC A adK adV) (some (.int t)) σ) 0 0 A := by
  refine ox_met (ω := oc_W D ad cI cC A adK adV) (by decide) rfl hok (Nat.le_of_ble_eq_true rfl) ?_
  intro p e s m args below meth c B F
  generalize hres : (some (.int t) : Option Value) = res
  have hG : (fun t : Int32 => res = some (.int t) ∧ σ = σ) t := ⟨hres.symm, rfl⟩
  change ox_M p l e rm_oc_OneTree_fits s m args below meth c (oc_W D ad cI cC A adK adV) 3 res σ 0 [some (.ref (ad 5)), some (.int x1), none] [] σ
  unfold oc_OneTree_fits at h
  refine ox_aload_n B 0 od_OneTree_fits_0 rfl rfl ?_
  refine ocg_OneTree_28 B F od_OneTree_fits_1 ?_
  refine ocg_OneTree_67 B F od_OneTree_fits_4 ?_
  refine ox_iload_n B 1 od_OneTree_fits_7 rfl rfl ?_
  obtain ⟨j1, ej1, hj1, h⟩ := ox_ix_some2 h
  refine ocal_8 B F od_OneTree_fits_8 hj1 ej1 ?_
  obtain ⟨v2, ev2, h⟩ := ox_let_some h
  refine ox_topi ev2 ?_
  refine ox_istore_n B 2 od_OneTree_fits_9 rfl (by decide) rfl (L2 := [some (.ref (ad 5)), some (.int x1), some (.int v2)]) rfl ?_
  refine ox_iload_n B 2 od_OneTree_fits_10 rfl rfl ?_
  refine ox_if_ne B 32 od_OneTree_fits_11 rfl (fun hc => ?_) (fun hc => ?_)
  · rw [if_neg hc] at h
    refine ox_aload_n B 0 od_OneTree_fits_32 rfl rfl ?_
    refine ocg_OneTree_9 B F od_OneTree_fits_33 ?_
    refine ox_iload_n B 2 od_OneTree_fits_36 rfl rfl ?_
    obtain ⟨j3, ej3, hj3, h⟩ := ox_ix_some2 h
    refine ocal_11 B F od_OneTree_fits_37 hj3 ej3 ?_
    refine ox_aload_n B 0 od_OneTree_fits_38 rfl rfl ?_
    refine ocg_OneTree_9 B F od_OneTree_fits_39 ?_
    refine ox_aload_n B 0 od_OneTree_fits_42 rfl rfl ?_
    refine ocg_OneTree_28 B F od_OneTree_fits_43 ?_
    refine ocg_OneTree_70 B F od_OneTree_fits_46 ?_
    refine ox_iload_n B 1 od_OneTree_fits_49 rfl rfl ?_
    obtain ⟨j4, ej4, hj4, h⟩ := ox_ix_some2 h
    refine ocal_9 B F od_OneTree_fits_50 hj4 ej4 ?_
    obtain ⟨j5, ej5, hj5, h⟩ := ox_ix_some2 h
    refine ocal_11 B F od_OneTree_fits_51 hj5 ej5 ?_
    refine ox_icmp_eq B 59 od_OneTree_fits_52 rfl (fun hc => ?_) (fun hc => ?_)
    · rw [if_pos hc] at h
      refine ox_iconst B od_OneTree_fits_59 oxk_i0 ?_
      cases h
      exact ox_iret B F od_OneTree_fits_60 rfl (ox_nz (Or.inl rfl)) hG
    · rw [if_neg hc] at h
      refine ox_iconst B od_OneTree_fits_55 oxk_i1 ?_
      refine ox_goto B 60 od_OneTree_fits_56 rfl ?_
      cases h
      exact ox_iret B F od_OneTree_fits_60 rfl (ox_nz (Or.inr rfl)) hG
  · rw [if_pos hc] at h
    refine ox_aload_n B 0 od_OneTree_fits_14 rfl rfl ?_
    refine ocg_OneTree_25 B F od_OneTree_fits_15 ?_
    refine ox_iconst B od_OneTree_fits_18 oxk_i0 ?_
    obtain ⟨j6, ej6, hj6, h⟩ := ox_ix_some2 h
    refine ocal_12 B F od_OneTree_fits_19 hj6 ej6 ?_
    refine ox_iconst B od_OneTree_fits_20 oxk_i2 ?_
    refine ox_icmp_ge B 28 od_OneTree_fits_21 rfl (fun hc => ?_) (fun hc => ?_)
    · rw [if_pos hc] at h
      refine ox_iconst B od_OneTree_fits_28 oxk_i0 ?_
      refine ox_goto B 60 od_OneTree_fits_29 rfl ?_
      cases h
      exact ox_iret B F od_OneTree_fits_60 rfl (ox_nz (Or.inl rfl)) hG
    · rw [if_neg hc] at h
      refine ox_iconst B od_OneTree_fits_24 oxk_i1 ?_
      refine ox_goto B 60 od_OneTree_fits_25 rfl ?_
      cases h
      exact ox_iret B F od_OneTree_fits_60 rfl (ox_nz (Or.inr rfl)) hG
