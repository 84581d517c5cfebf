abbrev rm_oc_OneTree_lightest : Room := { frames := 2, cells := 0, slots := 0, locals := 45 }
set_option maxRecDepth 100000 in
set_option maxHeartbeats 4000000 in
theorem ct_oc_OneTree_lightest {l : Launch} {D : va_G} {ad : Nat → Nat} {cI cC : ClassId} {A : Nat → Prop} {adK adV : Nat → Nat} (hok : ox_ok (oc_W D ad cI cC A adK adV)) (x1 : Int32) (σ : ox_S) (t : Int32) (h : oc_OneTree_lightest x1 σ = some t) : Met l oy_OneTree_lightest (Cond.code oy_OneTree_lightest prog_5_method_5_code 6 (some .int) :: ox_ws) rm_oc_OneTree_lightest (ox_P (oc_W D ad cI cC A adK adV) [.ref (ad 5), .int x1] σ) (ox_Q (oc_W D ad cI cC A adK adV) (some (.int t)) σ) 0 0 A := by
  refine ox_met (ω := oc_W D ad cI cC A adK adV) (by decide) rfl hok (Nat.le_of_ble_eq_true rfl) ?_
  intro p e s m args below meth c B F
  generalize hres : (some (.int t) : Option Value) = res
  have hG : (fun t : Int32 => res = some (.int t) ∧ σ = σ) t := ⟨hres.symm, rfl⟩
  have t_47 : ∀ (x2 : Int32) (x3 : Int32) (x4 : Int32) (y0 : Int32)  (t : ((Int32 × Int32) ⊕ Int32)), oc_OneTree_lightest_j47 x2 x3 x4 y0 σ = some t → (ox_G (fun t : (Int32 × Int32) => ox_M p l e rm_oc_OneTree_lightest s m args below meth c (oc_W D ad cI cC A adK adV) 6 res σ 12 [some (.ref (ad 5)), none, some (.int x2), some (.int t.1), some (.int t.2), none] [] σ) (fun t : Int32 => res = some (.int t) ∧ σ = σ)) t → ox_M p l e rm_oc_OneTree_lightest s m args below meth c (oc_W D ad cI cC A adK adV) 6 res σ 47 [some (.ref (ad 5)), none, some (.int x2), some (.int x3), some (.int x4), none] [.int y0] σ := by
    intro x2 x3 x4 y0  t h hG
    unfold oc_OneTree_lightest_j47 at h
    refine ox_istore B od_OneTree_lightest_47 (by decide) rfl (L2 := [some (.ref (ad 5)), none, some (.int x2), some (.int x3), some (.int x4), some (.int y0)]) rfl ?_
    refine ox_iload B od_OneTree_lightest_49 rfl ?_
    refine ox_if_eq B 75 od_OneTree_lightest_51 rfl (fun hc => ?_) (fun hc => ?_)
    · rw [if_pos hc] at h
      obtain ⟨v2, ev2, h⟩ := ox_let_some h
      refine ox_iinc B od_OneTree_lightest_75 rfl ((congrArg (x4 + ·) oxk_i1).trans ev2.symm) (by decide) rfl (L2 := [some (.ref (ad 5)), none, some (.int x2), some (.int x3), some (.int v2), some (.int y0)]) rfl ?_
      refine ox_goto B 12 od_OneTree_lightest_78 rfl ?_
      cases h
      exact (ox_mask [true, false, true, true, true, false] hG)
    · rw [if_neg hc] at h
      refine ox_iload_n B 3 od_OneTree_lightest_54 rfl rfl ?_
      refine ox_if_lt B 72 od_OneTree_lightest_55 rfl (fun hc => ?_) (fun hc => ?_)
      · rw [if_pos hc] at h
        refine ox_iload B od_OneTree_lightest_72 rfl ?_
        refine ox_istore_n B 3 od_OneTree_lightest_74 rfl (by decide) rfl (L2 := [some (.ref (ad 5)), none, some (.int x2), some (.int x4), some (.int x4), some (.int y0)]) rfl ?_
        obtain ⟨v3, ev3, h⟩ := ox_let_some h
        refine ox_iinc B od_OneTree_lightest_75 rfl ((congrArg (x4 + ·) oxk_i1).trans ev3.symm) (by decide) rfl (L2 := [some (.ref (ad 5)), none, some (.int x2), some (.int x4), some (.int v3), some (.int y0)]) rfl ?_
        refine ox_goto B 12 od_OneTree_lightest_78 rfl ?_
        cases h
        exact (ox_mask [true, false, true, true, true, false] hG)
      · rw [if_neg hc] at h
        refine ox_aload_n B 0 od_OneTree_lightest_58 rfl rfl ?_
        refine ox_iload B od_OneTree_lightest_59 rfl ?_
        obtain ⟨r4, hr4, h⟩ := ox_bind h
        refine occ_OneTree_64 B F od_OneTree_lightest_61 (As := [.int x4]) (rest := []) (st2 := [.int r4]) (ct_oc_OneTree_weigh hok x4 σ _ hr4) ⟨rfl, rfl, Nat.le_of_ble_eq_true rfl, Nat.le_of_ble_eq_true rfl⟩ rfl (Nat.le_of_ble_eq_true rfl) rfl rfl ?_
        refine ox_aload_n B 0 od_OneTree_lightest_64 rfl rfl ?_
        refine ox_iload_n B 3 od_OneTree_lightest_65 rfl rfl ?_
        obtain ⟨r5, hr5, h⟩ := ox_bind h
        refine occ_OneTree_64 B F od_OneTree_lightest_66 (As := [.int x3]) (rest := [.int r4]) (st2 := [.int r5, .int r4]) (ct_oc_OneTree_weigh hok x3 σ _ hr5) ⟨rfl, rfl, Nat.le_of_ble_eq_true rfl, Nat.le_of_ble_eq_true rfl⟩ rfl (Nat.le_of_ble_eq_true rfl) rfl rfl ?_
        refine ox_icmp_ge B 75 od_OneTree_lightest_69 rfl (fun hc => ?_) (fun hc => ?_)
        · rw [if_pos hc] at h
          obtain ⟨v6, ev6, h⟩ := ox_let_some h
          refine ox_iinc B od_OneTree_lightest_75 rfl ((congrArg (x4 + ·) oxk_i1).trans ev6.symm) (by decide) rfl (L2 := [some (.ref (ad 5)), none, some (.int x2), some (.int x3), some (.int v6), some (.int y0)]) rfl ?_
          refine ox_goto B 12 od_OneTree_lightest_78 rfl ?_
          cases h
          exact (ox_mask [true, false, true, true, true, false] hG)
        · rw [if_neg hc] at h
          refine ox_iload B od_OneTree_lightest_72 rfl ?_
          refine ox_istore_n B 3 od_OneTree_lightest_74 rfl (by decide) rfl (L2 := [some (.ref (ad 5)), none, some (.int x2), some (.int x4), some (.int x4), some (.int y0)]) rfl ?_
          obtain ⟨v7, ev7, h⟩ := ox_let_some h
          refine ox_iinc B od_OneTree_lightest_75 rfl ((congrArg (x4 + ·) oxk_i1).trans ev7.symm) (by decide) rfl (L2 := [some (.ref (ad 5)), none, some (.int x2), some (.int x4), some (.int v7), some (.int y0)]) rfl ?_
          refine ox_goto B 12 od_OneTree_lightest_78 rfl ?_
          cases h
          exact (ox_mask [true, false, true, true, true, false] hG)
  have t_b12 : ∀ (x2 : Int32) (x3 : Int32) (x4 : Int32)  (t : ((Int32 × Int32) ⊕ Int32)), oc_OneTree_lightest_b12 x2 x3 x4 σ = some t → (ox_G (fun t : (Int32 × Int32) => ox_M p l e rm_oc_OneTree_lightest s m args below meth c (oc_W D ad cI cC A adK adV) 6 res σ 12 [some (.ref (ad 5)), none, some (.int x2), some (.int t.1), some (.int t.2), none] [] σ) (fun t : Int32 => res = some (.int t) ∧ σ = σ)) t → ox_M p l e rm_oc_OneTree_lightest s m args below meth c (oc_W D ad cI cC A adK adV) 6 res σ 12 [some (.ref (ad 5)), none, some (.int x2), some (.int x3), some (.int x4), none] [] σ := by
    intro x2 x3 x4  t h hG
    unfold oc_OneTree_lightest_b12 at h
    refine ox_iload B od_OneTree_lightest_12 rfl ?_
    refine ox_aload_n B 0 od_OneTree_lightest_14 rfl rfl ?_
    refine ocg_OneTree_28 B F od_OneTree_lightest_15 ?_
    refine ocg_OneTree_46 B F od_OneTree_lightest_18 ?_
    refine ox_icmp_ge B 81 od_OneTree_lightest_21 rfl (fun hc => ?_) (fun hc => ?_)
    · rw [if_pos hc] at h
      refine ox_iload_n B 3 od_OneTree_lightest_81 rfl rfl ?_
      cases h
      exact ox_iret B F od_OneTree_lightest_82 rfl rfl hG
    · rw [if_neg hc] at h
      refine ox_iload_n B 2 od_OneTree_lightest_24 rfl rfl ?_
      refine ox_iload B od_OneTree_lightest_25 rfl ?_
      refine ox_ishr B od_OneTree_lightest_27 ?_
      refine ox_iconst B od_OneTree_lightest_28 oxk_i1 ?_
      refine ox_iand B od_OneTree_lightest_29 ?_
      refine ox_if_ne B 46 od_OneTree_lightest_30 rfl (fun hc => ?_) (fun hc => ?_)
      · rw [if_neg hc] at h
        refine ox_iconst B od_OneTree_lightest_46 oxk_i0 ?_
        exact (t_47 x2 x3 x4 (0 : Int32) _ h hG)
      · rw [if_pos hc] at h
        refine ox_aload_n B 0 od_OneTree_lightest_33 rfl rfl ?_
        refine ox_iload B od_OneTree_lightest_34 rfl ?_
        obtain ⟨r8, hr8, h⟩ := ox_bind h
        refine occ_OneTree_49 B F od_OneTree_lightest_36 (As := [.int x4]) (rest := []) (st2 := [.int r8]) (ct_oc_OneTree_fits hok x4 σ _ hr8) ⟨rfl, rfl, Nat.le_of_ble_eq_true rfl, Nat.le_of_ble_eq_true rfl⟩ rfl (Nat.le_of_ble_eq_true rfl) rfl rfl ?_
        refine ox_if_eq B 46 od_OneTree_lightest_39 rfl (fun hc => ?_) (fun hc => ?_)
        · rw [if_pos hc] at h
          refine ox_iconst B od_OneTree_lightest_46 oxk_i0 ?_
          exact (t_47 x2 x3 x4 (0 : Int32) _ h hG)
        · rw [if_neg hc] at h
          refine ox_iconst B od_OneTree_lightest_42 oxk_i1 ?_
          refine ox_goto B 47 od_OneTree_lightest_43 rfl ?_
          exact (t_47 x2 x3 x4 (1 : Int32) _ h hG)
  have t_12 : ∀ (x2 : Int32) (x3 : Int32) (x4 : Int32)  (t : Int32), oc_OneTree_lightest_h12 x2 x3 x4 σ = some t → (fun t : Int32 => res = some (.int t) ∧ σ = σ) t → ox_M p l e rm_oc_OneTree_lightest s m args below meth c (oc_W D ad cI cC A adK adV) 6 res σ 12 [some (.ref (ad 5)), none, some (.int x2), some (.int x3), some (.int x4), none] [] σ := by
    intro x2 x3 x4  t h hG
    exact ox_w_run (fun t : (Int32 × Int32) => ox_M p l e rm_oc_OneTree_lightest s m args below meth c (oc_W D ad cI cC A adK adV) 6 res σ 12 [some (.ref (ad 5)), none, some (.int x2), some (.int t.1), some (.int t.2), none] [] σ) (fun t : Int32 => res = some (.int t) ∧ σ = σ) (fun a t h hG => t_b12 x2 a.1 a.2  t h hG) (x3, x4) t h hG
  change ox_M p l e rm_oc_OneTree_lightest s m args below meth c (oc_W D ad cI cC A adK adV) 6 res σ 0 [some (.ref (ad 5)), some (.int x1), none, none, none, none] [] σ
  unfold oc_OneTree_lightest at h
  refine ox_aload_n B 0 od_OneTree_lightest_0 rfl rfl ?_
  refine ocg_OneTree_15 B F od_OneTree_lightest_1 ?_
  refine ox_iload_n B 1 od_OneTree_lightest_4 rfl rfl ?_
  refine ox_ior B od_OneTree_lightest_5 ?_
  obtain ⟨v1, ev1, h⟩ := ox_let_some h
  refine ox_topi ev1 ?_
  refine ox_istore_n B 2 od_OneTree_lightest_6 rfl (by decide) rfl (L2 := [some (.ref (ad 5)), some (.int x1), some (.int v1), none, none, none]) rfl ?_
  refine ox_iconst B od_OneTree_lightest_7 oxk_im1 ?_
  refine ox_istore_n B 3 od_OneTree_lightest_8 rfl (by decide) rfl (L2 := [some (.ref (ad 5)), some (.int x1), some (.int v1), some (.int (-1 : Int32)), none, none]) rfl ?_
  refine ox_iconst B od_OneTree_lightest_9 oxk_i0 ?_
  refine ox_istore B od_OneTree_lightest_10 (by decide) rfl (L2 := [some (.ref (ad 5)), some (.int x1), some (.int v1), some (.int (-1 : Int32)), some (.int (0 : Int32)), none]) rfl ?_
  exact (ox_mask [true, false, true, true, true, false] (t_12 v1 (-1 : Int32) (0 : Int32) _ h hG))
abbrev rm_oc_OneTree_join : Room := { frames := 0, cells := 0, slots := 0, locals := 0 }
set_option maxRecDepth 100000 in
set_option maxHeartbeats 4000000 in
theorem ct_oc_OneTree_join {l : Launch} {D : va_G} {ad : Nat → Nat} {cI cC : ClassId} {A : Nat → Prop} {adK adV : Nat → Nat} (hok : ox_ok (oc_W D ad cI cC A adK adV)) (x1 : Int32) (x2 : Int32) (σ : ox_S) (t : ox_S) (h : oc_OneTree_join x1 x2 σ = some t) : Met l oy_OneTree_join (Cond.code oy_OneTree_join prog_5_method_9_code 4 none :: ox_ws) rm_oc_OneTree_join (ox_P (oc_W D ad cI cC A adK adV) [.ref (ad 5), .int x1, .int x2] σ) (ox_Q (oc_W D ad cI cC A adK adV) none t) 0 0 A := by
  refine ox_met (ω := oc_W D ad cI cC A adK adV) (by decide) rfl hok (Nat.le_of_ble_eq_true rfl) ?_
  intro p e s m args below meth c B F
  generalize hres : (none : Option Value) = res
  have hG : res = none ∧ t = t := ⟨hres.symm, rfl⟩
  obtain ⟨σf, hσf⟩ : ∃ z, z = t := ⟨_, rfl⟩
  have hG : (fun t : ox_S => res = none ∧ σf = t) t := ⟨hres.symm, hσf⟩
  rw [show ox_M p l e rm_oc_OneTree_join s m args below meth c (oc_W D ad cI cC A adK adV) 4 res t 0 (ox_l0 [.ref (ad 5), .int x1, .int x2] 4) [] σ = ox_M p l e rm_oc_OneTree_join s m args below meth c (oc_W D ad cI cC A adK adV) 4 res σf 0 (ox_l0 [.ref (ad 5), .int x1, .int x2] 4) [] σ by rw [hσf]]
  have t_b2 : ∀ (x1 : Int32) (x2 : Int32) (x3 : Int32) (σ : ox_S) (t : ((Int32 × ox_S) ⊕ ox_S)), oc_OneTree_join_b2 x1 x2 x3 σ = some t → (ox_G (fun t : (Int32 × ox_S) => ox_M p l e rm_oc_OneTree_join s m args below meth c (oc_W D ad cI cC A adK adV) 4 res σf 2 [some (.ref (ad 5)), some (.int x1), some (.int x2), some (.int t.1)] [] t.2) (fun t : ox_S => res = none ∧ σf = t)) t → ox_M p l e rm_oc_OneTree_join s m args below meth c (oc_W D ad cI cC A adK adV) 4 res σf 2 [some (.ref (ad 5)), some (.int x1), some (.int x2), some (.int x3)] [] σ := by
    intro x1 x2 x3 σ t h hG
    unfold oc_OneTree_join_b2 at h
    refine ox_iload_n B 3 od_OneTree_join_2 rfl rfl ?_
    refine ox_bipush B od_OneTree_join_3 oxk_b8 ?_
    refine ox_icmp_ge B 31 od_OneTree_join_5 rfl (fun hc => ?_) (fun hc => ?_)
    · rw [if_pos hc] at h
      cases h
      exact ox_vret B F od_OneTree_join_31 rfl hG
    · rw [if_neg hc] at h
      refine ox_aload_n B 0 od_OneTree_join_8 rfl rfl ?_
      refine ocg_OneTree_9 B F od_OneTree_join_9 ?_
      refine ox_iload_n B 3 od_OneTree_join_12 rfl rfl ?_
      obtain ⟨j1, ej1, hj1, h⟩ := ox_ix_some2 h
      refine ocal_11 B F od_OneTree_join_13 hj1 ej1 ?_
      refine ox_iload_n B 2 od_OneTree_join_14 rfl rfl ?_
      refine ox_icmp_ne B 25 od_OneTree_join_15 rfl (fun hc => ?_) (fun hc => ?_)
      · rw [if_neg hc] at h
        obtain ⟨v2, ev2, h⟩ := ox_let_some h
        refine ox_iinc B od_OneTree_join_25 rfl ((congrArg (x3 + ·) oxk_i1).trans ev2.symm) (by decide) rfl (L2 := [some (.ref (ad 5)), some (.int x1), some (.int x2), some (.int v2)]) rfl ?_
        refine ox_goto B 2 od_OneTree_join_28 rfl ?_
        cases h
        exact hG
      · rw [if_pos hc] at h
        refine ox_aload_n B 0 od_OneTree_join_18 rfl rfl ?_
        refine ocg_OneTree_9 B F od_OneTree_join_19 ?_
        refine ox_iload_n B 3 od_OneTree_join_22 rfl rfl ?_
        refine ox_iload_n B 1 od_OneTree_join_23 rfl rfl ?_
        obtain ⟨j3, ej3, hj3, h⟩ := ox_ix_some2 h
        obtain ⟨s4, es4, h⟩ := ox_let_some h
        refine ocas_11 B F od_OneTree_join_24 hj3 ej3 es4 ?_
        obtain ⟨v5, ev5, h⟩ := ox_let_some h
        refine ox_iinc B od_OneTree_join_25 rfl ((congrArg (x3 + ·) oxk_i1).trans ev5.symm) (by decide) rfl (L2 := [some (.ref (ad 5)), some (.int x1), some (.int x2), some (.int v5)]) rfl ?_
        refine ox_goto B 2 od_OneTree_join_28 rfl ?_
        cases h
        exact hG
  have t_2 : ∀ (x1 : Int32) (x2 : Int32) (x3 : Int32) (σ : ox_S) (t : ox_S), oc_OneTree_join_h2 x1 x2 x3 σ = some t → (fun t : ox_S => res = none ∧ σf = t) t → ox_M p l e rm_oc_OneTree_join s m args below meth c (oc_W D ad cI cC A adK adV) 4 res σf 2 [some (.ref (ad 5)), some (.int x1), some (.int x2), some (.int x3)] [] σ := by
    intro x1 x2 x3 σ t h hG
    exact ox_w_run (fun t : (Int32 × ox_S) => ox_M p l e rm_oc_OneTree_join s m args below meth c (oc_W D ad cI cC A adK adV) 4 res σf 2 [some (.ref (ad 5)), some (.int x1), some (.int x2), some (.int t.1)] [] t.2) (fun t : ox_S => res = none ∧ σf = t) (fun a t h hG => t_b2 x1 x2 a.1 a.2 t h hG) (x3, σ) t h hG
  change ox_M p l e rm_oc_OneTree_join s m args below meth c (oc_W D ad cI cC A adK adV) 4 res σf 0 [some (.ref (ad 5)), some (.int x1), some (.int x2), none] [] σ
  unfold oc_OneTree_join at h
  refine ox_iconst B od_OneTree_join_0 oxk_i0 ?_
  refine ox_istore_n B 3 od_OneTree_join_1 rfl (by decide) rfl (L2 := [some (.ref (ad 5)), some (.int x1), some (.int x2), some (.int (0 : Int32))]) rfl ?_
  exact (t_2 x1 x2 (0 : Int32) σ _ h hG)
abbrev rm_oc_OneTree_take : Room := { frames := 2, cells := 0, slots := 0, locals := 45 }
set_option maxRecDepth 100000 in
set_option maxHeartbeats 4000000 in
theorem ct_oc_OneTree_take {l : Launch} {D : va_G} {ad : Nat → Nat} {cI cC : ClassId} {A : Nat → Prop} {adK adV : Nat → Nat} (hok : ox_ok (oc_W D ad cI cC A adK adV)) (x1 : Int32) (σ : ox_S) (t : ox_S) (h : oc_OneTree_take x1 σ = some t) : Met l oy_OneTree_take (Cond.code oy_OneTree_take prog_5_method_8_code 4 none :: ox_ws) rm_oc_OneTree_take (ox_P (oc_W D ad cI cC A adK adV) [.ref (ad 5), .int x1] σ) (ox_Q (oc_W D ad cI cC A adK adV) none t) 0 0 A := by
  refine ox_met (ω := oc_W D ad cI cC A adK adV) (by decide) rfl hok (Nat.le_of_ble_eq_true rfl) ?_
  intro p e s m args below meth c B F
  generalize hres : (none : Option Value) = res
  have hG : res = none ∧ t = t := ⟨hres.symm, rfl⟩
  obtain ⟨σf, hσf⟩ : ∃ z, z = t := ⟨_, rfl⟩
  have hG : (fun t : ox_S => res = none ∧ σf = t) t := ⟨hres.symm, hσf⟩
  rw [show ox_M p l e rm_oc_OneTree_take s m args below meth c (oc_W D ad cI cC A adK adV) 4 res t 0 (ox_l0 [.ref (ad 5), .int x1] 4) [] σ = ox_M p l e rm_oc_OneTree_take s m args below meth c (oc_W D ad cI cC A adK adV) 4 res σf 0 (ox_l0 [.ref (ad 5), .int x1] 4) [] σ by rw [hσf]]
  change ox_M p l e rm_oc_OneTree_take s m args below meth c (oc_W D ad cI cC A adK adV) 4 res σf 0 [some (.ref (ad 5)), some (.int x1), none, none] [] σ
  unfold oc_OneTree_take at h
  refine ox_aload_n B 0 od_OneTree_take_0 rfl rfl ?_
  refine ocg_OneTree_28 B F od_OneTree_take_1 ?_
  refine ocg_OneTree_67 B F od_OneTree_take_4 ?_
  refine ox_iload_n B 1 od_OneTree_take_7 rfl rfl ?_
  obtain ⟨j1, ej1, hj1, h⟩ := ox_ix_some2 h
  refine ocal_8 B F od_OneTree_take_8 hj1 ej1 ?_
  obtain ⟨v2, ev2, h⟩ := ox_let_some h
  refine ox_topi ev2 ?_
  refine ox_istore_n B 2 od_OneTree_take_9 rfl (by decide) rfl (L2 := [some (.ref (ad 5)), some (.int x1), some (.int v2), none]) rfl ?_
  refine ox_aload_n B 0 od_OneTree_take_10 rfl rfl ?_
  refine ocg_OneTree_28 B F od_OneTree_take_11 ?_
  refine ocg_OneTree_70 B F od_OneTree_take_14 ?_
  refine ox_iload_n B 1 od_OneTree_take_17 rfl rfl ?_
  obtain ⟨j3, ej3, hj3, h⟩ := ox_ix_some2 h
  refine ocal_9 B F od_OneTree_take_18 hj3 ej3 ?_
  obtain ⟨v4, ev4, h⟩ := ox_let_some h
  refine ox_topi ev4 ?_
  refine ox_istore_n B 3 od_OneTree_take_19 rfl (by decide) rfl (L2 := [some (.ref (ad 5)), some (.int x1), some (.int v2), some (.int v4)]) rfl ?_
  refine ox_aload_n B 0 od_OneTree_take_20 rfl rfl ?_
  refine ox_dup B od_OneTree_take_21 rfl ?_
  refine ocg_OneTree_15 B F od_OneTree_take_22 ?_
  refine ox_iconst B od_OneTree_take_25 oxk_i1 ?_
  refine ox_iload_n B 1 od_OneTree_take_26 rfl rfl ?_
  refine ox_ishl B od_OneTree_take_27 ?_
  refine ox_ior B od_OneTree_take_28 ?_
  obtain ⟨s5, es5, h⟩ := ox_let_some h
  refine ocp_OneTree_15 B F od_OneTree_take_29 es5 ?_
  refine ox_aload_n B 0 od_OneTree_take_32 rfl rfl ?_
  refine ox_dup B od_OneTree_take_33 rfl ?_
  refine ocg_OneTree_19 B F od_OneTree_take_34 ?_
  refine ox_iconst B od_OneTree_take_37 oxk_i1 ?_
  refine ox_iadd B od_OneTree_take_38 ?_
  obtain ⟨s6, es6, h⟩ := ox_let_some h
  refine ocp_OneTree_19 B F od_OneTree_take_39 es6 ?_
  refine ox_aload_n B 0 od_OneTree_take_42 rfl rfl ?_
  refine ox_dup B od_OneTree_take_43 rfl ?_
  refine ocg_OneTree_22 B F od_OneTree_take_44 ?_
  refine ox_aload_n B 0 od_OneTree_take_47 rfl rfl ?_
  refine ox_iload_n B 1 od_OneTree_take_48 rfl rfl ?_
  obtain ⟨r7, hr7, h⟩ := ox_bind h
  refine occ_OneTree_64 B F od_OneTree_take_49 (As := [.int x1]) (rest := [.int (s6.1 16), .ref (ad 5)]) (st2 := [.int r7, .int (s6.1 16), .ref (ad 5)]) (ct_oc_OneTree_weigh hok x1 s6 _ hr7) ⟨rfl, rfl, Nat.le_of_ble_eq_true rfl, Nat.le_of_ble_eq_true rfl⟩ rfl (Nat.le_of_ble_eq_true rfl) rfl rfl ?_
  refine ox_iadd B od_OneTree_take_52 ?_
  obtain ⟨s8, es8, h⟩ := ox_let_some h
  refine ocp_OneTree_22 B F od_OneTree_take_53 es8 ?_
  refine ox_aload_n B 0 od_OneTree_take_56 rfl rfl ?_
  refine ocg_OneTree_25 B F od_OneTree_take_57 ?_
  refine ox_iload_n B 2 od_OneTree_take_60 rfl rfl ?_
  refine ox_dup2 B od_OneTree_take_61 rfl rfl ?_
  obtain ⟨j9, ej9, hj9, h⟩ := ox_ix_some2 h
  refine ocal_12 B F od_OneTree_take_62 hj9 ej9 ?_
  refine ox_iconst B od_OneTree_take_63 oxk_i1 ?_
  refine ox_iadd B od_OneTree_take_64 ?_
  obtain ⟨j10, ej10, hj10, h⟩ := ox_ix_some2 h
  obtain ⟨s11, es11, h⟩ := ox_let_some h
  refine ocas_12 B F od_OneTree_take_65 hj10 ej10 es11 ?_
  refine ox_aload_n B 0 od_OneTree_take_66 rfl rfl ?_
  refine ocg_OneTree_25 B F od_OneTree_take_67 ?_
  refine ox_iload_n B 3 od_OneTree_take_70 rfl rfl ?_
  refine ox_dup2 B od_OneTree_take_71 rfl rfl ?_
  obtain ⟨j12, ej12, hj12, h⟩ := ox_ix_some2 h
  refine ocal_12 B F od_OneTree_take_72 hj12 ej12 ?_
  refine ox_iconst B od_OneTree_take_73 oxk_i1 ?_
  refine ox_iadd B od_OneTree_take_74 ?_
  obtain ⟨j13, ej13, hj13, h⟩ := ox_ix_some2 h
  obtain ⟨s14, es14, h⟩ := ox_let_some h
  refine ocas_12 B F od_OneTree_take_75 hj13 ej13 es14 ?_
  refine ox_iload_n B 2 od_OneTree_take_76 rfl rfl ?_
  refine ox_if_eq B 96 od_OneTree_take_77 rfl (fun hc => ?_) (fun hc => ?_)
  · rw [if_pos hc] at h
    cases h
    exact ox_vret B F od_OneTree_take_96 rfl hG
  · rw [if_neg hc] at h
    refine ox_aload_n B 0 od_OneTree_take_80 rfl rfl ?_
    refine ox_aload_n B 0 od_OneTree_take_81 rfl rfl ?_
    refine ocg_OneTree_9 B F od_OneTree_take_82 ?_
    refine ox_iload_n B 2 od_OneTree_take_85 rfl rfl ?_
    obtain ⟨j15, ej15, hj15, h⟩ := ox_ix_some2 h
    refine ocal_11 B F od_OneTree_take_86 hj15 ej15 ?_
    refine ox_aload_n B 0 od_OneTree_take_87 rfl rfl ?_
    refine ocg_OneTree_9 B F od_OneTree_take_88 ?_
    refine ox_iload_n B 3 od_OneTree_take_91 rfl rfl ?_
    obtain ⟨j16, ej16, hj16, h⟩ := ox_ix_some2 h
    refine ocal_11 B F od_OneTree_take_92 hj16 ej16 ?_
    obtain ⟨s17, hs17, h⟩ := ox_bind h
    refine occ_OneTree_80 B F od_OneTree_take_93 (As := [.int (s14.2 11 j15), .int (s14.2 11 j16)]) (rest := []) (st2 := []) (ct_oc_OneTree_join hok (s14.2 11 j15) (s14.2 11 j16) s14 _ hs17) ⟨rfl, rfl, Nat.le_of_ble_eq_true rfl, Nat.le_of_ble_eq_true rfl⟩ rfl (Nat.le_of_ble_eq_true rfl) rfl rfl ?_
    cases h
    exact ox_vret B F od_OneTree_take_96 rfl hG
abbrev rm_oc_OneTree_grow : Room := { frames := 3, cells := 0, slots := 0, locals := 70 }
set_option maxRecDepth 100000 in
set_option maxHeartbeats 4000000 in
theorem ct_oc_OneTree_grow {l : Launch} {D : va_G} {ad : Nat → Nat} {cI cC : ClassId} {A : Nat → Prop} {adK adV : Nat → Nat} (hok : ox_ok (oc_W D ad cI cC A adK adV)) (x1 : Int32) (x2 : Int32) (σ : ox_S) (t : (Int32 × ox_S)) (h : oc_OneTree_grow x1 x2 σ = some t) : Met l oy_OneTree_grow (Cond.code oy_OneTree_grow prog_5_method_3_code 5 (some .boolean) :: ox_ws) rm_oc_OneTree_grow (ox_P (oc_W D ad cI cC A adK adV) [.ref (ad 5), .int x1, .int x2] σ) (ox_Q (oc_W D ad cI cC A adK adV) (some (.int t.1)) t.2) 0 0 A := by
  refine ox_met (ω := oc_W D ad cI cC A adK adV) (by decide) rfl hok (Nat.le_of_ble_eq_true rfl) ?_
  intro p e s m args below meth c B F
  generalize hres : (some (.int t.1) : Option Value) = res
  generalize hσf : t.2 = σf
  have hG : (fun t : (Int32 × ox_S) => res = some (.int t.1) ∧ σf = t.2) t := ⟨hres.symm, hσf.symm⟩
  have t_b51 : ∀ (x2 : Int32) (x3 : Int32) (σ : ox_S) (t : ((Int32 × ox_S) ⊕ (Int32 × ox_S))), oc_OneTree_grow_b51 x2 x3 σ = some t → (ox_G (fun t : (Int32 × ox_S) => ox_M p l e rm_oc_OneTree_grow s m args below meth c (oc_W D ad cI cC A adK adV) 5 res σf 51 [some (.ref (ad 5)), none, some (.int x2), some (.int t.1), none] [] t.2) (fun t : (Int32 × ox_S) => res = some (.int t.1) ∧ σf = t.2)) t → ox_M p l e rm_oc_OneTree_grow s m args below meth c (oc_W D ad cI cC A adK adV) 5 res σf 51 [some (.ref (ad 5)), none, some (.int x2), some (.int x3), none] [] σ := by
    intro x2 x3 σ t h hG
    unfold oc_OneTree_grow_b51 at h
    refine ox_iload_n B 3 od_OneTree_grow_51 rfl rfl ?_
    refine ox_aload_n B 0 od_OneTree_grow_52 rfl rfl ?_
    refine ocg_OneTree_28 B F od_OneTree_grow_53 ?_
    refine ocg_OneTree_57 B F od_OneTree_grow_56 ?_
    refine ox_icmp_ge B 88 od_OneTree_grow_59 rfl (fun hc => ?_) (fun hc => ?_)
    · rw [if_pos hc] at h
      refine ox_aload_n B 0 od_OneTree_grow_88 rfl rfl ?_
      refine ocg_OneTree_28 B F od_OneTree_grow_89 ?_
      refine ocg_OneTree_57 B F od_OneTree_grow_92 ?_
      refine ox_if_le B 102 od_OneTree_grow_95 rfl (fun hc => ?_) (fun hc => ?_)
      · rw [if_pos hc] at h
        refine ox_iconst B od_OneTree_grow_102 oxk_i0 ?_
        cases h
        exact ox_iret B F od_OneTree_grow_103 rfl (ox_nz (Or.inl rfl)) hG
      · rw [if_neg hc] at h
        refine ox_iconst B od_OneTree_grow_98 oxk_i1 ?_
        refine ox_goto B 103 od_OneTree_grow_99 rfl ?_
        cases h
        exact ox_iret B F od_OneTree_grow_103 rfl (ox_nz (Or.inr rfl)) hG
    · rw [if_neg hc] at h
      refine ox_aload_n B 0 od_OneTree_grow_62 rfl rfl ?_
      refine ox_iload_n B 2 od_OneTree_grow_63 rfl rfl ?_
      obtain ⟨r3, hr3, h⟩ := ox_bind h
      refine occ_OneTree_60 B F od_OneTree_grow_64 (As := [.int x2]) (rest := []) (st2 := [.int r3]) (ct_oc_OneTree_lightest hok x2 σ _ hr3) ⟨rfl, rfl, Nat.le_of_ble_eq_true rfl, Nat.le_of_ble_eq_true rfl⟩ rfl (Nat.le_of_ble_eq_true rfl) rfl rfl ?_
      refine ox_istore B od_OneTree_grow_67 (by decide) rfl (L2 := [some (.ref (ad 5)), none, some (.int x2), some (.int x3), some (.int r3)]) rfl ?_
      refine ox_iload B od_OneTree_grow_69 rfl ?_
      refine ox_if_ge B 76 od_OneTree_grow_71 rfl (fun hc => ?_) (fun hc => ?_)
      · rw [if_pos hc] at h
        refine ox_aload_n B 0 od_OneTree_grow_76 rfl rfl ?_
        refine ox_iload B od_OneTree_grow_77 rfl ?_
        obtain ⟨s4, hs4, h⟩ := ox_bind h
        refine occ_OneTree_53 B F od_OneTree_grow_79 (As := [.int r3]) (rest := []) (st2 := []) (ct_oc_OneTree_take hok r3 σ _ hs4) ⟨rfl, rfl, Nat.le_of_ble_eq_true rfl, Nat.le_of_ble_eq_true rfl⟩ rfl (Nat.le_of_ble_eq_true rfl) rfl rfl ?_
        obtain ⟨v5, ev5, h⟩ := ox_let_some h
        refine ox_iinc B od_OneTree_grow_82 rfl ((congrArg (x3 + ·) oxk_i1).trans ev5.symm) (by decide) rfl (L2 := [some (.ref (ad 5)), none, some (.int x2), some (.int v5), some (.int r3)]) rfl ?_
        refine ox_goto B 51 od_OneTree_grow_85 rfl ?_
        cases h
        exact (ox_mask [true, false, true, true, false] hG)
      · rw [if_neg hc] at h
        refine ox_iconst B od_OneTree_grow_74 oxk_i0 ?_
        cases h
        exact ox_iret B F od_OneTree_grow_75 rfl (ox_nz (Or.inl rfl)) hG
  have t_51 : ∀ (x2 : Int32) (x3 : Int32) (σ : ox_S) (t : (Int32 × ox_S)), oc_OneTree_grow_h51 x2 x3 σ = some t → (fun t : (Int32 × ox_S) => res = some (.int t.1) ∧ σf = t.2) t → ox_M p l e rm_oc_OneTree_grow s m args below meth c (oc_W D ad cI cC A adK adV) 5 res σf 51 [some (.ref (ad 5)), none, some (.int x2), some (.int x3), none] [] σ := by
    intro x2 x3 σ t h hG
    exact ox_w_run (fun t : (Int32 × ox_S) => ox_M p l e rm_oc_OneTree_grow s m args below meth c (oc_W D ad cI cC A adK adV) 5 res σf 51 [some (.ref (ad 5)), none, some (.int x2), some (.int t.1), none] [] t.2) (fun t : (Int32 × ox_S) => res = some (.int t.1) ∧ σf = t.2) (fun a t h hG => t_b51 x2 a.1 a.2 t h hG) (x3, σ) t h hG
  have t_b6 : ∀ (x1 : Int32) (x2 : Int32) (x3 : Int32) (σ : ox_S) (t : ((Int32 × ox_S) ⊕ (Int32 × ox_S))), oc_OneTree_grow_b6 x1 x2 x3 σ = some t → (ox_G (fun t : (Int32 × ox_S) => ox_M p l e rm_oc_OneTree_grow s m args below meth c (oc_W D ad cI cC A adK adV) 5 res σf 6 [some (.ref (ad 5)), some (.int x1), some (.int x2), some (.int t.1), none] [] t.2) (fun t : (Int32 × ox_S) => res = some (.int t.1) ∧ σf = t.2)) t → ox_M p l e rm_oc_OneTree_grow s m args below meth c (oc_W D ad cI cC A adK adV) 5 res σf 6 [some (.ref (ad 5)), some (.int x1), some (.int x2), some (.int x3), none] [] σ := by
    intro x1 x2 x3 σ t h hG
    unfold oc_OneTree_grow_b6 at h
    refine ox_iload_n B 3 od_OneTree_grow_6 rfl rfl ?_
    refine ox_aload_n B 0 od_OneTree_grow_7 rfl rfl ?_
    refine ocg_OneTree_28 B F od_OneTree_grow_8 ?_
    refine ocg_OneTree_46 B F od_OneTree_grow_11 ?_
    refine ox_icmp_ge B 46 od_OneTree_grow_14 rfl (fun hc => ?_) (fun hc => ?_)
    · rw [if_pos hc] at h
      refine ox_aload_n B 0 od_OneTree_grow_46 rfl rfl ?_
      refine ocg_OneTree_19 B F od_OneTree_grow_47 ?_
      obtain ⟨v2, ev2, h⟩ := ox_let_some h
      refine ox_topi ev2 ?_
      refine ox_istore_n B 3 od_OneTree_grow_50 rfl (by decide) rfl (L2 := [some (.ref (ad 5)), some (.int x1), some (.int x2), some (.int v2), none]) rfl ?_
      obtain ⟨t', h', e'⟩ := ox_map h
      subst e'
      exact (ox_mask [true, false, true, true, false] (t_51 x2 v2 σ _ h' hG))
    · rw [if_neg hc] at h
      refine ox_iload_n B 1 od_OneTree_grow_17 rfl rfl ?_
      refine ox_iload_n B 3 od_OneTree_grow_18 rfl rfl ?_
      refine ox_ishr B od_OneTree_grow_19 ?_
      refine ox_iconst B od_OneTree_grow_20 oxk_i1 ?_
      refine ox_iand B od_OneTree_grow_21 ?_
      refine ox_if_eq B 40 od_OneTree_grow_22 rfl (fun hc => ?_) (fun hc => ?_)
      · rw [if_pos hc] at h
        obtain ⟨v6, ev6, h⟩ := ox_let_some h
        refine ox_iinc B od_OneTree_grow_40 rfl ((congrArg (x3 + ·) oxk_i1).trans ev6.symm) (by decide) rfl (L2 := [some (.ref (ad 5)), some (.int x1), some (.int x2), some (.int v6), none]) rfl ?_
        refine ox_goto B 6 od_OneTree_grow_43 rfl ?_
        cases h
        exact hG
      · rw [if_neg hc] at h
        refine ox_aload_n B 0 od_OneTree_grow_25 rfl rfl ?_
        refine ox_iload_n B 3 od_OneTree_grow_26 rfl rfl ?_
        obtain ⟨r7, hr7, h⟩ := ox_bind h
        refine occ_OneTree_49 B F od_OneTree_grow_27 (As := [.int x3]) (rest := []) (st2 := [.int r7]) (ct_oc_OneTree_fits hok x3 σ _ hr7) ⟨rfl, rfl, Nat.le_of_ble_eq_true rfl, Nat.le_of_ble_eq_true rfl⟩ rfl (Nat.le_of_ble_eq_true rfl) rfl rfl ?_
        refine ox_if_ne B 35 od_OneTree_grow_30 rfl (fun hc => ?_) (fun hc => ?_)
        · rw [if_neg hc] at h
          refine ox_aload_n B 0 od_OneTree_grow_35 rfl rfl ?_
          refine ox_iload_n B 3 od_OneTree_grow_36 rfl rfl ?_
          obtain ⟨s8, hs8, h⟩ := ox_bind h
          refine occ_OneTree_53 B F od_OneTree_grow_37 (As := [.int x3]) (rest := []) (st2 := []) (ct_oc_OneTree_take hok x3 σ _ hs8) ⟨rfl, rfl, Nat.le_of_ble_eq_true rfl, Nat.le_of_ble_eq_true rfl⟩ rfl (Nat.le_of_ble_eq_true rfl) rfl rfl ?_
          obtain ⟨v9, ev9, h⟩ := ox_let_some h
          refine ox_iinc B od_OneTree_grow_40 rfl ((congrArg (x3 + ·) oxk_i1).trans ev9.symm) (by decide) rfl (L2 := [some (.ref (ad 5)), some (.int x1), some (.int x2), some (.int v9), none]) rfl ?_
          refine ox_goto B 6 od_OneTree_grow_43 rfl ?_
          cases h
          exact hG
        · rw [if_pos hc] at h
          refine ox_iconst B od_OneTree_grow_33 oxk_i0 ?_
          cases h
          exact ox_iret B F od_OneTree_grow_34 rfl (ox_nz (Or.inl rfl)) hG
  have t_6 : ∀ (x1 : Int32) (x2 : Int32) (x3 : Int32) (σ : ox_S) (t : (Int32 × ox_S)), oc_OneTree_grow_h6 x1 x2 x3 σ = some t → (fun t : (Int32 × ox_S) => res = some (.int t.1) ∧ σf = t.2) t → ox_M p l e rm_oc_OneTree_grow s m args below meth c (oc_W D ad cI cC A adK adV) 5 res σf 6 [some (.ref (ad 5)), some (.int x1), some (.int x2), some (.int x3), none] [] σ := by
    intro x1 x2 x3 σ t h hG
    exact ox_w_run (fun t : (Int32 × ox_S) => ox_M p l e rm_oc_OneTree_grow s m args below meth c (oc_W D ad cI cC A adK adV) 5 res σf 6 [some (.ref (ad 5)), some (.int x1), some (.int x2), some (.int t.1), none] [] t.2) (fun t : (Int32 × ox_S) => res = some (.int t.1) ∧ σf = t.2) (fun a t h hG => t_b6 x1 x2 a.1 a.2 t h hG) (x3, σ) t h hG
  change ox_M p l e rm_oc_OneTree_grow s m args below meth c (oc_W D ad cI cC A adK adV) 5 res σf 0 [some (.ref (ad 5)), some (.int x1), some (.int x2), none, none] [] σ
  unfold oc_OneTree_grow at h
  refine ox_aload_n B 0 od_OneTree_grow_0 rfl rfl ?_
  obtain ⟨s1, hs1, h⟩ := ox_bind h
  refine occ_OneTree_43 B F od_OneTree_grow_1 (As := []) (rest := []) (st2 := []) (ct_oc_OneTree_clear hok σ _ hs1) ⟨rfl, rfl, Nat.le_of_ble_eq_true rfl, Nat.le_of_ble_eq_true rfl⟩ rfl (Nat.le_of_ble_eq_true rfl) rfl rfl ?_
  refine ox_iconst B od_OneTree_grow_4 oxk_i0 ?_
  refine ox_istore_n B 3 od_OneTree_grow_5 rfl (by decide) rfl (L2 := [some (.ref (ad 5)), some (.int x1), some (.int x2), some (.int (0 : Int32)), none]) rfl ?_
  exact (t_6 x1 x2 (0 : Int32) s1 _ h hG)
abbrev rm_oc_Land_sumOfPotentials : Room := { frames := 0, cells := 0, slots := 0, locals := 0 }
set_option maxRecDepth 100000 in
set_option maxHeartbeats 4000000 in
theorem ct_oc_Land_sumOfPotentials {l : Launch} {D : va_G} {ad : Nat → Nat} {cI cC : ClassId} {A : Nat → Prop} {adK adV : Nat → Nat} (hok : ox_ok (oc_W D ad cI cC A adK adV))  (σ : ox_S) (t : Int32) (h : oc_Land_sumOfPotentials  σ = some t) : Met l oy_Land_sumOfPotentials (Cond.code oy_Land_sumOfPotentials prog_3_method_9_code 3 (some .int) :: ox_ws) rm_oc_Land_sumOfPotentials (ox_P (oc_W D ad cI cC A adK adV) [.ref (ad 4)] σ) (ox_Q (oc_W D ad cI cC A adK adV) (some (.int t)) σ) 0 0 A := by
  refine ox_met (ω := oc_W D ad cI cC A adK adV) (by decide) rfl hok (Nat.le_of_ble_eq_true rfl) ?_
  intro p e s m args below meth c B F
  generalize hres : (some (.int t) : Option Value) = res
  have hG : (fun t : Int32 => res = some (.int t) ∧ σ = σ) t := ⟨hres.symm, rfl⟩
  have t_b4 : ∀ (x1 : Int32) (x2 : Int32)  (t : ((Int32 × Int32) ⊕ Int32)), oc_Land_sumOfPotentials_b4 x1 x2 σ = some t → (ox_G (fun t : (Int32 × Int32) => ox_M p l e rm_oc_Land_sumOfPotentials s m args below meth c (oc_W D ad cI cC A adK adV) 3 res σ 4 [some (.ref (ad 4)), some (.int t.1), some (.int t.2)] [] σ) (fun t : Int32 => res = some (.int t) ∧ σ = σ)) t → ox_M p l e rm_oc_Land_sumOfPotentials s m args below meth c (oc_W D ad cI cC A adK adV) 3 res σ 4 [some (.ref (ad 4)), some (.int x1), some (.int x2)] [] σ := by
    intro x1 x2  t h hG
    unfold oc_Land_sumOfPotentials_b4 at h
    refine ox_iload_n B 2 od_Land_sumOfPotentials_4 rfl rfl ?_
    refine ox_aload_n B 0 od_Land_sumOfPotentials_5 rfl rfl ?_
    refine ocg_Land_27 B F od_Land_sumOfPotentials_6 ?_
    refine ox_icmp_ge B 27 od_Land_sumOfPotentials_9 rfl (fun hc => ?_) (fun hc => ?_)
    · rw [if_pos hc] at h
      refine ox_iload_n B 1 od_Land_sumOfPotentials_27 rfl rfl ?_
      cases h
      exact ox_iret B F od_Land_sumOfPotentials_28 rfl rfl hG
    · rw [if_neg hc] at h
      refine ox_iload_n B 1 od_Land_sumOfPotentials_12 rfl rfl ?_
      refine ox_aload_n B 0 od_Land_sumOfPotentials_13 rfl rfl ?_
      refine ocg_Land_24 B F od_Land_sumOfPotentials_14 ?_
      refine ox_iload_n B 2 od_Land_sumOfPotentials_17 rfl rfl ?_
      obtain ⟨j1, ej1, hj1, h⟩ := ox_ix_some2 h
      refine ocal_10 B F od_Land_sumOfPotentials_18 hj1 ej1 ?_
      refine ox_iadd B od_Land_sumOfPotentials_19 ?_
      obtain ⟨v2, ev2, h⟩ := ox_let_some h
      refine ox_topi ev2 ?_
      refine ox_istore_n B 1 od_Land_sumOfPotentials_20 rfl (by decide) rfl (L2 := [some (.ref (ad 4)), some (.int v2), some (.int x2)]) rfl ?_
      obtain ⟨v3, ev3, h⟩ := ox_let_some h
      refine ox_iinc B od_Land_sumOfPotentials_21 rfl ((congrArg (x2 + ·) oxk_i1).trans ev3.symm) (by decide) rfl (L2 := [some (.ref (ad 4)), some (.int v2), some (.int v3)]) rfl ?_
      refine ox_goto B 4 od_Land_sumOfPotentials_24 rfl ?_
      cases h
      exact hG
  have t_4 : ∀ (x1 : Int32) (x2 : Int32)  (t : Int32), oc_Land_sumOfPotentials_h4 x1 x2 σ = some t → (fun t : Int32 => res = some (.int t) ∧ σ = σ) t → ox_M p l e rm_oc_Land_sumOfPotentials s m args below meth c (oc_W D ad cI cC A adK adV) 3 res σ 4 [some (.ref (ad 4)), some (.int x1), some (.int x2)] [] σ := by
    intro x1 x2  t h hG
    exact ox_w_run (fun t : (Int32 × Int32) => ox_M p l e rm_oc_Land_sumOfPotentials s m args below meth c (oc_W D ad cI cC A adK adV) 3 res σ 4 [some (.ref (ad 4)), some (.int t.1), some (.int t.2)] [] σ) (fun t : Int32 => res = some (.int t) ∧ σ = σ) (fun a t h hG => t_b4 a.1 a.2  t h hG) (x1, x2) t h hG
  change ox_M p l e rm_oc_Land_sumOfPotentials s m args below meth c (oc_W D ad cI cC A adK adV) 3 res σ 0 [some (.ref (ad 4)), none, none] [] σ
  unfold oc_Land_sumOfPotentials at h
  refine ox_iconst B od_Land_sumOfPotentials_0 oxk_i0 ?_
  refine ox_istore_n B 1 od_Land_sumOfPotentials_1 rfl (by decide) rfl (L2 := [some (.ref (ad 4)), some (.int (0 : Int32)), none]) rfl ?_
  refine ox_iconst B od_Land_sumOfPotentials_2 oxk_i0 ?_
  refine ox_istore_n B 2 od_Land_sumOfPotentials_3 rfl (by decide) rfl (L2 := [some (.ref (ad 4)), some (.int (0 : Int32)), some (.int (0 : Int32))]) rfl ?_
  exact (t_4 (0 : Int32) (0 : Int32) _ h hG)
abbrev rm_oc_OneTree_boundUnder : Room := { frames := 4, cells := 0, slots := 0, locals := 94 }
set_option maxRecDepth 100000 in
set_option maxHeartbeats 4000000 in
theorem ct_oc_OneTree_boundUnder {l : Launch} {D : va_G} {ad : Nat → Nat} {cI cC : ClassId} {A : Nat → Prop} {adK adV : Nat → Nat} (hok : ox_ok (oc_W D ad cI cC A adK adV)) (x1 : Int32) (x2 : Int32) (σ : ox_S) (t : (Int32 × ox_S)) (h : oc_OneTree_boundUnder x1 x2 σ = some t) : Met l oy_OneTree_boundUnder (Cond.code oy_OneTree_boundUnder prog_5_method_2_code 3 (some .int) :: ox_ws) rm_oc_OneTree_boundUnder (ox_P (oc_W D ad cI cC A adK adV) [.ref (ad 5), .int x1, .int x2] σ) (ox_Q (oc_W D ad cI cC A adK adV) (some (.int t.1)) t.2) 0 0 A := by
  refine ox_met (ω := oc_W D ad cI cC A adK adV) (by decide) rfl hok (Nat.le_of_ble_eq_true rfl) ?_
  intro p e s m args below meth c B F
  generalize hres : (some (.int t.1) : Option Value) = res
  generalize hσf : t.2 = σf
  have hG : (fun t : (Int32 × ox_S) => res = some (.int t.1) ∧ σf = t.2) t := ⟨hres.symm, hσf.symm⟩
  change ox_M p l e rm_oc_OneTree_boundUnder s m args below meth c (oc_W D ad cI cC A adK adV) 3 res σf 0 [some (.ref (ad 5)), some (.int x1), some (.int x2)] [] σ
  unfold oc_OneTree_boundUnder at h
  refine ox_aload_n B 0 od_OneTree_boundUnder_0 rfl rfl ?_
  refine ox_iload_n B 1 od_OneTree_boundUnder_1 rfl rfl ?_
  refine ox_iload_n B 2 od_OneTree_boundUnder_2 rfl rfl ?_
  obtain ⟨r1, s2, hr1, h⟩ := ox_b2_some h
  refine occ_OneTree_32 B F od_OneTree_boundUnder_3 (As := [.int x1, .int x2]) (rest := []) (st2 := [.int r1]) (ct_oc_OneTree_grow hok x1 x2 σ _ hr1) ⟨rfl, rfl, Nat.le_of_ble_eq_true rfl, Nat.le_of_ble_eq_true rfl⟩ rfl (Nat.le_of_ble_eq_true rfl) rfl rfl ?_
  refine ox_if_eq B 26 od_OneTree_boundUnder_6 rfl (fun hc => ?_) (fun hc => ?_)
  · rw [if_pos hc] at h
    refine ox_ldc B od_OneTree_boundUnder_26 ock_OneTree_42 ?_
    cases h
    exact ox_iret B F od_OneTree_boundUnder_28 rfl rfl hG
  · rw [if_neg hc] at h
    refine ox_aload_n B 0 od_OneTree_boundUnder_9 rfl rfl ?_
    refine ocg_OneTree_22 B F od_OneTree_boundUnder_10 ?_
    refine ox_iconst B od_OneTree_boundUnder_13 oxk_i2 ?_
    refine ox_aload_n B 0 od_OneTree_boundUnder_14 rfl rfl ?_
    refine ocg_OneTree_28 B F od_OneTree_boundUnder_15 ?_
    obtain ⟨r3, hr3, h⟩ := ox_bind h
    refine occ_OneTree_36 B F od_OneTree_boundUnder_18 (As := []) (rest := [.int (2 : Int32), .int (s2.1 16)]) (st2 := [.int r3, .int (2 : Int32), .int (s2.1 16)]) (ct_oc_Land_sumOfPotentials hok s2 _ hr3) ⟨rfl, rfl, Nat.le_of_ble_eq_true rfl, Nat.le_of_ble_eq_true rfl⟩ rfl (Nat.le_of_ble_eq_true rfl) rfl rfl ?_
    refine ox_imul B od_OneTree_boundUnder_21 ?_
    refine ox_isub B od_OneTree_boundUnder_22 ?_
    refine ox_goto B 28 od_OneTree_boundUnder_23 rfl ?_
    cases h
    exact ox_iret B F od_OneTree_boundUnder_28 rfl rfl hG
abbrev rm_oc_T_bound : Room := { frames := 5, cells := 0, slots := 0, locals := 116 }
set_option maxRecDepth 100000 in
set_option maxHeartbeats 4000000 in
theorem ct_oc_T_bound {l : Launch} {D : va_G} {ad : Nat → Nat} {cI cC : ClassId} {A : Nat → Prop} {adK adV : Nat → Nat} (hok : ox_ok (oc_W D ad cI cC A adK adV))  (σ : ox_S) (t : (Int32 × ox_S)) (h : oc_T_bound  σ = some t) : Met l oy_T_bound (Cond.code oy_T_bound prog_1_method_10_code 1 (some .int) :: ox_ws) rm_oc_T_bound (ox_P (oc_W D ad cI cC A adK adV) [.ref (ad 0)] σ) (ox_Q (oc_W D ad cI cC A adK adV) (some (.int t.1)) t.2) 0 0 A := by
  refine ox_met (ω := oc_W D ad cI cC A adK adV) (by decide) rfl hok (Nat.le_of_ble_eq_true rfl) ?_
  intro p e s m args below meth c B F
  generalize hres : (some (.int t.1) : Option Value) = res
  generalize hσf : t.2 = σf
  have hG : (fun t : (Int32 × ox_S) => res = some (.int t.1) ∧ σf = t.2) t := ⟨hres.symm, hσf.symm⟩
  change ox_M p l e rm_oc_T_bound s m args below meth c (oc_W D ad cI cC A adK adV) 1 res σf 0 [some (.ref (ad 0))] [] σ
  unfold oc_T_bound at h
  refine ox_aload_n B 0 od_T_bound_0 rfl rfl ?_
  refine ocg_T_37 B F od_T_bound_1 ?_
  refine ox_aload_n B 0 od_T_bound_4 rfl rfl ?_
  refine ocg_T_28 B F od_T_bound_5 ?_
  refine ocg_T_119 B F od_T_bound_8 ?_
  refine ox_aload_n B 0 od_T_bound_11 rfl rfl ?_
  refine ocg_T_28 B F od_T_bound_12 ?_
  refine ocg_T_122 B F od_T_bound_15 ?_
  obtain ⟨r1, s2, hr1, h⟩ := ox_b2_some h
  refine occ_T_125 B F od_T_bound_18 (As := [.int (σ.1 12), .int (σ.1 13)]) (rest := []) (st2 := [.int r1]) (ct_oc_OneTree_boundUnder hok (σ.1 12) (σ.1 13) σ _ hr1) ⟨rfl, rfl, Nat.le_of_ble_eq_true rfl, Nat.le_of_ble_eq_true rfl⟩ rfl (Nat.le_of_ble_eq_true rfl) rfl rfl ?_
  cases h
  exact ox_iret B F od_T_bound_21 rfl rfl hG
abbrev rm_oc_T_degree : Room := { frames := 4, cells := 0, slots := 0, locals := 94 }
set_option maxRecDepth 100000 in
set_option maxHeartbeats 4000000 in
theorem ct_oc_T_degree {l : Launch} {D : va_G} {ad : Nat → Nat} {cI cC : ClassId} {A : Nat → Prop} {adK adV : Nat → Nat} (hok : ox_ok (oc_W D ad cI cC A adK adV)) (x1 : Int32) (σ : ox_S) (t : (Int32 × ox_S)) (h : oc_T_degree x1 σ = some t) : Met l oy_T_degree (Cond.code oy_T_degree prog_1_method_11_code 2 (some .int) :: ox_ws) rm_oc_T_degree (ox_P (oc_W D ad cI cC A adK adV) [.ref (ad 0), .int x1] σ) (ox_Q (oc_W D ad cI cC A adK adV) (some (.int t.1)) t.2) 0 0 A := by
  refine ox_met (ω := oc_W D ad cI cC A adK adV) (by decide) rfl hok (Nat.le_of_ble_eq_true rfl) ?_
  intro p e s m args below meth c B F
  generalize hres : (some (.int t.1) : Option Value) = res
  generalize hσf : t.2 = σf
  have hG : (fun t : (Int32 × ox_S) => res = some (.int t.1) ∧ σf = t.2) t := ⟨hres.symm, hσf.symm⟩
  change ox_M p l e rm_oc_T_degree s m args below meth c (oc_W D ad cI cC A adK adV) 2 res σf 0 [some (.ref (ad 0)), some (.int x1)] [] σ
  unfold oc_T_degree at h
  refine ox_aload_n B 0 od_T_degree_0 rfl rfl ?_
  refine ocg_T_28 B F od_T_degree_1 ?_
  refine ox_iload_n B 1 od_T_degree_4 rfl rfl ?_
  obtain ⟨r1, hr1, h⟩ := ox_bind h
  refine occ_T_98 B F od_T_degree_5 (As := [.int x1]) (rest := []) (st2 := [.int r1]) (ct_oc_Land_isCity hok x1 σ _ hr1) ⟨rfl, rfl, Nat.le_of_ble_eq_true rfl, Nat.le_of_ble_eq_true rfl⟩ rfl (Nat.le_of_ble_eq_true rfl) rfl rfl ?_
  refine ox_if_eq B 35 od_T_degree_8 rfl (fun hc => ?_) (fun hc => ?_)
  · rw [if_pos hc] at h
    refine ox_iconst B od_T_degree_35 oxk_im1 ?_
    cases h
    exact ox_iret B F od_T_degree_36 rfl rfl hG
  · rw [if_neg hc] at h
    refine ox_aload_n B 0 od_T_degree_11 rfl rfl ?_
    refine ocg_T_37 B F od_T_degree_12 ?_
    refine ox_aload_n B 0 od_T_degree_15 rfl rfl ?_
    refine ocg_T_28 B F od_T_degree_16 ?_
    refine ocg_T_119 B F od_T_degree_19 ?_
    refine ox_aload_n B 0 od_T_degree_22 rfl rfl ?_
    refine ocg_T_28 B F od_T_degree_23 ?_
    refine ocg_T_122 B F od_T_degree_26 ?_
    obtain ⟨r2, s3, hr2, h⟩ := ox_b2_some h
    refine occ_T_128 B F od_T_degree_29 (As := [.int (σ.1 12), .int (σ.1 13)]) (rest := []) (st2 := [.int r2]) (ct_oc_OneTree_grow hok (σ.1 12) (σ.1 13) σ _ hr2) ⟨rfl, rfl, Nat.le_of_ble_eq_true rfl, Nat.le_of_ble_eq_true rfl⟩ rfl (Nat.le_of_ble_eq_true rfl) rfl rfl ?_
    refine ox_if_ne B 37 od_T_degree_32 rfl (fun hc => ?_) (fun hc => ?_)
    · rw [if_neg hc] at h
      refine ox_aload_n B 0 od_T_degree_37 rfl rfl ?_
      refine ocg_T_37 B F od_T_degree_38 ?_
      refine ocg_T_132 B F od_T_degree_41 ?_
      refine ox_iload_n B 1 od_T_degree_44 rfl rfl ?_
      obtain ⟨j4, ej4, hj4, h⟩ := ox_ix_some2 h
      refine ocal_12 B F od_T_degree_45 hj4 ej4 ?_
      cases h
      exact ox_iret B F od_T_degree_46 rfl rfl hG
    · rw [if_pos hc] at h
      refine ox_iconst B od_T_degree_35 oxk_im1 ?_
      cases h
      exact ox_iret B F od_T_degree_36 rfl rfl hG
abbrev rm_oc_T_ascended : Room := { frames := 0, cells := 0, slots := 0, locals := 0 }
set_option maxRecDepth 100000 in
set_option maxHeartbeats 4000000 in
theorem ct_oc_T_ascended {l : Launch} {D : va_G} {ad : Nat → Nat} {cI cC : ClassId} {A : Nat → Prop} {adK adV : Nat → Nat} (hok : ox_ok (oc_W D ad cI cC A adK adV)) (x1 : Int32) (x2 : Int32) (σ : ox_S) (t : Int32) (h : oc_T_ascended x1 x2 σ = some t) : Met l oy_T_ascended (Cond.code oy_T_ascended prog_1_method_23_code 3 (some .int) :: ox_ws) rm_oc_T_ascended (ox_P (oc_W D ad cI cC A adK adV) [.ref (ad 0), .int x1, .int x2] σ) (ox_Q (oc_W D ad cI cC A adK adV) (some (.int t)) σ) 0 0 A := by
  refine ox_met (ω := oc_W D ad cI cC A adK adV) (by decide) rfl hok (Nat.le_of_ble_eq_true rfl) ?_
  intro p e s m args below meth c B F
  generalize hres : (some (.int t) : Option Value) = res
  have hG : (fun t : Int32 => res = some (.int t) ∧ σ = σ) t := ⟨hres.symm, rfl⟩
  change ox_M p l e rm_oc_T_ascended s m args below meth c (oc_W D ad cI cC A adK adV) 3 res σ 0 [some (.ref (ad 0)), some (.int x1), some (.int x2)] [] σ
  unfold oc_T_ascended at h
  refine ox_aload_n B 0 od_T_ascended_0 rfl rfl ?_
  refine ocg_T_28 B F od_T_ascended_1 ?_
  refine ocg_T_116 B F od_T_ascended_4 ?_
  refine ox_iload_n B 1 od_T_ascended_7 rfl rfl ?_
  obtain ⟨j1, ej1, hj1, h⟩ := ox_ix_some2 h
  refine ocal_10 B F od_T_ascended_8 hj1 ej1 ?_
  refine ox_iload_n B 2 od_T_ascended_9 rfl rfl ?_
  refine ox_aload_n B 0 od_T_ascended_10 rfl rfl ?_
  refine ocg_T_37 B F od_T_ascended_11 ?_
  refine ocg_T_132 B F od_T_ascended_14 ?_
  refine ox_iload_n B 1 od_T_ascended_17 rfl rfl ?_
  obtain ⟨j2, ej2, hj2, h⟩ := ox_ix_some2 h
  refine ocal_12 B F od_T_ascended_18 hj2 ej2 ?_
  refine ox_iconst B od_T_ascended_19 oxk_i2 ?_
  refine ox_isub B od_T_ascended_20 ?_
  refine ox_imul B od_T_ascended_21 ?_
  refine ox_iadd B od_T_ascended_22 ?_
  cases h
  exact ox_iret B F od_T_ascended_23 rfl rfl hG
abbrev rm_oc_T_ascend : Room := { frames := 6, cells := 0, slots := 0, locals := 136 }
set_option maxRecDepth 100000 in
set_option maxHeartbeats 4000000 in
theorem ct_oc_T_ascend {l : Launch} {D : va_G} {ad : Nat → Nat} {cI cC : ClassId} {A : Nat → Prop} {adK adV : Nat → Nat} (hok : ox_ok (oc_W D ad cI cC A adK adV)) (x1 : Int32) (σ : ox_S) (t : (Int32 × ox_S)) (h : oc_T_ascend x1 σ = some t) : Met l oy_T_ascend (Cond.code oy_T_ascend prog_1_method_12_code 3 (some .int) :: ox_ws) rm_oc_T_ascend (ox_P (oc_W D ad cI cC A adK adV) [.ref (ad 0), .int x1] σ) (ox_Q (oc_W D ad cI cC A adK adV) (some (.int t.1)) t.2) 0 0 A := by
  refine ox_met (ω := oc_W D ad cI cC A adK adV) (by decide) rfl hok (Nat.le_of_ble_eq_true rfl) ?_
  intro p e s m args below meth c B F
  generalize hres : (some (.int t.1) : Option Value) = res
  generalize hσf : t.2 = σf
  have hG : (fun t : (Int32 × ox_S) => res = some (.int t.1) ∧ σf = t.2) t := ⟨hres.symm, hσf.symm⟩
  have t_b73 : ∀ (x1 : Int32) (x2 : Int32) (σ : ox_S) (t : ((Int32 × ox_S) ⊕ (Int32 × ox_S))), oc_T_ascend_b73 x1 x2 σ = some t → (ox_G (fun t : (Int32 × ox_S) => ox_M p l e rm_oc_T_ascend s m args below meth c (oc_W D ad cI cC A adK adV) 3 res σf 73 [some (.ref (ad 0)), some (.int x1), some (.int t.1)] [] t.2) (fun t : (Int32 × ox_S) => res = some (.int t.1) ∧ σf = t.2)) t → ox_M p l e rm_oc_T_ascend s m args below meth c (oc_W D ad cI cC A adK adV) 3 res σf 73 [some (.ref (ad 0)), some (.int x1), some (.int x2)] [] σ := by
    intro x1 x2 σ t h hG
    unfold oc_T_ascend_b73 at h
    refine ox_iload_n B 2 od_T_ascend_73 rfl rfl ?_
    refine ox_aload_n B 0 od_T_ascend_74 rfl rfl ?_
    refine ocg_T_28 B F od_T_ascend_75 ?_
    refine ocg_T_95 B F od_T_ascend_78 ?_
    refine ox_icmp_ge B 105 od_T_ascend_81 rfl (fun hc => ?_) (fun hc => ?_)
    · rw [if_pos hc] at h
      refine ox_aload_n B 0 od_T_ascend_105 rfl rfl ?_
      obtain ⟨r3, s4, hr3, h⟩ := ox_b2_some h
      refine occ_T_138 B F od_T_ascend_106 (As := []) (rest := []) (st2 := [.int r3]) (ct_oc_T_bound hok σ _ hr3) ⟨rfl, rfl, Nat.le_of_ble_eq_true rfl, Nat.le_of_ble_eq_true rfl⟩ rfl (Nat.le_of_ble_eq_true rfl) rfl rfl ?_
      cases h
      exact ox_iret B F od_T_ascend_109 rfl rfl hG
    · rw [if_neg hc] at h
      refine ox_aload_n B 0 od_T_ascend_84 rfl rfl ?_
      refine ocg_T_28 B F od_T_ascend_85 ?_
      refine ocg_T_116 B F od_T_ascend_88 ?_
      refine ox_iload_n B 2 od_T_ascend_91 rfl rfl ?_
      refine ox_aload_n B 0 od_T_ascend_92 rfl rfl ?_
      refine ox_iload_n B 2 od_T_ascend_93 rfl rfl ?_
      refine ox_iload_n B 1 od_T_ascend_94 rfl rfl ?_
      obtain ⟨r5, hr5, h⟩ := ox_bind h
      refine occ_T_135 B F od_T_ascend_95 (As := [.int x2, .int x1]) (rest := [.int x2, .ref (ad 19)]) (st2 := [.int r5, .int x2, .ref (ad 19)]) (ct_oc_T_ascended hok x2 x1 σ _ hr5) ⟨rfl, rfl, Nat.le_of_ble_eq_true rfl, Nat.le_of_ble_eq_true rfl⟩ rfl (Nat.le_of_ble_eq_true rfl) rfl rfl ?_
      obtain ⟨j6, ej6, hj6, h⟩ := ox_ix_some2 h
      obtain ⟨s7, es7, h⟩ := ox_let_some h
      refine ocas_10 B F od_T_ascend_98 hj6 ej6 es7 ?_
      obtain ⟨v8, ev8, h⟩ := ox_let_some h
      refine ox_iinc B od_T_ascend_99 rfl ((congrArg (x2 + ·) oxk_i1).trans ev8.symm) (by decide) rfl (L2 := [some (.ref (ad 0)), some (.int x1), some (.int v8)]) rfl ?_
      refine ox_goto B 73 od_T_ascend_102 rfl ?_
      cases h
      exact hG
  have t_73 : ∀ (x1 : Int32) (x2 : Int32) (σ : ox_S) (t : (Int32 × ox_S)), oc_T_ascend_h73 x1 x2 σ = some t → (fun t : (Int32 × ox_S) => res = some (.int t.1) ∧ σf = t.2) t → ox_M p l e rm_oc_T_ascend s m args below meth c (oc_W D ad cI cC A adK adV) 3 res σf 73 [some (.ref (ad 0)), some (.int x1), some (.int x2)] [] σ := by
    intro x1 x2 σ t h hG
    exact ox_w_run (fun t : (Int32 × ox_S) => ox_M p l e rm_oc_T_ascend s m args below meth c (oc_W D ad cI cC A adK adV) 3 res σf 73 [some (.ref (ad 0)), some (.int x1), some (.int t.1)] [] t.2) (fun t : (Int32 × ox_S) => res = some (.int t.1) ∧ σf = t.2) (fun a t h hG => t_b73 x1 a.1 a.2 t h hG) (x2, σ) t h hG
  have t_b40 : ∀ (x1 : Int32) (x2 : Int32) (σ : ox_S) (t : (Int32 ⊕ (Int32 × ox_S))), oc_T_ascend_b40 x1 x2 σ = some t → (ox_G (fun t : Int32 => ox_M p l e rm_oc_T_ascend s m args below meth c (oc_W D ad cI cC A adK adV) 3 res σf 40 [some (.ref (ad 0)), some (.int x1), some (.int t)] [] σ) (fun t : (Int32 × ox_S) => res = some (.int t.1) ∧ σf = t.2)) t → ox_M p l e rm_oc_T_ascend s m args below meth c (oc_W D ad cI cC A adK adV) 3 res σf 40 [some (.ref (ad 0)), some (.int x1), some (.int x2)] [] σ := by
    intro x1 x2 σ t h hG
    unfold oc_T_ascend_b40 at h
    refine ox_iload_n B 2 od_T_ascend_40 rfl rfl ?_
    refine ox_aload_n B 0 od_T_ascend_41 rfl rfl ?_
    refine ocg_T_28 B F od_T_ascend_42 ?_
    refine ocg_T_95 B F od_T_ascend_45 ?_
    refine ox_icmp_ge B 71 od_T_ascend_48 rfl (fun hc => ?_) (fun hc => ?_)
    · rw [if_pos hc] at h
      refine ox_iconst B od_T_ascend_71 oxk_i0 ?_
      refine ox_istore_n B 2 od_T_ascend_72 rfl (by decide) rfl (L2 := [some (.ref (ad 0)), some (.int x1), some (.int (0 : Int32))]) rfl ?_
      obtain ⟨t', h', e'⟩ := ox_map h
      subst e'
      exact (t_73 x1 (0 : Int32) σ _ h' hG)
    · rw [if_neg hc] at h
      refine ox_aload_n B 0 od_T_ascend_51 rfl rfl ?_
      refine ox_iload_n B 2 od_T_ascend_52 rfl rfl ?_
      refine ox_iload_n B 1 od_T_ascend_53 rfl rfl ?_
      obtain ⟨r9, hr9, h⟩ := ox_bind h
      refine occ_T_135 B F od_T_ascend_54 (As := [.int x2, .int x1]) (rest := []) (st2 := [.int r9]) (ct_oc_T_ascended hok x2 x1 σ _ hr9) ⟨rfl, rfl, Nat.le_of_ble_eq_true rfl, Nat.le_of_ble_eq_true rfl⟩ rfl (Nat.le_of_ble_eq_true rfl) rfl rfl ?_
      obtain ⟨r10, hr10, h⟩ := ox_bind h
      refine occ_T_113 B F od_T_ascend_57 (As := [.int r9]) (rest := []) (st2 := [.int r10]) (ct_oc_T_isPotential hok r9 σ _ hr10) ⟨rfl, rfl, Nat.le_of_ble_eq_true rfl, Nat.le_of_ble_eq_true rfl⟩ rfl (Nat.le_of_ble_eq_true rfl) rfl rfl ?_
      refine ox_if_ne B 65 od_T_ascend_60 rfl (fun hc => ?_) (fun hc => ?_)
      · rw [if_neg hc] at h
        obtain ⟨v11, ev11, h⟩ := ox_let_some h
        refine ox_iinc B od_T_ascend_65 rfl ((congrArg (x2 + ·) oxk_i1).trans ev11.symm) (by decide) rfl (L2 := [some (.ref (ad 0)), some (.int x1), some (.int v11)]) rfl ?_
        refine ox_goto B 40 od_T_ascend_68 rfl ?_
        cases h
        exact hG
      · rw [if_pos hc] at h
        refine ox_iconst B od_T_ascend_63 oxk_im1 ?_
        cases h
        exact ox_iret B F od_T_ascend_64 rfl rfl hG
  have t_40 : ∀ (x1 : Int32) (x2 : Int32) (σ : ox_S) (t : (Int32 × ox_S)), oc_T_ascend_h40 x1 x2 σ = some t → (fun t : (Int32 × ox_S) => res = some (.int t.1) ∧ σf = t.2) t → ox_M p l e rm_oc_T_ascend s m args below meth c (oc_W D ad cI cC A adK adV) 3 res σf 40 [some (.ref (ad 0)), some (.int x1), some (.int x2)] [] σ := by
    intro x1 x2 σ t h hG
    exact ox_w_run (fun t : Int32 => ox_M p l e rm_oc_T_ascend s m args below meth c (oc_W D ad cI cC A adK adV) 3 res σf 40 [some (.ref (ad 0)), some (.int x1), some (.int t)] [] σ) (fun t : (Int32 × ox_S) => res = some (.int t.1) ∧ σf = t.2) (fun a t h hG => t_b40 x1 a σ t h hG) x2 t h hG
  change ox_M p l e rm_oc_T_ascend s m args below meth c (oc_W D ad cI cC A adK adV) 3 res σf 0 [some (.ref (ad 0)), some (.int x1), none] [] σ
  unfold oc_T_ascend at h
  refine ox_iload_n B 1 od_T_ascend_0 rfl rfl ?_
  refine ox_iconst B od_T_ascend_1 oxk_i1 ?_
  refine ox_icmp_lt B 36 od_T_ascend_2 rfl (fun hc => ?_) (fun hc => ?_)
  · rw [if_pos hc] at h
    refine ox_iconst B od_T_ascend_36 oxk_im1 ?_
    cases h
    exact ox_iret B F od_T_ascend_37 rfl rfl hG
  · rw [if_neg hc] at h
    refine ox_iload_n B 1 od_T_ascend_5 rfl rfl ?_
    refine ox_sipush B od_T_ascend_6 oxk_s1000 ?_
    refine ox_icmp_gt B 36 od_T_ascend_9 rfl (fun hc => ?_) (fun hc => ?_)
    · rw [if_pos hc] at h
      refine ox_iconst B od_T_ascend_36 oxk_im1 ?_
      cases h
      exact ox_iret B F od_T_ascend_37 rfl rfl hG
    · rw [if_neg hc] at h
      refine ox_aload_n B 0 od_T_ascend_12 rfl rfl ?_
      refine ocg_T_37 B F od_T_ascend_13 ?_
      refine ox_aload_n B 0 od_T_ascend_16 rfl rfl ?_
      refine ocg_T_28 B F od_T_ascend_17 ?_
      refine ocg_T_119 B F od_T_ascend_20 ?_
      refine ox_aload_n B 0 od_T_ascend_23 rfl rfl ?_
      refine ocg_T_28 B F od_T_ascend_24 ?_
      refine ocg_T_122 B F od_T_ascend_27 ?_
      obtain ⟨r1, s2, hr1, h⟩ := ox_b2_some h
      refine occ_T_128 B F od_T_ascend_30 (As := [.int (σ.1 12), .int (σ.1 13)]) (rest := []) (st2 := [.int r1]) (ct_oc_OneTree_grow hok (σ.1 12) (σ.1 13) σ _ hr1) ⟨rfl, rfl, Nat.le_of_ble_eq_true rfl, Nat.le_of_ble_eq_true rfl⟩ rfl (Nat.le_of_ble_eq_true rfl) rfl rfl ?_
      refine ox_if_ne B 38 od_T_ascend_33 rfl (fun hc => ?_) (fun hc => ?_)
      · rw [if_neg hc] at h
        refine ox_iconst B od_T_ascend_38 oxk_i0 ?_
        refine ox_istore_n B 2 od_T_ascend_39 rfl (by decide) rfl (L2 := [some (.ref (ad 0)), some (.int x1), some (.int (0 : Int32))]) rfl ?_
        exact (t_40 x1 (0 : Int32) s2 _ h hG)
      · rw [if_pos hc] at h
        refine ox_iconst B od_T_ascend_36 oxk_im1 ?_
        cases h
        exact ox_iret B F od_T_ascend_37 rfl rfl hG
abbrev rm_oc_T_keepsTo : Room := { frames := 0, cells := 0, slots := 0, locals := 0 }
set_option maxRecDepth 100000 in
set_option maxHeartbeats 4000000 in
theorem ct_oc_T_keepsTo {l : Launch} {D : va_G} {ad : Nat → Nat} {cI cC : ClassId} {A : Nat → Prop} {adK adV : Nat → Nat} (hok : ox_ok (oc_W D ad cI cC A adK adV)) (x0 : Int32) (x1 : Int32) (x2 : Int32) (σ : ox_S) (t : Int32) (h : oc_T_keepsTo x0 x1 x2 σ = some t) : Met l oy_T_keepsTo (Cond.code oy_T_keepsTo prog_1_method_24_code 3 (some .boolean) :: ox_ws) rm_oc_T_keepsTo (ox_P (oc_W D ad cI cC A adK adV) [.int x0, .int x1, .int x2] σ) (ox_Q (oc_W D ad cI cC A adK adV) (some (.int t)) σ) 0 0 A := by
  refine ox_met (ω := oc_W D ad cI cC A adK adV) (by decide) rfl hok (Nat.le_of_ble_eq_true rfl) ?_
  intro p e s m args below meth c B F
  generalize hres : (some (.int t) : Option Value) = res
  have hG : (fun t : Int32 => res = some (.int t) ∧ σ = σ) t := ⟨hres.symm, rfl⟩
  change ox_M p l e rm_oc_T_keepsTo s m args below meth c (oc_W D ad cI cC A adK adV) 3 res σ 0 [some (.int x0), some (.int x1), some (.int x2)] [] σ
  unfold oc_T_keepsTo at h
  refine ox_iload_n B 0 od_T_keepsTo_0 rfl rfl ?_
  refine ox_iload_n B 1 od_T_keepsTo_1 rfl rfl ?_
  refine ox_iand B od_T_keepsTo_2 ?_
  refine ox_iload_n B 1 od_T_keepsTo_3 rfl rfl ?_
  refine ox_icmp_ne B 17 od_T_keepsTo_4 rfl (fun hc => ?_) (fun hc => ?_)
  · rw [if_neg hc] at h
    refine ox_iconst B od_T_keepsTo_17 oxk_i0 ?_
    cases h
    exact ox_iret B F od_T_keepsTo_18 rfl (ox_nz (Or.inl rfl)) hG
  · rw [if_pos hc] at h
    refine ox_iload_n B 0 od_T_keepsTo_7 rfl rfl ?_
    refine ox_iload_n B 2 od_T_keepsTo_8 rfl rfl ?_
    refine ox_iand B od_T_keepsTo_9 ?_
    refine ox_if_ne B 17 od_T_keepsTo_10 rfl (fun hc => ?_) (fun hc => ?_)
    · rw [if_neg hc] at h
      refine ox_iconst B od_T_keepsTo_17 oxk_i0 ?_
      cases h
      exact ox_iret B F od_T_keepsTo_18 rfl (ox_nz (Or.inl rfl)) hG
    · rw [if_pos hc] at h
      refine ox_iconst B od_T_keepsTo_13 oxk_i1 ?_
      refine ox_goto B 18 od_T_keepsTo_14 rfl ?_
      cases h
      exact ox_iret B F od_T_keepsTo_18 rfl (ox_nz (Or.inr rfl)) hG
abbrev rm_oc_TourList_isAllowed : Room := { frames := 1, cells := 0, slots := 0, locals := 22 }
set_option maxRecDepth 100000 in
set_option maxHeartbeats 4000000 in
theorem ct_oc_TourList_isAllowed {l : Launch} {D : va_G} {ad : Nat → Nat} {cI cC : ClassId} {A : Nat → Prop} {adK adV : Nat → Nat} (hok : ox_ok (oc_W D ad cI cC A adK adV)) (x1 : Int32) (σ : ox_S) (t : Int32) (h : oc_TourList_isAllowed x1 σ = some t) : Met l oy_TourList_isAllowed (Cond.code oy_TourList_isAllowed prog_9_method_5_code 2 (some .boolean) :: ox_ws) rm_oc_TourList_isAllowed (ox_P (oc_W D ad cI cC A adK adV) [.ref (ad 6), .int x1] σ) (ox_Q (oc_W D ad cI cC A adK adV) (some (.int t)) σ) 0 0 A := by
  refine ox_met (ω := oc_W D ad cI cC A adK adV) (by decide) rfl hok (Nat.le_of_ble_eq_true rfl) ?_
  intro p e s m args below meth c B F
  generalize hres : (some (.int t) : Option Value) = res
  have hG : (fun t : Int32 => res = some (.int t) ∧ σ = σ) t := ⟨hres.symm, rfl⟩
  change ox_M p l e rm_oc_TourList_isAllowed s m args below meth c (oc_W D ad cI cC A adK adV) 2 res σ 0 [some (.ref (ad 6)), some (.int x1)] [] σ
  unfold oc_TourList_isAllowed at h
  refine ox_aload_n B 0 od_TourList_isAllowed_0 rfl rfl ?_
  refine ocg_TourList_15 B F od_TourList_isAllowed_1 ?_
  refine ox_iload_n B 1 od_TourList_isAllowed_4 rfl rfl ?_
  obtain ⟨j1, ej1, hj1, h⟩ := ox_ix_some2 h
  refine ocal_14 B F od_TourList_isAllowed_5 hj1 ej1 ?_
  refine ox_aload_n B 0 od_TourList_isAllowed_6 rfl rfl ?_
  refine ocg_TourList_25 B F od_TourList_isAllowed_7 ?_
  refine ocg_TourList_49 B F od_TourList_isAllowed_10 ?_
  refine ox_aload_n B 0 od_TourList_isAllowed_13 rfl rfl ?_
  refine ocg_TourList_25 B F od_TourList_isAllowed_14 ?_
  refine ocg_TourList_52 B F od_TourList_isAllowed_17 ?_
  obtain ⟨r2, hr2, h⟩ := ox_bind h
  refine occ_TourList_55 B F od_TourList_isAllowed_20 (As := [.int (σ.2 14 j1), .int (σ.1 12), .int (σ.1 13)]) (rest := []) (st2 := [.int r2]) (ct_oc_T_keepsTo hok (σ.2 14 j1) (σ.1 12) (σ.1 13) σ _ hr2) ⟨rfl, rfl, Nat.le_of_ble_eq_true rfl, Nat.le_of_ble_eq_true rfl⟩ rfl (Nat.le_of_ble_eq_true rfl) rfl rfl ?_
  obtain ⟨hz, h⟩ := ox_z_some h
  cases h
  exact ox_iret B F od_TourList_isAllowed_23 rfl (ox_nz hz) hG
