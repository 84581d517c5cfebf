abbrev rm_oc_TourList_firstLeast : Room := { frames := 2, cells := 0, slots := 0, locals := 43 }
set_option maxRecDepth 100000 in
set_option maxHeartbeats 4000000 in
theorem ct_oc_TourList_firstLeast {l : Launch} {D : va_G} {ad : Nat → Nat} {cI cC : ClassId} {A : Nat → Prop} {adK adV : Nat → Nat} (hok : ox_ok (oc_W D ad cI cC A adK adV))  (σ : ox_S) (t : Int32) (h : oc_TourList_firstLeast  σ = some t) : Met l oy_TourList_firstLeast (Cond.code oy_TourList_firstLeast prog_9_method_3_code 3 (some .int) :: ox_ws) rm_oc_TourList_firstLeast (ox_P (oc_W D ad cI cC A adK adV) [.ref (ad 6)] σ) (ox_Q (oc_W D ad cI cC A adK adV) (some (.int t)) σ) 0 0 A := by
  refine ox_met (ω := oc_W D ad cI cC A adK adV) (by decide) rfl hok (Nat.le_of_ble_eq_true rfl) ?_
  intro p e s m args below meth c B F
  generalize hres : (some (.int t) : Option Value) = res
  have hG : (fun t : Int32 => res = some (.int t) ∧ σ = σ) t := ⟨hres.symm, rfl⟩
  have t_b4 : ∀ (x1 : Int32) (x2 : Int32)  (t : ((Int32 × Int32) ⊕ Int32)), oc_TourList_firstLeast_b4 x1 x2 σ = some t → (ox_G (fun t : (Int32 × Int32) => ox_M p l e rm_oc_TourList_firstLeast s m args below meth c (oc_W D ad cI cC A adK adV) 3 res σ 4 [some (.ref (ad 6)), some (.int t.1), some (.int t.2)] [] σ) (fun t : Int32 => res = some (.int t) ∧ σ = σ)) t → ox_M p l e rm_oc_TourList_firstLeast s m args below meth c (oc_W D ad cI cC A adK adV) 3 res σ 4 [some (.ref (ad 6)), some (.int x1), some (.int x2)] [] σ := by
    intro x1 x2  t h hG
    unfold oc_TourList_firstLeast_b4 at h
    refine ox_iload_n B 2 od_TourList_firstLeast_4 rfl rfl ?_
    refine ox_aload_n B 0 od_TourList_firstLeast_5 rfl rfl ?_
    refine ocg_TourList_21 B F od_TourList_firstLeast_6 ?_
    refine ox_icmp_ge B 47 od_TourList_firstLeast_9 rfl (fun hc => ?_) (fun hc => ?_)
    · rw [if_pos hc] at h
      refine ox_iload_n B 1 od_TourList_firstLeast_47 rfl rfl ?_
      cases h
      exact ox_iret B F od_TourList_firstLeast_48 rfl rfl hG
    · rw [if_neg hc] at h
      refine ox_aload_n B 0 od_TourList_firstLeast_12 rfl rfl ?_
      refine ox_iload_n B 2 od_TourList_firstLeast_13 rfl rfl ?_
      obtain ⟨r1, hr1, h⟩ := ox_bind h
      refine occ_TourList_41 B F od_TourList_firstLeast_14 (As := [.int x2]) (rest := []) (st2 := [.int r1]) (ct_oc_TourList_isAllowed hok x2 σ _ hr1) ⟨rfl, rfl, Nat.le_of_ble_eq_true rfl, Nat.le_of_ble_eq_true rfl⟩ rfl (Nat.le_of_ble_eq_true rfl) rfl rfl ?_
      refine ox_if_eq B 41 od_TourList_firstLeast_17 rfl (fun hc => ?_) (fun hc => ?_)
      · rw [if_pos hc] at h
        obtain ⟨v2, ev2, h⟩ := ox_let_some h
        refine ox_iinc B od_TourList_firstLeast_41 rfl ((congrArg (x2 + ·) oxk_i1).trans ev2.symm) (by decide) rfl (L2 := [some (.ref (ad 6)), some (.int x1), some (.int v2)]) rfl ?_
        refine ox_goto B 4 od_TourList_firstLeast_44 rfl ?_
        cases h
        exact hG
      · rw [if_neg hc] at h
        refine ox_iload_n B 1 od_TourList_firstLeast_20 rfl rfl ?_
        refine ox_if_lt B 39 od_TourList_firstLeast_21 rfl (fun hc => ?_) (fun hc => ?_)
        · rw [if_pos hc] at h
          refine ox_iload_n B 2 od_TourList_firstLeast_39 rfl rfl ?_
          refine ox_istore_n B 1 od_TourList_firstLeast_40 rfl (by decide) rfl (L2 := [some (.ref (ad 6)), some (.int x2), some (.int x2)]) rfl ?_
          obtain ⟨v3, ev3, h⟩ := ox_let_some h
          refine ox_iinc B od_TourList_firstLeast_41 rfl ((congrArg (x2 + ·) oxk_i1).trans ev3.symm) (by decide) rfl (L2 := [some (.ref (ad 6)), some (.int x2), some (.int v3)]) rfl ?_
          refine ox_goto B 4 od_TourList_firstLeast_44 rfl ?_
          cases h
          exact hG
        · rw [if_neg hc] at h
          refine ox_aload_n B 0 od_TourList_firstLeast_24 rfl rfl ?_
          refine ocg_TourList_18 B F od_TourList_firstLeast_25 ?_
          refine ox_iload_n B 2 od_TourList_firstLeast_28 rfl rfl ?_
          obtain ⟨j4, ej4, hj4, h⟩ := ox_ix_some2 h
          refine ocal_15 B F od_TourList_firstLeast_29 hj4 ej4 ?_
          refine ox_aload_n B 0 od_TourList_firstLeast_30 rfl rfl ?_
          refine ocg_TourList_18 B F od_TourList_firstLeast_31 ?_
          refine ox_iload_n B 1 od_TourList_firstLeast_34 rfl rfl ?_
          obtain ⟨j5, ej5, hj5, h⟩ := ox_ix_some2 h
          refine ocal_15 B F od_TourList_firstLeast_35 hj5 ej5 ?_
          refine ox_icmp_ge B 41 od_TourList_firstLeast_36 rfl (fun hc => ?_) (fun hc => ?_)
          · rw [if_pos hc] at h
            obtain ⟨v6, ev6, h⟩ := ox_let_some h
            refine ox_iinc B od_TourList_firstLeast_41 rfl ((congrArg (x2 + ·) oxk_i1).trans ev6.symm) (by decide) rfl (L2 := [some (.ref (ad 6)), some (.int x1), some (.int v6)]) rfl ?_
            refine ox_goto B 4 od_TourList_firstLeast_44 rfl ?_
            cases h
            exact hG
          · rw [if_neg hc] at h
            refine ox_iload_n B 2 od_TourList_firstLeast_39 rfl rfl ?_
            refine ox_istore_n B 1 od_TourList_firstLeast_40 rfl (by decide) rfl (L2 := [some (.ref (ad 6)), some (.int x2), some (.int x2)]) rfl ?_
            obtain ⟨v7, ev7, h⟩ := ox_let_some h
            refine ox_iinc B od_TourList_firstLeast_41 rfl ((congrArg (x2 + ·) oxk_i1).trans ev7.symm) (by decide) rfl (L2 := [some (.ref (ad 6)), some (.int x2), some (.int v7)]) rfl ?_
            refine ox_goto B 4 od_TourList_firstLeast_44 rfl ?_
            cases h
            exact hG
  have t_4 : ∀ (x1 : Int32) (x2 : Int32)  (t : Int32), oc_TourList_firstLeast_h4 x1 x2 σ = some t → (fun t : Int32 => res = some (.int t) ∧ σ = σ) t → ox_M p l e rm_oc_TourList_firstLeast s m args below meth c (oc_W D ad cI cC A adK adV) 3 res σ 4 [some (.ref (ad 6)), some (.int x1), some (.int x2)] [] σ := by
    intro x1 x2  t h hG
    exact ox_w_run (fun t : (Int32 × Int32) => ox_M p l e rm_oc_TourList_firstLeast s m args below meth c (oc_W D ad cI cC A adK adV) 3 res σ 4 [some (.ref (ad 6)), some (.int t.1), some (.int t.2)] [] σ) (fun t : Int32 => res = some (.int t) ∧ σ = σ) (fun a t h hG => t_b4 a.1 a.2  t h hG) (x1, x2) t h hG
  change ox_M p l e rm_oc_TourList_firstLeast s m args below meth c (oc_W D ad cI cC A adK adV) 3 res σ 0 [some (.ref (ad 6)), none, none] [] σ
  unfold oc_TourList_firstLeast at h
  refine ox_iconst B od_TourList_firstLeast_0 oxk_im1 ?_
  refine ox_istore_n B 1 od_TourList_firstLeast_1 rfl (by decide) rfl (L2 := [some (.ref (ad 6)), some (.int (-1 : Int32)), none]) rfl ?_
  refine ox_iconst B od_TourList_firstLeast_2 oxk_i0 ?_
  refine ox_istore_n B 2 od_TourList_firstLeast_3 rfl (by decide) rfl (L2 := [some (.ref (ad 6)), some (.int (-1 : Int32)), some (.int (0 : Int32))]) rfl ?_
  exact (t_4 (-1 : Int32) (0 : Int32) _ h hG)
abbrev rm_oc_Round_follow : Room := { frames := 1, cells := 0, slots := 0, locals := 22 }
set_option maxRecDepth 100000 in
set_option maxHeartbeats 4000000 in
theorem ct_oc_Round_follow {l : Launch} {D : va_G} {ad : Nat → Nat} {cI cC : ClassId} {A : Nat → Prop} {adK adV : Nat → Nat} (hok : ox_ok (oc_W D ad cI cC A adK adV)) (x1 : Int32) (σ : ox_S) (t : ox_S) (h : oc_Round_follow x1 σ = some t) : Met l oy_Round_follow (Cond.code oy_Round_follow prog_7_method_2_code 6 none :: ox_ws) rm_oc_Round_follow (ox_P (oc_W D ad cI cC A adK adV) [.ref (ad 7), .int x1] σ) (ox_Q (oc_W D ad cI cC A adK adV) none t) 0 0 A := by
  refine ox_met (ω := oc_W D ad cI cC A adK adV) (by decide) rfl hok (Nat.le_of_ble_eq_true rfl) ?_
  intro p e s m args below meth c B F
  generalize hres : (none : Option Value) = res
  have hG : res = none ∧ t = t := ⟨hres.symm, rfl⟩
  obtain ⟨σf, hσf⟩ : ∃ z, z = t := ⟨_, rfl⟩
  have hG : (fun t : ox_S => res = none ∧ σf = t) t := ⟨hres.symm, hσf⟩
  rw [show ox_M p l e rm_oc_Round_follow s m args below meth c (oc_W D ad cI cC A adK adV) 6 res t 0 (ox_l0 [.ref (ad 7), .int x1] 6) [] σ = ox_M p l e rm_oc_Round_follow s m args below meth c (oc_W D ad cI cC A adK adV) 6 res σf 0 (ox_l0 [.ref (ad 7), .int x1] 6) [] σ by rw [hσf]]
  have t_65 : ∀ (x1 : Int32) (x2 : Int32) (x3 : Int32) (x4 : Int32) (y0 : Int32) (σ : ox_S) (t : ((Int32 × ox_S) ⊕ ((Int32 × Int32 × ox_S) ⊕ ox_S))), oc_Round_follow_j65 x1 x2 x3 x4 y0 σ = some t → (ox_G (fun t : (Int32 × ox_S) => ox_M p l e rm_oc_Round_follow s m args below meth c (oc_W D ad cI cC A adK adV) 6 res σf 33 [some (.ref (ad 7)), some (.int x1), some (.int x2), some (.int x3), some (.int t.1), none] [] t.2) (ox_G (fun t : (Int32 × Int32 × ox_S) => ox_M p l e rm_oc_Round_follow s m args below meth c (oc_W D ad cI cC A adK adV) 6 res σf 11 [some (.ref (ad 7)), some (.int x1), some (.int t.1), some (.int t.2.1), none, none] [] t.2.2) (fun t : ox_S => res = none ∧ σf = t))) t → ox_M p l e rm_oc_Round_follow s m args below meth c (oc_W D ad cI cC A adK adV) 6 res σf 65 [some (.ref (ad 7)), some (.int x1), some (.int x2), some (.int x3), some (.int x4), none] [.int y0] σ := by
    intro x1 x2 x3 x4 y0 σ t h hG
    unfold oc_Round_follow_j65 at h
    refine ox_istore B od_Round_follow_65 (by decide) rfl (L2 := [some (.ref (ad 7)), some (.int x1), some (.int x2), some (.int x3), some (.int x4), some (.int y0)]) rfl ?_
    refine ox_iload_n B 2 od_Round_follow_67 rfl rfl ?_
    refine ox_iload B od_Round_follow_68 rfl ?_
    refine ox_ishr B od_Round_follow_70 ?_
    refine ox_iconst B od_Round_follow_71 oxk_i1 ?_
    refine ox_iand B od_Round_follow_72 ?_
    refine ox_if_ne B 89 od_Round_follow_73 rfl (fun hc => ?_) (fun hc => ?_)
    · rw [if_neg hc] at h
      obtain ⟨v10, ev10, h⟩ := ox_let_some h
      refine ox_iinc B od_Round_follow_89 rfl ((congrArg (x4 + ·) oxk_im1).trans ev10.symm) (by decide) rfl (L2 := [some (.ref (ad 7)), some (.int x1), some (.int x2), some (.int x3), some (.int v10), some (.int y0)]) rfl ?_
      refine ox_goto B 33 od_Round_follow_92 rfl ?_
      cases h
      exact (ox_mask [true, true, true, true, true, false] hG)
    · rw [if_pos hc] at h
      refine ox_iload B od_Round_follow_76 rfl ?_
      refine ox_if_eq B 89 od_Round_follow_78 rfl (fun hc => ?_) (fun hc => ?_)
      · rw [if_pos hc] at h
        obtain ⟨v11, ev11, h⟩ := ox_let_some h
        refine ox_iinc B od_Round_follow_89 rfl ((congrArg (x4 + ·) oxk_im1).trans ev11.symm) (by decide) rfl (L2 := [some (.ref (ad 7)), some (.int x1), some (.int x2), some (.int x3), some (.int v11), some (.int y0)]) rfl ?_
        refine ox_goto B 33 od_Round_follow_92 rfl ?_
        cases h
        exact (ox_mask [true, true, true, true, true, false] hG)
      · rw [if_neg hc] at h
        refine ox_aload_n B 0 od_Round_follow_81 rfl rfl ?_
        refine ocg_Round_9 B F od_Round_follow_82 ?_
        refine ox_iload_n B 3 od_Round_follow_85 rfl rfl ?_
        refine ox_iload B od_Round_follow_86 rfl ?_
        obtain ⟨j12, ej12, hj12, h⟩ := ox_ix_some2 h
        obtain ⟨s13, es13, h⟩ := ox_let_some h
        refine ocas_16 B F od_Round_follow_88 hj12 ej12 es13 ?_
        obtain ⟨v14, ev14, h⟩ := ox_let_some h
        refine ox_iinc B od_Round_follow_89 rfl ((congrArg (x4 + ·) oxk_im1).trans ev14.symm) (by decide) rfl (L2 := [some (.ref (ad 7)), some (.int x1), some (.int x2), some (.int x3), some (.int v14), some (.int y0)]) rfl ?_
        refine ox_goto B 33 od_Round_follow_92 rfl ?_
        cases h
        exact (ox_mask [true, true, true, true, true, false] hG)
  have t_b33 : ∀ (x1 : Int32) (x2 : Int32) (x3 : Int32) (x4 : Int32) (σ : ox_S) (t : ((Int32 × ox_S) ⊕ ((Int32 × Int32 × ox_S) ⊕ ox_S))), oc_Round_follow_b33 x1 x2 x3 x4 σ = some t → (ox_G (fun t : (Int32 × ox_S) => ox_M p l e rm_oc_Round_follow s m args below meth c (oc_W D ad cI cC A adK adV) 6 res σf 33 [some (.ref (ad 7)), some (.int x1), some (.int x2), some (.int x3), some (.int t.1), none] [] t.2) (ox_G (fun t : (Int32 × Int32 × ox_S) => ox_M p l e rm_oc_Round_follow s m args below meth c (oc_W D ad cI cC A adK adV) 6 res σf 11 [some (.ref (ad 7)), some (.int x1), some (.int t.1), some (.int t.2.1), none, none] [] t.2.2) (fun t : ox_S => res = none ∧ σf = t))) t → ox_M p l e rm_oc_Round_follow s m args below meth c (oc_W D ad cI cC A adK adV) 6 res σf 33 [some (.ref (ad 7)), some (.int x1), some (.int x2), some (.int x3), some (.int x4), none] [] σ := by
    intro x1 x2 x3 x4 σ t h hG
    unfold oc_Round_follow_b33 at h
    refine ox_iload B od_Round_follow_33 rfl ?_
    refine ox_if_le B 95 od_Round_follow_35 rfl (fun hc => ?_) (fun hc => ?_)
    · rw [if_pos hc] at h
      refine ox_iload_n B 2 od_Round_follow_95 rfl rfl ?_
      refine ox_iconst B od_Round_follow_96 oxk_i1 ?_
      refine ox_aload_n B 0 od_Round_follow_97 rfl rfl ?_
      refine ocg_Round_9 B F od_Round_follow_98 ?_
      refine ox_iload_n B 3 od_Round_follow_101 rfl rfl ?_
      obtain ⟨j5, ej5, hj5, h⟩ := ox_ix_some2 h
      refine ocal_16 B F od_Round_follow_102 hj5 ej5 ?_
      refine ox_ishl B od_Round_follow_103 ?_
      refine ox_ior B od_Round_follow_104 ?_
      obtain ⟨v6, ev6, h⟩ := ox_let_some h
      refine ox_topi ev6 ?_
      refine ox_istore_n B 2 od_Round_follow_105 rfl (by decide) rfl (L2 := [some (.ref (ad 7)), some (.int x1), some (.int v6), some (.int x3), some (.int x4), none]) rfl ?_
      obtain ⟨v7, ev7, h⟩ := ox_let_some h
      refine ox_iinc B od_Round_follow_106 rfl ((congrArg (x3 + ·) oxk_i1).trans ev7.symm) (by decide) rfl (L2 := [some (.ref (ad 7)), some (.int x1), some (.int v6), some (.int v7), some (.int x4), none]) rfl ?_
      refine ox_goto B 11 od_Round_follow_109 rfl ?_
      cases h
      exact (ox_mask [true, true, true, true, false, false] hG)
    · rw [if_neg hc] at h
      refine ox_iload_n B 1 od_Round_follow_38 rfl rfl ?_
      refine ox_aload_n B 0 od_Round_follow_39 rfl rfl ?_
      refine ocg_Round_19 B F od_Round_follow_40 ?_
      refine ox_aload_n B 0 od_Round_follow_43 rfl rfl ?_
      refine ocg_Round_9 B F od_Round_follow_44 ?_
      refine ox_iload_n B 3 od_Round_follow_47 rfl rfl ?_
      refine ox_iconst B od_Round_follow_48 oxk_i1 ?_
      refine ox_isub B od_Round_follow_49 ?_
      obtain ⟨j8, ej8, hj8, h⟩ := ox_ix_some2 h
      refine ocal_16 B F od_Round_follow_50 hj8 ej8 ?_
      refine ox_iload B od_Round_follow_51 rfl ?_
      obtain ⟨r9, hr9, h⟩ := ox_bind h
      refine occ_Round_29 B F od_Round_follow_53 (As := [.int (σ.2 16 j8), .int x4]) (rest := [.int x1]) (st2 := [.int r9, .int x1]) (ct_oc_Land_edgeBit hok (σ.2 16 j8) x4 σ _ hr9) ⟨rfl, rfl, Nat.le_of_ble_eq_true rfl, Nat.le_of_ble_eq_true rfl⟩ rfl (Nat.le_of_ble_eq_true rfl) rfl rfl ?_
      refine ox_iand B od_Round_follow_56 ?_
      refine ox_if_eq B 64 od_Round_follow_57 rfl (fun hc => ?_) (fun hc => ?_)
      · rw [if_pos hc] at h
        refine ox_iconst B od_Round_follow_64 oxk_i0 ?_
        exact (t_65 x1 x2 x3 x4 (0 : Int32) σ _ h hG)
      · rw [if_neg hc] at h
        refine ox_iconst B od_Round_follow_60 oxk_i1 ?_
        refine ox_goto B 65 od_Round_follow_61 rfl ?_
        exact (t_65 x1 x2 x3 x4 (1 : Int32) σ _ h hG)
  have t_33 : ∀ (x1 : Int32) (x2 : Int32) (x3 : Int32) (x4 : Int32) (σ : ox_S) (t : ((Int32 × Int32 × ox_S) ⊕ ox_S)), oc_Round_follow_h33 x1 x2 x3 x4 σ = some t → (ox_G (fun t : (Int32 × Int32 × ox_S) => ox_M p l e rm_oc_Round_follow s m args below meth c (oc_W D ad cI cC A adK adV) 6 res σf 11 [some (.ref (ad 7)), some (.int x1), some (.int t.1), some (.int t.2.1), none, none] [] t.2.2) (fun t : ox_S => res = none ∧ σf = t)) t → ox_M p l e rm_oc_Round_follow s m args below meth c (oc_W D ad cI cC A adK adV) 6 res σf 33 [some (.ref (ad 7)), some (.int x1), some (.int x2), some (.int x3), some (.int x4), none] [] σ := by
    intro x1 x2 x3 x4 σ t h hG
    exact ox_w_run (fun t : (Int32 × ox_S) => ox_M p l e rm_oc_Round_follow s m args below meth c (oc_W D ad cI cC A adK adV) 6 res σf 33 [some (.ref (ad 7)), some (.int x1), some (.int x2), some (.int x3), some (.int t.1), none] [] t.2) (ox_G (fun t : (Int32 × Int32 × ox_S) => ox_M p l e rm_oc_Round_follow s m args below meth c (oc_W D ad cI cC A adK adV) 6 res σf 11 [some (.ref (ad 7)), some (.int x1), some (.int t.1), some (.int t.2.1), none, none] [] t.2.2) (fun t : ox_S => res = none ∧ σf = t)) (fun a t h hG => t_b33 x1 x2 x3 a.1 a.2 t h hG) (x4, σ) t h hG
  have t_b11 : ∀ (x1 : Int32) (x2 : Int32) (x3 : Int32) (σ : ox_S) (t : ((Int32 × Int32 × ox_S) ⊕ ox_S)), oc_Round_follow_b11 x1 x2 x3 σ = some t → (ox_G (fun t : (Int32 × Int32 × ox_S) => ox_M p l e rm_oc_Round_follow s m args below meth c (oc_W D ad cI cC A adK adV) 6 res σf 11 [some (.ref (ad 7)), some (.int x1), some (.int t.1), some (.int t.2.1), none, none] [] t.2.2) (fun t : ox_S => res = none ∧ σf = t)) t → ox_M p l e rm_oc_Round_follow s m args below meth c (oc_W D ad cI cC A adK adV) 6 res σf 11 [some (.ref (ad 7)), some (.int x1), some (.int x2), some (.int x3), none, none] [] σ := by
    intro x1 x2 x3 σ t h hG
    unfold oc_Round_follow_b11 at h
    refine ox_iload_n B 3 od_Round_follow_11 rfl rfl ?_
    refine ox_aload_n B 0 od_Round_follow_12 rfl rfl ?_
    refine ocg_Round_19 B F od_Round_follow_13 ?_
    refine ocg_Round_23 B F od_Round_follow_16 ?_
    refine ox_icmp_ge B 112 od_Round_follow_19 rfl (fun hc => ?_) (fun hc => ?_)
    · rw [if_pos hc] at h
      refine ox_aload_n B 0 od_Round_follow_112 rfl rfl ?_
      refine ox_iconst B od_Round_follow_113 oxk_i1 ?_
      obtain ⟨s3, es3, h⟩ := ox_let_some h
      refine ocp_Round_15 B F od_Round_follow_114 (Or.inr rfl) es3 ?_
      cases h
      exact ox_vret B F od_Round_follow_117 rfl hG
    · rw [if_neg hc] at h
      refine ox_aload_n B 0 od_Round_follow_22 rfl rfl ?_
      refine ocg_Round_19 B F od_Round_follow_23 ?_
      refine ocg_Round_23 B F od_Round_follow_26 ?_
      refine ox_iconst B od_Round_follow_29 oxk_i1 ?_
      refine ox_isub B od_Round_follow_30 ?_
      obtain ⟨v4, ev4, h⟩ := ox_let_some h
      refine ox_topi ev4 ?_
      refine ox_istore B od_Round_follow_31 (by decide) rfl (L2 := [some (.ref (ad 7)), some (.int x1), some (.int x2), some (.int x3), some (.int v4), none]) rfl ?_
      exact (t_33 x1 x2 x3 v4 σ _ h hG)
  have t_11 : ∀ (x1 : Int32) (x2 : Int32) (x3 : Int32) (σ : ox_S) (t : ox_S), oc_Round_follow_h11 x1 x2 x3 σ = some t → (fun t : ox_S => res = none ∧ σf = t) t → ox_M p l e rm_oc_Round_follow s m args below meth c (oc_W D ad cI cC A adK adV) 6 res σf 11 [some (.ref (ad 7)), some (.int x1), some (.int x2), some (.int x3), none, none] [] σ := by
    intro x1 x2 x3 σ t h hG
    exact ox_w_run (fun t : (Int32 × Int32 × ox_S) => ox_M p l e rm_oc_Round_follow s m args below meth c (oc_W D ad cI cC A adK adV) 6 res σf 11 [some (.ref (ad 7)), some (.int x1), some (.int t.1), some (.int t.2.1), none, none] [] t.2.2) (fun t : ox_S => res = none ∧ σf = t) (fun a t h hG => t_b11 x1 a.1 a.2.1 a.2.2 t h hG) (x2, x3, σ) t h hG
  change ox_M p l e rm_oc_Round_follow s m args below meth c (oc_W D ad cI cC A adK adV) 6 res σf 0 [some (.ref (ad 7)), some (.int x1), none, none, none, none] [] σ
  unfold oc_Round_follow at h
  refine ox_iconst B od_Round_follow_0 oxk_i1 ?_
  refine ox_istore_n B 2 od_Round_follow_1 rfl (by decide) rfl (L2 := [some (.ref (ad 7)), some (.int x1), some (.int (1 : Int32)), none, none, none]) rfl ?_
  refine ox_aload_n B 0 od_Round_follow_2 rfl rfl ?_
  refine ocg_Round_9 B F od_Round_follow_3 ?_
  refine ox_iconst B od_Round_follow_6 oxk_i0 ?_
  refine ox_iconst B od_Round_follow_7 oxk_i0 ?_
  obtain ⟨j1, ej1, hj1, h⟩ := ox_ix_some2 h
  obtain ⟨s2, es2, h⟩ := ox_let_some h
  refine ocas_16 B F od_Round_follow_8 hj1 ej1 es2 ?_
  refine ox_iconst B od_Round_follow_9 oxk_i1 ?_
  refine ox_istore_n B 3 od_Round_follow_10 rfl (by decide) rfl (L2 := [some (.ref (ad 7)), some (.int x1), some (.int (1 : Int32)), some (.int (1 : Int32)), none, none]) rfl ?_
  exact (t_11 x1 (1 : Int32) (1 : Int32) s2 _ h hG)
abbrev rm_oc_T_solve : Room := { frames := 3, cells := 0, slots := 0, locals := 65 }
set_option maxRecDepth 100000 in
set_option maxHeartbeats 4000000 in
theorem ct_oc_T_solve {l : Launch} {D : va_G} {ad : Nat → Nat} {cI cC : ClassId} {A : Nat → Prop} {adK adV : Nat → Nat} (hok : ox_ok (oc_W D ad cI cC A adK adV))  (σ : ox_S) (t : (Int32 × ox_S)) (h : oc_T_solve  σ = some t) : Met l oy_T_solve (Cond.code oy_T_solve prog_1_method_13_code 2 (some .int) :: ox_ws) rm_oc_T_solve (ox_P (oc_W D ad cI cC A adK adV) [.ref (ad 0)] σ) (ox_Q (oc_W D ad cI cC A adK adV) (some (.int t.1)) t.2) 0 0 A := by
  refine ox_met (ω := oc_W D ad cI cC A adK adV) (by decide) rfl hok (Nat.le_of_ble_eq_true rfl) ?_
  intro p e s m args below meth c B F
  generalize hres : (some (.int t.1) : Option Value) = res
  generalize hσf : t.2 = σf
  have hG : (fun t : (Int32 × ox_S) => res = some (.int t.1) ∧ σf = t.2) t := ⟨hres.symm, hσf.symm⟩
  change ox_M p l e rm_oc_T_solve s m args below meth c (oc_W D ad cI cC A adK adV) 2 res σf 0 [some (.ref (ad 0)), none] [] σ
  unfold oc_T_solve at h
  refine ox_aload_n B 0 od_T_solve_0 rfl rfl ?_
  refine ocg_T_44 B F od_T_solve_1 ?_
  obtain ⟨r1, hr1, h⟩ := ox_bind h
  refine occ_T_141 B F od_T_solve_4 (As := []) (rest := []) (st2 := [.int r1]) (ct_oc_TourList_firstLeast hok σ _ hr1) ⟨rfl, rfl, Nat.le_of_ble_eq_true rfl, Nat.le_of_ble_eq_true rfl⟩ rfl (Nat.le_of_ble_eq_true rfl) rfl rfl ?_
  refine ox_istore_n B 1 od_T_solve_7 rfl (by decide) rfl (L2 := [some (.ref (ad 0)), some (.int r1)]) rfl ?_
  refine ox_iload_n B 1 od_T_solve_8 rfl rfl ?_
  refine ox_if_ge B 15 od_T_solve_9 rfl (fun hc => ?_) (fun hc => ?_)
  · rw [if_pos hc] at h
    refine ox_aload_n B 0 od_T_solve_15 rfl rfl ?_
    refine ocg_T_51 B F od_T_solve_16 ?_
    refine ox_aload_n B 0 od_T_solve_19 rfl rfl ?_
    refine ocg_T_44 B F od_T_solve_20 ?_
    refine ocg_T_145 B F od_T_solve_23 ?_
    refine ox_iload_n B 1 od_T_solve_26 rfl rfl ?_
    obtain ⟨j2, ej2, hj2, h⟩ := ox_ix_some2 h
    refine ocal_14 B F od_T_solve_27 hj2 ej2 ?_
    obtain ⟨s3, hs3, h⟩ := ox_bind h
    refine occ_T_148 B F od_T_solve_28 (As := [.int (σ.2 14 j2)]) (rest := []) (st2 := []) (ct_oc_Round_follow hok (σ.2 14 j2) σ _ hs3) ⟨rfl, rfl, Nat.le_of_ble_eq_true rfl, Nat.le_of_ble_eq_true rfl⟩ rfl (Nat.le_of_ble_eq_true rfl) rfl rfl ?_
    refine ox_aload_n B 0 od_T_solve_31 rfl rfl ?_
    refine ocg_T_44 B F od_T_solve_32 ?_
    refine ocg_T_152 B F od_T_solve_35 ?_
    refine ox_iload_n B 1 od_T_solve_38 rfl rfl ?_
    obtain ⟨j4, ej4, hj4, h⟩ := ox_ix_some2 h
    refine ocal_15 B F od_T_solve_39 hj4 ej4 ?_
    cases h
    exact ox_iret B F od_T_solve_40 rfl rfl hG
  · rw [if_neg hc] at h
    refine ox_ldc B od_T_solve_12 ock_T_144 ?_
    cases h
    exact ox_iret B F od_T_solve_14 rfl rfl hG
abbrev rm_oc_TourList_countLeast : Room := { frames := 3, cells := 0, slots := 0, locals := 65 }
set_option maxRecDepth 100000 in
set_option maxHeartbeats 4000000 in
theorem ct_oc_TourList_countLeast {l : Launch} {D : va_G} {ad : Nat → Nat} {cI cC : ClassId} {A : Nat → Prop} {adK adV : Nat → Nat} (hok : ox_ok (oc_W D ad cI cC A adK adV))  (σ : ox_S) (t : Int32) (h : oc_TourList_countLeast  σ = some t) : Met l oy_TourList_countLeast (Cond.code oy_TourList_countLeast prog_9_method_4_code 4 (some .int) :: ox_ws) rm_oc_TourList_countLeast (ox_P (oc_W D ad cI cC A adK adV) [.ref (ad 6)] σ) (ox_Q (oc_W D ad cI cC A adK adV) (some (.int t)) σ) 0 0 A := by
  refine ox_met (ω := oc_W D ad cI cC A adK adV) (by decide) rfl hok (Nat.le_of_ble_eq_true rfl) ?_
  intro p e s m args below meth c B F
  generalize hres : (some (.int t) : Option Value) = res
  have hG : (fun t : Int32 => res = some (.int t) ∧ σ = σ) t := ⟨hres.symm, rfl⟩
  have t_b15 : ∀ (x1 : Int32) (x2 : Int32) (x3 : Int32)  (t : ((Int32 × Int32) ⊕ Int32)), oc_TourList_countLeast_b15 x1 x2 x3 σ = some t → (ox_G (fun t : (Int32 × Int32) => ox_M p l e rm_oc_TourList_countLeast s m args below meth c (oc_W D ad cI cC A adK adV) 4 res σ 15 [some (.ref (ad 6)), some (.int x1), some (.int t.1), some (.int t.2)] [] σ) (fun t : Int32 => res = some (.int t) ∧ σ = σ)) t → ox_M p l e rm_oc_TourList_countLeast s m args below meth c (oc_W D ad cI cC A adK adV) 4 res σ 15 [some (.ref (ad 6)), some (.int x1), some (.int x2), some (.int x3)] [] σ := by
    intro x1 x2 x3  t h hG
    unfold oc_TourList_countLeast_b15 at h
    refine ox_iload_n B 3 od_TourList_countLeast_15 rfl rfl ?_
    refine ox_aload_n B 0 od_TourList_countLeast_16 rfl rfl ?_
    refine ocg_TourList_21 B F od_TourList_countLeast_17 ?_
    refine ox_icmp_ge B 55 od_TourList_countLeast_20 rfl (fun hc => ?_) (fun hc => ?_)
    · rw [if_pos hc] at h
      refine ox_iload_n B 2 od_TourList_countLeast_55 rfl rfl ?_
      cases h
      exact ox_iret B F od_TourList_countLeast_56 rfl rfl hG
    · rw [if_neg hc] at h
      refine ox_aload_n B 0 od_TourList_countLeast_23 rfl rfl ?_
      refine ocg_TourList_18 B F od_TourList_countLeast_24 ?_
      refine ox_iload_n B 3 od_TourList_countLeast_27 rfl rfl ?_
      obtain ⟨j2, ej2, hj2, h⟩ := ox_ix_some2 h
      refine ocal_15 B F od_TourList_countLeast_28 hj2 ej2 ?_
      refine ox_aload_n B 0 od_TourList_countLeast_29 rfl rfl ?_
      refine ocg_TourList_18 B F od_TourList_countLeast_30 ?_
      refine ox_iload_n B 1 od_TourList_countLeast_33 rfl rfl ?_
      obtain ⟨j3, ej3, hj3, h⟩ := ox_ix_some2 h
      refine ocal_15 B F od_TourList_countLeast_34 hj3 ej3 ?_
      refine ox_icmp_ne B 49 od_TourList_countLeast_35 rfl (fun hc => ?_) (fun hc => ?_)
      · rw [if_neg hc] at h
        obtain ⟨v4, ev4, h⟩ := ox_let_some h
        refine ox_iinc B od_TourList_countLeast_49 rfl ((congrArg (x3 + ·) oxk_i1).trans ev4.symm) (by decide) rfl (L2 := [some (.ref (ad 6)), some (.int x1), some (.int x2), some (.int v4)]) rfl ?_
        refine ox_goto B 15 od_TourList_countLeast_52 rfl ?_
        cases h
        exact hG
      · rw [if_pos hc] at h
        refine ox_aload_n B 0 od_TourList_countLeast_38 rfl rfl ?_
        refine ox_iload_n B 3 od_TourList_countLeast_39 rfl rfl ?_
        obtain ⟨r5, hr5, h⟩ := ox_bind h
        refine occ_TourList_41 B F od_TourList_countLeast_40 (As := [.int x3]) (rest := []) (st2 := [.int r5]) (ct_oc_TourList_isAllowed hok x3 σ _ hr5) ⟨rfl, rfl, Nat.le_of_ble_eq_true rfl, Nat.le_of_ble_eq_true rfl⟩ rfl (Nat.le_of_ble_eq_true rfl) rfl rfl ?_
        refine ox_if_eq B 49 od_TourList_countLeast_43 rfl (fun hc => ?_) (fun hc => ?_)
        · rw [if_pos hc] at h
          obtain ⟨v6, ev6, h⟩ := ox_let_some h
          refine ox_iinc B od_TourList_countLeast_49 rfl ((congrArg (x3 + ·) oxk_i1).trans ev6.symm) (by decide) rfl (L2 := [some (.ref (ad 6)), some (.int x1), some (.int x2), some (.int v6)]) rfl ?_
          refine ox_goto B 15 od_TourList_countLeast_52 rfl ?_
          cases h
          exact hG
        · rw [if_neg hc] at h
          obtain ⟨v7, ev7, h⟩ := ox_let_some h
          refine ox_iinc B od_TourList_countLeast_46 rfl ((congrArg (x2 + ·) oxk_i1).trans ev7.symm) (by decide) rfl (L2 := [some (.ref (ad 6)), some (.int x1), some (.int v7), some (.int x3)]) rfl ?_
          obtain ⟨v8, ev8, h⟩ := ox_let_some h
          refine ox_iinc B od_TourList_countLeast_49 rfl ((congrArg (x3 + ·) oxk_i1).trans ev8.symm) (by decide) rfl (L2 := [some (.ref (ad 6)), some (.int x1), some (.int v7), some (.int v8)]) rfl ?_
          refine ox_goto B 15 od_TourList_countLeast_52 rfl ?_
          cases h
          exact hG
  have t_15 : ∀ (x1 : Int32) (x2 : Int32) (x3 : Int32)  (t : Int32), oc_TourList_countLeast_h15 x1 x2 x3 σ = some t → (fun t : Int32 => res = some (.int t) ∧ σ = σ) t → ox_M p l e rm_oc_TourList_countLeast s m args below meth c (oc_W D ad cI cC A adK adV) 4 res σ 15 [some (.ref (ad 6)), some (.int x1), some (.int x2), some (.int x3)] [] σ := by
    intro x1 x2 x3  t h hG
    exact ox_w_run (fun t : (Int32 × Int32) => ox_M p l e rm_oc_TourList_countLeast s m args below meth c (oc_W D ad cI cC A adK adV) 4 res σ 15 [some (.ref (ad 6)), some (.int x1), some (.int t.1), some (.int t.2)] [] σ) (fun t : Int32 => res = some (.int t) ∧ σ = σ) (fun a t h hG => t_b15 x1 a.1 a.2  t h hG) (x2, x3) t h hG
  change ox_M p l e rm_oc_TourList_countLeast s m args below meth c (oc_W D ad cI cC A adK adV) 4 res σ 0 [some (.ref (ad 6)), none, none, none] [] σ
  unfold oc_TourList_countLeast at h
  refine ox_aload_n B 0 od_TourList_countLeast_0 rfl rfl ?_
  obtain ⟨r1, hr1, h⟩ := ox_bind h
  refine occ_TourList_45 B F od_TourList_countLeast_1 (As := []) (rest := []) (st2 := [.int r1]) (ct_oc_TourList_firstLeast hok σ _ hr1) ⟨rfl, rfl, Nat.le_of_ble_eq_true rfl, Nat.le_of_ble_eq_true rfl⟩ rfl (Nat.le_of_ble_eq_true rfl) rfl rfl ?_
  refine ox_istore_n B 1 od_TourList_countLeast_4 rfl (by decide) rfl (L2 := [some (.ref (ad 6)), some (.int r1), none, none]) rfl ?_
  refine ox_iload_n B 1 od_TourList_countLeast_5 rfl rfl ?_
  refine ox_if_ge B 11 od_TourList_countLeast_6 rfl (fun hc => ?_) (fun hc => ?_)
  · rw [if_pos hc] at h
    refine ox_iconst B od_TourList_countLeast_11 oxk_i0 ?_
    refine ox_istore_n B 2 od_TourList_countLeast_12 rfl (by decide) rfl (L2 := [some (.ref (ad 6)), some (.int r1), some (.int (0 : Int32)), none]) rfl ?_
    refine ox_iload_n B 1 od_TourList_countLeast_13 rfl rfl ?_
    refine ox_istore_n B 3 od_TourList_countLeast_14 rfl (by decide) rfl (L2 := [some (.ref (ad 6)), some (.int r1), some (.int (0 : Int32)), some (.int r1)]) rfl ?_
    exact (t_15 r1 (0 : Int32) r1 _ h hG)
  · rw [if_neg hc] at h
    refine ox_iconst B od_TourList_countLeast_9 oxk_i0 ?_
    cases h
    exact ox_iret B F od_TourList_countLeast_10 rfl rfl hG
abbrev rm_oc_T_ties : Room := { frames := 4, cells := 0, slots := 0, locals := 88 }
set_option maxRecDepth 100000 in
set_option maxHeartbeats 4000000 in
theorem ct_oc_T_ties {l : Launch} {D : va_G} {ad : Nat → Nat} {cI cC : ClassId} {A : Nat → Prop} {adK adV : Nat → Nat} (hok : ox_ok (oc_W D ad cI cC A adK adV))  (σ : ox_S) (t : Int32) (h : oc_T_ties  σ = some t) : Met l oy_T_ties (Cond.code oy_T_ties prog_1_method_14_code 1 (some .int) :: ox_ws) rm_oc_T_ties (ox_P (oc_W D ad cI cC A adK adV) [.ref (ad 0)] σ) (ox_Q (oc_W D ad cI cC A adK adV) (some (.int t)) σ) 0 0 A := by
  refine ox_met (ω := oc_W D ad cI cC A adK adV) (by decide) rfl hok (Nat.le_of_ble_eq_true rfl) ?_
  intro p e s m args below meth c B F
  generalize hres : (some (.int t) : Option Value) = res
  have hG : (fun t : Int32 => res = some (.int t) ∧ σ = σ) t := ⟨hres.symm, rfl⟩
  change ox_M p l e rm_oc_T_ties s m args below meth c (oc_W D ad cI cC A adK adV) 1 res σ 0 [some (.ref (ad 0))] [] σ
  unfold oc_T_ties at h
  refine ox_aload_n B 0 od_T_ties_0 rfl rfl ?_
  refine ocg_T_44 B F od_T_ties_1 ?_
  obtain ⟨r1, hr1, h⟩ := ox_bind h
  refine occ_T_155 B F od_T_ties_4 (As := []) (rest := []) (st2 := [.int r1]) (ct_oc_TourList_countLeast hok σ _ hr1) ⟨rfl, rfl, Nat.le_of_ble_eq_true rfl, Nat.le_of_ble_eq_true rfl⟩ rfl (Nat.le_of_ble_eq_true rfl) rfl rfl ?_
  cases h
  exact ox_iret B F od_T_ties_7 rfl rfl hG
abbrev rm_oc_Round_nearest : Room := { frames := 1, cells := 0, slots := 0, locals := 22 }
set_option maxRecDepth 100000 in
set_option maxHeartbeats 4000000 in
theorem ct_oc_Round_nearest {l : Launch} {D : va_G} {ad : Nat → Nat} {cI cC : ClassId} {A : Nat → Prop} {adK adV : Nat → Nat} (hok : ox_ok (oc_W D ad cI cC A adK adV)) (x1 : Int32) (x2 : Int32) (σ : ox_S) (t : Int32) (h : oc_Round_nearest x1 x2 σ = some t) : Met l oy_Round_nearest (Cond.code oy_Round_nearest prog_7_method_4_code 6 (some .int) :: ox_ws) rm_oc_Round_nearest (ox_P (oc_W D ad cI cC A adK adV) [.ref (ad 7), .int x1, .int x2] σ) (ox_Q (oc_W D ad cI cC A adK adV) (some (.int t)) σ) 0 0 A := by
  refine ox_met (ω := oc_W D ad cI cC A adK adV) (by decide) rfl hok (Nat.le_of_ble_eq_true rfl) ?_
  intro p e s m args below meth c B F
  generalize hres : (some (.int t) : Option Value) = res
  have hG : (fun t : Int32 => res = some (.int t) ∧ σ = σ) t := ⟨hres.symm, rfl⟩
  have t_31 : ∀ (x1 : Int32) (x2 : Int32) (x3 : Int32) (x4 : Int32) (y0 : Int32)  (t : ((Int32 × Int32) ⊕ Int32)), oc_Round_nearest_j31 x1 x2 x3 x4 y0 σ = some t → (ox_G (fun t : (Int32 × Int32) => ox_M p l e rm_oc_Round_nearest s m args below meth c (oc_W D ad cI cC A adK adV) 6 res σ 5 [some (.ref (ad 7)), some (.int x1), some (.int x2), some (.int t.1), some (.int t.2), none] [] σ) (fun t : Int32 => res = some (.int t) ∧ σ = σ)) t → ox_M p l e rm_oc_Round_nearest s m args below meth c (oc_W D ad cI cC A adK adV) 6 res σ 31 [some (.ref (ad 7)), some (.int x1), some (.int x2), some (.int x3), some (.int x4), none] [.int y0] σ := by
    intro x1 x2 x3 x4 y0  t h hG
    unfold oc_Round_nearest_j31 at h
    refine ox_istore B od_Round_nearest_31 (by decide) rfl (L2 := [some (.ref (ad 7)), some (.int x1), some (.int x2), some (.int x3), some (.int x4), some (.int y0)]) rfl ?_
    refine ox_iload B od_Round_nearest_33 rfl ?_
    refine ox_if_eq B 67 od_Round_nearest_35 rfl (fun hc => ?_) (fun hc => ?_)
    · rw [if_pos hc] at h
      obtain ⟨v1, ev1, h⟩ := ox_let_some h
      refine ox_iinc B od_Round_nearest_67 rfl ((congrArg (x4 + ·) oxk_i1).trans ev1.symm) (by decide) rfl (L2 := [some (.ref (ad 7)), some (.int x1), some (.int x2), some (.int x3), some (.int v1), some (.int y0)]) rfl ?_
      refine ox_goto B 5 od_Round_nearest_70 rfl ?_
      cases h
      exact (ox_mask [true, true, true, true, true, false] hG)
    · rw [if_neg hc] at h
      refine ox_iload_n B 3 od_Round_nearest_38 rfl rfl ?_
      refine ox_if_eq B 64 od_Round_nearest_39 rfl (fun hc => ?_) (fun hc => ?_)
      · rw [if_pos hc] at h
        refine ox_iload B od_Round_nearest_64 rfl ?_
        refine ox_istore_n B 3 od_Round_nearest_66 rfl (by decide) rfl (L2 := [some (.ref (ad 7)), some (.int x1), some (.int x2), some (.int x4), some (.int x4), some (.int y0)]) rfl ?_
        obtain ⟨v2, ev2, h⟩ := ox_let_some h
        refine ox_iinc B od_Round_nearest_67 rfl ((congrArg (x4 + ·) oxk_i1).trans ev2.symm) (by decide) rfl (L2 := [some (.ref (ad 7)), some (.int x1), some (.int x2), some (.int x4), some (.int v2), some (.int y0)]) rfl ?_
        refine ox_goto B 5 od_Round_nearest_70 rfl ?_
        cases h
        exact (ox_mask [true, true, true, true, true, false] hG)
      · rw [if_neg hc] at h
        refine ox_aload_n B 0 od_Round_nearest_42 rfl rfl ?_
        refine ocg_Round_19 B F od_Round_nearest_43 ?_
        refine ox_iload_n B 1 od_Round_nearest_46 rfl rfl ?_
        refine ox_iload B od_Round_nearest_47 rfl ?_
        obtain ⟨r3, hr3, h⟩ := ox_bind h
        refine occ_Round_36 B F od_Round_nearest_49 (As := [.int x1, .int x4]) (rest := []) (st2 := [.int r3]) (ct_oc_Land_between hok x1 x4 σ _ hr3) ⟨rfl, rfl, Nat.le_of_ble_eq_true rfl, Nat.le_of_ble_eq_true rfl⟩ rfl (Nat.le_of_ble_eq_true rfl) rfl rfl ?_
        refine ox_aload_n B 0 od_Round_nearest_52 rfl rfl ?_
        refine ocg_Round_19 B F od_Round_nearest_53 ?_
        refine ox_iload_n B 1 od_Round_nearest_56 rfl rfl ?_
        refine ox_iload_n B 3 od_Round_nearest_57 rfl rfl ?_
        obtain ⟨r4, hr4, h⟩ := ox_bind h
        refine occ_Round_36 B F od_Round_nearest_58 (As := [.int x1, .int x3]) (rest := [.int r3]) (st2 := [.int r4, .int r3]) (ct_oc_Land_between hok x1 x3 σ _ hr4) ⟨rfl, rfl, Nat.le_of_ble_eq_true rfl, Nat.le_of_ble_eq_true rfl⟩ rfl (Nat.le_of_ble_eq_true rfl) rfl rfl ?_
        refine ox_icmp_ge B 67 od_Round_nearest_61 rfl (fun hc => ?_) (fun hc => ?_)
        · rw [if_pos hc] at h
          obtain ⟨v5, ev5, h⟩ := ox_let_some h
          refine ox_iinc B od_Round_nearest_67 rfl ((congrArg (x4 + ·) oxk_i1).trans ev5.symm) (by decide) rfl (L2 := [some (.ref (ad 7)), some (.int x1), some (.int x2), some (.int x3), some (.int v5), some (.int y0)]) rfl ?_
          refine ox_goto B 5 od_Round_nearest_70 rfl ?_
          cases h
          exact (ox_mask [true, true, true, true, true, false] hG)
        · rw [if_neg hc] at h
          refine ox_iload B od_Round_nearest_64 rfl ?_
          refine ox_istore_n B 3 od_Round_nearest_66 rfl (by decide) rfl (L2 := [some (.ref (ad 7)), some (.int x1), some (.int x2), some (.int x4), some (.int x4), some (.int y0)]) rfl ?_
          obtain ⟨v6, ev6, h⟩ := ox_let_some h
          refine ox_iinc B od_Round_nearest_67 rfl ((congrArg (x4 + ·) oxk_i1).trans ev6.symm) (by decide) rfl (L2 := [some (.ref (ad 7)), some (.int x1), some (.int x2), some (.int x4), some (.int v6), some (.int y0)]) rfl ?_
          refine ox_goto B 5 od_Round_nearest_70 rfl ?_
          cases h
          exact (ox_mask [true, true, true, true, true, false] hG)
  have t_b5 : ∀ (x1 : Int32) (x2 : Int32) (x3 : Int32) (x4 : Int32)  (t : ((Int32 × Int32) ⊕ Int32)), oc_Round_nearest_b5 x1 x2 x3 x4 σ = some t → (ox_G (fun t : (Int32 × Int32) => ox_M p l e rm_oc_Round_nearest s m args below meth c (oc_W D ad cI cC A adK adV) 6 res σ 5 [some (.ref (ad 7)), some (.int x1), some (.int x2), some (.int t.1), some (.int t.2), none] [] σ) (fun t : Int32 => res = some (.int t) ∧ σ = σ)) t → ox_M p l e rm_oc_Round_nearest s m args below meth c (oc_W D ad cI cC A adK adV) 6 res σ 5 [some (.ref (ad 7)), some (.int x1), some (.int x2), some (.int x3), some (.int x4), none] [] σ := by
    intro x1 x2 x3 x4  t h hG
    unfold oc_Round_nearest_b5 at h
    refine ox_iload B od_Round_nearest_5 rfl ?_
    refine ox_aload_n B 0 od_Round_nearest_7 rfl rfl ?_
    refine ocg_Round_19 B F od_Round_nearest_8 ?_
    refine ocg_Round_23 B F od_Round_nearest_11 ?_
    refine ox_icmp_ge B 73 od_Round_nearest_14 rfl (fun hc => ?_) (fun hc => ?_)
    · rw [if_pos hc] at h
      refine ox_iload_n B 3 od_Round_nearest_73 rfl rfl ?_
      cases h
      exact ox_iret B F od_Round_nearest_74 rfl rfl hG
    · rw [if_neg hc] at h
      refine ox_iload_n B 2 od_Round_nearest_17 rfl rfl ?_
      refine ox_iload B od_Round_nearest_18 rfl ?_
      refine ox_ishr B od_Round_nearest_20 ?_
      refine ox_iconst B od_Round_nearest_21 oxk_i1 ?_
      refine ox_iand B od_Round_nearest_22 ?_
      refine ox_if_ne B 30 od_Round_nearest_23 rfl (fun hc => ?_) (fun hc => ?_)
      · rw [if_neg hc] at h
        refine ox_iconst B od_Round_nearest_30 oxk_i0 ?_
        exact (t_31 x1 x2 x3 x4 (0 : Int32) _ h hG)
      · rw [if_pos hc] at h
        refine ox_iconst B od_Round_nearest_26 oxk_i1 ?_
        refine ox_goto B 31 od_Round_nearest_27 rfl ?_
        exact (t_31 x1 x2 x3 x4 (1 : Int32) _ h hG)
  have t_5 : ∀ (x1 : Int32) (x2 : Int32) (x3 : Int32) (x4 : Int32)  (t : Int32), oc_Round_nearest_h5 x1 x2 x3 x4 σ = some t → (fun t : Int32 => res = some (.int t) ∧ σ = σ) t → ox_M p l e rm_oc_Round_nearest s m args below meth c (oc_W D ad cI cC A adK adV) 6 res σ 5 [some (.ref (ad 7)), some (.int x1), some (.int x2), some (.int x3), some (.int x4), none] [] σ := by
    intro x1 x2 x3 x4  t h hG
    exact ox_w_run (fun t : (Int32 × Int32) => ox_M p l e rm_oc_Round_nearest s m args below meth c (oc_W D ad cI cC A adK adV) 6 res σ 5 [some (.ref (ad 7)), some (.int x1), some (.int x2), some (.int t.1), some (.int t.2), none] [] σ) (fun t : Int32 => res = some (.int t) ∧ σ = σ) (fun a t h hG => t_b5 x1 x2 a.1 a.2  t h hG) (x3, x4) t h hG
  change ox_M p l e rm_oc_Round_nearest s m args below meth c (oc_W D ad cI cC A adK adV) 6 res σ 0 [some (.ref (ad 7)), some (.int x1), some (.int x2), none, none, none] [] σ
  unfold oc_Round_nearest at h
  refine ox_iconst B od_Round_nearest_0 oxk_i0 ?_
  refine ox_istore_n B 3 od_Round_nearest_1 rfl (by decide) rfl (L2 := [some (.ref (ad 7)), some (.int x1), some (.int x2), some (.int (0 : Int32)), none, none]) rfl ?_
  refine ox_iconst B od_Round_nearest_2 oxk_i1 ?_
  refine ox_istore B od_Round_nearest_3 (by decide) rfl (L2 := [some (.ref (ad 7)), some (.int x1), some (.int x2), some (.int (0 : Int32)), some (.int (1 : Int32)), none]) rfl ?_
  exact (t_5 x1 x2 (0 : Int32) (1 : Int32) _ h hG)
abbrev rm_oc_Round_goToNearest : Room := { frames := 2, cells := 0, slots := 0, locals := 47 }
set_option maxRecDepth 100000 in
set_option maxHeartbeats 4000000 in
theorem ct_oc_Round_goToNearest {l : Launch} {D : va_G} {ad : Nat → Nat} {cI cC : ClassId} {A : Nat → Prop} {adK adV : Nat → Nat} (hok : ox_ok (oc_W D ad cI cC A adK adV))  (σ : ox_S) (t : ox_S) (h : oc_Round_goToNearest  σ = some t) : Met l oy_Round_goToNearest (Cond.code oy_Round_goToNearest prog_7_method_3_code 3 none :: ox_ws) rm_oc_Round_goToNearest (ox_P (oc_W D ad cI cC A adK adV) [.ref (ad 7)] σ) (ox_Q (oc_W D ad cI cC A adK adV) none t) 0 0 A := by
  refine ox_met (ω := oc_W D ad cI cC A adK adV) (by decide) rfl hok (Nat.le_of_ble_eq_true rfl) ?_
  intro p e s m args below meth c B F
  generalize hres : (none : Option Value) = res
  have hG : res = none ∧ t = t := ⟨hres.symm, rfl⟩
  obtain ⟨σf, hσf⟩ : ∃ z, z = t := ⟨_, rfl⟩
  have hG : (fun t : ox_S => res = none ∧ σf = t) t := ⟨hres.symm, hσf⟩
  rw [show ox_M p l e rm_oc_Round_goToNearest s m args below meth c (oc_W D ad cI cC A adK adV) 3 res t 0 (ox_l0 [.ref (ad 7)] 3) [] σ = ox_M p l e rm_oc_Round_goToNearest s m args below meth c (oc_W D ad cI cC A adK adV) 3 res σf 0 (ox_l0 [.ref (ad 7)] 3) [] σ by rw [hσf]]
  have t_b11 : ∀ (x1 : Int32) (x2 : Int32) (σ : ox_S) (t : ((Int32 × Int32 × ox_S) ⊕ ox_S)), oc_Round_goToNearest_b11 x1 x2 σ = some t → (ox_G (fun t : (Int32 × Int32 × ox_S) => ox_M p l e rm_oc_Round_goToNearest s m args below meth c (oc_W D ad cI cC A adK adV) 3 res σf 11 [some (.ref (ad 7)), some (.int t.1), some (.int t.2.1)] [] t.2.2) (fun t : ox_S => res = none ∧ σf = t)) t → ox_M p l e rm_oc_Round_goToNearest s m args below meth c (oc_W D ad cI cC A adK adV) 3 res σf 11 [some (.ref (ad 7)), some (.int x1), some (.int x2)] [] σ := by
    intro x1 x2 σ t h hG
    unfold oc_Round_goToNearest_b11 at h
    refine ox_iload_n B 2 od_Round_goToNearest_11 rfl rfl ?_
    refine ox_aload_n B 0 od_Round_goToNearest_12 rfl rfl ?_
    refine ocg_Round_19 B F od_Round_goToNearest_13 ?_
    refine ocg_Round_23 B F od_Round_goToNearest_16 ?_
    refine ox_icmp_ge B 58 od_Round_goToNearest_19 rfl (fun hc => ?_) (fun hc => ?_)
    · rw [if_pos hc] at h
      refine ox_aload_n B 0 od_Round_goToNearest_58 rfl rfl ?_
      refine ox_iconst B od_Round_goToNearest_59 oxk_i1 ?_
      obtain ⟨s3, es3, h⟩ := ox_let_some h
      refine ocp_Round_15 B F od_Round_goToNearest_60 (Or.inr rfl) es3 ?_
      cases h
      exact ox_vret B F od_Round_goToNearest_63 rfl hG
    · rw [if_neg hc] at h
      refine ox_aload_n B 0 od_Round_goToNearest_22 rfl rfl ?_
      refine ocg_Round_9 B F od_Round_goToNearest_23 ?_
      refine ox_iload_n B 2 od_Round_goToNearest_26 rfl rfl ?_
      refine ox_aload_n B 0 od_Round_goToNearest_27 rfl rfl ?_
      refine ox_aload_n B 0 od_Round_goToNearest_28 rfl rfl ?_
      refine ocg_Round_9 B F od_Round_goToNearest_29 ?_
      refine ox_iload_n B 2 od_Round_goToNearest_32 rfl rfl ?_
      refine ox_iconst B od_Round_goToNearest_33 oxk_i1 ?_
      refine ox_isub B od_Round_goToNearest_34 ?_
      obtain ⟨j4, ej4, hj4, h⟩ := ox_ix_some2 h
      refine ocal_16 B F od_Round_goToNearest_35 hj4 ej4 ?_
      refine ox_iload_n B 1 od_Round_goToNearest_36 rfl rfl ?_
      obtain ⟨r5, hr5, h⟩ := ox_bind h
      refine occ_Round_33 B F od_Round_goToNearest_37 (As := [.int (σ.2 16 j4), .int x1]) (rest := [.int x2, .ref (ad 25)]) (st2 := [.int r5, .int x2, .ref (ad 25)]) (ct_oc_Round_nearest hok (σ.2 16 j4) x1 σ _ hr5) ⟨rfl, rfl, Nat.le_of_ble_eq_true rfl, Nat.le_of_ble_eq_true rfl⟩ rfl (Nat.le_of_ble_eq_true rfl) rfl rfl ?_
      obtain ⟨j6, ej6, hj6, h⟩ := ox_ix_some2 h
      obtain ⟨s7, es7, h⟩ := ox_let_some h
      refine ocas_16 B F od_Round_goToNearest_40 hj6 ej6 es7 ?_
      refine ox_iload_n B 1 od_Round_goToNearest_41 rfl rfl ?_
      refine ox_iconst B od_Round_goToNearest_42 oxk_i1 ?_
      refine ox_aload_n B 0 od_Round_goToNearest_43 rfl rfl ?_
      refine ocg_Round_9 B F od_Round_goToNearest_44 ?_
      refine ox_iload_n B 2 od_Round_goToNearest_47 rfl rfl ?_
      obtain ⟨j8, ej8, hj8, h⟩ := ox_ix_some2 h
      refine ocal_16 B F od_Round_goToNearest_48 hj8 ej8 ?_
      refine ox_ishl B od_Round_goToNearest_49 ?_
      refine ox_ior B od_Round_goToNearest_50 ?_
      obtain ⟨v9, ev9, h⟩ := ox_let_some h
      refine ox_topi ev9 ?_
      refine ox_istore_n B 1 od_Round_goToNearest_51 rfl (by decide) rfl (L2 := [some (.ref (ad 7)), some (.int v9), some (.int x2)]) rfl ?_
      obtain ⟨v10, ev10, h⟩ := ox_let_some h
      refine ox_iinc B od_Round_goToNearest_52 rfl ((congrArg (x2 + ·) oxk_i1).trans ev10.symm) (by decide) rfl (L2 := [some (.ref (ad 7)), some (.int v9), some (.int v10)]) rfl ?_
      refine ox_goto B 11 od_Round_goToNearest_55 rfl ?_
      cases h
      exact hG
  have t_11 : ∀ (x1 : Int32) (x2 : Int32) (σ : ox_S) (t : ox_S), oc_Round_goToNearest_h11 x1 x2 σ = some t → (fun t : ox_S => res = none ∧ σf = t) t → ox_M p l e rm_oc_Round_goToNearest s m args below meth c (oc_W D ad cI cC A adK adV) 3 res σf 11 [some (.ref (ad 7)), some (.int x1), some (.int x2)] [] σ := by
    intro x1 x2 σ t h hG
    exact ox_w_run (fun t : (Int32 × Int32 × ox_S) => ox_M p l e rm_oc_Round_goToNearest s m args below meth c (oc_W D ad cI cC A adK adV) 3 res σf 11 [some (.ref (ad 7)), some (.int t.1), some (.int t.2.1)] [] t.2.2) (fun t : ox_S => res = none ∧ σf = t) (fun a t h hG => t_b11 a.1 a.2.1 a.2.2 t h hG) (x1, x2, σ) t h hG
  change ox_M p l e rm_oc_Round_goToNearest s m args below meth c (oc_W D ad cI cC A adK adV) 3 res σf 0 [some (.ref (ad 7)), none, none] [] σ
  unfold oc_Round_goToNearest at h
  refine ox_iconst B od_Round_goToNearest_0 oxk_i1 ?_
  refine ox_istore_n B 1 od_Round_goToNearest_1 rfl (by decide) rfl (L2 := [some (.ref (ad 7)), some (.int (1 : Int32)), none]) rfl ?_
  refine ox_aload_n B 0 od_Round_goToNearest_2 rfl rfl ?_
  refine ocg_Round_9 B F od_Round_goToNearest_3 ?_
  refine ox_iconst B od_Round_goToNearest_6 oxk_i0 ?_
  refine ox_iconst B od_Round_goToNearest_7 oxk_i0 ?_
  obtain ⟨j1, ej1, hj1, h⟩ := ox_ix_some2 h
  obtain ⟨s2, es2, h⟩ := ox_let_some h
  refine ocas_16 B F od_Round_goToNearest_8 hj1 ej1 es2 ?_
  refine ox_iconst B od_Round_goToNearest_9 oxk_i1 ?_
  refine ox_istore_n B 2 od_Round_goToNearest_10 rfl (by decide) rfl (L2 := [some (.ref (ad 7)), some (.int (1 : Int32)), some (.int (1 : Int32))]) rfl ?_
  exact (t_11 (1 : Int32) (1 : Int32) s2 _ h hG)
abbrev rm_oc_Round_gain : Room := { frames := 1, cells := 0, slots := 0, locals := 22 }
set_option maxRecDepth 100000 in
set_option maxHeartbeats 4000000 in
theorem ct_oc_Round_gain {l : Launch} {D : va_G} {ad : Nat → Nat} {cI cC : ClassId} {A : Nat → Prop} {adK adV : Nat → Nat} (hok : ox_ok (oc_W D ad cI cC A adK adV)) (x1 : Int32) (x2 : Int32) (σ : ox_S) (t : Int32) (h : oc_Round_gain x1 x2 σ = some t) : Met l oy_Round_gain (Cond.code oy_Round_gain prog_7_method_7_code 7 (some .int) :: ox_ws) rm_oc_Round_gain (ox_P (oc_W D ad cI cC A adK adV) [.ref (ad 7), .int x1, .int x2] σ) (ox_Q (oc_W D ad cI cC A adK adV) (some (.int t)) σ) 0 0 A := by
  refine ox_met (ω := oc_W D ad cI cC A adK adV) (by decide) rfl hok (Nat.le_of_ble_eq_true rfl) ?_
  intro p e s m args below meth c B F
  generalize hres : (some (.int t) : Option Value) = res
  have hG : (fun t : Int32 => res = some (.int t) ∧ σ = σ) t := ⟨hres.symm, rfl⟩
  have t_39 : ∀ (x1 : Int32) (x2 : Int32) (x3 : Int32) (y0 : Int32)  (t : Int32), oc_Round_gain_j39 x1 x2 x3 y0 σ = some t → (fun t : Int32 => res = some (.int t) ∧ σ = σ) t → ox_M p l e rm_oc_Round_gain s m args below meth c (oc_W D ad cI cC A adK adV) 7 res σ 39 [some (.ref (ad 7)), some (.int x1), some (.int x2), some (.int x3), none, none, none] [.int y0] σ := by
    intro x1 x2 x3 y0  t h hG
    unfold oc_Round_gain_j39 at h
    refine ox_istore B od_Round_gain_39 (by decide) rfl (L2 := [some (.ref (ad 7)), some (.int x1), some (.int x2), some (.int x3), some (.int y0), none, none]) rfl ?_
    refine ox_aload_n B 0 od_Round_gain_41 rfl rfl ?_
    refine ocg_Round_19 B F od_Round_gain_42 ?_
    refine ox_iload_n B 3 od_Round_gain_45 rfl rfl ?_
    refine ox_aload_n B 0 od_Round_gain_46 rfl rfl ?_
    refine ocg_Round_9 B F od_Round_gain_47 ?_
    refine ox_iload_n B 1 od_Round_gain_50 rfl rfl ?_
    obtain ⟨j4, ej4, hj4, h⟩ := ox_ix_some2 h
    refine ocal_16 B F od_Round_gain_51 hj4 ej4 ?_
    obtain ⟨r5, hr5, h⟩ := ox_bind h
    refine occ_Round_36 B F od_Round_gain_52 (As := [.int x3, .int (σ.2 16 j4)]) (rest := []) (st2 := [.int r5]) (ct_oc_Land_between hok x3 (σ.2 16 j4) σ _ hr5) ⟨rfl, rfl, Nat.le_of_ble_eq_true rfl, Nat.le_of_ble_eq_true rfl⟩ rfl (Nat.le_of_ble_eq_true rfl) rfl rfl ?_
    refine ox_aload_n B 0 od_Round_gain_55 rfl rfl ?_
    refine ocg_Round_19 B F od_Round_gain_56 ?_
    refine ox_aload_n B 0 od_Round_gain_59 rfl rfl ?_
    refine ocg_Round_9 B F od_Round_gain_60 ?_
    refine ox_iload_n B 2 od_Round_gain_63 rfl rfl ?_
    obtain ⟨j6, ej6, hj6, h⟩ := ox_ix_some2 h
    refine ocal_16 B F od_Round_gain_64 hj6 ej6 ?_
    refine ox_iload B od_Round_gain_65 rfl ?_
    obtain ⟨r7, hr7, h⟩ := ox_bind h
    refine occ_Round_36 B F od_Round_gain_67 (As := [.int (σ.2 16 j6), .int y0]) (rest := [.int r5]) (st2 := [.int r7, .int r5]) (ct_oc_Land_between hok (σ.2 16 j6) y0 σ _ hr7) ⟨rfl, rfl, Nat.le_of_ble_eq_true rfl, Nat.le_of_ble_eq_true rfl⟩ rfl (Nat.le_of_ble_eq_true rfl) rfl rfl ?_
    refine ox_iadd B od_Round_gain_70 ?_
    obtain ⟨v8, ev8, h⟩ := ox_let_some h
    refine ox_topi ev8 ?_
    refine ox_istore B od_Round_gain_71 (by decide) rfl (L2 := [some (.ref (ad 7)), some (.int x1), some (.int x2), some (.int x3), some (.int y0), some (.int v8), none]) rfl ?_
    refine ox_aload_n B 0 od_Round_gain_73 rfl rfl ?_
    refine ocg_Round_19 B F od_Round_gain_74 ?_
    refine ox_iload_n B 3 od_Round_gain_77 rfl rfl ?_
    refine ox_aload_n B 0 od_Round_gain_78 rfl rfl ?_
    refine ocg_Round_9 B F od_Round_gain_79 ?_
    refine ox_iload_n B 2 od_Round_gain_82 rfl rfl ?_
    obtain ⟨j9, ej9, hj9, h⟩ := ox_ix_some2 h
    refine ocal_16 B F od_Round_gain_83 hj9 ej9 ?_
    obtain ⟨r10, hr10, h⟩ := ox_bind h
    refine occ_Round_36 B F od_Round_gain_84 (As := [.int x3, .int (σ.2 16 j9)]) (rest := []) (st2 := [.int r10]) (ct_oc_Land_between hok x3 (σ.2 16 j9) σ _ hr10) ⟨rfl, rfl, Nat.le_of_ble_eq_true rfl, Nat.le_of_ble_eq_true rfl⟩ rfl (Nat.le_of_ble_eq_true rfl) rfl rfl ?_
    refine ox_aload_n B 0 od_Round_gain_87 rfl rfl ?_
    refine ocg_Round_19 B F od_Round_gain_88 ?_
    refine ox_aload_n B 0 od_Round_gain_91 rfl rfl ?_
    refine ocg_Round_9 B F od_Round_gain_92 ?_
    refine ox_iload_n B 1 od_Round_gain_95 rfl rfl ?_
    obtain ⟨j11, ej11, hj11, h⟩ := ox_ix_some2 h
    refine ocal_16 B F od_Round_gain_96 hj11 ej11 ?_
    refine ox_iload B od_Round_gain_97 rfl ?_
    obtain ⟨r12, hr12, h⟩ := ox_bind h
    refine occ_Round_36 B F od_Round_gain_99 (As := [.int (σ.2 16 j11), .int y0]) (rest := [.int r10]) (st2 := [.int r12, .int r10]) (ct_oc_Land_between hok (σ.2 16 j11) y0 σ _ hr12) ⟨rfl, rfl, Nat.le_of_ble_eq_true rfl, Nat.le_of_ble_eq_true rfl⟩ rfl (Nat.le_of_ble_eq_true rfl) rfl rfl ?_
    refine ox_iadd B od_Round_gain_102 ?_
    obtain ⟨v13, ev13, h⟩ := ox_let_some h
    refine ox_topi ev13 ?_
    refine ox_istore B od_Round_gain_103 (by decide) rfl (L2 := [some (.ref (ad 7)), some (.int x1), some (.int x2), some (.int x3), some (.int y0), some (.int v8), some (.int v13)]) rfl ?_
    refine ox_iload B od_Round_gain_105 rfl ?_
    refine ox_iload B od_Round_gain_107 rfl ?_
    refine ox_isub B od_Round_gain_109 ?_
    cases h
    exact ox_iret B F od_Round_gain_110 rfl rfl hG
  change ox_M p l e rm_oc_Round_gain s m args below meth c (oc_W D ad cI cC A adK adV) 7 res σ 0 [some (.ref (ad 7)), some (.int x1), some (.int x2), none, none, none, none] [] σ
  unfold oc_Round_gain at h
  refine ox_aload_n B 0 od_Round_gain_0 rfl rfl ?_
  refine ocg_Round_9 B F od_Round_gain_1 ?_
  refine ox_iload_n B 1 od_Round_gain_4 rfl rfl ?_
  refine ox_iconst B od_Round_gain_5 oxk_i1 ?_
  refine ox_isub B od_Round_gain_6 ?_
  obtain ⟨j1, ej1, hj1, h⟩ := ox_ix_some2 h
  refine ocal_16 B F od_Round_gain_7 hj1 ej1 ?_
  obtain ⟨v2, ev2, h⟩ := ox_let_some h
  refine ox_topi ev2 ?_
  refine ox_istore_n B 3 od_Round_gain_8 rfl (by decide) rfl (L2 := [some (.ref (ad 7)), some (.int x1), some (.int x2), some (.int v2), none, none, none]) rfl ?_
  refine ox_iload_n B 2 od_Round_gain_9 rfl rfl ?_
  refine ox_iconst B od_Round_gain_10 oxk_i1 ?_
  refine ox_iadd B od_Round_gain_11 ?_
  refine ox_aload_n B 0 od_Round_gain_12 rfl rfl ?_
  refine ocg_Round_19 B F od_Round_gain_13 ?_
  refine ocg_Round_23 B F od_Round_gain_16 ?_
  refine ox_icmp_ge B 33 od_Round_gain_19 rfl (fun hc => ?_) (fun hc => ?_)
  · rw [if_pos hc] at h
    refine ox_aload_n B 0 od_Round_gain_33 rfl rfl ?_
    refine ocg_Round_9 B F od_Round_gain_34 ?_
    refine ox_iconst B od_Round_gain_37 oxk_i0 ?_
    obtain ⟨j3, ej3, hj3, h⟩ := ox_ix_some2 h
    refine ocal_16 B F od_Round_gain_38 hj3 ej3 ?_
    exact (t_39 x1 x2 v2 (σ.2 16 j3) _ h hG)
  · rw [if_neg hc] at h
    refine ox_aload_n B 0 od_Round_gain_22 rfl rfl ?_
    refine ocg_Round_9 B F od_Round_gain_23 ?_
    refine ox_iload_n B 2 od_Round_gain_26 rfl rfl ?_
    refine ox_iconst B od_Round_gain_27 oxk_i1 ?_
    refine ox_iadd B od_Round_gain_28 ?_
    obtain ⟨j14, ej14, hj14, h⟩ := ox_ix_some2 h
    refine ocal_16 B F od_Round_gain_29 hj14 ej14 ?_
    refine ox_goto B 39 od_Round_gain_30 rfl ?_
    exact (t_39 x1 x2 v2 (σ.2 16 j14) _ h hG)
abbrev rm_oc_T_turnRound_a25 : Room := { frames := 0, cells := 0, slots := 0, locals := 0 }
set_option maxRecDepth 100000 in
set_option maxHeartbeats 4000000 in
theorem ct_oc_T_turnRound_a25 {l : Launch} {D : va_G} {ad : Nat → Nat} {cI cC : ClassId} {A : Nat → Prop} {adK adV : Nat → Nat} (hok : ox_ok (oc_W D ad cI cC A adK adV)) (x1 : Int32) (x2 : Int32) (σ : ox_S) (t : ox_S) (h : oc_T_turnRound_a25 x1 x2 σ = some t) : Met l oy_T_turnRound (Cond.code oy_T_turnRound prog_1_method_25_code 6 none :: ox_ws) rm_oc_T_turnRound_a25 (ox_P (oc_W D ad cI cC A adK adV) [.ref (ad 25), .int x1, .int x2] σ) (ox_Q (oc_W D ad cI cC A adK adV) none t) 0 0 A := by
  refine ox_met (ω := oc_W D ad cI cC A adK adV) (by decide) rfl hok (Nat.le_of_ble_eq_true rfl) ?_
  intro p e s m args below meth c B F
  generalize hres : (none : Option Value) = res
  have hG : res = none ∧ t = t := ⟨hres.symm, rfl⟩
  obtain ⟨σf, hσf⟩ : ∃ z, z = t := ⟨_, rfl⟩
  have hG : (fun t : ox_S => res = none ∧ σf = t) t := ⟨hres.symm, hσf⟩
  rw [show ox_M p l e rm_oc_T_turnRound_a25 s m args below meth c (oc_W D ad cI cC A adK adV) 6 res t 0 (ox_l0 [.ref (ad 25), .int x1, .int x2] 6) [] σ = ox_M p l e rm_oc_T_turnRound_a25 s m args below meth c (oc_W D ad cI cC A adK adV) 6 res σf 0 (ox_l0 [.ref (ad 25), .int x1, .int x2] 6) [] σ by rw [hσf]]
  have t_b5 : ∀ (x3 : Int32) (x4 : Int32) (σ : ox_S) (t : ((Int32 × Int32 × ox_S) ⊕ ox_S)), oc_T_turnRound_a25_b5 x3 x4 σ = some t → (ox_G (fun t : (Int32 × Int32 × ox_S) => ox_M p l e rm_oc_T_turnRound_a25 s m args below meth c (oc_W D ad cI cC A adK adV) 6 res σf 5 [some (.ref (ad 25)), none, none, some (.int t.1), some (.int t.2.1), none] [] t.2.2) (fun t : ox_S => res = none ∧ σf = t)) t → ox_M p l e rm_oc_T_turnRound_a25 s m args below meth c (oc_W D ad cI cC A adK adV) 6 res σf 5 [some (.ref (ad 25)), none, none, some (.int x3), some (.int x4), none] [] σ := by
    intro x3 x4 σ t h hG
    unfold oc_T_turnRound_a25_b5 at h
    refine ox_iload_n B 3 od_T_turnRound_5 rfl rfl ?_
    refine ox_iload B od_T_turnRound_6 rfl ?_
    refine ox_icmp_ge B 38 od_T_turnRound_8 rfl (fun hc => ?_) (fun hc => ?_)
    · rw [if_pos hc] at h
      cases h
      exact ox_vret B F od_T_turnRound_38 rfl hG
    · rw [if_neg hc] at h
      refine ox_aload_n B 0 od_T_turnRound_11 rfl rfl ?_
      refine ox_iload_n B 3 od_T_turnRound_12 rfl rfl ?_
      obtain ⟨j1, ej1, hj1, h⟩ := ox_ix_some2 h
      refine ocal_16 B F od_T_turnRound_13 hj1 ej1 ?_
      obtain ⟨v2, ev2, h⟩ := ox_let_some h
      refine ox_topi ev2 ?_
      refine ox_istore B od_T_turnRound_14 (by decide) rfl (L2 := [some (.ref (ad 25)), none, none, some (.int x3), some (.int x4), some (.int v2)]) rfl ?_
      refine ox_aload_n B 0 od_T_turnRound_16 rfl rfl ?_
      refine ox_iload_n B 3 od_T_turnRound_17 rfl rfl ?_
      refine ox_aload_n B 0 od_T_turnRound_18 rfl rfl ?_
      refine ox_iload B od_T_turnRound_19 rfl ?_
      obtain ⟨j3, ej3, hj3, h⟩ := ox_ix_some2 h
      refine ocal_16 B F od_T_turnRound_21 hj3 ej3 ?_
      obtain ⟨j4, ej4, hj4, h⟩ := ox_ix_some2 h
      obtain ⟨s5, es5, h⟩ := ox_let_some h
      refine ocas_16 B F od_T_turnRound_22 hj4 ej4 es5 ?_
      refine ox_aload_n B 0 od_T_turnRound_23 rfl rfl ?_
      refine ox_iload B od_T_turnRound_24 rfl ?_
      refine ox_iload B od_T_turnRound_26 rfl ?_
      obtain ⟨j6, ej6, hj6, h⟩ := ox_ix_some2 h
      obtain ⟨s7, es7, h⟩ := ox_let_some h
      refine ocas_16 B F od_T_turnRound_28 hj6 ej6 es7 ?_
      obtain ⟨v8, ev8, h⟩ := ox_let_some h
      refine ox_iinc B od_T_turnRound_29 rfl ((congrArg (x3 + ·) oxk_i1).trans ev8.symm) (by decide) rfl (L2 := [some (.ref (ad 25)), none, none, some (.int v8), some (.int x4), some (.int v2)]) rfl ?_
      obtain ⟨v9, ev9, h⟩ := ox_let_some h
      refine ox_iinc B od_T_turnRound_32 rfl ((congrArg (x4 + ·) oxk_im1).trans ev9.symm) (by decide) rfl (L2 := [some (.ref (ad 25)), none, none, some (.int v8), some (.int v9), some (.int v2)]) rfl ?_
      refine ox_goto B 5 od_T_turnRound_35 rfl ?_
      cases h
      exact (ox_mask [true, false, false, true, true, false] hG)
  have t_5 : ∀ (x3 : Int32) (x4 : Int32) (σ : ox_S) (t : ox_S), oc_T_turnRound_a25_h5 x3 x4 σ = some t → (fun t : ox_S => res = none ∧ σf = t) t → ox_M p l e rm_oc_T_turnRound_a25 s m args below meth c (oc_W D ad cI cC A adK adV) 6 res σf 5 [some (.ref (ad 25)), none, none, some (.int x3), some (.int x4), none] [] σ := by
    intro x3 x4 σ t h hG
    exact ox_w_run (fun t : (Int32 × Int32 × ox_S) => ox_M p l e rm_oc_T_turnRound_a25 s m args below meth c (oc_W D ad cI cC A adK adV) 6 res σf 5 [some (.ref (ad 25)), none, none, some (.int t.1), some (.int t.2.1), none] [] t.2.2) (fun t : ox_S => res = none ∧ σf = t) (fun a t h hG => t_b5 a.1 a.2.1 a.2.2 t h hG) (x3, x4, σ) t h hG
  change ox_M p l e rm_oc_T_turnRound_a25 s m args below meth c (oc_W D ad cI cC A adK adV) 6 res σf 0 [some (.ref (ad 25)), some (.int x1), some (.int x2), none, none, none] [] σ
  unfold oc_T_turnRound_a25 at h
  refine ox_iload_n B 1 od_T_turnRound_0 rfl rfl ?_
  refine ox_istore_n B 3 od_T_turnRound_1 rfl (by decide) rfl (L2 := [some (.ref (ad 25)), some (.int x1), some (.int x2), some (.int x1), none, none]) rfl ?_
  refine ox_iload_n B 2 od_T_turnRound_2 rfl rfl ?_
  refine ox_istore B od_T_turnRound_3 (by decide) rfl (L2 := [some (.ref (ad 25)), some (.int x1), some (.int x2), some (.int x1), some (.int x2), none]) rfl ?_
  exact (ox_mask [true, false, false, true, true, false] (t_5 x1 x2 σ _ h hG))
abbrev rm_oc_Round_turnOnce : Room := { frames := 2, cells := 0, slots := 0, locals := 48 }
set_option maxRecDepth 100000 in
set_option maxHeartbeats 4000000 in
theorem ct_oc_Round_turnOnce {l : Launch} {D : va_G} {ad : Nat → Nat} {cI cC : ClassId} {A : Nat → Prop} {adK adV : Nat → Nat} (hok : ox_ok (oc_W D ad cI cC A adK adV))  (σ : ox_S) (t : (Int32 × ox_S)) (h : oc_Round_turnOnce  σ = some t) : Met l oy_Round_turnOnce (Cond.code oy_Round_turnOnce prog_7_method_6_code 3 (some .boolean) :: ox_ws) rm_oc_Round_turnOnce (ox_P (oc_W D ad cI cC A adK adV) [.ref (ad 7)] σ) (ox_Q (oc_W D ad cI cC A adK adV) (some (.int t.1)) t.2) 0 0 A := by
  refine ox_met (ω := oc_W D ad cI cC A adK adV) (by decide) rfl hok (Nat.le_of_ble_eq_true rfl) ?_
  intro p e s m args below meth c B F
  generalize hres : (some (.int t.1) : Option Value) = res
  generalize hσf : t.2 = σf
  have hG : (fun t : (Int32 × ox_S) => res = some (.int t.1) ∧ σf = t.2) t := ⟨hres.symm, hσf.symm⟩
  have t_b17 : ∀ (x1 : Int32) (x2 : Int32) (σ : ox_S) (t : (Int32 ⊕ (Int32 ⊕ (Int32 × ox_S)))), oc_Round_turnOnce_b17 x1 x2 σ = some t → (ox_G (fun t : Int32 => ox_M p l e rm_oc_Round_turnOnce s m args below meth c (oc_W D ad cI cC A adK adV) 3 res σf 17 [some (.ref (ad 7)), some (.int x1), some (.int t)] [] σ) (ox_G (fun t : Int32 => ox_M p l e rm_oc_Round_turnOnce s m args below meth c (oc_W D ad cI cC A adK adV) 3 res σf 2 [some (.ref (ad 7)), some (.int t), none] [] σ) (fun t : (Int32 × ox_S) => res = some (.int t.1) ∧ σf = t.2))) t → ox_M p l e rm_oc_Round_turnOnce s m args below meth c (oc_W D ad cI cC A adK adV) 3 res σf 17 [some (.ref (ad 7)), some (.int x1), some (.int x2)] [] σ := by
    intro x1 x2 σ t h hG
    unfold oc_Round_turnOnce_b17 at h
    refine ox_iload_n B 2 od_Round_turnOnce_17 rfl rfl ?_
    refine ox_aload_n B 0 od_Round_turnOnce_18 rfl rfl ?_
    refine ocg_Round_19 B F od_Round_turnOnce_19 ?_
    refine ocg_Round_23 B F od_Round_turnOnce_22 ?_
    refine ox_icmp_ge B 54 od_Round_turnOnce_25 rfl (fun hc => ?_) (fun hc => ?_)
    · rw [if_pos hc] at h
      obtain ⟨v2, ev2, h⟩ := ox_let_some h
      refine ox_iinc B od_Round_turnOnce_54 rfl ((congrArg (x1 + ·) oxk_i1).trans ev2.symm) (by decide) rfl (L2 := [some (.ref (ad 7)), some (.int v2), some (.int x2)]) rfl ?_
      refine ox_goto B 2 od_Round_turnOnce_57 rfl ?_
      cases h
      exact (ox_mask [true, true, false] hG)
    · rw [if_neg hc] at h
      refine ox_aload_n B 0 od_Round_turnOnce_28 rfl rfl ?_
      refine ox_iload_n B 1 od_Round_turnOnce_29 rfl rfl ?_
      refine ox_iload_n B 2 od_Round_turnOnce_30 rfl rfl ?_
      obtain ⟨r3, hr3, h⟩ := ox_bind h
      refine occ_Round_44 B F od_Round_turnOnce_31 (As := [.int x1, .int x2]) (rest := []) (st2 := [.int r3]) (ct_oc_Round_gain hok x1 x2 σ _ hr3) ⟨rfl, rfl, Nat.le_of_ble_eq_true rfl, Nat.le_of_ble_eq_true rfl⟩ rfl (Nat.le_of_ble_eq_true rfl) rfl rfl ?_
      refine ox_if_le B 48 od_Round_turnOnce_34 rfl (fun hc => ?_) (fun hc => ?_)
      · rw [if_pos hc] at h
        obtain ⟨v4, ev4, h⟩ := ox_let_some h
        refine ox_iinc B od_Round_turnOnce_48 rfl ((congrArg (x2 + ·) oxk_i1).trans ev4.symm) (by decide) rfl (L2 := [some (.ref (ad 7)), some (.int x1), some (.int v4)]) rfl ?_
        refine ox_goto B 17 od_Round_turnOnce_51 rfl ?_
        cases h
        exact hG
      · rw [if_neg hc] at h
        refine ox_aload_n B 0 od_Round_turnOnce_37 rfl rfl ?_
        refine ocg_Round_9 B F od_Round_turnOnce_38 ?_
        refine ox_iload_n B 1 od_Round_turnOnce_41 rfl rfl ?_
        refine ox_iload_n B 2 od_Round_turnOnce_42 rfl rfl ?_
        obtain ⟨s5, hs5, h⟩ := ox_bind h
        refine occ_Round_47 B F od_Round_turnOnce_43 (As := [.ref (ad 25), .int x1, .int x2]) (rest := []) (st2 := []) (ct_oc_T_turnRound_a25 hok x1 x2 σ _ hs5) ⟨rfl, rfl, Nat.le_of_ble_eq_true rfl, Nat.le_of_ble_eq_true rfl⟩ rfl (Nat.le_of_ble_eq_true rfl) rfl rfl ?_
        refine ox_iconst B od_Round_turnOnce_46 oxk_i1 ?_
        cases h
        exact ox_iret B F od_Round_turnOnce_47 rfl (ox_nz (Or.inr rfl)) hG
  have t_17 : ∀ (x1 : Int32) (x2 : Int32) (σ : ox_S) (t : (Int32 ⊕ (Int32 × ox_S))), oc_Round_turnOnce_h17 x1 x2 σ = some t → (ox_G (fun t : Int32 => ox_M p l e rm_oc_Round_turnOnce s m args below meth c (oc_W D ad cI cC A adK adV) 3 res σf 2 [some (.ref (ad 7)), some (.int t), none] [] σ) (fun t : (Int32 × ox_S) => res = some (.int t.1) ∧ σf = t.2)) t → ox_M p l e rm_oc_Round_turnOnce s m args below meth c (oc_W D ad cI cC A adK adV) 3 res σf 17 [some (.ref (ad 7)), some (.int x1), some (.int x2)] [] σ := by
    intro x1 x2 σ t h hG
    exact ox_w_run (fun t : Int32 => ox_M p l e rm_oc_Round_turnOnce s m args below meth c (oc_W D ad cI cC A adK adV) 3 res σf 17 [some (.ref (ad 7)), some (.int x1), some (.int t)] [] σ) (ox_G (fun t : Int32 => ox_M p l e rm_oc_Round_turnOnce s m args below meth c (oc_W D ad cI cC A adK adV) 3 res σf 2 [some (.ref (ad 7)), some (.int t), none] [] σ) (fun t : (Int32 × ox_S) => res = some (.int t.1) ∧ σf = t.2)) (fun a t h hG => t_b17 x1 a σ t h hG) x2 t h hG
  have t_b2 : ∀ (x1 : Int32) (σ : ox_S) (t : (Int32 ⊕ (Int32 × ox_S))), oc_Round_turnOnce_b2 x1 σ = some t → (ox_G (fun t : Int32 => ox_M p l e rm_oc_Round_turnOnce s m args below meth c (oc_W D ad cI cC A adK adV) 3 res σf 2 [some (.ref (ad 7)), some (.int t), none] [] σ) (fun t : (Int32 × ox_S) => res = some (.int t.1) ∧ σf = t.2)) t → ox_M p l e rm_oc_Round_turnOnce s m args below meth c (oc_W D ad cI cC A adK adV) 3 res σf 2 [some (.ref (ad 7)), some (.int x1), none] [] σ := by
    intro x1 σ t h hG
    unfold oc_Round_turnOnce_b2 at h
    refine ox_iload_n B 1 od_Round_turnOnce_2 rfl rfl ?_
    refine ox_aload_n B 0 od_Round_turnOnce_3 rfl rfl ?_
    refine ocg_Round_19 B F od_Round_turnOnce_4 ?_
    refine ocg_Round_23 B F od_Round_turnOnce_7 ?_
    refine ox_icmp_ge B 60 od_Round_turnOnce_10 rfl (fun hc => ?_) (fun hc => ?_)
    · rw [if_pos hc] at h
      refine ox_iconst B od_Round_turnOnce_60 oxk_i0 ?_
      cases h
      exact ox_iret B F od_Round_turnOnce_61 rfl (ox_nz (Or.inl rfl)) hG
    · rw [if_neg hc] at h
      refine ox_iload_n B 1 od_Round_turnOnce_13 rfl rfl ?_
      refine ox_iconst B od_Round_turnOnce_14 oxk_i1 ?_
      refine ox_iadd B od_Round_turnOnce_15 ?_
      obtain ⟨v1, ev1, h⟩ := ox_let_some h
      refine ox_topi ev1 ?_
      refine ox_istore_n B 2 od_Round_turnOnce_16 rfl (by decide) rfl (L2 := [some (.ref (ad 7)), some (.int x1), some (.int v1)]) rfl ?_
      exact (t_17 x1 v1 σ _ h hG)
  have t_2 : ∀ (x1 : Int32) (σ : ox_S) (t : (Int32 × ox_S)), oc_Round_turnOnce_h2 x1 σ = some t → (fun t : (Int32 × ox_S) => res = some (.int t.1) ∧ σf = t.2) t → ox_M p l e rm_oc_Round_turnOnce s m args below meth c (oc_W D ad cI cC A adK adV) 3 res σf 2 [some (.ref (ad 7)), some (.int x1), none] [] σ := by
    intro x1 σ t h hG
    exact ox_w_run (fun t : Int32 => ox_M p l e rm_oc_Round_turnOnce s m args below meth c (oc_W D ad cI cC A adK adV) 3 res σf 2 [some (.ref (ad 7)), some (.int t), none] [] σ) (fun t : (Int32 × ox_S) => res = some (.int t.1) ∧ σf = t.2) (fun a t h hG => t_b2 a σ t h hG) x1 t h hG
  change ox_M p l e rm_oc_Round_turnOnce s m args below meth c (oc_W D ad cI cC A adK adV) 3 res σf 0 [some (.ref (ad 7)), none, none] [] σ
  unfold oc_Round_turnOnce at h
  refine ox_iconst B od_Round_turnOnce_0 oxk_i1 ?_
  refine ox_istore_n B 1 od_Round_turnOnce_1 rfl (by decide) rfl (L2 := [some (.ref (ad 7)), some (.int (1 : Int32)), none]) rfl ?_
  exact (t_2 (1 : Int32) σ _ h hG)
abbrev rm_oc_Round_shorten : Room := { frames := 3, cells := 0, slots := 0, locals := 70 }
set_option maxRecDepth 100000 in
set_option maxHeartbeats 4000000 in
theorem ct_oc_Round_shorten {l : Launch} {D : va_G} {ad : Nat → Nat} {cI cC : ClassId} {A : Nat → Prop} {adK adV : Nat → Nat} (hok : ox_ok (oc_W D ad cI cC A adK adV))  (σ : ox_S) (t : ox_S) (h : oc_Round_shorten  σ = some t) : Met l oy_Round_shorten (Cond.code oy_Round_shorten prog_7_method_5_code 3 none :: ox_ws) rm_oc_Round_shorten (ox_P (oc_W D ad cI cC A adK adV) [.ref (ad 7)] σ) (ox_Q (oc_W D ad cI cC A adK adV) none t) 0 0 A := by
  refine ox_met (ω := oc_W D ad cI cC A adK adV) (by decide) rfl hok (Nat.le_of_ble_eq_true rfl) ?_
  intro p e s m args below meth c B F
  generalize hres : (none : Option Value) = res
  have hG : res = none ∧ t = t := ⟨hres.symm, rfl⟩
  obtain ⟨σf, hσf⟩ : ∃ z, z = t := ⟨_, rfl⟩
  have hG : (fun t : ox_S => res = none ∧ σf = t) t := ⟨hres.symm, hσf⟩
  rw [show ox_M p l e rm_oc_Round_shorten s m args below meth c (oc_W D ad cI cC A adK adV) 3 res t 0 (ox_l0 [.ref (ad 7)] 3) [] σ = ox_M p l e rm_oc_Round_shorten s m args below meth c (oc_W D ad cI cC A adK adV) 3 res σf 0 (ox_l0 [.ref (ad 7)] 3) [] σ by rw [hσf]]
  have t_b4 : ∀ (x1 : Int32) (x2 : Int32) (σ : ox_S) (t : ((Int32 × Int32 × ox_S) ⊕ ox_S)), oc_Round_shorten_b4 x1 x2 σ = some t → (ox_G (fun t : (Int32 × Int32 × ox_S) => ox_M p l e rm_oc_Round_shorten s m args below meth c (oc_W D ad cI cC A adK adV) 3 res σf 4 [some (.ref (ad 7)), some (.int t.1), some (.int t.2.1)] [] t.2.2) (fun t : ox_S => res = none ∧ σf = t)) t → ox_M p l e rm_oc_Round_shorten s m args below meth c (oc_W D ad cI cC A adK adV) 3 res σf 4 [some (.ref (ad 7)), some (.int x1), some (.int x2)] [] σ := by
    intro x1 x2 σ t h hG
    unfold oc_Round_shorten_b4 at h
    refine ox_iload_n B 2 od_Round_shorten_4 rfl rfl ?_
    refine ox_ldc B od_Round_shorten_5 ock_Round_39 ?_
    refine ox_icmp_ge B 25 od_Round_shorten_7 rfl (fun hc => ?_) (fun hc => ?_)
    · rw [if_pos hc] at h
      cases h
      exact ox_vret B F od_Round_shorten_25 rfl hG
    · rw [if_neg hc] at h
      refine ox_iload_n B 1 od_Round_shorten_10 rfl rfl ?_
      refine ox_if_eq B 25 od_Round_shorten_11 rfl (fun hc => ?_) (fun hc => ?_)
      · rw [if_pos hc] at h
        cases h
        exact ox_vret B F od_Round_shorten_25 rfl hG
      · rw [if_neg hc] at h
        refine ox_aload_n B 0 od_Round_shorten_14 rfl rfl ?_
        obtain ⟨r1, s2, hr1, h⟩ := ox_b2_some h
        refine occ_Round_40 B F od_Round_shorten_15 (As := []) (rest := []) (st2 := [.int r1]) (ct_oc_Round_turnOnce hok σ _ hr1) ⟨rfl, rfl, Nat.le_of_ble_eq_true rfl, Nat.le_of_ble_eq_true rfl⟩ rfl (Nat.le_of_ble_eq_true rfl) rfl rfl ?_
        refine ox_istore_n B 1 od_Round_shorten_18 rfl (by decide) rfl (L2 := [some (.ref (ad 7)), some (.int r1), some (.int x2)]) rfl ?_
        obtain ⟨v3, ev3, h⟩ := ox_let_some h
        refine ox_iinc B od_Round_shorten_19 rfl ((congrArg (x2 + ·) oxk_i1).trans ev3.symm) (by decide) rfl (L2 := [some (.ref (ad 7)), some (.int r1), some (.int v3)]) rfl ?_
        refine ox_goto B 4 od_Round_shorten_22 rfl ?_
        cases h
        exact hG
  have t_4 : ∀ (x1 : Int32) (x2 : Int32) (σ : ox_S) (t : ox_S), oc_Round_shorten_h4 x1 x2 σ = some t → (fun t : ox_S => res = none ∧ σf = t) t → ox_M p l e rm_oc_Round_shorten s m args below meth c (oc_W D ad cI cC A adK adV) 3 res σf 4 [some (.ref (ad 7)), some (.int x1), some (.int x2)] [] σ := by
    intro x1 x2 σ t h hG
    exact ox_w_run (fun t : (Int32 × Int32 × ox_S) => ox_M p l e rm_oc_Round_shorten s m args below meth c (oc_W D ad cI cC A adK adV) 3 res σf 4 [some (.ref (ad 7)), some (.int t.1), some (.int t.2.1)] [] t.2.2) (fun t : ox_S => res = none ∧ σf = t) (fun a t h hG => t_b4 a.1 a.2.1 a.2.2 t h hG) (x1, x2, σ) t h hG
  change ox_M p l e rm_oc_Round_shorten s m args below meth c (oc_W D ad cI cC A adK adV) 3 res σf 0 [some (.ref (ad 7)), none, none] [] σ
  unfold oc_Round_shorten at h
  refine ox_iconst B od_Round_shorten_0 oxk_i1 ?_
  refine ox_istore_n B 1 od_Round_shorten_1 rfl (by decide) rfl (L2 := [some (.ref (ad 7)), some (.int (1 : Int32)), none]) rfl ?_
  refine ox_iconst B od_Round_shorten_2 oxk_i0 ?_
  refine ox_istore_n B 2 od_Round_shorten_3 rfl (by decide) rfl (L2 := [some (.ref (ad 7)), some (.int (1 : Int32)), some (.int (0 : Int32))]) rfl ?_
  exact (t_4 (1 : Int32) (0 : Int32) σ _ h hG)
abbrev rm_oc_Round_turnToOrder : Room := { frames := 1, cells := 0, slots := 0, locals := 25 }
set_option maxRecDepth 100000 in
set_option maxHeartbeats 4000000 in
theorem ct_oc_Round_turnToOrder {l : Launch} {D : va_G} {ad : Nat → Nat} {cI cC : ClassId} {A : Nat → Prop} {adK adV : Nat → Nat} (hok : ox_ok (oc_W D ad cI cC A adK adV))  (σ : ox_S) (t : ox_S) (h : oc_Round_turnToOrder  σ = some t) : Met l oy_Round_turnToOrder (Cond.code oy_Round_turnToOrder prog_7_method_8_code 2 none :: ox_ws) rm_oc_Round_turnToOrder (ox_P (oc_W D ad cI cC A adK adV) [.ref (ad 7)] σ) (ox_Q (oc_W D ad cI cC A adK adV) none t) 0 0 A := by
  refine ox_met (ω := oc_W D ad cI cC A adK adV) (by decide) rfl hok (Nat.le_of_ble_eq_true rfl) ?_
  intro p e s m args below meth c B F
  generalize hres : (none : Option Value) = res
  have hG : res = none ∧ t = t := ⟨hres.symm, rfl⟩
  obtain ⟨σf, hσf⟩ : ∃ z, z = t := ⟨_, rfl⟩
  have hG : (fun t : ox_S => res = none ∧ σf = t) t := ⟨hres.symm, hσf⟩
  rw [show ox_M p l e rm_oc_Round_turnToOrder s m args below meth c (oc_W D ad cI cC A adK adV) 2 res t 0 (ox_l0 [.ref (ad 7)] 2) [] σ = ox_M p l e rm_oc_Round_turnToOrder s m args below meth c (oc_W D ad cI cC A adK adV) 2 res σf 0 (ox_l0 [.ref (ad 7)] 2) [] σ by rw [hσf]]
  change ox_M p l e rm_oc_Round_turnToOrder s m args below meth c (oc_W D ad cI cC A adK adV) 2 res σf 0 [some (.ref (ad 7)), none] [] σ
  unfold oc_Round_turnToOrder at h
  refine ox_aload_n B 0 od_Round_turnToOrder_0 rfl rfl ?_
  refine ocg_Round_19 B F od_Round_turnToOrder_1 ?_
  refine ocg_Round_23 B F od_Round_turnToOrder_4 ?_
  refine ox_iconst B od_Round_turnToOrder_7 oxk_i1 ?_
  refine ox_isub B od_Round_turnToOrder_8 ?_
  obtain ⟨v1, ev1, h⟩ := ox_let_some h
  refine ox_topi ev1 ?_
  refine ox_istore_n B 1 od_Round_turnToOrder_9 rfl (by decide) rfl (L2 := [some (.ref (ad 7)), some (.int v1)]) rfl ?_
  refine ox_iload_n B 1 od_Round_turnToOrder_10 rfl rfl ?_
  refine ox_iconst B od_Round_turnToOrder_11 oxk_i1 ?_
  refine ox_icmp_le B 39 od_Round_turnToOrder_12 rfl (fun hc => ?_) (fun hc => ?_)
  · rw [if_pos hc] at h
    cases h
    exact ox_vret B F od_Round_turnToOrder_39 rfl hG
  · rw [if_neg hc] at h
    refine ox_aload_n B 0 od_Round_turnToOrder_15 rfl rfl ?_
    refine ocg_Round_9 B F od_Round_turnToOrder_16 ?_
    refine ox_iconst B od_Round_turnToOrder_19 oxk_i1 ?_
    obtain ⟨j2, ej2, hj2, h⟩ := ox_ix_some2 h
    refine ocal_16 B F od_Round_turnToOrder_20 hj2 ej2 ?_
    refine ox_aload_n B 0 od_Round_turnToOrder_21 rfl rfl ?_
    refine ocg_Round_9 B F od_Round_turnToOrder_22 ?_
    refine ox_iload_n B 1 od_Round_turnToOrder_25 rfl rfl ?_
    obtain ⟨j3, ej3, hj3, h⟩ := ox_ix_some2 h
    refine ocal_16 B F od_Round_turnToOrder_26 hj3 ej3 ?_
    refine ox_icmp_le B 39 od_Round_turnToOrder_27 rfl (fun hc => ?_) (fun hc => ?_)
    · rw [if_pos hc] at h
      cases h
      exact ox_vret B F od_Round_turnToOrder_39 rfl hG
    · rw [if_neg hc] at h
      refine ox_aload_n B 0 od_Round_turnToOrder_30 rfl rfl ?_
      refine ocg_Round_9 B F od_Round_turnToOrder_31 ?_
      refine ox_iconst B od_Round_turnToOrder_34 oxk_i1 ?_
      refine ox_iload_n B 1 od_Round_turnToOrder_35 rfl rfl ?_
      obtain ⟨s4, hs4, h⟩ := ox_bind h
      refine occ_Round_47 B F od_Round_turnToOrder_36 (As := [.ref (ad 25), .int (1 : Int32), .int v1]) (rest := []) (st2 := []) (ct_oc_T_turnRound_a25 hok (1 : Int32) v1 σ _ hs4) ⟨rfl, rfl, Nat.le_of_ble_eq_true rfl, Nat.le_of_ble_eq_true rfl⟩ rfl (Nat.le_of_ble_eq_true rfl) rfl rfl ?_
      cases h
      exact ox_vret B F od_Round_turnToOrder_39 rfl hG
