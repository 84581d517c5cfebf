abbrev rm_om_Mo_meeting : Room := { frames := 0, cells := 0, slots := 0, locals := 0 }
set_option maxRecDepth 100000 in
set_option maxHeartbeats 4000000 in
theorem ct_om_Mo_meeting {l : Launch} {D : va_G} {ad : Nat → Nat} {cI cC cZ : ClassId} {A : Nat → Prop} (hok : ox_ok (om_W D ad cI cC cZ A)) (x1 : Int32) (σ : ox_S) (t : Int32) (h : om_Mo_meeting x1 σ = some t) : Met l oy_Mo_meeting (Cond.code oy_Mo_meeting prog_11_method_38_code 4 (some .int) :: ox_ws) rm_om_Mo_meeting (ox_P (om_W D ad cI cC cZ A) [.ref (ad 0), .int x1] σ) (ox_Q (om_W D ad cI cC cZ A) (some (.int t)) σ) 0 0 A := by
  refine ox_met (ω := om_W D ad cI cC cZ A) (by decide) rfl hok (Nat.le_of_ble_eq_true rfl) ?_
  intro p e s m args below meth c B F
  generalize hres : (some (.int t) : Option Value) = res
  have hG : (fun t : Int32 => res = some (.int t) ∧ σ = σ) t := ⟨hres.symm, rfl⟩
  have t_32 : ∀ (x1 : Int32) (x3 : Int32) (y0 : Int32)  (t : ((Int32 × Int32) ⊕ Int32)), om_Mo_meeting_j32 x1 x3 y0 σ = some t → (ox_G (fun t : (Int32 × Int32) => ox_M p l e rm_om_Mo_meeting s m args below meth c (om_W D ad cI cC cZ A) 4 res σ 4 [some (.ref (ad 0)), some (.int x1), some (.int t.1), some (.int t.2)] [] σ) (fun t : Int32 => res = some (.int t) ∧ σ = σ)) t → ox_M p l e rm_om_Mo_meeting s m args below meth c (om_W D ad cI cC cZ A) 4 res σ 32 [some (.ref (ad 0)), some (.int x1), none, some (.int x3)] [.int y0] σ := by
    intro x1 x3 y0  t h hG
    unfold om_Mo_meeting_j32 at h
    refine ox_iload_n B 3 od_Mo_meeting_32 rfl rfl ?_
    refine ox_iload_n B 1 od_Mo_meeting_33 rfl rfl ?_
    refine ox_icmp_le B 55 od_Mo_meeting_34 rfl (fun hc => ?_) (fun hc => ?_)
    · rw [if_pos hc] at h
      refine ox_iconst B od_Mo_meeting_55 oxk_i0 ?_
      refine ox_iadd B od_Mo_meeting_56 ?_
      obtain ⟨v1, ev1, h⟩ := ox_let_some h
      refine ox_topi ev1 ?_
      refine ox_istore_n B 2 od_Mo_meeting_57 rfl (by decide) rfl (L2 := [some (.ref (ad 0)), some (.int x1), some (.int v1), some (.int x3)]) rfl ?_
      obtain ⟨v2, ev2, h⟩ := ox_let_some h
      refine ox_iinc B od_Mo_meeting_58 rfl ((congrArg (x3 + ·) oxk_i1).trans ev2.symm) (by decide) rfl (L2 := [some (.ref (ad 0)), some (.int x1), some (.int v1), some (.int v2)]) rfl ?_
      refine ox_goto B 4 od_Mo_meeting_61 rfl ?_
      cases h
      exact hG
    · rw [if_neg hc] at h
      refine ox_aload_n B 0 od_Mo_meeting_37 rfl rfl ?_
      refine omg_Mo_41 B F od_Mo_meeting_38 ?_
      refine ox_bipush B od_Mo_meeting_41 oxk_b8 ?_
      refine ox_iload_n B 1 od_Mo_meeting_43 rfl rfl ?_
      refine ox_imul B od_Mo_meeting_44 ?_
      refine ox_iload_n B 3 od_Mo_meeting_45 rfl rfl ?_
      refine ox_iadd B od_Mo_meeting_46 ?_
      obtain ⟨j3, ej3, hj3, h⟩ := ox_ix_some2 h
      refine omal_10 B F od_Mo_meeting_47 hj3 ej3 ?_
      refine ox_if_eq B 55 od_Mo_meeting_48 rfl (fun hc => ?_) (fun hc => ?_)
      · rw [if_pos hc] at h
        refine ox_iconst B od_Mo_meeting_55 oxk_i0 ?_
        refine ox_iadd B od_Mo_meeting_56 ?_
        obtain ⟨v4, ev4, h⟩ := ox_let_some h
        refine ox_topi ev4 ?_
        refine ox_istore_n B 2 od_Mo_meeting_57 rfl (by decide) rfl (L2 := [some (.ref (ad 0)), some (.int x1), some (.int v4), some (.int x3)]) rfl ?_
        obtain ⟨v5, ev5, h⟩ := ox_let_some h
        refine ox_iinc B od_Mo_meeting_58 rfl ((congrArg (x3 + ·) oxk_i1).trans ev5.symm) (by decide) rfl (L2 := [some (.ref (ad 0)), some (.int x1), some (.int v4), some (.int v5)]) rfl ?_
        refine ox_goto B 4 od_Mo_meeting_61 rfl ?_
        cases h
        exact hG
      · rw [if_neg hc] at h
        refine ox_iconst B od_Mo_meeting_51 oxk_i1 ?_
        refine ox_goto B 56 od_Mo_meeting_52 rfl ?_
        refine ox_iadd B od_Mo_meeting_56 ?_
        obtain ⟨v6, ev6, h⟩ := ox_let_some h
        refine ox_topi ev6 ?_
        refine ox_istore_n B 2 od_Mo_meeting_57 rfl (by decide) rfl (L2 := [some (.ref (ad 0)), some (.int x1), some (.int v6), some (.int x3)]) rfl ?_
        obtain ⟨v7, ev7, h⟩ := ox_let_some h
        refine ox_iinc B od_Mo_meeting_58 rfl ((congrArg (x3 + ·) oxk_i1).trans ev7.symm) (by decide) rfl (L2 := [some (.ref (ad 0)), some (.int x1), some (.int v6), some (.int v7)]) rfl ?_
        refine ox_goto B 4 od_Mo_meeting_61 rfl ?_
        cases h
        exact hG
  have t_b4 : ∀ (x1 : Int32) (x2 : Int32) (x3 : Int32)  (t : ((Int32 × Int32) ⊕ Int32)), om_Mo_meeting_b4 x1 x2 x3 σ = some t → (ox_G (fun t : (Int32 × Int32) => ox_M p l e rm_om_Mo_meeting s m args below meth c (om_W D ad cI cC cZ A) 4 res σ 4 [some (.ref (ad 0)), some (.int x1), some (.int t.1), some (.int t.2)] [] σ) (fun t : Int32 => res = some (.int t) ∧ σ = σ)) t → ox_M p l e rm_om_Mo_meeting s m args below meth c (om_W D ad cI cC cZ A) 4 res σ 4 [some (.ref (ad 0)), some (.int x1), some (.int x2), some (.int x3)] [] σ := by
    intro x1 x2 x3  t h hG
    unfold om_Mo_meeting_b4 at h
    refine ox_iload_n B 3 od_Mo_meeting_4 rfl rfl ?_
    refine ox_aload_n B 0 od_Mo_meeting_5 rfl rfl ?_
    refine omg_Mo_187 B F od_Mo_meeting_6 ?_
    refine ox_icmp_ge B 64 od_Mo_meeting_9 rfl (fun hc => ?_) (fun hc => ?_)
    · rw [if_pos hc] at h
      refine ox_iload_n B 2 od_Mo_meeting_64 rfl rfl ?_
      cases h
      exact ox_iret B F od_Mo_meeting_65 rfl rfl hG
    · rw [if_neg hc] at h
      refine ox_iload_n B 2 od_Mo_meeting_12 rfl rfl ?_
      refine ox_iload_n B 3 od_Mo_meeting_13 rfl rfl ?_
      refine ox_iload_n B 1 od_Mo_meeting_14 rfl rfl ?_
      refine ox_icmp_ge B 32 od_Mo_meeting_15 rfl (fun hc => ?_) (fun hc => ?_)
      · rw [if_pos hc] at h
        exact (ox_mask [true, true, false, true] (t_32 x1 x3 x2 _ h hG))
      · rw [if_neg hc] at h
        refine ox_aload_n B 0 od_Mo_meeting_18 rfl rfl ?_
        refine omg_Mo_41 B F od_Mo_meeting_19 ?_
        refine ox_bipush B od_Mo_meeting_22 oxk_b8 ?_
        refine ox_iload_n B 3 od_Mo_meeting_24 rfl rfl ?_
        refine ox_imul B od_Mo_meeting_25 ?_
        refine ox_iload_n B 1 od_Mo_meeting_26 rfl rfl ?_
        refine ox_iadd B od_Mo_meeting_27 ?_
        obtain ⟨j8, ej8, hj8, h⟩ := ox_ix_some2 h
        refine omal_10 B F od_Mo_meeting_28 hj8 ej8 ?_
        refine ox_if_ne B 51 od_Mo_meeting_29 rfl (fun hc => ?_) (fun hc => ?_)
        · rw [if_neg hc] at h
          refine ox_iconst B od_Mo_meeting_51 oxk_i1 ?_
          refine ox_goto B 56 od_Mo_meeting_52 rfl ?_
          refine ox_iadd B od_Mo_meeting_56 ?_
          obtain ⟨v9, ev9, h⟩ := ox_let_some h
          refine ox_topi ev9 ?_
          refine ox_istore_n B 2 od_Mo_meeting_57 rfl (by decide) rfl (L2 := [some (.ref (ad 0)), some (.int x1), some (.int v9), some (.int x3)]) rfl ?_
          obtain ⟨v10, ev10, h⟩ := ox_let_some h
          refine ox_iinc B od_Mo_meeting_58 rfl ((congrArg (x3 + ·) oxk_i1).trans ev10.symm) (by decide) rfl (L2 := [some (.ref (ad 0)), some (.int x1), some (.int v9), some (.int v10)]) rfl ?_
          refine ox_goto B 4 od_Mo_meeting_61 rfl ?_
          cases h
          exact hG
        · rw [if_pos hc] at h
          exact (ox_mask [true, true, false, true] (t_32 x1 x3 x2 _ h hG))
  have t_4 : ∀ (x1 : Int32) (x2 : Int32) (x3 : Int32)  (t : Int32), om_Mo_meeting_h4 x1 x2 x3 σ = some t → (fun t : Int32 => res = some (.int t) ∧ σ = σ) t → ox_M p l e rm_om_Mo_meeting s m args below meth c (om_W D ad cI cC cZ A) 4 res σ 4 [some (.ref (ad 0)), some (.int x1), some (.int x2), some (.int x3)] [] σ := by
    intro x1 x2 x3  t h hG
    exact ox_w_run (fun t : (Int32 × Int32) => ox_M p l e rm_om_Mo_meeting s m args below meth c (om_W D ad cI cC cZ A) 4 res σ 4 [some (.ref (ad 0)), some (.int x1), some (.int t.1), some (.int t.2)] [] σ) (fun t : Int32 => res = some (.int t) ∧ σ = σ) (fun a t h hG => t_b4 x1 a.1 a.2  t h hG) (x2, x3) t h hG
  change ox_M p l e rm_om_Mo_meeting s m args below meth c (om_W D ad cI cC cZ A) 4 res σ 0 [some (.ref (ad 0)), some (.int x1), none, none] [] σ
  unfold om_Mo_meeting at h
  refine ox_iconst B od_Mo_meeting_0 oxk_i0 ?_
  refine ox_istore_n B 2 od_Mo_meeting_1 rfl (by decide) rfl (L2 := [some (.ref (ad 0)), some (.int x1), some (.int (0 : Int32)), none]) rfl ?_
  refine ox_iconst B od_Mo_meeting_2 oxk_i0 ?_
  refine ox_istore_n B 3 od_Mo_meeting_3 rfl (by decide) rfl (L2 := [some (.ref (ad 0)), some (.int x1), some (.int (0 : Int32)), some (.int (0 : Int32))]) rfl ?_
  exact (t_4 x1 (0 : Int32) (0 : Int32) _ h hG)
abbrev rm_om_Mo_degree : Room := { frames := 4, cells := 0, slots := 0, locals := 95 }
set_option maxRecDepth 100000 in
set_option maxHeartbeats 4000000 in
theorem ct_om_Mo_degree {l : Launch} {D : va_G} {ad : Nat → Nat} {cI cC cZ : ClassId} {A : Nat → Prop} (hok : ox_ok (om_W D ad cI cC cZ A)) (x1 : Int32) (σ : ox_S) (t : (Int32 × ox_S)) (h : om_Mo_degree x1 σ = some t) : Met l oy_Mo_degree (Cond.code oy_Mo_degree prog_11_method_39_code 2 (some .int) :: ox_ws) rm_om_Mo_degree (ox_P (om_W D ad cI cC cZ A) [.ref (ad 0), .int x1] σ) (ox_Q (om_W D ad cI cC cZ A) (some (.int t.1)) t.2) 0 0 A := by
  refine ox_met (ω := om_W D ad cI cC cZ A) (by decide) rfl hok (Nat.le_of_ble_eq_true rfl) ?_
  intro p e s m args below meth c B F
  generalize hres : (some (.int t.1) : Option Value) = res
  generalize hσf : t.2 = σf
  have hG : (fun t : (Int32 × ox_S) => res = some (.int t.1) ∧ σf = t.2) t := ⟨hres.symm, hσf.symm⟩
  change ox_M p l e rm_om_Mo_degree s m args below meth c (om_W D ad cI cC cZ A) 2 res σf 0 [some (.ref (ad 0)), some (.int x1)] [] σ
  unfold om_Mo_degree at h
  refine ox_aload_n B 0 od_Mo_degree_0 rfl rfl ?_
  obtain ⟨s1, hs1, h⟩ := ox_bind h
  refine omc_Mo_232 B F od_Mo_degree_1 (As := []) (rest := []) (st2 := []) (ct_om_Mo_ownRules hok σ _ hs1) ⟨rfl, rfl, Nat.le_of_ble_eq_true rfl, Nat.le_of_ble_eq_true rfl⟩ rfl (Nat.le_of_ble_eq_true rfl) rfl rfl ?_
  refine ox_aload_n B 0 od_Mo_degree_4 rfl rfl ?_
  refine ox_iload_n B 1 od_Mo_degree_5 rfl rfl ?_
  obtain ⟨r2, hr2, h⟩ := ox_bind h
  refine omc_Mo_205 B F od_Mo_degree_6 (As := [.int x1]) (rest := []) (st2 := [.int r2]) (ct_om_Mo_city hok x1 s1 _ hr2) ⟨rfl, rfl, Nat.le_of_ble_eq_true rfl, Nat.le_of_ble_eq_true rfl⟩ rfl (Nat.le_of_ble_eq_true rfl) rfl rfl ?_
  refine ox_if_eq B 27 od_Mo_degree_9 rfl (fun hc => ?_) (fun hc => ?_)
  · rw [if_pos hc] at h
    refine ox_iconst B od_Mo_degree_27 oxk_im1 ?_
    cases h
    exact ox_iret B F od_Mo_degree_28 rfl rfl hG
  · rw [if_neg hc] at h
    refine ox_aload_n B 0 od_Mo_degree_12 rfl rfl ?_
    obtain ⟨r3, s4, hr3, h⟩ := ox_b2_some h
    refine omc_Mo_228 B F od_Mo_degree_13 (As := []) (rest := []) (st2 := [.int r3]) (ct_om_Mo_tree hok s1 _ hr3) ⟨rfl, rfl, Nat.le_of_ble_eq_true rfl, Nat.le_of_ble_eq_true rfl⟩ rfl (Nat.le_of_ble_eq_true rfl) rfl rfl ?_
    refine ox_if_eq B 27 od_Mo_degree_16 rfl (fun hc => ?_) (fun hc => ?_)
    · rw [if_pos hc] at h
      refine ox_iconst B od_Mo_degree_27 oxk_im1 ?_
      cases h
      exact ox_iret B F od_Mo_degree_28 rfl rfl hG
    · rw [if_neg hc] at h
      refine ox_aload_n B 0 od_Mo_degree_19 rfl rfl ?_
      refine ox_iload_n B 1 od_Mo_degree_20 rfl rfl ?_
      obtain ⟨r5, hr5, h⟩ := ox_bind h
      refine omc_Mo_238 B F od_Mo_degree_21 (As := [.int x1]) (rest := []) (st2 := [.int r5]) (ct_om_Mo_meeting hok x1 s4 _ hr5) ⟨rfl, rfl, Nat.le_of_ble_eq_true rfl, Nat.le_of_ble_eq_true rfl⟩ rfl (Nat.le_of_ble_eq_true rfl) rfl rfl ?_
      refine ox_goto B 28 od_Mo_degree_24 rfl ?_
      cases h
      exact ox_iret B F od_Mo_degree_28 rfl rfl hG
abbrev rm_om_Mo_ascend : Room := { frames := 5, cells := 0, slots := 0, locals := 118 }
set_option maxRecDepth 100000 in
set_option maxHeartbeats 4000000 in
theorem ct_om_Mo_ascend {l : Launch} {D : va_G} {ad : Nat → Nat} {cI cC cZ : ClassId} {A : Nat → Prop} (hok : ox_ok (om_W D ad cI cC cZ A)) (x1 : Int32) (σ : ox_S) (t : (Int32 × ox_S)) (h : om_Mo_ascend x1 σ = some t) : Met l oy_Mo_ascend (Cond.code oy_Mo_ascend prog_11_method_40_code 4 (some .int) :: ox_ws) rm_om_Mo_ascend (ox_P (om_W D ad cI cC cZ A) [.ref (ad 0), .int x1] σ) (ox_Q (om_W D ad cI cC cZ A) (some (.int t.1)) t.2) 0 0 A := by
  refine ox_met (ω := om_W D ad cI cC cZ A) (by decide) rfl hok (Nat.le_of_ble_eq_true rfl) ?_
  intro p e s m args below meth c B F
  generalize hres : (some (.int t.1) : Option Value) = res
  generalize hσf : t.2 = σf
  have hG : (fun t : (Int32 × ox_S) => res = some (.int t.1) ∧ σf = t.2) t := ⟨hres.symm, hσf.symm⟩
  have t_b74 : ∀ (x1 : Int32) (x2 : Int32) (σ : ox_S) (t : ((Int32 × ox_S) ⊕ (Int32 × ox_S))), om_Mo_ascend_b74 x1 x2 σ = some t → (ox_G (fun t : (Int32 × ox_S) => ox_M p l e rm_om_Mo_ascend s m args below meth c (om_W D ad cI cC cZ A) 4 res σf 74 [some (.ref (ad 0)), some (.int x1), some (.int t.1), none] [] t.2) (fun t : (Int32 × ox_S) => res = some (.int t.1) ∧ σf = t.2)) t → ox_M p l e rm_om_Mo_ascend s m args below meth c (om_W D ad cI cC cZ A) 4 res σf 74 [some (.ref (ad 0)), some (.int x1), some (.int x2), none] [] σ := by
    intro x1 x2 σ t h hG
    unfold om_Mo_ascend_b74 at h
    refine ox_iload_n B 2 od_Mo_ascend_74 rfl rfl ?_
    refine ox_aload_n B 0 od_Mo_ascend_75 rfl rfl ?_
    refine omg_Mo_187 B F od_Mo_ascend_76 ?_
    refine ox_icmp_ge B 106 od_Mo_ascend_79 rfl (fun hc => ?_) (fun hc => ?_)
    · rw [if_pos hc] at h
      refine ox_aload_n B 0 od_Mo_ascend_106 rfl rfl ?_
      obtain ⟨r4, s5, hr4, h⟩ := ox_b2_some h
      refine omc_Mo_235 B F od_Mo_ascend_107 (As := []) (rest := []) (st2 := [.int r4]) (ct_om_Mo_boundNow hok σ _ hr4) ⟨rfl, rfl, Nat.le_of_ble_eq_true rfl, Nat.le_of_ble_eq_true rfl⟩ rfl (Nat.le_of_ble_eq_true rfl) rfl rfl ?_
      cases h
      exact ox_iret B F od_Mo_ascend_110 rfl rfl hG
    · rw [if_neg hc] at h
      refine ox_aload_n B 0 od_Mo_ascend_82 rfl rfl ?_
      refine omg_Mo_20 B F od_Mo_ascend_83 ?_
      refine ox_iload_n B 2 od_Mo_ascend_86 rfl rfl ?_
      refine ox_dup2 B od_Mo_ascend_87 rfl rfl ?_
      obtain ⟨j6, ej6, hj6, h⟩ := ox_ix_some2 h
      refine omal_3 B F od_Mo_ascend_88 hj6 ej6 ?_
      refine ox_iload_n B 1 od_Mo_ascend_89 rfl rfl ?_
      refine ox_aload_n B 0 od_Mo_ascend_90 rfl rfl ?_
      refine ox_iload_n B 2 od_Mo_ascend_91 rfl rfl ?_
      obtain ⟨r7, hr7, h⟩ := ox_bind h
      refine omc_Mo_238 B F od_Mo_ascend_92 (As := [.int x2]) (rest := [.int x1, .int (σ.2 3 j6), .int x2, .ref (ad 4)]) (st2 := [.int r7, .int x1, .int (σ.2 3 j6), .int x2, .ref (ad 4)]) (ct_om_Mo_meeting hok x2 σ _ hr7) ⟨rfl, rfl, Nat.le_of_ble_eq_true rfl, Nat.le_of_ble_eq_true rfl⟩ rfl (Nat.le_of_ble_eq_true rfl) rfl rfl ?_
      refine ox_iconst B od_Mo_ascend_95 oxk_i2 ?_
      refine ox_isub B od_Mo_ascend_96 ?_
      refine ox_imul B od_Mo_ascend_97 ?_
      refine ox_iadd B od_Mo_ascend_98 ?_
      obtain ⟨j8, ej8, hj8, h⟩ := ox_ix_some2 h
      obtain ⟨s9, es9, h⟩ := ox_let_some h
      refine omas_3 B F od_Mo_ascend_99 hj8 ej8 es9 ?_
      obtain ⟨v10, ev10, h⟩ := ox_let_some h
      refine ox_iinc B od_Mo_ascend_100 rfl ((congrArg (x2 + ·) oxk_i1).trans ev10.symm) (by decide) rfl (L2 := [some (.ref (ad 0)), some (.int x1), some (.int v10), none]) rfl ?_
      refine ox_goto B 74 od_Mo_ascend_103 rfl ?_
      cases h
      exact hG
  have t_74 : ∀ (x1 : Int32) (x2 : Int32) (σ : ox_S) (t : (Int32 × ox_S)), om_Mo_ascend_h74 x1 x2 σ = some t → (fun t : (Int32 × ox_S) => res = some (.int t.1) ∧ σf = t.2) t → ox_M p l e rm_om_Mo_ascend s m args below meth c (om_W D ad cI cC cZ A) 4 res σf 74 [some (.ref (ad 0)), some (.int x1), some (.int x2), none] [] σ := by
    intro x1 x2 σ t h hG
    exact ox_w_run (fun t : (Int32 × ox_S) => ox_M p l e rm_om_Mo_ascend s m args below meth c (om_W D ad cI cC cZ A) 4 res σf 74 [some (.ref (ad 0)), some (.int x1), some (.int t.1), none] [] t.2) (fun t : (Int32 × ox_S) => res = some (.int t.1) ∧ σf = t.2) (fun a t h hG => t_b74 x1 a.1 a.2 t h hG) (x2, σ) t h hG
  have t_b27 : ∀ (x1 : Int32) (x2 : Int32) (σ : ox_S) (t : (Int32 ⊕ (Int32 × ox_S))), om_Mo_ascend_b27 x1 x2 σ = some t → (ox_G (fun t : Int32 => ox_M p l e rm_om_Mo_ascend s m args below meth c (om_W D ad cI cC cZ A) 4 res σf 27 [some (.ref (ad 0)), some (.int x1), some (.int t), none] [] σ) (fun t : (Int32 × ox_S) => res = some (.int t.1) ∧ σf = t.2)) t → ox_M p l e rm_om_Mo_ascend s m args below meth c (om_W D ad cI cC cZ A) 4 res σf 27 [some (.ref (ad 0)), some (.int x1), some (.int x2), none] [] σ := by
    intro x1 x2 σ t h hG
    unfold om_Mo_ascend_b27 at h
    refine ox_iload_n B 2 od_Mo_ascend_27 rfl rfl ?_
    refine ox_aload_n B 0 od_Mo_ascend_28 rfl rfl ?_
    refine omg_Mo_187 B F od_Mo_ascend_29 ?_
    refine ox_icmp_ge B 72 od_Mo_ascend_32 rfl (fun hc => ?_) (fun hc => ?_)
    · rw [if_pos hc] at h
      refine ox_iconst B od_Mo_ascend_72 oxk_i0 ?_
      refine ox_istore_n B 2 od_Mo_ascend_73 rfl (by decide) rfl (L2 := [some (.ref (ad 0)), some (.int x1), some (.int (0 : Int32)), none]) rfl ?_
      obtain ⟨t', h', e'⟩ := ox_map h
      subst e'
      exact (t_74 x1 (0 : Int32) σ _ h' hG)
    · rw [if_neg hc] at h
      refine ox_aload_n B 0 od_Mo_ascend_35 rfl rfl ?_
      refine omg_Mo_20 B F od_Mo_ascend_36 ?_
      refine ox_iload_n B 2 od_Mo_ascend_39 rfl rfl ?_
      obtain ⟨j11, ej11, hj11, h⟩ := ox_ix_some2 h
      refine omal_3 B F od_Mo_ascend_40 hj11 ej11 ?_
      refine ox_iload_n B 1 od_Mo_ascend_41 rfl rfl ?_
      refine ox_aload_n B 0 od_Mo_ascend_42 rfl rfl ?_
      refine ox_iload_n B 2 od_Mo_ascend_43 rfl rfl ?_
      obtain ⟨r12, hr12, h⟩ := ox_bind h
      refine omc_Mo_238 B F od_Mo_ascend_44 (As := [.int x2]) (rest := [.int x1, .int (σ.2 3 j11)]) (st2 := [.int r12, .int x1, .int (σ.2 3 j11)]) (ct_om_Mo_meeting hok x2 σ _ hr12) ⟨rfl, rfl, Nat.le_of_ble_eq_true rfl, Nat.le_of_ble_eq_true rfl⟩ rfl (Nat.le_of_ble_eq_true rfl) rfl rfl ?_
      refine ox_iconst B od_Mo_ascend_47 oxk_i2 ?_
      refine ox_isub B od_Mo_ascend_48 ?_
      refine ox_imul B od_Mo_ascend_49 ?_
      refine ox_iadd B od_Mo_ascend_50 ?_
      obtain ⟨v13, ev13, h⟩ := ox_let_some h
      refine ox_topi ev13 ?_
      refine ox_istore_n B 3 od_Mo_ascend_51 rfl (by decide) rfl (L2 := [some (.ref (ad 0)), some (.int x1), some (.int x2), some (.int v13)]) rfl ?_
      refine ox_iload_n B 3 od_Mo_ascend_52 rfl rfl ?_
      refine ox_ldc B od_Mo_ascend_53 omk_Mo_208 ?_
      refine ox_icmp_lt B 64 od_Mo_ascend_55 rfl (fun hc => ?_) (fun hc => ?_)
      · rw [if_pos hc] at h
        refine ox_iconst B od_Mo_ascend_64 oxk_im1 ?_
        cases h
        exact ox_iret B F od_Mo_ascend_65 rfl rfl hG
      · rw [if_neg hc] at h
        refine ox_iload_n B 3 od_Mo_ascend_58 rfl rfl ?_
        refine ox_ldc B od_Mo_ascend_59 omk_Mo_209 ?_
        refine ox_icmp_le B 66 od_Mo_ascend_61 rfl (fun hc => ?_) (fun hc => ?_)
        · rw [if_pos hc] at h
          obtain ⟨v14, ev14, h⟩ := ox_let_some h
          refine ox_iinc B od_Mo_ascend_66 rfl ((congrArg (x2 + ·) oxk_i1).trans ev14.symm) (by decide) rfl (L2 := [some (.ref (ad 0)), some (.int x1), some (.int v14), some (.int v13)]) rfl ?_
          refine ox_goto B 27 od_Mo_ascend_69 rfl ?_
          cases h
          exact (ox_mask [true, true, true, false] hG)
        · rw [if_neg hc] at h
          refine ox_iconst B od_Mo_ascend_64 oxk_im1 ?_
          cases h
          exact ox_iret B F od_Mo_ascend_65 rfl rfl hG
  have t_27 : ∀ (x1 : Int32) (x2 : Int32) (σ : ox_S) (t : (Int32 × ox_S)), om_Mo_ascend_h27 x1 x2 σ = some t → (fun t : (Int32 × ox_S) => res = some (.int t.1) ∧ σf = t.2) t → ox_M p l e rm_om_Mo_ascend s m args below meth c (om_W D ad cI cC cZ A) 4 res σf 27 [some (.ref (ad 0)), some (.int x1), some (.int x2), none] [] σ := by
    intro x1 x2 σ t h hG
    exact ox_w_run (fun t : Int32 => ox_M p l e rm_om_Mo_ascend s m args below meth c (om_W D ad cI cC cZ A) 4 res σf 27 [some (.ref (ad 0)), some (.int x1), some (.int t), none] [] σ) (fun t : (Int32 × ox_S) => res = some (.int t.1) ∧ σf = t.2) (fun a t h hG => t_b27 x1 a σ t h hG) x2 t h hG
  change ox_M p l e rm_om_Mo_ascend s m args below meth c (om_W D ad cI cC cZ A) 4 res σf 0 [some (.ref (ad 0)), some (.int x1), none, none] [] σ
  unfold om_Mo_ascend at h
  refine ox_aload_n B 0 od_Mo_ascend_0 rfl rfl ?_
  obtain ⟨s1, hs1, h⟩ := ox_bind h
  refine omc_Mo_232 B F od_Mo_ascend_1 (As := []) (rest := []) (st2 := []) (ct_om_Mo_ownRules hok σ _ hs1) ⟨rfl, rfl, Nat.le_of_ble_eq_true rfl, Nat.le_of_ble_eq_true rfl⟩ rfl (Nat.le_of_ble_eq_true rfl) rfl rfl ?_
  refine ox_iload_n B 1 od_Mo_ascend_4 rfl rfl ?_
  refine ox_iconst B od_Mo_ascend_5 oxk_i1 ?_
  refine ox_icmp_lt B 23 od_Mo_ascend_6 rfl (fun hc => ?_) (fun hc => ?_)
  · rw [if_pos hc] at h
    refine ox_iconst B od_Mo_ascend_23 oxk_im1 ?_
    cases h
    exact ox_iret B F od_Mo_ascend_24 rfl rfl hG
  · rw [if_neg hc] at h
    refine ox_iload_n B 1 od_Mo_ascend_9 rfl rfl ?_
    refine ox_sipush B od_Mo_ascend_10 oxk_s1000 ?_
    refine ox_icmp_gt B 23 od_Mo_ascend_13 rfl (fun hc => ?_) (fun hc => ?_)
    · rw [if_pos hc] at h
      refine ox_iconst B od_Mo_ascend_23 oxk_im1 ?_
      cases h
      exact ox_iret B F od_Mo_ascend_24 rfl rfl hG
    · rw [if_neg hc] at h
      refine ox_aload_n B 0 od_Mo_ascend_16 rfl rfl ?_
      obtain ⟨r2, s3, hr2, h⟩ := ox_b2_some h
      refine omc_Mo_228 B F od_Mo_ascend_17 (As := []) (rest := []) (st2 := [.int r2]) (ct_om_Mo_tree hok s1 _ hr2) ⟨rfl, rfl, Nat.le_of_ble_eq_true rfl, Nat.le_of_ble_eq_true rfl⟩ rfl (Nat.le_of_ble_eq_true rfl) rfl rfl ?_
      refine ox_if_ne B 25 od_Mo_ascend_20 rfl (fun hc => ?_) (fun hc => ?_)
      · rw [if_neg hc] at h
        refine ox_iconst B od_Mo_ascend_25 oxk_i0 ?_
        refine ox_istore_n B 2 od_Mo_ascend_26 rfl (by decide) rfl (L2 := [some (.ref (ad 0)), some (.int x1), some (.int (0 : Int32)), none]) rfl ?_
        exact (t_27 x1 (0 : Int32) s3 _ h hG)
      · rw [if_pos hc] at h
        refine ox_iconst B od_Mo_ascend_23 oxk_im1 ?_
        cases h
        exact ox_iret B F od_Mo_ascend_24 rfl rfl hG
abbrev rm_om_Mo_firstTour : Room := { frames := 0, cells := 0, slots := 0, locals := 0 }
set_option maxRecDepth 100000 in
set_option maxHeartbeats 4000000 in
theorem ct_om_Mo_firstTour {l : Launch} {D : va_G} {ad : Nat → Nat} {cI cC cZ : ClassId} {A : Nat → Prop} (hok : ox_ok (om_W D ad cI cC cZ A))  (σ : ox_S) (t : ox_S) (h : om_Mo_firstTour  σ = some t) : Met l oy_Mo_firstTour (Cond.code oy_Mo_firstTour prog_11_method_41_code 2 none :: ox_ws) rm_om_Mo_firstTour (ox_P (om_W D ad cI cC cZ A) [.ref (ad 0)] σ) (ox_Q (om_W D ad cI cC cZ A) none t) 0 0 A := by
  refine ox_met (ω := om_W D ad cI cC cZ A) (by decide) rfl hok (Nat.le_of_ble_eq_true rfl) ?_
  intro p e s m args below meth c B F
  generalize hres : (none : Option Value) = res
  have hG : res = none ∧ t = t := ⟨hres.symm, rfl⟩
  obtain ⟨σf, hσf⟩ : ∃ z, z = t := ⟨_, rfl⟩
  have hG : (fun t : ox_S => res = none ∧ σf = t) t := ⟨hres.symm, hσf⟩
  rw [show ox_M p l e rm_om_Mo_firstTour s m args below meth c (om_W D ad cI cC cZ A) 2 res t 0 (ox_l0 [.ref (ad 0)] 2) [] σ = ox_M p l e rm_om_Mo_firstTour s m args below meth c (om_W D ad cI cC cZ A) 2 res σf 0 (ox_l0 [.ref (ad 0)] 2) [] σ by rw [hσf]]
  have t_b2 : ∀ (x1 : Int32) (σ : ox_S) (t : ((Int32 × ox_S) ⊕ ox_S)), om_Mo_firstTour_b2 x1 σ = some t → (ox_G (fun t : (Int32 × ox_S) => ox_M p l e rm_om_Mo_firstTour s m args below meth c (om_W D ad cI cC cZ A) 2 res σf 2 [some (.ref (ad 0)), some (.int t.1)] [] t.2) (fun t : ox_S => res = none ∧ σf = t)) t → ox_M p l e rm_om_Mo_firstTour s m args below meth c (om_W D ad cI cC cZ A) 2 res σf 2 [some (.ref (ad 0)), some (.int x1)] [] σ := by
    intro x1 σ t h hG
    unfold om_Mo_firstTour_b2 at h
    refine ox_iload_n B 1 od_Mo_firstTour_2 rfl rfl ?_
    refine ox_aload_n B 0 od_Mo_firstTour_3 rfl rfl ?_
    refine omg_Mo_187 B F od_Mo_firstTour_4 ?_
    refine ox_icmp_ge B 23 od_Mo_firstTour_7 rfl (fun hc => ?_) (fun hc => ?_)
    · rw [if_pos hc] at h
      cases h
      exact ox_vret B F od_Mo_firstTour_23 rfl hG
    · rw [if_neg hc] at h
      refine ox_aload_n B 0 od_Mo_firstTour_10 rfl rfl ?_
      refine omg_Mo_51 B F od_Mo_firstTour_11 ?_
      refine ox_iload_n B 1 od_Mo_firstTour_14 rfl rfl ?_
      refine ox_iload_n B 1 od_Mo_firstTour_15 rfl rfl ?_
      obtain ⟨j1, ej1, hj1, h⟩ := ox_ix_some2 h
      obtain ⟨s2, es2, h⟩ := ox_let_some h
      refine omas_13 B F od_Mo_firstTour_16 hj1 ej1 es2 ?_
      obtain ⟨v3, ev3, h⟩ := ox_let_some h
      refine ox_iinc B od_Mo_firstTour_17 rfl ((congrArg (x1 + ·) oxk_i1).trans ev3.symm) (by decide) rfl (L2 := [some (.ref (ad 0)), some (.int v3)]) rfl ?_
      refine ox_goto B 2 od_Mo_firstTour_20 rfl ?_
      cases h
      exact hG
  have t_2 : ∀ (x1 : Int32) (σ : ox_S) (t : ox_S), om_Mo_firstTour_h2 x1 σ = some t → (fun t : ox_S => res = none ∧ σf = t) t → ox_M p l e rm_om_Mo_firstTour s m args below meth c (om_W D ad cI cC cZ A) 2 res σf 2 [some (.ref (ad 0)), some (.int x1)] [] σ := by
    intro x1 σ t h hG
    exact ox_w_run (fun t : (Int32 × ox_S) => ox_M p l e rm_om_Mo_firstTour s m args below meth c (om_W D ad cI cC cZ A) 2 res σf 2 [some (.ref (ad 0)), some (.int t.1)] [] t.2) (fun t : ox_S => res = none ∧ σf = t) (fun a t h hG => t_b2 a.1 a.2 t h hG) (x1, σ) t h hG
  change ox_M p l e rm_om_Mo_firstTour s m args below meth c (om_W D ad cI cC cZ A) 2 res σf 0 [some (.ref (ad 0)), none] [] σ
  unfold om_Mo_firstTour at h
  refine ox_iconst B od_Mo_firstTour_0 oxk_i0 ?_
  refine ox_istore_n B 1 od_Mo_firstTour_1 rfl (by decide) rfl (L2 := [some (.ref (ad 0)), some (.int (0 : Int32))]) rfl ?_
  exact (t_2 (0 : Int32) σ _ h hG)
abbrev rm_om_Mo_next : Room := { frames := 0, cells := 0, slots := 0, locals := 0 }
set_option maxRecDepth 100000 in
set_option maxHeartbeats 4000000 in
theorem ct_om_Mo_next {l : Launch} {D : va_G} {ad : Nat → Nat} {cI cC cZ : ClassId} {A : Nat → Prop} (hok : ox_ok (om_W D ad cI cC cZ A)) (x1 : Int32) (σ : ox_S) (t : Int32) (h : om_Mo_next x1 σ = some t) : Met l oy_Mo_next (Cond.code oy_Mo_next prog_11_method_44_code 2 (some .int) :: ox_ws) rm_om_Mo_next (ox_P (om_W D ad cI cC cZ A) [.ref (ad 0), .int x1] σ) (ox_Q (om_W D ad cI cC cZ A) (some (.int t)) σ) 0 0 A := by
  refine ox_met (ω := om_W D ad cI cC cZ A) (by decide) rfl hok (Nat.le_of_ble_eq_true rfl) ?_
  intro p e s m args below meth c B F
  generalize hres : (some (.int t) : Option Value) = res
  have hG : (fun t : Int32 => res = some (.int t) ∧ σ = σ) t := ⟨hres.symm, rfl⟩
  change ox_M p l e rm_om_Mo_next s m args below meth c (om_W D ad cI cC cZ A) 2 res σ 0 [some (.ref (ad 0)), some (.int x1)] [] σ
  unfold om_Mo_next at h
  refine ox_aload_n B 0 od_Mo_next_0 rfl rfl ?_
  refine omg_Mo_51 B F od_Mo_next_1 ?_
  refine ox_iload_n B 1 od_Mo_next_4 rfl rfl ?_
  refine ox_iconst B od_Mo_next_5 oxk_i1 ?_
  refine ox_iadd B od_Mo_next_6 ?_
  refine ox_aload_n B 0 od_Mo_next_7 rfl rfl ?_
  refine omg_Mo_187 B F od_Mo_next_8 ?_
  refine ox_icmp_ne B 18 od_Mo_next_11 rfl (fun hc => ?_) (fun hc => ?_)
  · rw [if_neg hc] at h
    refine ox_iload_n B 1 od_Mo_next_18 rfl rfl ?_
    refine ox_iconst B od_Mo_next_19 oxk_i1 ?_
    refine ox_iadd B od_Mo_next_20 ?_
    obtain ⟨j1, ej1, hj1, h⟩ := ox_ix_some2 h
    refine omal_13 B F od_Mo_next_21 hj1 ej1 ?_
    cases h
    exact ox_iret B F od_Mo_next_22 rfl rfl hG
  · rw [if_pos hc] at h
    refine ox_iconst B od_Mo_next_14 oxk_i0 ?_
    refine ox_goto B 21 od_Mo_next_15 rfl ?_
    obtain ⟨j2, ej2, hj2, h⟩ := ox_ix_some2 h
    refine omal_13 B F od_Mo_next_21 hj2 ej2 ?_
    cases h
    exact ox_iret B F od_Mo_next_22 rfl rfl hG
abbrev rm_om_Mo_has : Room := { frames := 1, cells := 0, slots := 0, locals := 21 }
set_option maxRecDepth 100000 in
set_option maxHeartbeats 4000000 in
theorem ct_om_Mo_has {l : Launch} {D : va_G} {ad : Nat → Nat} {cI cC cZ : ClassId} {A : Nat → Prop} (hok : ox_ok (om_W D ad cI cC cZ A)) (x1 : Int32) (x2 : Int32) (σ : ox_S) (t : Int32) (h : om_Mo_has x1 x2 σ = some t) : Met l oy_Mo_has (Cond.code oy_Mo_has prog_11_method_46_code 6 (some .boolean) :: ox_ws) rm_om_Mo_has (ox_P (om_W D ad cI cC cZ A) [.ref (ad 0), .int x1, .int x2] σ) (ox_Q (om_W D ad cI cC cZ A) (some (.int t)) σ) 0 0 A := by
  refine ox_met (ω := om_W D ad cI cC cZ A) (by decide) rfl hok (Nat.le_of_ble_eq_true rfl) ?_
  intro p e s m args below meth c B F
  generalize hres : (some (.int t) : Option Value) = res
  have hG : (fun t : Int32 => res = some (.int t) ∧ σ = σ) t := ⟨hres.symm, rfl⟩
  have t_43 : ∀ (x1 : Int32) (x2 : Int32) (x4 : Int32) (x5 : Int32)  (t : ((Int32 × Int32) ⊕ Int32)), om_Mo_has_j43 x1 x2 x4 x5 σ = some t → (ox_G (fun t : (Int32 × Int32) => ox_M p l e rm_om_Mo_has s m args below meth c (om_W D ad cI cC cZ A) 6 res σ 5 [some (.ref (ad 0)), some (.int x1), some (.int x2), some (.int t.1), some (.int t.2), none] [] σ) (fun t : Int32 => res = some (.int t) ∧ σ = σ)) t → ox_M p l e rm_om_Mo_has s m args below meth c (om_W D ad cI cC cZ A) 6 res σ 43 [some (.ref (ad 0)), some (.int x1), some (.int x2), none, some (.int x4), some (.int x5)] [] σ := by
    intro x1 x2 x4 x5  t h hG
    unfold om_Mo_has_j43 at h
    refine ox_aload_n B 0 od_Mo_has_43 rfl rfl ?_
    refine omg_Mo_51 B F od_Mo_has_44 ?_
    refine ox_iload B od_Mo_has_47 rfl ?_
    obtain ⟨j4, ej4, hj4, h⟩ := ox_ix_some2 h
    refine omal_13 B F od_Mo_has_49 hj4 ej4 ?_
    refine ox_iload_n B 2 od_Mo_has_50 rfl rfl ?_
    refine ox_icmp_ne B 64 od_Mo_has_51 rfl (fun hc => ?_) (fun hc => ?_)
    · rw [if_neg hc] at h
      refine ox_iconst B od_Mo_has_64 oxk_i0 ?_
      refine ox_istore_n B 3 od_Mo_has_65 rfl (by decide) rfl (L2 := [some (.ref (ad 0)), some (.int x1), some (.int x2), some (.int (0 : Int32)), some (.int x4), some (.int x5)]) rfl ?_
      obtain ⟨v5, ev5, h⟩ := ox_let_some h
      refine ox_iinc B od_Mo_has_66 rfl ((congrArg (x4 + ·) oxk_i1).trans ev5.symm) (by decide) rfl (L2 := [some (.ref (ad 0)), some (.int x1), some (.int x2), some (.int (0 : Int32)), some (.int v5), some (.int x5)]) rfl ?_
      refine ox_goto B 5 od_Mo_has_69 rfl ?_
      cases h
      exact (ox_mask [true, true, true, true, true, false] hG)
    · rw [if_pos hc] at h
      refine ox_iload B od_Mo_has_54 rfl ?_
      refine ox_iload_n B 1 od_Mo_has_56 rfl rfl ?_
      refine ox_icmp_ne B 64 od_Mo_has_57 rfl (fun hc => ?_) (fun hc => ?_)
      · rw [if_neg hc] at h
        refine ox_iconst B od_Mo_has_64 oxk_i0 ?_
        refine ox_istore_n B 3 od_Mo_has_65 rfl (by decide) rfl (L2 := [some (.ref (ad 0)), some (.int x1), some (.int x2), some (.int (0 : Int32)), some (.int x4), some (.int x5)]) rfl ?_
        obtain ⟨v6, ev6, h⟩ := ox_let_some h
        refine ox_iinc B od_Mo_has_66 rfl ((congrArg (x4 + ·) oxk_i1).trans ev6.symm) (by decide) rfl (L2 := [some (.ref (ad 0)), some (.int x1), some (.int x2), some (.int (0 : Int32)), some (.int v6), some (.int x5)]) rfl ?_
        refine ox_goto B 5 od_Mo_has_69 rfl ?_
        cases h
        exact (ox_mask [true, true, true, true, true, false] hG)
      · rw [if_pos hc] at h
        refine ox_iconst B od_Mo_has_60 oxk_i1 ?_
        refine ox_goto B 65 od_Mo_has_61 rfl ?_
        refine ox_istore_n B 3 od_Mo_has_65 rfl (by decide) rfl (L2 := [some (.ref (ad 0)), some (.int x1), some (.int x2), some (.int (1 : Int32)), some (.int x4), some (.int x5)]) rfl ?_
        obtain ⟨v7, ev7, h⟩ := ox_let_some h
        refine ox_iinc B od_Mo_has_66 rfl ((congrArg (x4 + ·) oxk_i1).trans ev7.symm) (by decide) rfl (L2 := [some (.ref (ad 0)), some (.int x1), some (.int x2), some (.int (1 : Int32)), some (.int v7), some (.int x5)]) rfl ?_
        refine ox_goto B 5 od_Mo_has_69 rfl ?_
        cases h
        exact (ox_mask [true, true, true, true, true, false] hG)
  have t_b5 : ∀ (x1 : Int32) (x2 : Int32) (x3 : Int32) (x4 : Int32)  (t : ((Int32 × Int32) ⊕ Int32)), om_Mo_has_b5 x1 x2 x3 x4 σ = some t → (ox_G (fun t : (Int32 × Int32) => ox_M p l e rm_om_Mo_has s m args below meth c (om_W D ad cI cC cZ A) 6 res σ 5 [some (.ref (ad 0)), some (.int x1), some (.int x2), some (.int t.1), some (.int t.2), none] [] σ) (fun t : Int32 => res = some (.int t) ∧ σ = σ)) t → ox_M p l e rm_om_Mo_has s m args below meth c (om_W D ad cI cC cZ A) 6 res σ 5 [some (.ref (ad 0)), some (.int x1), some (.int x2), some (.int x3), some (.int x4), none] [] σ := by
    intro x1 x2 x3 x4  t h hG
    unfold om_Mo_has_b5 at h
    refine ox_iload B od_Mo_has_5 rfl ?_
    refine ox_aload_n B 0 od_Mo_has_7 rfl rfl ?_
    refine omg_Mo_187 B F od_Mo_has_8 ?_
    refine ox_icmp_ge B 72 od_Mo_has_11 rfl (fun hc => ?_) (fun hc => ?_)
    · rw [if_pos hc] at h
      refine ox_iload_n B 3 od_Mo_has_72 rfl rfl ?_
      obtain ⟨hz, h⟩ := ox_z_some h
      cases h
      exact ox_iret B F od_Mo_has_73 rfl (ox_nz hz) hG
    · rw [if_neg hc] at h
      refine ox_aload_n B 0 od_Mo_has_14 rfl rfl ?_
      refine ox_iload B od_Mo_has_15 rfl ?_
      obtain ⟨r1, hr1, h⟩ := ox_bind h
      refine omc_Mo_245 B F od_Mo_has_17 (As := [.int x4]) (rest := []) (st2 := [.int r1]) (ct_om_Mo_next hok x4 σ _ hr1) ⟨rfl, rfl, Nat.le_of_ble_eq_true rfl, Nat.le_of_ble_eq_true rfl⟩ rfl (Nat.le_of_ble_eq_true rfl) rfl rfl ?_
      refine ox_istore B od_Mo_has_20 (by decide) rfl (L2 := [some (.ref (ad 0)), some (.int x1), some (.int x2), some (.int x3), some (.int x4), some (.int r1)]) rfl ?_
      refine ox_iload_n B 3 od_Mo_has_22 rfl rfl ?_
      refine ox_if_ne B 60 od_Mo_has_23 rfl (fun hc => ?_) (fun hc => ?_)
      · rw [if_neg hc] at h
        refine ox_iconst B od_Mo_has_60 oxk_i1 ?_
        refine ox_goto B 65 od_Mo_has_61 rfl ?_
        refine ox_istore_n B 3 od_Mo_has_65 rfl (by decide) rfl (L2 := [some (.ref (ad 0)), some (.int x1), some (.int x2), some (.int (1 : Int32)), some (.int x4), some (.int r1)]) rfl ?_
        obtain ⟨v2, ev2, h⟩ := ox_let_some h
        refine ox_iinc B od_Mo_has_66 rfl ((congrArg (x4 + ·) oxk_i1).trans ev2.symm) (by decide) rfl (L2 := [some (.ref (ad 0)), some (.int x1), some (.int x2), some (.int (1 : Int32)), some (.int v2), some (.int r1)]) rfl ?_
        refine ox_goto B 5 od_Mo_has_69 rfl ?_
        cases h
        exact (ox_mask [true, true, true, true, true, false] hG)
      · rw [if_pos hc] at h
        refine ox_aload_n B 0 od_Mo_has_26 rfl rfl ?_
        refine omg_Mo_51 B F od_Mo_has_27 ?_
        refine ox_iload B od_Mo_has_30 rfl ?_
        obtain ⟨j3, ej3, hj3, h⟩ := ox_ix_some2 h
        refine omal_13 B F od_Mo_has_32 hj3 ej3 ?_
        refine ox_iload_n B 1 od_Mo_has_33 rfl rfl ?_
        refine ox_icmp_ne B 43 od_Mo_has_34 rfl (fun hc => ?_) (fun hc => ?_)
        · rw [if_neg hc] at h
          exact (ox_mask [true, true, true, false, true, true] (t_43 x1 x2 x4 r1 _ h hG))
        · rw [if_pos hc] at h
          refine ox_iload B od_Mo_has_37 rfl ?_
          refine ox_iload_n B 2 od_Mo_has_39 rfl rfl ?_
          refine ox_icmp_eq B 60 od_Mo_has_40 rfl (fun hc => ?_) (fun hc => ?_)
          · rw [if_pos hc] at h
            refine ox_iconst B od_Mo_has_60 oxk_i1 ?_
            refine ox_goto B 65 od_Mo_has_61 rfl ?_
            refine ox_istore_n B 3 od_Mo_has_65 rfl (by decide) rfl (L2 := [some (.ref (ad 0)), some (.int x1), some (.int x2), some (.int (1 : Int32)), some (.int x4), some (.int r1)]) rfl ?_
            obtain ⟨v8, ev8, h⟩ := ox_let_some h
            refine ox_iinc B od_Mo_has_66 rfl ((congrArg (x4 + ·) oxk_i1).trans ev8.symm) (by decide) rfl (L2 := [some (.ref (ad 0)), some (.int x1), some (.int x2), some (.int (1 : Int32)), some (.int v8), some (.int r1)]) rfl ?_
            refine ox_goto B 5 od_Mo_has_69 rfl ?_
            cases h
            exact (ox_mask [true, true, true, true, true, false] hG)
          · rw [if_neg hc] at h
            exact (ox_mask [true, true, true, false, true, true] (t_43 x1 x2 x4 r1 _ h hG))
  have t_5 : ∀ (x1 : Int32) (x2 : Int32) (x3 : Int32) (x4 : Int32)  (t : Int32), om_Mo_has_h5 x1 x2 x3 x4 σ = some t → (fun t : Int32 => res = some (.int t) ∧ σ = σ) t → ox_M p l e rm_om_Mo_has s m args below meth c (om_W D ad cI cC cZ A) 6 res σ 5 [some (.ref (ad 0)), some (.int x1), some (.int x2), some (.int x3), some (.int x4), none] [] σ := by
    intro x1 x2 x3 x4  t h hG
    exact ox_w_run (fun t : (Int32 × Int32) => ox_M p l e rm_om_Mo_has s m args below meth c (om_W D ad cI cC cZ A) 6 res σ 5 [some (.ref (ad 0)), some (.int x1), some (.int x2), some (.int t.1), some (.int t.2), none] [] σ) (fun t : Int32 => res = some (.int t) ∧ σ = σ) (fun a t h hG => t_b5 x1 x2 a.1 a.2  t h hG) (x3, x4) t h hG
  change ox_M p l e rm_om_Mo_has s m args below meth c (om_W D ad cI cC cZ A) 6 res σ 0 [some (.ref (ad 0)), some (.int x1), some (.int x2), none, none, none] [] σ
  unfold om_Mo_has at h
  refine ox_iconst B od_Mo_has_0 oxk_i0 ?_
  refine ox_istore_n B 3 od_Mo_has_1 rfl (by decide) rfl (L2 := [some (.ref (ad 0)), some (.int x1), some (.int x2), some (.int (0 : Int32)), none, none]) rfl ?_
  refine ox_iconst B od_Mo_has_2 oxk_i0 ?_
  refine ox_istore B od_Mo_has_3 (by decide) rfl (L2 := [some (.ref (ad 0)), some (.int x1), some (.int x2), some (.int (0 : Int32)), some (.int (0 : Int32)), none]) rfl ?_
  exact (t_5 x1 x2 (0 : Int32) (0 : Int32) _ h hG)
abbrev rm_om_Mo_allowed : Room := { frames := 2, cells := 0, slots := 0, locals := 46 }
set_option maxRecDepth 100000 in
set_option maxHeartbeats 4000000 in
theorem ct_om_Mo_allowed {l : Launch} {D : va_G} {ad : Nat → Nat} {cI cC cZ : ClassId} {A : Nat → Prop} (hok : ox_ok (om_W D ad cI cC cZ A))  (σ : ox_S) (t : Int32) (h : om_Mo_allowed  σ = some t) : Met l oy_Mo_allowed (Cond.code oy_Mo_allowed prog_11_method_47_code 5 (some .boolean) :: ox_ws) rm_om_Mo_allowed (ox_P (om_W D ad cI cC cZ A) [.ref (ad 0)] σ) (ox_Q (om_W D ad cI cC cZ A) (some (.int t)) σ) 0 0 A := by
  refine ox_met (ω := om_W D ad cI cC cZ A) (by decide) rfl hok (Nat.le_of_ble_eq_true rfl) ?_
  intro p e s m args below meth c B F
  generalize hres : (some (.int t) : Option Value) = res
  have hG : (fun t : Int32 => res = some (.int t) ∧ σ = σ) t := ⟨hres.symm, rfl⟩
  have t_b44 : ∀ (x1 : Int32) (x2 : Int32) (x3 : Int32)  (t : ((Int32 × Int32) ⊕ ((Int32 × Int32) ⊕ Int32))), om_Mo_allowed_b44 x1 x2 x3 σ = some t → (ox_G (fun t : (Int32 × Int32) => ox_M p l e rm_om_Mo_allowed s m args below meth c (om_W D ad cI cC cZ A) 5 res σ 44 [some (.ref (ad 0)), some (.int t.1), some (.int x2), some (.int t.2), none] [] σ) (ox_G (fun t : (Int32 × Int32) => ox_M p l e rm_om_Mo_allowed s m args below meth c (om_W D ad cI cC cZ A) 5 res σ 28 [some (.ref (ad 0)), some (.int t.1), some (.int t.2), none, none] [] σ) (fun t : Int32 => res = some (.int t) ∧ σ = σ))) t → ox_M p l e rm_om_Mo_allowed s m args below meth c (om_W D ad cI cC cZ A) 5 res σ 44 [some (.ref (ad 0)), some (.int x1), some (.int x2), some (.int x3), none] [] σ := by
    intro x1 x2 x3  t h hG
    unfold om_Mo_allowed_b44 at h
    refine ox_iload_n B 3 od_Mo_allowed_44 rfl rfl ?_
    refine ox_aload_n B 0 od_Mo_allowed_45 rfl rfl ?_
    refine omg_Mo_187 B F od_Mo_allowed_46 ?_
    refine ox_icmp_ge B 115 od_Mo_allowed_49 rfl (fun hc => ?_) (fun hc => ?_)
    · rw [if_pos hc] at h
      obtain ⟨v4, ev4, h⟩ := ox_let_some h
      refine ox_iinc B od_Mo_allowed_115 rfl ((congrArg (x2 + ·) oxk_i1).trans ev4.symm) (by decide) rfl (L2 := [some (.ref (ad 0)), some (.int x1), some (.int v4), some (.int x3), none]) rfl ?_
      refine ox_goto B 28 od_Mo_allowed_118 rfl ?_
      cases h
      exact (ox_mask [true, true, true, false, false] hG)
    · rw [if_neg hc] at h
      refine ox_iload_n B 1 od_Mo_allowed_52 rfl rfl ?_
      refine ox_if_eq B 115 od_Mo_allowed_53 rfl (fun hc => ?_) (fun hc => ?_)
      · rw [if_pos hc] at h
        obtain ⟨v5, ev5, h⟩ := ox_let_some h
        refine ox_iinc B od_Mo_allowed_115 rfl ((congrArg (x2 + ·) oxk_i1).trans ev5.symm) (by decide) rfl (L2 := [some (.ref (ad 0)), some (.int x1), some (.int v5), some (.int x3), none]) rfl ?_
        refine ox_goto B 28 od_Mo_allowed_118 rfl ?_
        cases h
        exact (ox_mask [true, true, true, false, false] hG)
      · rw [if_neg hc] at h
        refine ox_aload_n B 0 od_Mo_allowed_56 rfl rfl ?_
        refine ox_iload_n B 2 od_Mo_allowed_57 rfl rfl ?_
        refine ox_iload_n B 3 od_Mo_allowed_58 rfl rfl ?_
        obtain ⟨r6, hr6, h⟩ := ox_bind h
        refine omc_Mo_248 B F od_Mo_allowed_59 (As := [.int x2, .int x3]) (rest := []) (st2 := [.int r6]) (ct_om_Mo_has hok x2 x3 σ _ hr6) ⟨rfl, rfl, Nat.le_of_ble_eq_true rfl, Nat.le_of_ble_eq_true rfl⟩ rfl (Nat.le_of_ble_eq_true rfl) rfl rfl ?_
        refine ox_istore B od_Mo_allowed_62 (by decide) rfl (L2 := [some (.ref (ad 0)), some (.int x1), some (.int x2), some (.int x3), some (.int r6)]) rfl ?_
        refine ox_aload_n B 0 od_Mo_allowed_64 rfl rfl ?_
        refine omg_Mo_17 B F od_Mo_allowed_65 ?_
        refine ox_bipush B od_Mo_allowed_68 oxk_b8 ?_
        refine ox_iload_n B 2 od_Mo_allowed_70 rfl rfl ?_
        refine ox_imul B od_Mo_allowed_71 ?_
        refine ox_iload_n B 3 od_Mo_allowed_72 rfl rfl ?_
        refine ox_iadd B od_Mo_allowed_73 ?_
        obtain ⟨j7, ej7, hj7, h⟩ := ox_ix_some2 h
        refine omal_2 B F od_Mo_allowed_74 hj7 ej7 ?_
        refine ox_if_eq B 103 od_Mo_allowed_75 rfl (fun hc => ?_) (fun hc => ?_)
        · rw [if_pos hc] at h
          refine ox_iconst B od_Mo_allowed_103 oxk_i1 ?_
          refine ox_goto B 108 od_Mo_allowed_104 rfl ?_
          refine ox_istore_n B 1 od_Mo_allowed_108 rfl (by decide) rfl (L2 := [some (.ref (ad 0)), some (.int (1 : Int32)), some (.int x2), some (.int x3), some (.int r6)]) rfl ?_
          obtain ⟨v8, ev8, h⟩ := ox_let_some h
          refine ox_iinc B od_Mo_allowed_109 rfl ((congrArg (x3 + ·) oxk_i1).trans ev8.symm) (by decide) rfl (L2 := [some (.ref (ad 0)), some (.int (1 : Int32)), some (.int x2), some (.int v8), some (.int r6)]) rfl ?_
          refine ox_goto B 44 od_Mo_allowed_112 rfl ?_
          cases h
          exact (ox_mask [true, true, true, true, false] hG)
        · rw [if_neg hc] at h
          refine ox_aload_n B 0 od_Mo_allowed_78 rfl rfl ?_
          refine omg_Mo_17 B F od_Mo_allowed_79 ?_
          refine ox_bipush B od_Mo_allowed_82 oxk_b8 ?_
          refine ox_iload_n B 2 od_Mo_allowed_84 rfl rfl ?_
          refine ox_imul B od_Mo_allowed_85 ?_
          refine ox_iload_n B 3 od_Mo_allowed_86 rfl rfl ?_
          refine ox_iadd B od_Mo_allowed_87 ?_
          obtain ⟨j9, ej9, hj9, h⟩ := ox_ix_some2 h
          refine omal_2 B F od_Mo_allowed_88 hj9 ej9 ?_
          refine ox_iconst B od_Mo_allowed_89 oxk_i1 ?_
          refine ox_icmp_ne B 97 od_Mo_allowed_90 rfl (fun hc => ?_) (fun hc => ?_)
          · rw [if_neg hc] at h
            refine ox_iconst B od_Mo_allowed_97 oxk_i0 ?_
            refine ox_iload B od_Mo_allowed_98 rfl ?_
            refine ox_icmp_ne B 107 od_Mo_allowed_100 rfl (fun hc => ?_) (fun hc => ?_)
            · rw [if_neg hc] at h
              refine ox_iconst B od_Mo_allowed_107 oxk_i0 ?_
              refine ox_istore_n B 1 od_Mo_allowed_108 rfl (by decide) rfl (L2 := [some (.ref (ad 0)), some (.int (0 : Int32)), some (.int x2), some (.int x3), some (.int r6)]) rfl ?_
              obtain ⟨v10, ev10, h⟩ := ox_let_some h
              refine ox_iinc B od_Mo_allowed_109 rfl ((congrArg (x3 + ·) oxk_i1).trans ev10.symm) (by decide) rfl (L2 := [some (.ref (ad 0)), some (.int (0 : Int32)), some (.int x2), some (.int v10), some (.int r6)]) rfl ?_
              refine ox_goto B 44 od_Mo_allowed_112 rfl ?_
              cases h
              exact (ox_mask [true, true, true, true, false] hG)
            · rw [if_pos hc] at h
              refine ox_iconst B od_Mo_allowed_103 oxk_i1 ?_
              refine ox_goto B 108 od_Mo_allowed_104 rfl ?_
              refine ox_istore_n B 1 od_Mo_allowed_108 rfl (by decide) rfl (L2 := [some (.ref (ad 0)), some (.int (1 : Int32)), some (.int x2), some (.int x3), some (.int r6)]) rfl ?_
              obtain ⟨v11, ev11, h⟩ := ox_let_some h
              refine ox_iinc B od_Mo_allowed_109 rfl ((congrArg (x3 + ·) oxk_i1).trans ev11.symm) (by decide) rfl (L2 := [some (.ref (ad 0)), some (.int (1 : Int32)), some (.int x2), some (.int v11), some (.int r6)]) rfl ?_
              refine ox_goto B 44 od_Mo_allowed_112 rfl ?_
              cases h
              exact (ox_mask [true, true, true, true, false] hG)
          · rw [if_pos hc] at h
            refine ox_iconst B od_Mo_allowed_93 oxk_i1 ?_
            refine ox_goto B 98 od_Mo_allowed_94 rfl ?_
            refine ox_iload B od_Mo_allowed_98 rfl ?_
            refine ox_icmp_ne B 107 od_Mo_allowed_100 rfl (fun hc => ?_) (fun hc => ?_)
            · rw [if_neg hc] at h
              refine ox_iconst B od_Mo_allowed_107 oxk_i0 ?_
              refine ox_istore_n B 1 od_Mo_allowed_108 rfl (by decide) rfl (L2 := [some (.ref (ad 0)), some (.int (0 : Int32)), some (.int x2), some (.int x3), some (.int r6)]) rfl ?_
              obtain ⟨v12, ev12, h⟩ := ox_let_some h
              refine ox_iinc B od_Mo_allowed_109 rfl ((congrArg (x3 + ·) oxk_i1).trans ev12.symm) (by decide) rfl (L2 := [some (.ref (ad 0)), some (.int (0 : Int32)), some (.int x2), some (.int v12), some (.int r6)]) rfl ?_
              refine ox_goto B 44 od_Mo_allowed_112 rfl ?_
              cases h
              exact (ox_mask [true, true, true, true, false] hG)
            · rw [if_pos hc] at h
              refine ox_iconst B od_Mo_allowed_103 oxk_i1 ?_
              refine ox_goto B 108 od_Mo_allowed_104 rfl ?_
              refine ox_istore_n B 1 od_Mo_allowed_108 rfl (by decide) rfl (L2 := [some (.ref (ad 0)), some (.int (1 : Int32)), some (.int x2), some (.int x3), some (.int r6)]) rfl ?_
              obtain ⟨v13, ev13, h⟩ := ox_let_some h
              refine ox_iinc B od_Mo_allowed_109 rfl ((congrArg (x3 + ·) oxk_i1).trans ev13.symm) (by decide) rfl (L2 := [some (.ref (ad 0)), some (.int (1 : Int32)), some (.int x2), some (.int v13), some (.int r6)]) rfl ?_
              refine ox_goto B 44 od_Mo_allowed_112 rfl ?_
              cases h
              exact (ox_mask [true, true, true, true, false] hG)
  have t_44 : ∀ (x1 : Int32) (x2 : Int32) (x3 : Int32)  (t : ((Int32 × Int32) ⊕ Int32)), om_Mo_allowed_h44 x1 x2 x3 σ = some t → (ox_G (fun t : (Int32 × Int32) => ox_M p l e rm_om_Mo_allowed s m args below meth c (om_W D ad cI cC cZ A) 5 res σ 28 [some (.ref (ad 0)), some (.int t.1), some (.int t.2), none, none] [] σ) (fun t : Int32 => res = some (.int t) ∧ σ = σ)) t → ox_M p l e rm_om_Mo_allowed s m args below meth c (om_W D ad cI cC cZ A) 5 res σ 44 [some (.ref (ad 0)), some (.int x1), some (.int x2), some (.int x3), none] [] σ := by
    intro x1 x2 x3  t h hG
    exact ox_w_run (fun t : (Int32 × Int32) => ox_M p l e rm_om_Mo_allowed s m args below meth c (om_W D ad cI cC cZ A) 5 res σ 44 [some (.ref (ad 0)), some (.int t.1), some (.int x2), some (.int t.2), none] [] σ) (ox_G (fun t : (Int32 × Int32) => ox_M p l e rm_om_Mo_allowed s m args below meth c (om_W D ad cI cC cZ A) 5 res σ 28 [some (.ref (ad 0)), some (.int t.1), some (.int t.2), none, none] [] σ) (fun t : Int32 => res = some (.int t) ∧ σ = σ)) (fun a t h hG => t_b44 a.1 x2 a.2  t h hG) (x1, x3) t h hG
  have t_b28 : ∀ (x1 : Int32) (x2 : Int32)  (t : ((Int32 × Int32) ⊕ Int32)), om_Mo_allowed_b28 x1 x2 σ = some t → (ox_G (fun t : (Int32 × Int32) => ox_M p l e rm_om_Mo_allowed s m args below meth c (om_W D ad cI cC cZ A) 5 res σ 28 [some (.ref (ad 0)), some (.int t.1), some (.int t.2), none, none] [] σ) (fun t : Int32 => res = some (.int t) ∧ σ = σ)) t → ox_M p l e rm_om_Mo_allowed s m args below meth c (om_W D ad cI cC cZ A) 5 res σ 28 [some (.ref (ad 0)), some (.int x1), some (.int x2), none, none] [] σ := by
    intro x1 x2  t h hG
    unfold om_Mo_allowed_b28 at h
    refine ox_iload_n B 2 od_Mo_allowed_28 rfl rfl ?_
    refine ox_aload_n B 0 od_Mo_allowed_29 rfl rfl ?_
    refine omg_Mo_187 B F od_Mo_allowed_30 ?_
    refine ox_icmp_ge B 121 od_Mo_allowed_33 rfl (fun hc => ?_) (fun hc => ?_)
    · rw [if_pos hc] at h
      refine ox_iload_n B 1 od_Mo_allowed_121 rfl rfl ?_
      obtain ⟨hz, h⟩ := ox_z_some h
      cases h
      exact ox_iret B F od_Mo_allowed_122 rfl (ox_nz hz) hG
    · rw [if_neg hc] at h
      refine ox_iload_n B 1 od_Mo_allowed_36 rfl rfl ?_
      refine ox_if_eq B 121 od_Mo_allowed_37 rfl (fun hc => ?_) (fun hc => ?_)
      · rw [if_pos hc] at h
        refine ox_iload_n B 1 od_Mo_allowed_121 rfl rfl ?_
        obtain ⟨hz, h⟩ := ox_z_some h
        cases h
        exact ox_iret B F od_Mo_allowed_122 rfl (ox_nz hz) hG
      · rw [if_neg hc] at h
        refine ox_iload_n B 2 od_Mo_allowed_40 rfl rfl ?_
        refine ox_iconst B od_Mo_allowed_41 oxk_i1 ?_
        refine ox_iadd B od_Mo_allowed_42 ?_
        obtain ⟨v3, ev3, h⟩ := ox_let_some h
        refine ox_topi ev3 ?_
        refine ox_istore_n B 3 od_Mo_allowed_43 rfl (by decide) rfl (L2 := [some (.ref (ad 0)), some (.int x1), some (.int x2), some (.int v3), none]) rfl ?_
        exact (t_44 x1 x2 v3 _ h hG)
  have t_28 : ∀ (x1 : Int32) (x2 : Int32)  (t : Int32), om_Mo_allowed_h28 x1 x2 σ = some t → (fun t : Int32 => res = some (.int t) ∧ σ = σ) t → ox_M p l e rm_om_Mo_allowed s m args below meth c (om_W D ad cI cC cZ A) 5 res σ 28 [some (.ref (ad 0)), some (.int x1), some (.int x2), none, none] [] σ := by
    intro x1 x2  t h hG
    exact ox_w_run (fun t : (Int32 × Int32) => ox_M p l e rm_om_Mo_allowed s m args below meth c (om_W D ad cI cC cZ A) 5 res σ 28 [some (.ref (ad 0)), some (.int t.1), some (.int t.2), none, none] [] σ) (fun t : Int32 => res = some (.int t) ∧ σ = σ) (fun a t h hG => t_b28 a.1 a.2  t h hG) (x1, x2) t h hG
  change ox_M p l e rm_om_Mo_allowed s m args below meth c (om_W D ad cI cC cZ A) 5 res σ 0 [some (.ref (ad 0)), none, none, none, none] [] σ
  unfold om_Mo_allowed at h
  refine ox_aload_n B 0 od_Mo_allowed_0 rfl rfl ?_
  refine omg_Mo_51 B F od_Mo_allowed_1 ?_
  refine ox_iconst B od_Mo_allowed_4 oxk_i1 ?_
  obtain ⟨j1, ej1, hj1, h⟩ := ox_ix_some2 h
  refine omal_13 B F od_Mo_allowed_5 hj1 ej1 ?_
  refine ox_aload_n B 0 od_Mo_allowed_6 rfl rfl ?_
  refine omg_Mo_51 B F od_Mo_allowed_7 ?_
  refine ox_aload_n B 0 od_Mo_allowed_10 rfl rfl ?_
  refine omg_Mo_187 B F od_Mo_allowed_11 ?_
  refine ox_iconst B od_Mo_allowed_14 oxk_i1 ?_
  refine ox_isub B od_Mo_allowed_15 ?_
  obtain ⟨j2, ej2, hj2, h⟩ := ox_ix_some2 h
  refine omal_13 B F od_Mo_allowed_16 hj2 ej2 ?_
  refine ox_icmp_ge B 24 od_Mo_allowed_17 rfl (fun hc => ?_) (fun hc => ?_)
  · rw [if_pos hc] at h
    refine ox_iconst B od_Mo_allowed_24 oxk_i0 ?_
    refine ox_istore_n B 1 od_Mo_allowed_25 rfl (by decide) rfl (L2 := [some (.ref (ad 0)), some (.int (0 : Int32)), none, none, none]) rfl ?_
    refine ox_iconst B od_Mo_allowed_26 oxk_i0 ?_
    refine ox_istore_n B 2 od_Mo_allowed_27 rfl (by decide) rfl (L2 := [some (.ref (ad 0)), some (.int (0 : Int32)), some (.int (0 : Int32)), none, none]) rfl ?_
    exact (t_28 (0 : Int32) (0 : Int32) _ h hG)
  · rw [if_neg hc] at h
    refine ox_iconst B od_Mo_allowed_20 oxk_i1 ?_
    refine ox_goto B 25 od_Mo_allowed_21 rfl ?_
    refine ox_istore_n B 1 od_Mo_allowed_25 rfl (by decide) rfl (L2 := [some (.ref (ad 0)), some (.int (1 : Int32)), none, none, none]) rfl ?_
    refine ox_iconst B od_Mo_allowed_26 oxk_i0 ?_
    refine ox_istore_n B 2 od_Mo_allowed_27 rfl (by decide) rfl (L2 := [some (.ref (ad 0)), some (.int (1 : Int32)), some (.int (0 : Int32)), none, none]) rfl ?_
    exact (t_28 (1 : Int32) (0 : Int32) _ h hG)
abbrev rm_om_Mo_turn : Room := { frames := 0, cells := 0, slots := 0, locals := 0 }
set_option maxRecDepth 100000 in
set_option maxHeartbeats 4000000 in
theorem ct_om_Mo_turn {l : Launch} {D : va_G} {ad : Nat → Nat} {cI cC cZ : ClassId} {A : Nat → Prop} (hok : ox_ok (om_W D ad cI cC cZ A)) (x1 : Int32) (x2 : Int32) (σ : ox_S) (t : ox_S) (h : om_Mo_turn x1 x2 σ = some t) : Met l oy_Mo_turn (Cond.code oy_Mo_turn prog_11_method_43_code 6 none :: ox_ws) rm_om_Mo_turn (ox_P (om_W D ad cI cC cZ A) [.ref (ad 0), .int x1, .int x2] σ) (ox_Q (om_W D ad cI cC cZ A) none t) 0 0 A := by
  refine ox_met (ω := om_W D ad cI cC cZ A) (by decide) rfl hok (Nat.le_of_ble_eq_true rfl) ?_
  intro p e s m args below meth c B F
  generalize hres : (none : Option Value) = res
  have hG : res = none ∧ t = t := ⟨hres.symm, rfl⟩
  obtain ⟨σf, hσf⟩ : ∃ z, z = t := ⟨_, rfl⟩
  have hG : (fun t : ox_S => res = none ∧ σf = t) t := ⟨hres.symm, hσf⟩
  rw [show ox_M p l e rm_om_Mo_turn s m args below meth c (om_W D ad cI cC cZ A) 6 res t 0 (ox_l0 [.ref (ad 0), .int x1, .int x2] 6) [] σ = ox_M p l e rm_om_Mo_turn s m args below meth c (om_W D ad cI cC cZ A) 6 res σf 0 (ox_l0 [.ref (ad 0), .int x1, .int x2] 6) [] σ by rw [hσf]]
  have t_b2 : ∀ (x1 : Int32) (x2 : Int32) (x3 : Int32) (σ : ox_S) (t : ((Int32 × ox_S) ⊕ ox_S)), om_Mo_turn_b2 x1 x2 x3 σ = some t → (ox_G (fun t : (Int32 × ox_S) => ox_M p l e rm_om_Mo_turn s m args below meth c (om_W D ad cI cC cZ A) 6 res σf 2 [some (.ref (ad 0)), some (.int x1), some (.int x2), some (.int t.1), none, none] [] t.2) (fun t : ox_S => res = none ∧ σf = t)) t → ox_M p l e rm_om_Mo_turn s m args below meth c (om_W D ad cI cC cZ A) 6 res σf 2 [some (.ref (ad 0)), some (.int x1), some (.int x2), some (.int x3), none, none] [] σ := by
    intro x1 x2 x3 σ t h hG
    unfold om_Mo_turn_b2 at h
    refine ox_iconst B od_Mo_turn_2 oxk_i2 ?_
    refine ox_iload_n B 3 od_Mo_turn_3 rfl rfl ?_
    refine ox_imul B od_Mo_turn_4 ?_
    refine ox_iload_n B 1 od_Mo_turn_5 rfl rfl ?_
    refine ox_iload_n B 2 od_Mo_turn_6 rfl rfl ?_
    refine ox_iadd B od_Mo_turn_7 ?_
    refine ox_icmp_ge B 54 od_Mo_turn_8 rfl (fun hc => ?_) (fun hc => ?_)
    · rw [if_pos hc] at h
      cases h
      exact ox_vret B F od_Mo_turn_54 rfl hG
    · rw [if_neg hc] at h
      refine ox_iload_n B 1 od_Mo_turn_11 rfl rfl ?_
      refine ox_iload_n B 2 od_Mo_turn_12 rfl rfl ?_
      refine ox_iadd B od_Mo_turn_13 ?_
      refine ox_iload_n B 3 od_Mo_turn_14 rfl rfl ?_
      refine ox_isub B od_Mo_turn_15 ?_
      obtain ⟨v1, ev1, h⟩ := ox_let_some h
      refine ox_topi ev1 ?_
      refine ox_istore B od_Mo_turn_16 (by decide) rfl (L2 := [some (.ref (ad 0)), some (.int x1), some (.int x2), some (.int x3), some (.int v1), none]) rfl ?_
      refine ox_aload_n B 0 od_Mo_turn_18 rfl rfl ?_
      refine omg_Mo_51 B F od_Mo_turn_19 ?_
      refine ox_iload_n B 3 od_Mo_turn_22 rfl rfl ?_
      obtain ⟨j2, ej2, hj2, h⟩ := ox_ix_some2 h
      refine omal_13 B F od_Mo_turn_23 hj2 ej2 ?_
      obtain ⟨v3, ev3, h⟩ := ox_let_some h
      refine ox_topi ev3 ?_
      refine ox_istore B od_Mo_turn_24 (by decide) rfl (L2 := [some (.ref (ad 0)), some (.int x1), some (.int x2), some (.int x3), some (.int v1), some (.int v3)]) rfl ?_
      refine ox_aload_n B 0 od_Mo_turn_26 rfl rfl ?_
      refine omg_Mo_51 B F od_Mo_turn_27 ?_
      refine ox_iload_n B 3 od_Mo_turn_30 rfl rfl ?_
      refine ox_aload_n B 0 od_Mo_turn_31 rfl rfl ?_
      refine omg_Mo_51 B F od_Mo_turn_32 ?_
      refine ox_iload B od_Mo_turn_35 rfl ?_
      obtain ⟨j4, ej4, hj4, h⟩ := ox_ix_some2 h
      refine omal_13 B F od_Mo_turn_37 hj4 ej4 ?_
      obtain ⟨j5, ej5, hj5, h⟩ := ox_ix_some2 h
      obtain ⟨s6, es6, h⟩ := ox_let_some h
      refine omas_13 B F od_Mo_turn_38 hj5 ej5 es6 ?_
      refine ox_aload_n B 0 od_Mo_turn_39 rfl rfl ?_
      refine omg_Mo_51 B F od_Mo_turn_40 ?_
      refine ox_iload B od_Mo_turn_43 rfl ?_
      refine ox_iload B od_Mo_turn_45 rfl ?_
      obtain ⟨j7, ej7, hj7, h⟩ := ox_ix_some2 h
      obtain ⟨s8, es8, h⟩ := ox_let_some h
      refine omas_13 B F od_Mo_turn_47 hj7 ej7 es8 ?_
      obtain ⟨v9, ev9, h⟩ := ox_let_some h
      refine ox_iinc B od_Mo_turn_48 rfl ((congrArg (x3 + ·) oxk_i1).trans ev9.symm) (by decide) rfl (L2 := [some (.ref (ad 0)), some (.int x1), some (.int x2), some (.int v9), some (.int v1), some (.int v3)]) rfl ?_
      refine ox_goto B 2 od_Mo_turn_51 rfl ?_
      cases h
      exact (ox_mask [true, true, true, true, false, false] hG)
  have t_2 : ∀ (x1 : Int32) (x2 : Int32) (x3 : Int32) (σ : ox_S) (t : ox_S), om_Mo_turn_h2 x1 x2 x3 σ = some t → (fun t : ox_S => res = none ∧ σf = t) t → ox_M p l e rm_om_Mo_turn s m args below meth c (om_W D ad cI cC cZ A) 6 res σf 2 [some (.ref (ad 0)), some (.int x1), some (.int x2), some (.int x3), none, none] [] σ := by
    intro x1 x2 x3 σ t h hG
    exact ox_w_run (fun t : (Int32 × ox_S) => ox_M p l e rm_om_Mo_turn s m args below meth c (om_W D ad cI cC cZ A) 6 res σf 2 [some (.ref (ad 0)), some (.int x1), some (.int x2), some (.int t.1), none, none] [] t.2) (fun t : ox_S => res = none ∧ σf = t) (fun a t h hG => t_b2 x1 x2 a.1 a.2 t h hG) (x3, σ) t h hG
  change ox_M p l e rm_om_Mo_turn s m args below meth c (om_W D ad cI cC cZ A) 6 res σf 0 [some (.ref (ad 0)), some (.int x1), some (.int x2), none, none, none] [] σ
  unfold om_Mo_turn at h
  refine ox_iload_n B 1 od_Mo_turn_0 rfl rfl ?_
  refine ox_istore_n B 3 od_Mo_turn_1 rfl (by decide) rfl (L2 := [some (.ref (ad 0)), some (.int x1), some (.int x2), some (.int x1), none, none]) rfl ?_
  exact (t_2 x1 x2 x1 σ _ h hG)
abbrev rm_om_Mo_nextTour : Room := { frames := 1, cells := 0, slots := 0, locals := 25 }
set_option maxRecDepth 100000 in
set_option maxHeartbeats 4000000 in
theorem ct_om_Mo_nextTour {l : Launch} {D : va_G} {ad : Nat → Nat} {cI cC cZ : ClassId} {A : Nat → Prop} (hok : ox_ok (om_W D ad cI cC cZ A))  (σ : ox_S) (t : (Int32 × ox_S)) (h : om_Mo_nextTour  σ = some t) : Met l oy_Mo_nextTour (Cond.code oy_Mo_nextTour prog_11_method_42_code 4 (some .boolean) :: ox_ws) rm_om_Mo_nextTour (ox_P (om_W D ad cI cC cZ A) [.ref (ad 0)] σ) (ox_Q (om_W D ad cI cC cZ A) (some (.int t.1)) t.2) 0 0 A := by
  refine ox_met (ω := om_W D ad cI cC cZ A) (by decide) rfl hok (Nat.le_of_ble_eq_true rfl) ?_
  intro p e s m args below meth c B F
  generalize hres : (some (.int t.1) : Option Value) = res
  generalize hσf : t.2 = σf
  have hG : (fun t : (Int32 × ox_S) => res = some (.int t.1) ∧ σf = t.2) t := ⟨hres.symm, hσf.symm⟩
  have t_b47 : ∀ (x1 : Int32) (x2 : Int32) (σ : ox_S) (t : (Int32 ⊕ (Int32 × ox_S))), om_Mo_nextTour_b47 x1 x2 σ = some t → (ox_G (fun t : Int32 => ox_M p l e rm_om_Mo_nextTour s m args below meth c (om_W D ad cI cC cZ A) 4 res σf 47 [some (.ref (ad 0)), some (.int x1), some (.int t), none] [] σ) (fun t : (Int32 × ox_S) => res = some (.int t.1) ∧ σf = t.2)) t → ox_M p l e rm_om_Mo_nextTour s m args below meth c (om_W D ad cI cC cZ A) 4 res σf 47 [some (.ref (ad 0)), some (.int x1), some (.int x2), none] [] σ := by
    intro x1 x2 σ t h hG
    unfold om_Mo_nextTour_b47 at h
    refine ox_aload_n B 0 od_Mo_nextTour_47 rfl rfl ?_
    refine omg_Mo_51 B F od_Mo_nextTour_48 ?_
    refine ox_iload_n B 2 od_Mo_nextTour_51 rfl rfl ?_
    obtain ⟨j3, ej3, hj3, h⟩ := ox_ix_some2 h
    refine omal_13 B F od_Mo_nextTour_52 hj3 ej3 ?_
    refine ox_aload_n B 0 od_Mo_nextTour_53 rfl rfl ?_
    refine omg_Mo_51 B F od_Mo_nextTour_54 ?_
    refine ox_iload_n B 1 od_Mo_nextTour_57 rfl rfl ?_
    obtain ⟨j4, ej4, hj4, h⟩ := ox_ix_some2 h
    refine omal_13 B F od_Mo_nextTour_58 hj4 ej4 ?_
    refine ox_icmp_ge B 68 od_Mo_nextTour_59 rfl (fun hc => ?_) (fun hc => ?_)
    · rw [if_pos hc] at h
      refine ox_aload_n B 0 od_Mo_nextTour_68 rfl rfl ?_
      refine omg_Mo_51 B F od_Mo_nextTour_69 ?_
      refine ox_iload_n B 1 od_Mo_nextTour_72 rfl rfl ?_
      obtain ⟨j5, ej5, hj5, h⟩ := ox_ix_some2 h
      refine omal_13 B F od_Mo_nextTour_73 hj5 ej5 ?_
      obtain ⟨v6, ev6, h⟩ := ox_let_some h
      refine ox_topi ev6 ?_
      refine ox_istore_n B 3 od_Mo_nextTour_74 rfl (by decide) rfl (L2 := [some (.ref (ad 0)), some (.int x1), some (.int x2), some (.int v6)]) rfl ?_
      refine ox_aload_n B 0 od_Mo_nextTour_75 rfl rfl ?_
      refine omg_Mo_51 B F od_Mo_nextTour_76 ?_
      refine ox_iload_n B 1 od_Mo_nextTour_79 rfl rfl ?_
      refine ox_aload_n B 0 od_Mo_nextTour_80 rfl rfl ?_
      refine omg_Mo_51 B F od_Mo_nextTour_81 ?_
      refine ox_iload_n B 2 od_Mo_nextTour_84 rfl rfl ?_
      obtain ⟨j7, ej7, hj7, h⟩ := ox_ix_some2 h
      refine omal_13 B F od_Mo_nextTour_85 hj7 ej7 ?_
      obtain ⟨j8, ej8, hj8, h⟩ := ox_ix_some2 h
      obtain ⟨s9, es9, h⟩ := ox_let_some h
      refine omas_13 B F od_Mo_nextTour_86 hj8 ej8 es9 ?_
      refine ox_aload_n B 0 od_Mo_nextTour_87 rfl rfl ?_
      refine omg_Mo_51 B F od_Mo_nextTour_88 ?_
      refine ox_iload_n B 2 od_Mo_nextTour_91 rfl rfl ?_
      refine ox_iload_n B 3 od_Mo_nextTour_92 rfl rfl ?_
      obtain ⟨j10, ej10, hj10, h⟩ := ox_ix_some2 h
      obtain ⟨s11, es11, h⟩ := ox_let_some h
      refine omas_13 B F od_Mo_nextTour_93 hj10 ej10 es11 ?_
      refine ox_aload_n B 0 od_Mo_nextTour_94 rfl rfl ?_
      refine ox_iload_n B 1 od_Mo_nextTour_95 rfl rfl ?_
      refine ox_iconst B od_Mo_nextTour_96 oxk_i1 ?_
      refine ox_iadd B od_Mo_nextTour_97 ?_
      refine ox_aload_n B 0 od_Mo_nextTour_98 rfl rfl ?_
      refine omg_Mo_187 B F od_Mo_nextTour_99 ?_
      refine ox_iconst B od_Mo_nextTour_102 oxk_i1 ?_
      refine ox_isub B od_Mo_nextTour_103 ?_
      obtain ⟨s12, hs12, h⟩ := ox_bind h
      refine omc_Mo_241 B F od_Mo_nextTour_104 (As := [.int (x1 + (1 : Int32)), .int ((s11.1 1) - (1 : Int32))]) (rest := []) (st2 := []) (ct_om_Mo_turn hok (x1 + (1 : Int32)) ((s11.1 1) - (1 : Int32)) s11 _ hs12) ⟨rfl, rfl, Nat.le_of_ble_eq_true rfl, Nat.le_of_ble_eq_true rfl⟩ rfl (Nat.le_of_ble_eq_true rfl) rfl rfl ?_
      refine ox_iconst B od_Mo_nextTour_107 oxk_i1 ?_
      cases h
      exact ox_iret B F od_Mo_nextTour_108 rfl (ox_nz (Or.inr rfl)) hG
    · rw [if_neg hc] at h
      obtain ⟨v13, ev13, h⟩ := ox_let_some h
      refine ox_iinc B od_Mo_nextTour_62 rfl ((congrArg (x2 + ·) oxk_im1).trans ev13.symm) (by decide) rfl (L2 := [some (.ref (ad 0)), some (.int x1), some (.int v13), none]) rfl ?_
      refine ox_goto B 47 od_Mo_nextTour_65 rfl ?_
      cases h
      exact hG
  have t_47 : ∀ (x1 : Int32) (x2 : Int32) (σ : ox_S) (t : (Int32 × ox_S)), om_Mo_nextTour_h47 x1 x2 σ = some t → (fun t : (Int32 × ox_S) => res = some (.int t.1) ∧ σf = t.2) t → ox_M p l e rm_om_Mo_nextTour s m args below meth c (om_W D ad cI cC cZ A) 4 res σf 47 [some (.ref (ad 0)), some (.int x1), some (.int x2), none] [] σ := by
    intro x1 x2 σ t h hG
    exact ox_w_run (fun t : Int32 => ox_M p l e rm_om_Mo_nextTour s m args below meth c (om_W D ad cI cC cZ A) 4 res σf 47 [some (.ref (ad 0)), some (.int x1), some (.int t), none] [] σ) (fun t : (Int32 × ox_S) => res = some (.int t.1) ∧ σf = t.2) (fun a t h hG => t_b47 x1 a σ t h hG) x2 t h hG
  have t_b7 : ∀ (x1 : Int32) (σ : ox_S) (t : (Int32 ⊕ (Int32 × ox_S))), om_Mo_nextTour_b7 x1 σ = some t → (ox_G (fun t : Int32 => ox_M p l e rm_om_Mo_nextTour s m args below meth c (om_W D ad cI cC cZ A) 4 res σf 7 [some (.ref (ad 0)), some (.int t), none, none] [] σ) (fun t : (Int32 × ox_S) => res = some (.int t.1) ∧ σf = t.2)) t → ox_M p l e rm_om_Mo_nextTour s m args below meth c (om_W D ad cI cC cZ A) 4 res σf 7 [some (.ref (ad 0)), some (.int x1), none, none] [] σ := by
    intro x1 σ t h hG
    unfold om_Mo_nextTour_b7 at h
    refine ox_iload_n B 1 od_Mo_nextTour_7 rfl rfl ?_
    refine ox_if_le B 34 od_Mo_nextTour_8 rfl (fun hc => ?_) (fun hc => ?_)
    · rw [if_pos hc] at h
      refine ox_iload_n B 1 od_Mo_nextTour_34 rfl rfl ?_
      refine ox_if_gt B 40 od_Mo_nextTour_35 rfl (fun hc => ?_) (fun hc => ?_)
      · rw [if_pos hc] at h
        refine ox_aload_n B 0 od_Mo_nextTour_40 rfl rfl ?_
        refine omg_Mo_187 B F od_Mo_nextTour_41 ?_
        refine ox_iconst B od_Mo_nextTour_44 oxk_i1 ?_
        refine ox_isub B od_Mo_nextTour_45 ?_
        obtain ⟨v2, ev2, h⟩ := ox_let_some h
        refine ox_topi ev2 ?_
        refine ox_istore_n B 2 od_Mo_nextTour_46 rfl (by decide) rfl (L2 := [some (.ref (ad 0)), some (.int x1), some (.int v2), none]) rfl ?_
        obtain ⟨t', h', e'⟩ := ox_map h
        subst e'
        exact (t_47 x1 v2 σ _ h' hG)
      · rw [if_neg hc] at h
        refine ox_iconst B od_Mo_nextTour_38 oxk_i0 ?_
        cases h
        exact ox_iret B F od_Mo_nextTour_39 rfl (ox_nz (Or.inl rfl)) hG
    · rw [if_neg hc] at h
      refine ox_aload_n B 0 od_Mo_nextTour_11 rfl rfl ?_
      refine omg_Mo_51 B F od_Mo_nextTour_12 ?_
      refine ox_iload_n B 1 od_Mo_nextTour_15 rfl rfl ?_
      obtain ⟨j14, ej14, hj14, h⟩ := ox_ix_some2 h
      refine omal_13 B F od_Mo_nextTour_16 hj14 ej14 ?_
      refine ox_aload_n B 0 od_Mo_nextTour_17 rfl rfl ?_
      refine omg_Mo_51 B F od_Mo_nextTour_18 ?_
      refine ox_iload_n B 1 od_Mo_nextTour_21 rfl rfl ?_
      refine ox_iconst B od_Mo_nextTour_22 oxk_i1 ?_
      refine ox_iadd B od_Mo_nextTour_23 ?_
      obtain ⟨j15, ej15, hj15, h⟩ := ox_ix_some2 h
      refine omal_13 B F od_Mo_nextTour_24 hj15 ej15 ?_
      refine ox_icmp_le B 34 od_Mo_nextTour_25 rfl (fun hc => ?_) (fun hc => ?_)
      · rw [if_pos hc] at h
        refine ox_iload_n B 1 od_Mo_nextTour_34 rfl rfl ?_
        refine ox_if_gt B 40 od_Mo_nextTour_35 rfl (fun hc => ?_) (fun hc => ?_)
        · rw [if_pos hc] at h
          refine ox_aload_n B 0 od_Mo_nextTour_40 rfl rfl ?_
          refine omg_Mo_187 B F od_Mo_nextTour_41 ?_
          refine ox_iconst B od_Mo_nextTour_44 oxk_i1 ?_
          refine ox_isub B od_Mo_nextTour_45 ?_
          obtain ⟨v16, ev16, h⟩ := ox_let_some h
          refine ox_topi ev16 ?_
          refine ox_istore_n B 2 od_Mo_nextTour_46 rfl (by decide) rfl (L2 := [some (.ref (ad 0)), some (.int x1), some (.int v16), none]) rfl ?_
          obtain ⟨t', h', e'⟩ := ox_map h
          subst e'
          exact (t_47 x1 v16 σ _ h' hG)
        · rw [if_neg hc] at h
          refine ox_iconst B od_Mo_nextTour_38 oxk_i0 ?_
          cases h
          exact ox_iret B F od_Mo_nextTour_39 rfl (ox_nz (Or.inl rfl)) hG
      · rw [if_neg hc] at h
        obtain ⟨v17, ev17, h⟩ := ox_let_some h
        refine ox_iinc B od_Mo_nextTour_28 rfl ((congrArg (x1 + ·) oxk_im1).trans ev17.symm) (by decide) rfl (L2 := [some (.ref (ad 0)), some (.int v17), none, none]) rfl ?_
        refine ox_goto B 7 od_Mo_nextTour_31 rfl ?_
        cases h
        exact hG
  have t_7 : ∀ (x1 : Int32) (σ : ox_S) (t : (Int32 × ox_S)), om_Mo_nextTour_h7 x1 σ = some t → (fun t : (Int32 × ox_S) => res = some (.int t.1) ∧ σf = t.2) t → ox_M p l e rm_om_Mo_nextTour s m args below meth c (om_W D ad cI cC cZ A) 4 res σf 7 [some (.ref (ad 0)), some (.int x1), none, none] [] σ := by
    intro x1 σ t h hG
    exact ox_w_run (fun t : Int32 => ox_M p l e rm_om_Mo_nextTour s m args below meth c (om_W D ad cI cC cZ A) 4 res σf 7 [some (.ref (ad 0)), some (.int t), none, none] [] σ) (fun t : (Int32 × ox_S) => res = some (.int t.1) ∧ σf = t.2) (fun a t h hG => t_b7 a σ t h hG) x1 t h hG
  change ox_M p l e rm_om_Mo_nextTour s m args below meth c (om_W D ad cI cC cZ A) 4 res σf 0 [some (.ref (ad 0)), none, none, none] [] σ
  unfold om_Mo_nextTour at h
  refine ox_aload_n B 0 od_Mo_nextTour_0 rfl rfl ?_
  refine omg_Mo_187 B F od_Mo_nextTour_1 ?_
  refine ox_iconst B od_Mo_nextTour_4 oxk_i2 ?_
  refine ox_isub B od_Mo_nextTour_5 ?_
  obtain ⟨v1, ev1, h⟩ := ox_let_some h
  refine ox_topi ev1 ?_
  refine ox_istore_n B 1 od_Mo_nextTour_6 rfl (by decide) rfl (L2 := [some (.ref (ad 0)), some (.int v1), none, none]) rfl ?_
  exact (t_7 v1 σ _ h hG)
abbrev rm_om_Mo_length : Room := { frames := 1, cells := 0, slots := 0, locals := 21 }
set_option maxRecDepth 100000 in
set_option maxHeartbeats 4000000 in
theorem ct_om_Mo_length {l : Launch} {D : va_G} {ad : Nat → Nat} {cI cC cZ : ClassId} {A : Nat → Prop} (hok : ox_ok (om_W D ad cI cC cZ A))  (σ : ox_S) (t : Int32) (h : om_Mo_length  σ = some t) : Met l oy_Mo_length (Cond.code oy_Mo_length prog_11_method_45_code 4 (some .int) :: ox_ws) rm_om_Mo_length (ox_P (om_W D ad cI cC cZ A) [.ref (ad 0)] σ) (ox_Q (om_W D ad cI cC cZ A) (some (.int t)) σ) 0 0 A := by
  refine ox_met (ω := om_W D ad cI cC cZ A) (by decide) rfl hok (Nat.le_of_ble_eq_true rfl) ?_
  intro p e s m args below meth c B F
  generalize hres : (some (.int t) : Option Value) = res
  have hG : (fun t : Int32 => res = some (.int t) ∧ σ = σ) t := ⟨hres.symm, rfl⟩
  have t_b4 : ∀ (x1 : Int32) (x2 : Int32)  (t : ((Int32 × Int32) ⊕ Int32)), om_Mo_length_b4 x1 x2 σ = some t → (ox_G (fun t : (Int32 × Int32) => ox_M p l e rm_om_Mo_length s m args below meth c (om_W D ad cI cC cZ A) 4 res σ 4 [some (.ref (ad 0)), some (.int t.1), some (.int t.2), none] [] σ) (fun t : Int32 => res = some (.int t) ∧ σ = σ)) t → ox_M p l e rm_om_Mo_length s m args below meth c (om_W D ad cI cC cZ A) 4 res σ 4 [some (.ref (ad 0)), some (.int x1), some (.int x2), none] [] σ := by
    intro x1 x2  t h hG
    unfold om_Mo_length_b4 at h
    refine ox_iload_n B 2 od_Mo_length_4 rfl rfl ?_
    refine ox_aload_n B 0 od_Mo_length_5 rfl rfl ?_
    refine omg_Mo_187 B F od_Mo_length_6 ?_
    refine ox_icmp_ge B 43 od_Mo_length_9 rfl (fun hc => ?_) (fun hc => ?_)
    · rw [if_pos hc] at h
      refine ox_iload_n B 1 od_Mo_length_43 rfl rfl ?_
      cases h
      exact ox_iret B F od_Mo_length_44 rfl rfl hG
    · rw [if_neg hc] at h
      refine ox_aload_n B 0 od_Mo_length_12 rfl rfl ?_
      refine ox_iload_n B 2 od_Mo_length_13 rfl rfl ?_
      obtain ⟨r1, hr1, h⟩ := ox_bind h
      refine omc_Mo_245 B F od_Mo_length_14 (As := [.int x2]) (rest := []) (st2 := [.int r1]) (ct_om_Mo_next hok x2 σ _ hr1) ⟨rfl, rfl, Nat.le_of_ble_eq_true rfl, Nat.le_of_ble_eq_true rfl⟩ rfl (Nat.le_of_ble_eq_true rfl) rfl rfl ?_
      refine ox_istore_n B 3 od_Mo_length_17 rfl (by decide) rfl (L2 := [some (.ref (ad 0)), some (.int x1), some (.int x2), some (.int r1)]) rfl ?_
      refine ox_iload_n B 1 od_Mo_length_18 rfl rfl ?_
      refine ox_aload_n B 0 od_Mo_length_19 rfl rfl ?_
      refine omg_Mo_13 B F od_Mo_length_20 ?_
      refine ox_bipush B od_Mo_length_23 oxk_b8 ?_
      refine ox_aload_n B 0 od_Mo_length_25 rfl rfl ?_
      refine omg_Mo_51 B F od_Mo_length_26 ?_
      refine ox_iload_n B 2 od_Mo_length_29 rfl rfl ?_
      obtain ⟨j2, ej2, hj2, h⟩ := ox_ix_some2 h
      refine omal_13 B F od_Mo_length_30 hj2 ej2 ?_
      refine ox_imul B od_Mo_length_31 ?_
      refine ox_iload_n B 3 od_Mo_length_32 rfl rfl ?_
      refine ox_iadd B od_Mo_length_33 ?_
      obtain ⟨j3, ej3, hj3, h⟩ := ox_ix_some2 h
      refine omal_1 B F od_Mo_length_34 hj3 ej3 ?_
      refine ox_iadd B od_Mo_length_35 ?_
      obtain ⟨v4, ev4, h⟩ := ox_let_some h
      refine ox_topi ev4 ?_
      refine ox_istore_n B 1 od_Mo_length_36 rfl (by decide) rfl (L2 := [some (.ref (ad 0)), some (.int v4), some (.int x2), some (.int r1)]) rfl ?_
      obtain ⟨v5, ev5, h⟩ := ox_let_some h
      refine ox_iinc B od_Mo_length_37 rfl ((congrArg (x2 + ·) oxk_i1).trans ev5.symm) (by decide) rfl (L2 := [some (.ref (ad 0)), some (.int v4), some (.int v5), some (.int r1)]) rfl ?_
      refine ox_goto B 4 od_Mo_length_40 rfl ?_
      cases h
      exact (ox_mask [true, true, true, false] hG)
  have t_4 : ∀ (x1 : Int32) (x2 : Int32)  (t : Int32), om_Mo_length_h4 x1 x2 σ = some t → (fun t : Int32 => res = some (.int t) ∧ σ = σ) t → ox_M p l e rm_om_Mo_length s m args below meth c (om_W D ad cI cC cZ A) 4 res σ 4 [some (.ref (ad 0)), some (.int x1), some (.int x2), none] [] σ := by
    intro x1 x2  t h hG
    exact ox_w_run (fun t : (Int32 × Int32) => ox_M p l e rm_om_Mo_length s m args below meth c (om_W D ad cI cC cZ A) 4 res σ 4 [some (.ref (ad 0)), some (.int t.1), some (.int t.2), none] [] σ) (fun t : Int32 => res = some (.int t) ∧ σ = σ) (fun a t h hG => t_b4 a.1 a.2  t h hG) (x1, x2) t h hG
  change ox_M p l e rm_om_Mo_length s m args below meth c (om_W D ad cI cC cZ A) 4 res σ 0 [some (.ref (ad 0)), none, none, none] [] σ
  unfold om_Mo_length at h
  refine ox_iconst B od_Mo_length_0 oxk_i0 ?_
  refine ox_istore_n B 1 od_Mo_length_1 rfl (by decide) rfl (L2 := [some (.ref (ad 0)), some (.int (0 : Int32)), none, none]) rfl ?_
  refine ox_iconst B od_Mo_length_2 oxk_i0 ?_
  refine ox_istore_n B 2 od_Mo_length_3 rfl (by decide) rfl (L2 := [some (.ref (ad 0)), some (.int (0 : Int32)), some (.int (0 : Int32)), none]) rfl ?_
  exact (t_4 (0 : Int32) (0 : Int32) _ h hG)
abbrev rm_om_Mo_keep : Room := { frames := 0, cells := 0, slots := 0, locals := 0 }
set_option maxRecDepth 100000 in
set_option maxHeartbeats 4000000 in
theorem ct_om_Mo_keep {l : Launch} {D : va_G} {ad : Nat → Nat} {cI cC cZ : ClassId} {A : Nat → Prop} (hok : ox_ok (om_W D ad cI cC cZ A))  (σ : ox_S) (t : ox_S) (h : om_Mo_keep  σ = some t) : Met l oy_Mo_keep (Cond.code oy_Mo_keep prog_11_method_48_code 2 none :: ox_ws) rm_om_Mo_keep (ox_P (om_W D ad cI cC cZ A) [.ref (ad 0)] σ) (ox_Q (om_W D ad cI cC cZ A) none t) 0 0 A := by
  refine ox_met (ω := om_W D ad cI cC cZ A) (by decide) rfl hok (Nat.le_of_ble_eq_true rfl) ?_
  intro p e s m args below meth c B F
  generalize hres : (none : Option Value) = res
  have hG : res = none ∧ t = t := ⟨hres.symm, rfl⟩
  obtain ⟨σf, hσf⟩ : ∃ z, z = t := ⟨_, rfl⟩
  have hG : (fun t : ox_S => res = none ∧ σf = t) t := ⟨hres.symm, hσf⟩
  rw [show ox_M p l e rm_om_Mo_keep s m args below meth c (om_W D ad cI cC cZ A) 2 res t 0 (ox_l0 [.ref (ad 0)] 2) [] σ = ox_M p l e rm_om_Mo_keep s m args below meth c (om_W D ad cI cC cZ A) 2 res σf 0 (ox_l0 [.ref (ad 0)] 2) [] σ by rw [hσf]]
  have t_b2 : ∀ (x1 : Int32) (σ : ox_S) (t : ((Int32 × ox_S) ⊕ ox_S)), om_Mo_keep_b2 x1 σ = some t → (ox_G (fun t : (Int32 × ox_S) => ox_M p l e rm_om_Mo_keep s m args below meth c (om_W D ad cI cC cZ A) 2 res σf 2 [some (.ref (ad 0)), some (.int t.1)] [] t.2) (fun t : ox_S => res = none ∧ σf = t)) t → ox_M p l e rm_om_Mo_keep s m args below meth c (om_W D ad cI cC cZ A) 2 res σf 2 [some (.ref (ad 0)), some (.int x1)] [] σ := by
    intro x1 σ t h hG
    unfold om_Mo_keep_b2 at h
    refine ox_iload_n B 1 od_Mo_keep_2 rfl rfl ?_
    refine ox_aload_n B 0 od_Mo_keep_3 rfl rfl ?_
    refine omg_Mo_187 B F od_Mo_keep_4 ?_
    refine ox_icmp_ge B 28 od_Mo_keep_7 rfl (fun hc => ?_) (fun hc => ?_)
    · rw [if_pos hc] at h
      refine ox_aload_n B 0 od_Mo_keep_28 rfl rfl ?_
      refine ox_iconst B od_Mo_keep_29 oxk_i1 ?_
      obtain ⟨s1, es1, h⟩ := ox_let_some h
      refine omp_Mo_193 B F od_Mo_keep_30 (Or.inr rfl) es1 ?_
      cases h
      exact ox_vret B F od_Mo_keep_33 rfl hG
    · rw [if_neg hc] at h
      refine ox_aload_n B 0 od_Mo_keep_10 rfl rfl ?_
      refine omg_Mo_23 B F od_Mo_keep_11 ?_
      refine ox_iload_n B 1 od_Mo_keep_14 rfl rfl ?_
      refine ox_aload_n B 0 od_Mo_keep_15 rfl rfl ?_
      refine omg_Mo_51 B F od_Mo_keep_16 ?_
      refine ox_iload_n B 1 od_Mo_keep_19 rfl rfl ?_
      obtain ⟨j2, ej2, hj2, h⟩ := ox_ix_some2 h
      refine omal_13 B F od_Mo_keep_20 hj2 ej2 ?_
      obtain ⟨j3, ej3, hj3, h⟩ := ox_ix_some2 h
      obtain ⟨s4, es4, h⟩ := ox_let_some h
      refine omas_4 B F od_Mo_keep_21 hj3 ej3 es4 ?_
      obtain ⟨v5, ev5, h⟩ := ox_let_some h
      refine ox_iinc B od_Mo_keep_22 rfl ((congrArg (x1 + ·) oxk_i1).trans ev5.symm) (by decide) rfl (L2 := [some (.ref (ad 0)), some (.int v5)]) rfl ?_
      refine ox_goto B 2 od_Mo_keep_25 rfl ?_
      cases h
      exact hG
  have t_2 : ∀ (x1 : Int32) (σ : ox_S) (t : ox_S), om_Mo_keep_h2 x1 σ = some t → (fun t : ox_S => res = none ∧ σf = t) t → ox_M p l e rm_om_Mo_keep s m args below meth c (om_W D ad cI cC cZ A) 2 res σf 2 [some (.ref (ad 0)), some (.int x1)] [] σ := by
    intro x1 σ t h hG
    exact ox_w_run (fun t : (Int32 × ox_S) => ox_M p l e rm_om_Mo_keep s m args below meth c (om_W D ad cI cC cZ A) 2 res σf 2 [some (.ref (ad 0)), some (.int t.1)] [] t.2) (fun t : ox_S => res = none ∧ σf = t) (fun a t h hG => t_b2 a.1 a.2 t h hG) (x1, σ) t h hG
  change ox_M p l e rm_om_Mo_keep s m args below meth c (om_W D ad cI cC cZ A) 2 res σf 0 [some (.ref (ad 0)), none] [] σ
  unfold om_Mo_keep at h
  refine ox_iconst B od_Mo_keep_0 oxk_i0 ?_
  refine ox_istore_n B 1 od_Mo_keep_1 rfl (by decide) rfl (L2 := [some (.ref (ad 0)), some (.int (0 : Int32))]) rfl ?_
  exact (t_2 (0 : Int32) σ _ h hG)
abbrev rm_om_Mo_solve : Room := { frames := 3, cells := 0, slots := 0, locals := 70 }
set_option maxRecDepth 100000 in
set_option maxHeartbeats 4000000 in
theorem ct_om_Mo_solve {l : Launch} {D : va_G} {ad : Nat → Nat} {cI cC cZ : ClassId} {A : Nat → Prop} (hok : ox_ok (om_W D ad cI cC cZ A))  (σ : ox_S) (t : (Int32 × ox_S)) (h : om_Mo_solve  σ = some t) : Met l oy_Mo_solve (Cond.code oy_Mo_solve prog_11_method_49_code 4 (some .int) :: ox_ws) rm_om_Mo_solve (ox_P (om_W D ad cI cC cZ A) [.ref (ad 0)] σ) (ox_Q (om_W D ad cI cC cZ A) (some (.int t.1)) t.2) 0 0 A := by
  refine ox_met (ω := om_W D ad cI cC cZ A) (by decide) rfl hok (Nat.le_of_ble_eq_true rfl) ?_
  intro p e s m args below meth c B F
  generalize hres : (some (.int t.1) : Option Value) = res
  generalize hσf : t.2 = σf
  have hG : (fun t : (Int32 × ox_S) => res = some (.int t.1) ∧ σf = t.2) t := ⟨hres.symm, hσf.symm⟩
  have t_b19 : ∀ (x1 : Int32) (x2 : Int32) (σ : ox_S) (t : ((Int32 × Int32 × ox_S) ⊕ (Int32 × ox_S))), om_Mo_solve_b19 x1 x2 σ = some t → (ox_G (fun t : (Int32 × Int32 × ox_S) => ox_M p l e rm_om_Mo_solve s m args below meth c (om_W D ad cI cC cZ A) 4 res σf 19 [some (.ref (ad 0)), some (.int t.1), some (.int t.2.1), none] [] t.2.2) (fun t : (Int32 × ox_S) => res = some (.int t.1) ∧ σf = t.2)) t → ox_M p l e rm_om_Mo_solve s m args below meth c (om_W D ad cI cC cZ A) 4 res σf 19 [some (.ref (ad 0)), some (.int x1), some (.int x2), none] [] σ := by
    intro x1 x2 σ t h hG
    unfold om_Mo_solve_b19 at h
    refine ox_iload_n B 2 od_Mo_solve_19 rfl rfl ?_
    refine ox_if_eq B 58 od_Mo_solve_20 rfl (fun hc => ?_) (fun hc => ?_)
    · rw [if_pos hc] at h
      refine ox_iload_n B 1 od_Mo_solve_58 rfl rfl ?_
      refine ox_if_ge B 67 od_Mo_solve_59 rfl (fun hc => ?_) (fun hc => ?_)
      · rw [if_pos hc] at h
        refine ox_iload_n B 1 od_Mo_solve_67 rfl rfl ?_
        cases h
        exact ox_iret B F od_Mo_solve_68 rfl rfl hG
      · rw [if_neg hc] at h
        refine ox_ldc B od_Mo_solve_62 omk_Mo_231 ?_
        refine ox_goto B 68 od_Mo_solve_64 rfl ?_
        cases h
        exact ox_iret B F od_Mo_solve_68 rfl rfl hG
    · rw [if_neg hc] at h
      refine ox_aload_n B 0 od_Mo_solve_23 rfl rfl ?_
      obtain ⟨r2, hr2, h⟩ := ox_bind h
      refine omc_Mo_254 B F od_Mo_solve_24 (As := []) (rest := []) (st2 := [.int r2]) (ct_om_Mo_allowed hok σ _ hr2) ⟨rfl, rfl, Nat.le_of_ble_eq_true rfl, Nat.le_of_ble_eq_true rfl⟩ rfl (Nat.le_of_ble_eq_true rfl) rfl rfl ?_
      refine ox_if_eq B 50 od_Mo_solve_27 rfl (fun hc => ?_) (fun hc => ?_)
      · rw [if_pos hc] at h
        refine ox_aload_n B 0 od_Mo_solve_50 rfl rfl ?_
        obtain ⟨r3, s4, hr3, h⟩ := ox_b2_some h
        refine omc_Mo_263 B F od_Mo_solve_51 (As := []) (rest := []) (st2 := [.int r3]) (ct_om_Mo_nextTour hok σ _ hr3) ⟨rfl, rfl, Nat.le_of_ble_eq_true rfl, Nat.le_of_ble_eq_true rfl⟩ rfl (Nat.le_of_ble_eq_true rfl) rfl rfl ?_
        refine ox_istore_n B 2 od_Mo_solve_54 rfl (by decide) rfl (L2 := [some (.ref (ad 0)), some (.int x1), some (.int r3), none]) rfl ?_
        refine ox_goto B 19 od_Mo_solve_55 rfl ?_
        cases h
        exact hG
      · rw [if_neg hc] at h
        refine ox_aload_n B 0 od_Mo_solve_30 rfl rfl ?_
        obtain ⟨r5, hr5, h⟩ := ox_bind h
        refine omc_Mo_257 B F od_Mo_solve_31 (As := []) (rest := []) (st2 := [.int r5]) (ct_om_Mo_length hok σ _ hr5) ⟨rfl, rfl, Nat.le_of_ble_eq_true rfl, Nat.le_of_ble_eq_true rfl⟩ rfl (Nat.le_of_ble_eq_true rfl) rfl rfl ?_
        refine ox_istore_n B 3 od_Mo_solve_34 rfl (by decide) rfl (L2 := [some (.ref (ad 0)), some (.int x1), some (.int x2), some (.int r5)]) rfl ?_
        refine ox_iload_n B 1 od_Mo_solve_35 rfl rfl ?_
        refine ox_if_lt B 44 od_Mo_solve_36 rfl (fun hc => ?_) (fun hc => ?_)
        · rw [if_pos hc] at h
          refine ox_iload_n B 3 od_Mo_solve_44 rfl rfl ?_
          refine ox_istore_n B 1 od_Mo_solve_45 rfl (by decide) rfl (L2 := [some (.ref (ad 0)), some (.int r5), some (.int x2), some (.int r5)]) rfl ?_
          refine ox_aload_n B 0 od_Mo_solve_46 rfl rfl ?_
          obtain ⟨s6, hs6, h⟩ := ox_bind h
          refine omc_Mo_260 B F od_Mo_solve_47 (As := []) (rest := []) (st2 := []) (ct_om_Mo_keep hok σ _ hs6) ⟨rfl, rfl, Nat.le_of_ble_eq_true rfl, Nat.le_of_ble_eq_true rfl⟩ rfl (Nat.le_of_ble_eq_true rfl) rfl rfl ?_
          refine ox_aload_n B 0 od_Mo_solve_50 rfl rfl ?_
          obtain ⟨r7, s8, hr7, h⟩ := ox_b2_some h
          refine omc_Mo_263 B F od_Mo_solve_51 (As := []) (rest := []) (st2 := [.int r7]) (ct_om_Mo_nextTour hok s6 _ hr7) ⟨rfl, rfl, Nat.le_of_ble_eq_true rfl, Nat.le_of_ble_eq_true rfl⟩ rfl (Nat.le_of_ble_eq_true rfl) rfl rfl ?_
          refine ox_istore_n B 2 od_Mo_solve_54 rfl (by decide) rfl (L2 := [some (.ref (ad 0)), some (.int r5), some (.int r7), some (.int r5)]) rfl ?_
          refine ox_goto B 19 od_Mo_solve_55 rfl ?_
          cases h
          exact (ox_mask [true, true, true, false] hG)
        · rw [if_neg hc] at h
          refine ox_iload_n B 3 od_Mo_solve_39 rfl rfl ?_
          refine ox_iload_n B 1 od_Mo_solve_40 rfl rfl ?_
          refine ox_icmp_ge B 50 od_Mo_solve_41 rfl (fun hc => ?_) (fun hc => ?_)
          · rw [if_pos hc] at h
            refine ox_aload_n B 0 od_Mo_solve_50 rfl rfl ?_
            obtain ⟨r9, s10, hr9, h⟩ := ox_b2_some h
            refine omc_Mo_263 B F od_Mo_solve_51 (As := []) (rest := []) (st2 := [.int r9]) (ct_om_Mo_nextTour hok σ _ hr9) ⟨rfl, rfl, Nat.le_of_ble_eq_true rfl, Nat.le_of_ble_eq_true rfl⟩ rfl (Nat.le_of_ble_eq_true rfl) rfl rfl ?_
            refine ox_istore_n B 2 od_Mo_solve_54 rfl (by decide) rfl (L2 := [some (.ref (ad 0)), some (.int x1), some (.int r9), some (.int r5)]) rfl ?_
            refine ox_goto B 19 od_Mo_solve_55 rfl ?_
            cases h
            exact (ox_mask [true, true, true, false] hG)
          · rw [if_neg hc] at h
            refine ox_iload_n B 3 od_Mo_solve_44 rfl rfl ?_
            refine ox_istore_n B 1 od_Mo_solve_45 rfl (by decide) rfl (L2 := [some (.ref (ad 0)), some (.int r5), some (.int x2), some (.int r5)]) rfl ?_
            refine ox_aload_n B 0 od_Mo_solve_46 rfl rfl ?_
            obtain ⟨s11, hs11, h⟩ := ox_bind h
            refine omc_Mo_260 B F od_Mo_solve_47 (As := []) (rest := []) (st2 := []) (ct_om_Mo_keep hok σ _ hs11) ⟨rfl, rfl, Nat.le_of_ble_eq_true rfl, Nat.le_of_ble_eq_true rfl⟩ rfl (Nat.le_of_ble_eq_true rfl) rfl rfl ?_
            refine ox_aload_n B 0 od_Mo_solve_50 rfl rfl ?_
            obtain ⟨r12, s13, hr12, h⟩ := ox_b2_some h
            refine omc_Mo_263 B F od_Mo_solve_51 (As := []) (rest := []) (st2 := [.int r12]) (ct_om_Mo_nextTour hok s11 _ hr12) ⟨rfl, rfl, Nat.le_of_ble_eq_true rfl, Nat.le_of_ble_eq_true rfl⟩ rfl (Nat.le_of_ble_eq_true rfl) rfl rfl ?_
            refine ox_istore_n B 2 od_Mo_solve_54 rfl (by decide) rfl (L2 := [some (.ref (ad 0)), some (.int r5), some (.int r12), some (.int r5)]) rfl ?_
            refine ox_goto B 19 od_Mo_solve_55 rfl ?_
            cases h
            exact (ox_mask [true, true, true, false] hG)
  have t_19 : ∀ (x1 : Int32) (x2 : Int32) (σ : ox_S) (t : (Int32 × ox_S)), om_Mo_solve_h19 x1 x2 σ = some t → (fun t : (Int32 × ox_S) => res = some (.int t.1) ∧ σf = t.2) t → ox_M p l e rm_om_Mo_solve s m args below meth c (om_W D ad cI cC cZ A) 4 res σf 19 [some (.ref (ad 0)), some (.int x1), some (.int x2), none] [] σ := by
    intro x1 x2 σ t h hG
    exact ox_w_run (fun t : (Int32 × Int32 × ox_S) => ox_M p l e rm_om_Mo_solve s m args below meth c (om_W D ad cI cC cZ A) 4 res σf 19 [some (.ref (ad 0)), some (.int t.1), some (.int t.2.1), none] [] t.2.2) (fun t : (Int32 × ox_S) => res = some (.int t.1) ∧ σf = t.2) (fun a t h hG => t_b19 a.1 a.2.1 a.2.2 t h hG) (x1, x2, σ) t h hG
  change ox_M p l e rm_om_Mo_solve s m args below meth c (om_W D ad cI cC cZ A) 4 res σf 0 [some (.ref (ad 0)), none, none, none] [] σ
  unfold om_Mo_solve at h
  refine ox_iconst B od_Mo_solve_0 oxk_im1 ?_
  refine ox_istore_n B 1 od_Mo_solve_1 rfl (by decide) rfl (L2 := [some (.ref (ad 0)), some (.int (-1 : Int32)), none, none]) rfl ?_
  refine ox_aload_n B 0 od_Mo_solve_2 rfl rfl ?_
  refine omg_Mo_187 B F od_Mo_solve_3 ?_
  refine ox_if_le B 13 od_Mo_solve_6 rfl (fun hc => ?_) (fun hc => ?_)
  · rw [if_pos hc] at h
    refine ox_iconst B od_Mo_solve_13 oxk_i0 ?_
    refine ox_istore_n B 2 od_Mo_solve_14 rfl (by decide) rfl (L2 := [some (.ref (ad 0)), some (.int (-1 : Int32)), some (.int (0 : Int32)), none]) rfl ?_
    refine ox_aload_n B 0 od_Mo_solve_15 rfl rfl ?_
    obtain ⟨s1, hs1, h⟩ := ox_bind h
    refine omc_Mo_251 B F od_Mo_solve_16 (As := []) (rest := []) (st2 := []) (ct_om_Mo_firstTour hok σ _ hs1) ⟨rfl, rfl, Nat.le_of_ble_eq_true rfl, Nat.le_of_ble_eq_true rfl⟩ rfl (Nat.le_of_ble_eq_true rfl) rfl rfl ?_
    exact (t_19 (-1 : Int32) (0 : Int32) s1 _ h hG)
  · rw [if_neg hc] at h
    refine ox_iconst B od_Mo_solve_9 oxk_i1 ?_
    refine ox_goto B 14 od_Mo_solve_10 rfl ?_
    refine ox_istore_n B 2 od_Mo_solve_14 rfl (by decide) rfl (L2 := [some (.ref (ad 0)), some (.int (-1 : Int32)), some (.int (1 : Int32)), none]) rfl ?_
    refine ox_aload_n B 0 od_Mo_solve_15 rfl rfl ?_
    obtain ⟨s14, hs14, h⟩ := ox_bind h
    refine omc_Mo_251 B F od_Mo_solve_16 (As := []) (rest := []) (st2 := []) (ct_om_Mo_firstTour hok σ _ hs14) ⟨rfl, rfl, Nat.le_of_ble_eq_true rfl, Nat.le_of_ble_eq_true rfl⟩ rfl (Nat.le_of_ble_eq_true rfl) rfl rfl ?_
    exact (t_19 (-1 : Int32) (1 : Int32) s14 _ h hG)
