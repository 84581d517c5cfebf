abbrev rm_om_Mo_ties : Room := { frames := 3, cells := 0, slots := 0, locals := 70 }
set_option maxRecDepth 100000 in
set_option maxHeartbeats 4000000 in
theorem ct_om_Mo_ties {l : Launch} {D : va_G} {ad : Nat → Nat} {cI cC cZ : ClassId} {A : Nat → Prop} (hok : ox_ok (om_W D ad cI cC cZ A))  (σ : ox_S) (t : (Int32 × ox_S)) (h : om_Mo_ties  σ = some t) : Met l oy_Mo_ties (Cond.code oy_Mo_ties prog_11_method_50_code 5 (some .int) :: ox_ws) rm_om_Mo_ties (ox_P (om_W D ad cI cC cZ A) [.ref (ad 0)] σ) (ox_Q (om_W D ad cI cC cZ A) (some (.int t.1)) t.2) 0 0 A := by
  refine ox_met (ω := om_W D ad cI cC cZ A) (by decide) rfl hok (Nat.le_of_ble_eq_true rfl) ?_
  intro p e s m args below meth c B F
  generalize hres : (some (.int t.1) : Option Value) = res
  generalize hσf : t.2 = σf
  have hG : (fun t : (Int32 × ox_S) => res = some (.int t.1) ∧ σf = t.2) t := ⟨hres.symm, hσf.symm⟩
  have t_65 : ∀ (x1 : Int32) (x4 : Int32) (y0 : Int32) (σ : ox_S) (t : ((Int32 × Int32 × Int32 × ox_S) ⊕ (Int32 × ox_S))), om_Mo_ties_j65 x1 x4 y0 σ = some t → (ox_G (fun t : (Int32 × Int32 × Int32 × ox_S) => ox_M p l e rm_om_Mo_ties s m args below meth c (om_W D ad cI cC cZ A) 5 res σf 21 [some (.ref (ad 0)), some (.int t.1), some (.int t.2.1), some (.int t.2.2.1), none] [] t.2.2.2) (fun t : (Int32 × ox_S) => res = some (.int t.1) ∧ σf = t.2)) t → ox_M p l e rm_om_Mo_ties s m args below meth c (om_W D ad cI cC cZ A) 5 res σf 65 [some (.ref (ad 0)), some (.int x1), none, none, some (.int x4)] [.int y0] σ := by
    intro x1 x4 y0 σ t h hG
    unfold om_Mo_ties_j65 at h
    refine ox_istore_n B 2 od_Mo_ties_65 rfl (by decide) rfl (L2 := [some (.ref (ad 0)), some (.int x1), some (.int y0), none, some (.int x4)]) rfl ?_
    refine ox_iload_n B 1 od_Mo_ties_66 rfl rfl ?_
    refine ox_if_lt B 76 od_Mo_ties_67 rfl (fun hc => ?_) (fun hc => ?_)
    · rw [if_pos hc] at h
      refine ox_iload B od_Mo_ties_76 rfl ?_
      refine ox_goto B 82 od_Mo_ties_78 rfl ?_
      refine ox_istore_n B 1 od_Mo_ties_82 rfl (by decide) rfl (L2 := [some (.ref (ad 0)), some (.int x4), some (.int y0), none, some (.int x4)]) rfl ?_
      refine ox_aload_n B 0 od_Mo_ties_83 rfl rfl ?_
      obtain ⟨r6, s7, hr6, h⟩ := ox_b2_some h
      refine omc_Mo_263 B F od_Mo_ties_84 (As := []) (rest := []) (st2 := [.int r6]) (ct_om_Mo_nextTour hok σ _ hr6) ⟨rfl, rfl, Nat.le_of_ble_eq_true rfl, Nat.le_of_ble_eq_true rfl⟩ rfl (Nat.le_of_ble_eq_true rfl) rfl rfl ?_
      refine ox_istore_n B 3 od_Mo_ties_87 rfl (by decide) rfl (L2 := [some (.ref (ad 0)), some (.int x4), some (.int y0), some (.int r6), some (.int x4)]) rfl ?_
      refine ox_goto B 21 od_Mo_ties_88 rfl ?_
      cases h
      exact (ox_mask [true, true, true, true, false] hG)
    · rw [if_neg hc] at h
      refine ox_iload B od_Mo_ties_70 rfl ?_
      refine ox_iload_n B 1 od_Mo_ties_72 rfl rfl ?_
      refine ox_icmp_ge B 81 od_Mo_ties_73 rfl (fun hc => ?_) (fun hc => ?_)
      · rw [if_pos hc] at h
        refine ox_iload_n B 1 od_Mo_ties_81 rfl rfl ?_
        refine ox_istore_n B 1 od_Mo_ties_82 rfl (by decide) rfl (L2 := [some (.ref (ad 0)), some (.int x1), some (.int y0), none, some (.int x4)]) rfl ?_
        refine ox_aload_n B 0 od_Mo_ties_83 rfl rfl ?_
        obtain ⟨r8, s9, hr8, h⟩ := ox_b2_some h
        refine omc_Mo_263 B F od_Mo_ties_84 (As := []) (rest := []) (st2 := [.int r8]) (ct_om_Mo_nextTour hok σ _ hr8) ⟨rfl, rfl, Nat.le_of_ble_eq_true rfl, Nat.le_of_ble_eq_true rfl⟩ rfl (Nat.le_of_ble_eq_true rfl) rfl rfl ?_
        refine ox_istore_n B 3 od_Mo_ties_87 rfl (by decide) rfl (L2 := [some (.ref (ad 0)), some (.int x1), some (.int y0), some (.int r8), some (.int x4)]) rfl ?_
        refine ox_goto B 21 od_Mo_ties_88 rfl ?_
        cases h
        exact (ox_mask [true, true, true, true, false] hG)
      · rw [if_neg hc] at h
        refine ox_iload B od_Mo_ties_76 rfl ?_
        refine ox_goto B 82 od_Mo_ties_78 rfl ?_
        refine ox_istore_n B 1 od_Mo_ties_82 rfl (by decide) rfl (L2 := [some (.ref (ad 0)), some (.int x4), some (.int y0), none, some (.int x4)]) rfl ?_
        refine ox_aload_n B 0 od_Mo_ties_83 rfl rfl ?_
        obtain ⟨r10, s11, hr10, h⟩ := ox_b2_some h
        refine omc_Mo_263 B F od_Mo_ties_84 (As := []) (rest := []) (st2 := [.int r10]) (ct_om_Mo_nextTour hok σ _ hr10) ⟨rfl, rfl, Nat.le_of_ble_eq_true rfl, Nat.le_of_ble_eq_true rfl⟩ rfl (Nat.le_of_ble_eq_true rfl) rfl rfl ?_
        refine ox_istore_n B 3 od_Mo_ties_87 rfl (by decide) rfl (L2 := [some (.ref (ad 0)), some (.int x4), some (.int y0), some (.int r10), some (.int x4)]) rfl ?_
        refine ox_goto B 21 od_Mo_ties_88 rfl ?_
        cases h
        exact (ox_mask [true, true, true, true, false] hG)
  have t_b21 : ∀ (x1 : Int32) (x2 : Int32) (x3 : Int32) (σ : ox_S) (t : ((Int32 × Int32 × Int32 × ox_S) ⊕ (Int32 × ox_S))), om_Mo_ties_b21 x1 x2 x3 σ = some t → (ox_G (fun t : (Int32 × Int32 × Int32 × ox_S) => ox_M p l e rm_om_Mo_ties s m args below meth c (om_W D ad cI cC cZ A) 5 res σf 21 [some (.ref (ad 0)), some (.int t.1), some (.int t.2.1), some (.int t.2.2.1), none] [] t.2.2.2) (fun t : (Int32 × ox_S) => res = some (.int t.1) ∧ σf = t.2)) t → ox_M p l e rm_om_Mo_ties s m args below meth c (om_W D ad cI cC cZ A) 5 res σf 21 [some (.ref (ad 0)), some (.int x1), some (.int x2), some (.int x3), none] [] σ := by
    intro x1 x2 x3 σ t h hG
    unfold om_Mo_ties_b21 at h
    refine ox_iload_n B 3 od_Mo_ties_21 rfl rfl ?_
    refine ox_if_eq B 91 od_Mo_ties_22 rfl (fun hc => ?_) (fun hc => ?_)
    · rw [if_pos hc] at h
      refine ox_iload_n B 2 od_Mo_ties_91 rfl rfl ?_
      cases h
      exact ox_iret B F od_Mo_ties_92 rfl rfl hG
    · rw [if_neg hc] at h
      refine ox_aload_n B 0 od_Mo_ties_25 rfl rfl ?_
      obtain ⟨r2, hr2, h⟩ := ox_bind h
      refine omc_Mo_254 B F od_Mo_ties_26 (As := []) (rest := []) (st2 := [.int r2]) (ct_om_Mo_allowed hok σ _ hr2) ⟨rfl, rfl, Nat.le_of_ble_eq_true rfl, Nat.le_of_ble_eq_true rfl⟩ rfl (Nat.le_of_ble_eq_true rfl) rfl rfl ?_
      refine ox_if_eq B 83 od_Mo_ties_29 rfl (fun hc => ?_) (fun hc => ?_)
      · rw [if_pos hc] at h
        refine ox_aload_n B 0 od_Mo_ties_83 rfl rfl ?_
        obtain ⟨r3, s4, hr3, h⟩ := ox_b2_some h
        refine omc_Mo_263 B F od_Mo_ties_84 (As := []) (rest := []) (st2 := [.int r3]) (ct_om_Mo_nextTour hok σ _ hr3) ⟨rfl, rfl, Nat.le_of_ble_eq_true rfl, Nat.le_of_ble_eq_true rfl⟩ rfl (Nat.le_of_ble_eq_true rfl) rfl rfl ?_
        refine ox_istore_n B 3 od_Mo_ties_87 rfl (by decide) rfl (L2 := [some (.ref (ad 0)), some (.int x1), some (.int x2), some (.int r3), none]) rfl ?_
        refine ox_goto B 21 od_Mo_ties_88 rfl ?_
        cases h
        exact hG
      · rw [if_neg hc] at h
        refine ox_aload_n B 0 od_Mo_ties_32 rfl rfl ?_
        obtain ⟨r5, hr5, h⟩ := ox_bind h
        refine omc_Mo_257 B F od_Mo_ties_33 (As := []) (rest := []) (st2 := [.int r5]) (ct_om_Mo_length hok σ _ hr5) ⟨rfl, rfl, Nat.le_of_ble_eq_true rfl, Nat.le_of_ble_eq_true rfl⟩ rfl (Nat.le_of_ble_eq_true rfl) rfl rfl ?_
        refine ox_istore B od_Mo_ties_36 (by decide) rfl (L2 := [some (.ref (ad 0)), some (.int x1), some (.int x2), some (.int x3), some (.int r5)]) rfl ?_
        refine ox_iload_n B 1 od_Mo_ties_38 rfl rfl ?_
        refine ox_if_lt B 48 od_Mo_ties_39 rfl (fun hc => ?_) (fun hc => ?_)
        · rw [if_pos hc] at h
          refine ox_iconst B od_Mo_ties_48 oxk_i1 ?_
          refine ox_goto B 65 od_Mo_ties_49 rfl ?_
          exact (ox_mask [true, true, false, false, true] (t_65 x1 r5 (1 : Int32) σ _ h hG))
        · rw [if_neg hc] at h
          refine ox_iload B od_Mo_ties_42 rfl ?_
          refine ox_iload_n B 1 od_Mo_ties_44 rfl rfl ?_
          refine ox_icmp_ge B 52 od_Mo_ties_45 rfl (fun hc => ?_) (fun hc => ?_)
          · rw [if_pos hc] at h
            refine ox_iload B od_Mo_ties_52 rfl ?_
            refine ox_iload_n B 1 od_Mo_ties_54 rfl rfl ?_
            refine ox_icmp_ne B 64 od_Mo_ties_55 rfl (fun hc => ?_) (fun hc => ?_)
            · rw [if_neg hc] at h
              refine ox_iload_n B 2 od_Mo_ties_64 rfl rfl ?_
              exact (ox_mask [true, true, false, false, true] (t_65 x1 r5 x2 σ _ h hG))
            · rw [if_pos hc] at h
              refine ox_iload_n B 2 od_Mo_ties_58 rfl rfl ?_
              refine ox_iconst B od_Mo_ties_59 oxk_i1 ?_
              refine ox_iadd B od_Mo_ties_60 ?_
              refine ox_goto B 65 od_Mo_ties_61 rfl ?_
              exact (ox_mask [true, true, false, false, true] (t_65 x1 r5 (x2 + (1 : Int32)) σ _ h hG))
          · rw [if_neg hc] at h
            refine ox_iconst B od_Mo_ties_48 oxk_i1 ?_
            refine ox_goto B 65 od_Mo_ties_49 rfl ?_
            exact (ox_mask [true, true, false, false, true] (t_65 x1 r5 (1 : Int32) σ _ h hG))
  have t_21 : ∀ (x1 : Int32) (x2 : Int32) (x3 : Int32) (σ : ox_S) (t : (Int32 × ox_S)), om_Mo_ties_h21 x1 x2 x3 σ = some t → (fun t : (Int32 × ox_S) => res = some (.int t.1) ∧ σf = t.2) t → ox_M p l e rm_om_Mo_ties s m args below meth c (om_W D ad cI cC cZ A) 5 res σf 21 [some (.ref (ad 0)), some (.int x1), some (.int x2), some (.int x3), none] [] σ := by
    intro x1 x2 x3 σ t h hG
    exact ox_w_run (fun t : (Int32 × Int32 × Int32 × ox_S) => ox_M p l e rm_om_Mo_ties s m args below meth c (om_W D ad cI cC cZ A) 5 res σf 21 [some (.ref (ad 0)), some (.int t.1), some (.int t.2.1), some (.int t.2.2.1), none] [] t.2.2.2) (fun t : (Int32 × ox_S) => res = some (.int t.1) ∧ σf = t.2) (fun a t h hG => t_b21 a.1 a.2.1 a.2.2.1 a.2.2.2 t h hG) (x1, x2, x3, σ) t h hG
  change ox_M p l e rm_om_Mo_ties s m args below meth c (om_W D ad cI cC cZ A) 5 res σf 0 [some (.ref (ad 0)), none, none, none, none] [] σ
  unfold om_Mo_ties at h
  refine ox_iconst B od_Mo_ties_0 oxk_im1 ?_
  refine ox_istore_n B 1 od_Mo_ties_1 rfl (by decide) rfl (L2 := [some (.ref (ad 0)), some (.int (-1 : Int32)), none, none, none]) rfl ?_
  refine ox_iconst B od_Mo_ties_2 oxk_i0 ?_
  refine ox_istore_n B 2 od_Mo_ties_3 rfl (by decide) rfl (L2 := [some (.ref (ad 0)), some (.int (-1 : Int32)), some (.int (0 : Int32)), none, none]) rfl ?_
  refine ox_aload_n B 0 od_Mo_ties_4 rfl rfl ?_
  refine omg_Mo_187 B F od_Mo_ties_5 ?_
  refine ox_if_le B 15 od_Mo_ties_8 rfl (fun hc => ?_) (fun hc => ?_)
  · rw [if_pos hc] at h
    refine ox_iconst B od_Mo_ties_15 oxk_i0 ?_
    refine ox_istore_n B 3 od_Mo_ties_16 rfl (by decide) rfl (L2 := [some (.ref (ad 0)), some (.int (-1 : Int32)), some (.int (0 : Int32)), some (.int (0 : Int32)), none]) rfl ?_
    refine ox_aload_n B 0 od_Mo_ties_17 rfl rfl ?_
    obtain ⟨s1, hs1, h⟩ := ox_bind h
    refine omc_Mo_251 B F od_Mo_ties_18 (As := []) (rest := []) (st2 := []) (ct_om_Mo_firstTour hok σ _ hs1) ⟨rfl, rfl, Nat.le_of_ble_eq_true rfl, Nat.le_of_ble_eq_true rfl⟩ rfl (Nat.le_of_ble_eq_true rfl) rfl rfl ?_
    exact (t_21 (-1 : Int32) (0 : Int32) (0 : Int32) s1 _ h hG)
  · rw [if_neg hc] at h
    refine ox_iconst B od_Mo_ties_11 oxk_i1 ?_
    refine ox_goto B 16 od_Mo_ties_12 rfl ?_
    refine ox_istore_n B 3 od_Mo_ties_16 rfl (by decide) rfl (L2 := [some (.ref (ad 0)), some (.int (-1 : Int32)), some (.int (0 : Int32)), some (.int (1 : Int32)), none]) rfl ?_
    refine ox_aload_n B 0 od_Mo_ties_17 rfl rfl ?_
    obtain ⟨s12, hs12, h⟩ := ox_bind h
    refine omc_Mo_251 B F od_Mo_ties_18 (As := []) (rest := []) (st2 := []) (ct_om_Mo_firstTour hok σ _ hs12) ⟨rfl, rfl, Nat.le_of_ble_eq_true rfl, Nat.le_of_ble_eq_true rfl⟩ rfl (Nat.le_of_ble_eq_true rfl) rfl rfl ?_
    exact (t_21 (-1 : Int32) (0 : Int32) (1 : Int32) s12 _ h hG)
abbrev rm_om_Mo_nearest : Room := { frames := 0, cells := 0, slots := 0, locals := 0 }
set_option maxRecDepth 100000 in
set_option maxHeartbeats 4000000 in
theorem ct_om_Mo_nearest {l : Launch} {D : va_G} {ad : Nat → Nat} {cI cC cZ : ClassId} {A : Nat → Prop} (hok : ox_ok (om_W D ad cI cC cZ A))  (σ : ox_S) (t : ox_S) (h : om_Mo_nearest  σ = some t) : Met l oy_Mo_nearest (Cond.code oy_Mo_nearest prog_11_method_51_code 6 none :: ox_ws) rm_om_Mo_nearest (ox_P (om_W D ad cI cC cZ A) [.ref (ad 0)] σ) (ox_Q (om_W D ad cI cC cZ A) none t) 0 0 A := by
  refine ox_met (ω := om_W D ad cI cC cZ A) (by decide) rfl hok (Nat.le_of_ble_eq_true rfl) ?_
  intro p e s m args below meth c B F
  generalize hres : (none : Option Value) = res
  have hG : res = none ∧ t = t := ⟨hres.symm, rfl⟩
  obtain ⟨σf, hσf⟩ : ∃ z, z = t := ⟨_, rfl⟩
  have hG : (fun t : ox_S => res = none ∧ σf = t) t := ⟨hres.symm, hσf⟩
  rw [show ox_M p l e rm_om_Mo_nearest s m args below meth c (om_W D ad cI cC cZ A) 6 res t 0 (ox_l0 [.ref (ad 0)] 6) [] σ = ox_M p l e rm_om_Mo_nearest s m args below meth c (om_W D ad cI cC cZ A) 6 res σf 0 (ox_l0 [.ref (ad 0)] 6) [] σ by rw [hσf]]
  have t_b35 : ∀ (x1 : Int32) (x2 : Int32) (x3 : Int32) (x4 : Int32) (x5 : Int32) (σ : ox_S) (t : ((Int32 × Int32) ⊕ ((Int32 × Int32) ⊕ ((Int32 × ox_S) ⊕ ox_S)))), om_Mo_nearest_b35 x1 x2 x3 x4 x5 σ = some t → (ox_G (fun t : (Int32 × Int32) => ox_M p l e rm_om_Mo_nearest s m args below meth c (om_W D ad cI cC cZ A) 6 res σf 35 [some (.ref (ad 0)), some (.int x1), some (.int x2), some (.int x3), some (.int t.1), some (.int t.2)] [] σ) (ox_G (fun t : (Int32 × Int32) => ox_M p l e rm_om_Mo_nearest s m args below meth c (om_W D ad cI cC cZ A) 6 res σf 21 [some (.ref (ad 0)), some (.int x1), some (.int t.1), some (.int t.2), none, none] [] σ) (ox_G (fun t : (Int32 × ox_S) => ox_M p l e rm_om_Mo_nearest s m args below meth c (om_W D ad cI cC cZ A) 6 res σf 9 [some (.ref (ad 0)), some (.int t.1), none, none, none, none] [] t.2) (fun t : ox_S => res = none ∧ σf = t)))) t → ox_M p l e rm_om_Mo_nearest s m args below meth c (om_W D ad cI cC cZ A) 6 res σf 35 [some (.ref (ad 0)), some (.int x1), some (.int x2), some (.int x3), some (.int x4), some (.int x5)] [] σ := by
    intro x1 x2 x3 x4 x5 σ t h hG
    unfold om_Mo_nearest_b35 at h
    refine ox_iload B od_Mo_nearest_35 rfl ?_
    refine ox_iload_n B 1 od_Mo_nearest_37 rfl rfl ?_
    refine ox_icmp_ge B 70 od_Mo_nearest_38 rfl (fun hc => ?_) (fun hc => ?_)
    · rw [if_pos hc] at h
      refine ox_aload_n B 0 od_Mo_nearest_70 rfl rfl ?_
      refine omg_Mo_51 B F od_Mo_nearest_71 ?_
      refine ox_iload_n B 1 od_Mo_nearest_74 rfl rfl ?_
      refine ox_iconst B od_Mo_nearest_75 oxk_i1 ?_
      refine ox_isub B od_Mo_nearest_76 ?_
      obtain ⟨j6, ej6, hj6, h⟩ := ox_ix_some2 h
      refine omal_13 B F od_Mo_nearest_77 hj6 ej6 ?_
      obtain ⟨v7, ev7, h⟩ := ox_let_some h
      refine ox_topi ev7 ?_
      refine ox_istore B od_Mo_nearest_78 (by decide) rfl (L2 := [some (.ref (ad 0)), some (.int x1), some (.int x2), some (.int x3), some (.int x4), some (.int v7)]) rfl ?_
      refine ox_iload B od_Mo_nearest_80 rfl ?_
      refine ox_if_ne B 120 od_Mo_nearest_82 rfl (fun hc => ?_) (fun hc => ?_)
      · rw [if_neg hc] at h
        refine ox_iload_n B 2 od_Mo_nearest_120 rfl rfl ?_
        refine ox_istore_n B 2 od_Mo_nearest_121 rfl (by decide) rfl (L2 := [some (.ref (ad 0)), some (.int x1), some (.int x2), some (.int x3), some (.int x4), some (.int v7)]) rfl ?_
        obtain ⟨v8, ev8, h⟩ := ox_let_some h
        refine ox_iinc B od_Mo_nearest_122 rfl ((congrArg (x3 + ·) oxk_i1).trans ev8.symm) (by decide) rfl (L2 := [some (.ref (ad 0)), some (.int x1), some (.int x2), some (.int v8), some (.int x4), some (.int v7)]) rfl ?_
        refine ox_goto B 21 od_Mo_nearest_125 rfl ?_
        cases h
        exact (ox_mask [true, true, true, true, false, false] hG)
      · rw [if_pos hc] at h
        refine ox_iload_n B 2 od_Mo_nearest_85 rfl rfl ?_
        refine ox_if_lt B 116 od_Mo_nearest_86 rfl (fun hc => ?_) (fun hc => ?_)
        · rw [if_pos hc] at h
          refine ox_iload_n B 3 od_Mo_nearest_116 rfl rfl ?_
          refine ox_goto B 121 od_Mo_nearest_117 rfl ?_
          refine ox_istore_n B 2 od_Mo_nearest_121 rfl (by decide) rfl (L2 := [some (.ref (ad 0)), some (.int x1), some (.int x3), some (.int x3), some (.int x4), some (.int v7)]) rfl ?_
          obtain ⟨v9, ev9, h⟩ := ox_let_some h
          refine ox_iinc B od_Mo_nearest_122 rfl ((congrArg (x3 + ·) oxk_i1).trans ev9.symm) (by decide) rfl (L2 := [some (.ref (ad 0)), some (.int x1), some (.int x3), some (.int v9), some (.int x4), some (.int v7)]) rfl ?_
          refine ox_goto B 21 od_Mo_nearest_125 rfl ?_
          cases h
          exact (ox_mask [true, true, true, true, false, false] hG)
        · rw [if_neg hc] at h
          refine ox_aload_n B 0 od_Mo_nearest_89 rfl rfl ?_
          refine omg_Mo_13 B F od_Mo_nearest_90 ?_
          refine ox_bipush B od_Mo_nearest_93 oxk_b8 ?_
          refine ox_iload B od_Mo_nearest_95 rfl ?_
          refine ox_imul B od_Mo_nearest_97 ?_
          refine ox_iload_n B 3 od_Mo_nearest_98 rfl rfl ?_
          refine ox_iadd B od_Mo_nearest_99 ?_
          obtain ⟨j10, ej10, hj10, h⟩ := ox_ix_some2 h
          refine omal_1 B F od_Mo_nearest_100 hj10 ej10 ?_
          refine ox_aload_n B 0 od_Mo_nearest_101 rfl rfl ?_
          refine omg_Mo_13 B F od_Mo_nearest_102 ?_
          refine ox_bipush B od_Mo_nearest_105 oxk_b8 ?_
          refine ox_iload B od_Mo_nearest_107 rfl ?_
          refine ox_imul B od_Mo_nearest_109 ?_
          refine ox_iload_n B 2 od_Mo_nearest_110 rfl rfl ?_
          refine ox_iadd B od_Mo_nearest_111 ?_
          obtain ⟨j11, ej11, hj11, h⟩ := ox_ix_some2 h
          refine omal_1 B F od_Mo_nearest_112 hj11 ej11 ?_
          refine ox_icmp_ge B 120 od_Mo_nearest_113 rfl (fun hc => ?_) (fun hc => ?_)
          · rw [if_pos hc] at h
            refine ox_iload_n B 2 od_Mo_nearest_120 rfl rfl ?_
            refine ox_istore_n B 2 od_Mo_nearest_121 rfl (by decide) rfl (L2 := [some (.ref (ad 0)), some (.int x1), some (.int x2), some (.int x3), some (.int x4), some (.int v7)]) rfl ?_
            obtain ⟨v12, ev12, h⟩ := ox_let_some h
            refine ox_iinc B od_Mo_nearest_122 rfl ((congrArg (x3 + ·) oxk_i1).trans ev12.symm) (by decide) rfl (L2 := [some (.ref (ad 0)), some (.int x1), some (.int x2), some (.int v12), some (.int x4), some (.int v7)]) rfl ?_
            refine ox_goto B 21 od_Mo_nearest_125 rfl ?_
            cases h
            exact (ox_mask [true, true, true, true, false, false] hG)
          · rw [if_neg hc] at h
            refine ox_iload_n B 3 od_Mo_nearest_116 rfl rfl ?_
            refine ox_goto B 121 od_Mo_nearest_117 rfl ?_
            refine ox_istore_n B 2 od_Mo_nearest_121 rfl (by decide) rfl (L2 := [some (.ref (ad 0)), some (.int x1), some (.int x3), some (.int x3), some (.int x4), some (.int v7)]) rfl ?_
            obtain ⟨v13, ev13, h⟩ := ox_let_some h
            refine ox_iinc B od_Mo_nearest_122 rfl ((congrArg (x3 + ·) oxk_i1).trans ev13.symm) (by decide) rfl (L2 := [some (.ref (ad 0)), some (.int x1), some (.int x3), some (.int v13), some (.int x4), some (.int v7)]) rfl ?_
            refine ox_goto B 21 od_Mo_nearest_125 rfl ?_
            cases h
            exact (ox_mask [true, true, true, true, false, false] hG)
    · rw [if_neg hc] at h
      refine ox_iload B od_Mo_nearest_41 rfl ?_
      refine ox_if_ne B 57 od_Mo_nearest_43 rfl (fun hc => ?_) (fun hc => ?_)
      · rw [if_neg hc] at h
        refine ox_iconst B od_Mo_nearest_57 oxk_i1 ?_
        refine ox_goto B 62 od_Mo_nearest_58 rfl ?_
        refine ox_istore B od_Mo_nearest_62 (by decide) rfl (L2 := [some (.ref (ad 0)), some (.int x1), some (.int x2), some (.int x3), some (.int (1 : Int32)), some (.int x5)]) rfl ?_
        obtain ⟨v14, ev14, h⟩ := ox_let_some h
        refine ox_iinc B od_Mo_nearest_64 rfl ((congrArg (x5 + ·) oxk_i1).trans ev14.symm) (by decide) rfl (L2 := [some (.ref (ad 0)), some (.int x1), some (.int x2), some (.int x3), some (.int (1 : Int32)), some (.int v14)]) rfl ?_
        refine ox_goto B 35 od_Mo_nearest_67 rfl ?_
        cases h
        exact hG
      · rw [if_pos hc] at h
        refine ox_aload_n B 0 od_Mo_nearest_46 rfl rfl ?_
        refine omg_Mo_51 B F od_Mo_nearest_47 ?_
        refine ox_iload B od_Mo_nearest_50 rfl ?_
        obtain ⟨j15, ej15, hj15, h⟩ := ox_ix_some2 h
        refine omal_13 B F od_Mo_nearest_52 hj15 ej15 ?_
        refine ox_iload_n B 3 od_Mo_nearest_53 rfl rfl ?_
        refine ox_icmp_ne B 61 od_Mo_nearest_54 rfl (fun hc => ?_) (fun hc => ?_)
        · rw [if_neg hc] at h
          refine ox_iconst B od_Mo_nearest_61 oxk_i0 ?_
          refine ox_istore B od_Mo_nearest_62 (by decide) rfl (L2 := [some (.ref (ad 0)), some (.int x1), some (.int x2), some (.int x3), some (.int (0 : Int32)), some (.int x5)]) rfl ?_
          obtain ⟨v16, ev16, h⟩ := ox_let_some h
          refine ox_iinc B od_Mo_nearest_64 rfl ((congrArg (x5 + ·) oxk_i1).trans ev16.symm) (by decide) rfl (L2 := [some (.ref (ad 0)), some (.int x1), some (.int x2), some (.int x3), some (.int (0 : Int32)), some (.int v16)]) rfl ?_
          refine ox_goto B 35 od_Mo_nearest_67 rfl ?_
          cases h
          exact hG
        · rw [if_pos hc] at h
          refine ox_iconst B od_Mo_nearest_57 oxk_i1 ?_
          refine ox_goto B 62 od_Mo_nearest_58 rfl ?_
          refine ox_istore B od_Mo_nearest_62 (by decide) rfl (L2 := [some (.ref (ad 0)), some (.int x1), some (.int x2), some (.int x3), some (.int (1 : Int32)), some (.int x5)]) rfl ?_
          obtain ⟨v17, ev17, h⟩ := ox_let_some h
          refine ox_iinc B od_Mo_nearest_64 rfl ((congrArg (x5 + ·) oxk_i1).trans ev17.symm) (by decide) rfl (L2 := [some (.ref (ad 0)), some (.int x1), some (.int x2), some (.int x3), some (.int (1 : Int32)), some (.int v17)]) rfl ?_
          refine ox_goto B 35 od_Mo_nearest_67 rfl ?_
          cases h
          exact hG
  have t_35 : ∀ (x1 : Int32) (x2 : Int32) (x3 : Int32) (x4 : Int32) (x5 : Int32) (σ : ox_S) (t : ((Int32 × Int32) ⊕ ((Int32 × ox_S) ⊕ ox_S))), om_Mo_nearest_h35 x1 x2 x3 x4 x5 σ = some t → (ox_G (fun t : (Int32 × Int32) => ox_M p l e rm_om_Mo_nearest s m args below meth c (om_W D ad cI cC cZ A) 6 res σf 21 [some (.ref (ad 0)), some (.int x1), some (.int t.1), some (.int t.2), none, none] [] σ) (ox_G (fun t : (Int32 × ox_S) => ox_M p l e rm_om_Mo_nearest s m args below meth c (om_W D ad cI cC cZ A) 6 res σf 9 [some (.ref (ad 0)), some (.int t.1), none, none, none, none] [] t.2) (fun t : ox_S => res = none ∧ σf = t))) t → ox_M p l e rm_om_Mo_nearest s m args below meth c (om_W D ad cI cC cZ A) 6 res σf 35 [some (.ref (ad 0)), some (.int x1), some (.int x2), some (.int x3), some (.int x4), some (.int x5)] [] σ := by
    intro x1 x2 x3 x4 x5 σ t h hG
    exact ox_w_run (fun t : (Int32 × Int32) => ox_M p l e rm_om_Mo_nearest s m args below meth c (om_W D ad cI cC cZ A) 6 res σf 35 [some (.ref (ad 0)), some (.int x1), some (.int x2), some (.int x3), some (.int t.1), some (.int t.2)] [] σ) (ox_G (fun t : (Int32 × Int32) => ox_M p l e rm_om_Mo_nearest s m args below meth c (om_W D ad cI cC cZ A) 6 res σf 21 [some (.ref (ad 0)), some (.int x1), some (.int t.1), some (.int t.2), none, none] [] σ) (ox_G (fun t : (Int32 × ox_S) => ox_M p l e rm_om_Mo_nearest s m args below meth c (om_W D ad cI cC cZ A) 6 res σf 9 [some (.ref (ad 0)), some (.int t.1), none, none, none, none] [] t.2) (fun t : ox_S => res = none ∧ σf = t))) (fun a t h hG => t_b35 x1 x2 x3 a.1 a.2 σ t h hG) (x4, x5) t h hG
  have t_b21 : ∀ (x1 : Int32) (x2 : Int32) (x3 : Int32) (σ : ox_S) (t : ((Int32 × Int32) ⊕ ((Int32 × ox_S) ⊕ ox_S))), om_Mo_nearest_b21 x1 x2 x3 σ = some t → (ox_G (fun t : (Int32 × Int32) => ox_M p l e rm_om_Mo_nearest s m args below meth c (om_W D ad cI cC cZ A) 6 res σf 21 [some (.ref (ad 0)), some (.int x1), some (.int t.1), some (.int t.2), none, none] [] σ) (ox_G (fun t : (Int32 × ox_S) => ox_M p l e rm_om_Mo_nearest s m args below meth c (om_W D ad cI cC cZ A) 6 res σf 9 [some (.ref (ad 0)), some (.int t.1), none, none, none, none] [] t.2) (fun t : ox_S => res = none ∧ σf = t))) t → ox_M p l e rm_om_Mo_nearest s m args below meth c (om_W D ad cI cC cZ A) 6 res σf 21 [some (.ref (ad 0)), some (.int x1), some (.int x2), some (.int x3), none, none] [] σ := by
    intro x1 x2 x3 σ t h hG
    unfold om_Mo_nearest_b21 at h
    refine ox_iload_n B 3 od_Mo_nearest_21 rfl rfl ?_
    refine ox_aload_n B 0 od_Mo_nearest_22 rfl rfl ?_
    refine omg_Mo_187 B F od_Mo_nearest_23 ?_
    refine ox_icmp_ge B 128 od_Mo_nearest_26 rfl (fun hc => ?_) (fun hc => ?_)
    · rw [if_pos hc] at h
      refine ox_aload_n B 0 od_Mo_nearest_128 rfl rfl ?_
      refine omg_Mo_51 B F od_Mo_nearest_129 ?_
      refine ox_iload_n B 1 od_Mo_nearest_132 rfl rfl ?_
      refine ox_iload_n B 2 od_Mo_nearest_133 rfl rfl ?_
      obtain ⟨j3, ej3, hj3, h⟩ := ox_ix_some2 h
      obtain ⟨s4, es4, h⟩ := ox_let_some h
      refine omas_13 B F od_Mo_nearest_134 hj3 ej3 es4 ?_
      obtain ⟨v5, ev5, h⟩ := ox_let_some h
      refine ox_iinc B od_Mo_nearest_135 rfl ((congrArg (x1 + ·) oxk_i1).trans ev5.symm) (by decide) rfl (L2 := [some (.ref (ad 0)), some (.int v5), some (.int x2), some (.int x3), none, none]) rfl ?_
      refine ox_goto B 9 od_Mo_nearest_138 rfl ?_
      cases h
      exact (ox_mask [true, true, false, false, false, false] hG)
    · rw [if_neg hc] at h
      refine ox_iconst B od_Mo_nearest_29 oxk_i0 ?_
      refine ox_istore B od_Mo_nearest_30 (by decide) rfl (L2 := [some (.ref (ad 0)), some (.int x1), some (.int x2), some (.int x3), some (.int (0 : Int32)), none]) rfl ?_
      refine ox_iconst B od_Mo_nearest_32 oxk_i0 ?_
      refine ox_istore B od_Mo_nearest_33 (by decide) rfl (L2 := [some (.ref (ad 0)), some (.int x1), some (.int x2), some (.int x3), some (.int (0 : Int32)), some (.int (0 : Int32))]) rfl ?_
      exact (t_35 x1 x2 x3 (0 : Int32) (0 : Int32) σ _ h hG)
  have t_21 : ∀ (x1 : Int32) (x2 : Int32) (x3 : Int32) (σ : ox_S) (t : ((Int32 × ox_S) ⊕ ox_S)), om_Mo_nearest_h21 x1 x2 x3 σ = some t → (ox_G (fun t : (Int32 × ox_S) => ox_M p l e rm_om_Mo_nearest s m args below meth c (om_W D ad cI cC cZ A) 6 res σf 9 [some (.ref (ad 0)), some (.int t.1), none, none, none, none] [] t.2) (fun t : ox_S => res = none ∧ σf = t)) t → ox_M p l e rm_om_Mo_nearest s m args below meth c (om_W D ad cI cC cZ A) 6 res σf 21 [some (.ref (ad 0)), some (.int x1), some (.int x2), some (.int x3), none, none] [] σ := by
    intro x1 x2 x3 σ t h hG
    exact ox_w_run (fun t : (Int32 × Int32) => ox_M p l e rm_om_Mo_nearest s m args below meth c (om_W D ad cI cC cZ A) 6 res σf 21 [some (.ref (ad 0)), some (.int x1), some (.int t.1), some (.int t.2), none, none] [] σ) (ox_G (fun t : (Int32 × ox_S) => ox_M p l e rm_om_Mo_nearest s m args below meth c (om_W D ad cI cC cZ A) 6 res σf 9 [some (.ref (ad 0)), some (.int t.1), none, none, none, none] [] t.2) (fun t : ox_S => res = none ∧ σf = t)) (fun a t h hG => t_b21 x1 a.1 a.2 σ t h hG) (x2, x3) t h hG
  have t_b9 : ∀ (x1 : Int32) (σ : ox_S) (t : ((Int32 × ox_S) ⊕ ox_S)), om_Mo_nearest_b9 x1 σ = some t → (ox_G (fun t : (Int32 × ox_S) => ox_M p l e rm_om_Mo_nearest s m args below meth c (om_W D ad cI cC cZ A) 6 res σf 9 [some (.ref (ad 0)), some (.int t.1), none, none, none, none] [] t.2) (fun t : ox_S => res = none ∧ σf = t)) t → ox_M p l e rm_om_Mo_nearest s m args below meth c (om_W D ad cI cC cZ A) 6 res σf 9 [some (.ref (ad 0)), some (.int x1), none, none, none, none] [] σ := by
    intro x1 σ t h hG
    unfold om_Mo_nearest_b9 at h
    refine ox_iload_n B 1 od_Mo_nearest_9 rfl rfl ?_
    refine ox_aload_n B 0 od_Mo_nearest_10 rfl rfl ?_
    refine omg_Mo_187 B F od_Mo_nearest_11 ?_
    refine ox_icmp_ge B 141 od_Mo_nearest_14 rfl (fun hc => ?_) (fun hc => ?_)
    · rw [if_pos hc] at h
      cases h
      exact ox_vret B F od_Mo_nearest_141 rfl hG
    · rw [if_neg hc] at h
      refine ox_iconst B od_Mo_nearest_17 oxk_im1 ?_
      refine ox_istore_n B 2 od_Mo_nearest_18 rfl (by decide) rfl (L2 := [some (.ref (ad 0)), some (.int x1), some (.int (-1 : Int32)), none, none, none]) rfl ?_
      refine ox_iconst B od_Mo_nearest_19 oxk_i1 ?_
      refine ox_istore_n B 3 od_Mo_nearest_20 rfl (by decide) rfl (L2 := [some (.ref (ad 0)), some (.int x1), some (.int (-1 : Int32)), some (.int (1 : Int32)), none, none]) rfl ?_
      exact (t_21 x1 (-1 : Int32) (1 : Int32) σ _ h hG)
  have t_9 : ∀ (x1 : Int32) (σ : ox_S) (t : ox_S), om_Mo_nearest_h9 x1 σ = some t → (fun t : ox_S => res = none ∧ σf = t) t → ox_M p l e rm_om_Mo_nearest s m args below meth c (om_W D ad cI cC cZ A) 6 res σf 9 [some (.ref (ad 0)), some (.int x1), none, none, none, none] [] σ := by
    intro x1 σ t h hG
    exact ox_w_run (fun t : (Int32 × ox_S) => ox_M p l e rm_om_Mo_nearest s m args below meth c (om_W D ad cI cC cZ A) 6 res σf 9 [some (.ref (ad 0)), some (.int t.1), none, none, none, none] [] t.2) (fun t : ox_S => res = none ∧ σf = t) (fun a t h hG => t_b9 a.1 a.2 t h hG) (x1, σ) t h hG
  change ox_M p l e rm_om_Mo_nearest s m args below meth c (om_W D ad cI cC cZ A) 6 res σf 0 [some (.ref (ad 0)), none, none, none, none, none] [] σ
  unfold om_Mo_nearest at h
  refine ox_aload_n B 0 od_Mo_nearest_0 rfl rfl ?_
  refine omg_Mo_51 B F od_Mo_nearest_1 ?_
  refine ox_iconst B od_Mo_nearest_4 oxk_i0 ?_
  refine ox_iconst B od_Mo_nearest_5 oxk_i0 ?_
  obtain ⟨j1, ej1, hj1, h⟩ := ox_ix_some2 h
  obtain ⟨s2, es2, h⟩ := ox_let_some h
  refine omas_13 B F od_Mo_nearest_6 hj1 ej1 es2 ?_
  refine ox_iconst B od_Mo_nearest_7 oxk_i1 ?_
  refine ox_istore_n B 1 od_Mo_nearest_8 rfl (by decide) rfl (L2 := [some (.ref (ad 0)), some (.int (1 : Int32)), none, none, none, none]) rfl ?_
  exact (t_9 (1 : Int32) s2 _ h hG)
abbrev rm_om_Mo_better : Room := { frames := 2, cells := 0, slots := 0, locals := 44 }
set_option maxRecDepth 100000 in
set_option maxHeartbeats 4000000 in
theorem ct_om_Mo_better {l : Launch} {D : va_G} {ad : Nat → Nat} {cI cC cZ : ClassId} {A : Nat → Prop} (hok : ox_ok (om_W D ad cI cC cZ A))  (σ : ox_S) (t : (Int32 × ox_S)) (h : om_Mo_better  σ = some t) : Met l oy_Mo_better (Cond.code oy_Mo_better prog_11_method_52_code 5 (some .boolean) :: ox_ws) rm_om_Mo_better (ox_P (om_W D ad cI cC cZ A) [.ref (ad 0)] σ) (ox_Q (om_W D ad cI cC cZ A) (some (.int t.1)) t.2) 0 0 A := by
  refine ox_met (ω := om_W D ad cI cC cZ A) (by decide) rfl hok (Nat.le_of_ble_eq_true rfl) ?_
  intro p e s m args below meth c B F
  generalize hres : (some (.int t.1) : Option Value) = res
  generalize hσf : t.2 = σf
  have hG : (fun t : (Int32 × ox_S) => res = some (.int t.1) ∧ σf = t.2) t := ⟨hres.symm, hσf.symm⟩
  have t_b19 : ∀ (x1 : Int32) (x2 : Int32) (x3 : Int32) (σ : ox_S) (t : ((Int32 × ox_S) ⊕ ((Int32 × ox_S) ⊕ (Int32 × ox_S)))), om_Mo_better_b19 x1 x2 x3 σ = some t → (ox_G (fun t : (Int32 × ox_S) => ox_M p l e rm_om_Mo_better s m args below meth c (om_W D ad cI cC cZ A) 5 res σf 19 [some (.ref (ad 0)), some (.int x1), some (.int x2), some (.int t.1), none] [] t.2) (ox_G (fun t : (Int32 × ox_S) => ox_M p l e rm_om_Mo_better s m args below meth c (om_W D ad cI cC cZ A) 5 res σf 7 [some (.ref (ad 0)), some (.int x1), some (.int t.1), none, none] [] t.2) (fun t : (Int32 × ox_S) => res = some (.int t.1) ∧ σf = t.2))) t → ox_M p l e rm_om_Mo_better s m args below meth c (om_W D ad cI cC cZ A) 5 res σf 19 [some (.ref (ad 0)), some (.int x1), some (.int x2), some (.int x3), none] [] σ := by
    intro x1 x2 x3 σ t h hG
    unfold om_Mo_better_b19 at h
    refine ox_iload_n B 3 od_Mo_better_19 rfl rfl ?_
    refine ox_aload_n B 0 od_Mo_better_20 rfl rfl ?_
    refine omg_Mo_187 B F od_Mo_better_21 ?_
    refine ox_icmp_ge B 59 od_Mo_better_24 rfl (fun hc => ?_) (fun hc => ?_)
    · rw [if_pos hc] at h
      obtain ⟨v3, ev3, h⟩ := ox_let_some h
      refine ox_iinc B od_Mo_better_59 rfl ((congrArg (x2 + ·) oxk_i1).trans ev3.symm) (by decide) rfl (L2 := [some (.ref (ad 0)), some (.int x1), some (.int v3), some (.int x3), none]) rfl ?_
      refine ox_goto B 7 od_Mo_better_62 rfl ?_
      cases h
      exact (ox_mask [true, true, true, false, false] hG)
    · rw [if_neg hc] at h
      refine ox_aload_n B 0 od_Mo_better_27 rfl rfl ?_
      refine ox_iload_n B 2 od_Mo_better_28 rfl rfl ?_
      refine ox_iload_n B 3 od_Mo_better_29 rfl rfl ?_
      obtain ⟨s4, hs4, h⟩ := ox_bind h
      refine omc_Mo_241 B F od_Mo_better_30 (As := [.int x2, .int x3]) (rest := []) (st2 := []) (ct_om_Mo_turn hok x2 x3 σ _ hs4) ⟨rfl, rfl, Nat.le_of_ble_eq_true rfl, Nat.le_of_ble_eq_true rfl⟩ rfl (Nat.le_of_ble_eq_true rfl) rfl rfl ?_
      refine ox_aload_n B 0 od_Mo_better_33 rfl rfl ?_
      obtain ⟨r5, hr5, h⟩ := ox_bind h
      refine omc_Mo_257 B F od_Mo_better_34 (As := []) (rest := []) (st2 := [.int r5]) (ct_om_Mo_length hok s4 _ hr5) ⟨rfl, rfl, Nat.le_of_ble_eq_true rfl, Nat.le_of_ble_eq_true rfl⟩ rfl (Nat.le_of_ble_eq_true rfl) rfl rfl ?_
      refine ox_istore B od_Mo_better_37 (by decide) rfl (L2 := [some (.ref (ad 0)), some (.int x1), some (.int x2), some (.int x3), some (.int r5)]) rfl ?_
      refine ox_iload B od_Mo_better_39 rfl ?_
      refine ox_iload_n B 1 od_Mo_better_41 rfl rfl ?_
      refine ox_icmp_ge B 47 od_Mo_better_42 rfl (fun hc => ?_) (fun hc => ?_)
      · rw [if_pos hc] at h
        refine ox_aload_n B 0 od_Mo_better_47 rfl rfl ?_
        refine ox_iload_n B 2 od_Mo_better_48 rfl rfl ?_
        refine ox_iload_n B 3 od_Mo_better_49 rfl rfl ?_
        obtain ⟨s6, hs6, h⟩ := ox_bind h
        refine omc_Mo_241 B F od_Mo_better_50 (As := [.int x2, .int x3]) (rest := []) (st2 := []) (ct_om_Mo_turn hok x2 x3 s4 _ hs6) ⟨rfl, rfl, Nat.le_of_ble_eq_true rfl, Nat.le_of_ble_eq_true rfl⟩ rfl (Nat.le_of_ble_eq_true rfl) rfl rfl ?_
        obtain ⟨v7, ev7, h⟩ := ox_let_some h
        refine ox_iinc B od_Mo_better_53 rfl ((congrArg (x3 + ·) oxk_i1).trans ev7.symm) (by decide) rfl (L2 := [some (.ref (ad 0)), some (.int x1), some (.int x2), some (.int v7), some (.int r5)]) rfl ?_
        refine ox_goto B 19 od_Mo_better_56 rfl ?_
        cases h
        exact (ox_mask [true, true, true, true, false] hG)
      · rw [if_neg hc] at h
        refine ox_iconst B od_Mo_better_45 oxk_i1 ?_
        cases h
        exact ox_iret B F od_Mo_better_46 rfl (ox_nz (Or.inr rfl)) hG
  have t_19 : ∀ (x1 : Int32) (x2 : Int32) (x3 : Int32) (σ : ox_S) (t : ((Int32 × ox_S) ⊕ (Int32 × ox_S))), om_Mo_better_h19 x1 x2 x3 σ = some t → (ox_G (fun t : (Int32 × ox_S) => ox_M p l e rm_om_Mo_better s m args below meth c (om_W D ad cI cC cZ A) 5 res σf 7 [some (.ref (ad 0)), some (.int x1), some (.int t.1), none, none] [] t.2) (fun t : (Int32 × ox_S) => res = some (.int t.1) ∧ σf = t.2)) t → ox_M p l e rm_om_Mo_better s m args below meth c (om_W D ad cI cC cZ A) 5 res σf 19 [some (.ref (ad 0)), some (.int x1), some (.int x2), some (.int x3), none] [] σ := by
    intro x1 x2 x3 σ t h hG
    exact ox_w_run (fun t : (Int32 × ox_S) => ox_M p l e rm_om_Mo_better s m args below meth c (om_W D ad cI cC cZ A) 5 res σf 19 [some (.ref (ad 0)), some (.int x1), some (.int x2), some (.int t.1), none] [] t.2) (ox_G (fun t : (Int32 × ox_S) => ox_M p l e rm_om_Mo_better s m args below meth c (om_W D ad cI cC cZ A) 5 res σf 7 [some (.ref (ad 0)), some (.int x1), some (.int t.1), none, none] [] t.2) (fun t : (Int32 × ox_S) => res = some (.int t.1) ∧ σf = t.2)) (fun a t h hG => t_b19 x1 x2 a.1 a.2 t h hG) (x3, σ) t h hG
  have t_b7 : ∀ (x1 : Int32) (x2 : Int32) (σ : ox_S) (t : ((Int32 × ox_S) ⊕ (Int32 × ox_S))), om_Mo_better_b7 x1 x2 σ = some t → (ox_G (fun t : (Int32 × ox_S) => ox_M p l e rm_om_Mo_better s m args below meth c (om_W D ad cI cC cZ A) 5 res σf 7 [some (.ref (ad 0)), some (.int x1), some (.int t.1), none, none] [] t.2) (fun t : (Int32 × ox_S) => res = some (.int t.1) ∧ σf = t.2)) t → ox_M p l e rm_om_Mo_better s m args below meth c (om_W D ad cI cC cZ A) 5 res σf 7 [some (.ref (ad 0)), some (.int x1), some (.int x2), none, none] [] σ := by
    intro x1 x2 σ t h hG
    unfold om_Mo_better_b7 at h
    refine ox_iload_n B 2 od_Mo_better_7 rfl rfl ?_
    refine ox_aload_n B 0 od_Mo_better_8 rfl rfl ?_
    refine omg_Mo_187 B F od_Mo_better_9 ?_
    refine ox_icmp_ge B 65 od_Mo_better_12 rfl (fun hc => ?_) (fun hc => ?_)
    · rw [if_pos hc] at h
      refine ox_iconst B od_Mo_better_65 oxk_i0 ?_
      cases h
      exact ox_iret B F od_Mo_better_66 rfl (ox_nz (Or.inl rfl)) hG
    · rw [if_neg hc] at h
      refine ox_iload_n B 2 od_Mo_better_15 rfl rfl ?_
      refine ox_iconst B od_Mo_better_16 oxk_i1 ?_
      refine ox_iadd B od_Mo_better_17 ?_
      obtain ⟨v2, ev2, h⟩ := ox_let_some h
      refine ox_topi ev2 ?_
      refine ox_istore_n B 3 od_Mo_better_18 rfl (by decide) rfl (L2 := [some (.ref (ad 0)), some (.int x1), some (.int x2), some (.int v2), none]) rfl ?_
      exact (t_19 x1 x2 v2 σ _ h hG)
  have t_7 : ∀ (x1 : Int32) (x2 : Int32) (σ : ox_S) (t : (Int32 × ox_S)), om_Mo_better_h7 x1 x2 σ = some t → (fun t : (Int32 × ox_S) => res = some (.int t.1) ∧ σf = t.2) t → ox_M p l e rm_om_Mo_better s m args below meth c (om_W D ad cI cC cZ A) 5 res σf 7 [some (.ref (ad 0)), some (.int x1), some (.int x2), none, none] [] σ := by
    intro x1 x2 σ t h hG
    exact ox_w_run (fun t : (Int32 × ox_S) => ox_M p l e rm_om_Mo_better s m args below meth c (om_W D ad cI cC cZ A) 5 res σf 7 [some (.ref (ad 0)), some (.int x1), some (.int t.1), none, none] [] t.2) (fun t : (Int32 × ox_S) => res = some (.int t.1) ∧ σf = t.2) (fun a t h hG => t_b7 x1 a.1 a.2 t h hG) (x2, σ) t h hG
  change ox_M p l e rm_om_Mo_better s m args below meth c (om_W D ad cI cC cZ A) 5 res σf 0 [some (.ref (ad 0)), none, none, none, none] [] σ
  unfold om_Mo_better at h
  refine ox_aload_n B 0 od_Mo_better_0 rfl rfl ?_
  obtain ⟨r1, hr1, h⟩ := ox_bind h
  refine omc_Mo_257 B F od_Mo_better_1 (As := []) (rest := []) (st2 := [.int r1]) (ct_om_Mo_length hok σ _ hr1) ⟨rfl, rfl, Nat.le_of_ble_eq_true rfl, Nat.le_of_ble_eq_true rfl⟩ rfl (Nat.le_of_ble_eq_true rfl) rfl rfl ?_
  refine ox_istore_n B 1 od_Mo_better_4 rfl (by decide) rfl (L2 := [some (.ref (ad 0)), some (.int r1), none, none, none]) rfl ?_
  refine ox_iconst B od_Mo_better_5 oxk_i1 ?_
  refine ox_istore_n B 2 od_Mo_better_6 rfl (by decide) rfl (L2 := [some (.ref (ad 0)), some (.int r1), some (.int (1 : Int32)), none, none]) rfl ?_
  exact (t_7 r1 (1 : Int32) σ _ h hG)
abbrev rm_om_Mo_improve : Room := { frames := 3, cells := 0, slots := 0, locals := 68 }
set_option maxRecDepth 100000 in
set_option maxHeartbeats 4000000 in
theorem ct_om_Mo_improve {l : Launch} {D : va_G} {ad : Nat → Nat} {cI cC cZ : ClassId} {A : Nat → Prop} (hok : ox_ok (om_W D ad cI cC cZ A))  (σ : ox_S) (t : (Int32 × ox_S)) (h : om_Mo_improve  σ = some t) : Met l oy_Mo_improve (Cond.code oy_Mo_improve prog_11_method_53_code 2 (some .int) :: ox_ws) rm_om_Mo_improve (ox_P (om_W D ad cI cC cZ A) [.ref (ad 0)] σ) (ox_Q (om_W D ad cI cC cZ A) (some (.int t.1)) t.2) 0 0 A := by
  refine ox_met (ω := om_W D ad cI cC cZ A) (by decide) rfl hok (Nat.le_of_ble_eq_true rfl) ?_
  intro p e s m args below meth c B F
  generalize hres : (some (.int t.1) : Option Value) = res
  generalize hσf : t.2 = σf
  have hG : (fun t : (Int32 × ox_S) => res = some (.int t.1) ∧ σf = t.2) t := ⟨hres.symm, hσf.symm⟩
  have t_b16 : ∀ (x1 : Int32) (σ : ox_S) (t : ((Int32 × ox_S) ⊕ (Int32 × ox_S))), om_Mo_improve_b16 x1 σ = some t → (ox_G (fun t : (Int32 × ox_S) => ox_M p l e rm_om_Mo_improve s m args below meth c (om_W D ad cI cC cZ A) 2 res σf 16 [some (.ref (ad 0)), some (.int t.1)] [] t.2) (fun t : (Int32 × ox_S) => res = some (.int t.1) ∧ σf = t.2)) t → ox_M p l e rm_om_Mo_improve s m args below meth c (om_W D ad cI cC cZ A) 2 res σf 16 [some (.ref (ad 0)), some (.int x1)] [] σ := by
    intro x1 σ t h hG
    unfold om_Mo_improve_b16 at h
    refine ox_iload_n B 1 od_Mo_improve_16 rfl rfl ?_
    refine ox_if_eq B 28 od_Mo_improve_17 rfl (fun hc => ?_) (fun hc => ?_)
    · rw [if_pos hc] at h
      refine ox_aload_n B 0 od_Mo_improve_28 rfl rfl ?_
      refine omg_Mo_51 B F od_Mo_improve_29 ?_
      refine ox_iconst B od_Mo_improve_32 oxk_i1 ?_
      obtain ⟨j2, ej2, hj2, h⟩ := ox_ix_some2 h
      refine omal_13 B F od_Mo_improve_33 hj2 ej2 ?_
      refine ox_aload_n B 0 od_Mo_improve_34 rfl rfl ?_
      refine omg_Mo_51 B F od_Mo_improve_35 ?_
      refine ox_aload_n B 0 od_Mo_improve_38 rfl rfl ?_
      refine omg_Mo_187 B F od_Mo_improve_39 ?_
      refine ox_iconst B od_Mo_improve_42 oxk_i1 ?_
      refine ox_isub B od_Mo_improve_43 ?_
      obtain ⟨j3, ej3, hj3, h⟩ := ox_ix_some2 h
      refine omal_13 B F od_Mo_improve_44 hj3 ej3 ?_
      refine ox_icmp_le B 59 od_Mo_improve_45 rfl (fun hc => ?_) (fun hc => ?_)
      · rw [if_pos hc] at h
        refine ox_aload_n B 0 od_Mo_improve_59 rfl rfl ?_
        obtain ⟨s4, hs4, h⟩ := ox_bind h
        refine omc_Mo_260 B F od_Mo_improve_60 (As := []) (rest := []) (st2 := []) (ct_om_Mo_keep hok σ _ hs4) ⟨rfl, rfl, Nat.le_of_ble_eq_true rfl, Nat.le_of_ble_eq_true rfl⟩ rfl (Nat.le_of_ble_eq_true rfl) rfl rfl ?_
        refine ox_aload_n B 0 od_Mo_improve_63 rfl rfl ?_
        obtain ⟨r5, hr5, h⟩ := ox_bind h
        refine omc_Mo_257 B F od_Mo_improve_64 (As := []) (rest := []) (st2 := [.int r5]) (ct_om_Mo_length hok s4 _ hr5) ⟨rfl, rfl, Nat.le_of_ble_eq_true rfl, Nat.le_of_ble_eq_true rfl⟩ rfl (Nat.le_of_ble_eq_true rfl) rfl rfl ?_
        cases h
        exact ox_iret B F od_Mo_improve_67 rfl rfl hG
      · rw [if_neg hc] at h
        refine ox_aload_n B 0 od_Mo_improve_48 rfl rfl ?_
        refine ox_iconst B od_Mo_improve_49 oxk_i1 ?_
        refine ox_aload_n B 0 od_Mo_improve_50 rfl rfl ?_
        refine omg_Mo_187 B F od_Mo_improve_51 ?_
        refine ox_iconst B od_Mo_improve_54 oxk_i1 ?_
        refine ox_isub B od_Mo_improve_55 ?_
        obtain ⟨s6, hs6, h⟩ := ox_bind h
        refine omc_Mo_241 B F od_Mo_improve_56 (As := [.int (1 : Int32), .int ((σ.1 1) - (1 : Int32))]) (rest := []) (st2 := []) (ct_om_Mo_turn hok (1 : Int32) ((σ.1 1) - (1 : Int32)) σ _ hs6) ⟨rfl, rfl, Nat.le_of_ble_eq_true rfl, Nat.le_of_ble_eq_true rfl⟩ rfl (Nat.le_of_ble_eq_true rfl) rfl rfl ?_
        refine ox_aload_n B 0 od_Mo_improve_59 rfl rfl ?_
        obtain ⟨s7, hs7, h⟩ := ox_bind h
        refine omc_Mo_260 B F od_Mo_improve_60 (As := []) (rest := []) (st2 := []) (ct_om_Mo_keep hok s6 _ hs7) ⟨rfl, rfl, Nat.le_of_ble_eq_true rfl, Nat.le_of_ble_eq_true rfl⟩ rfl (Nat.le_of_ble_eq_true rfl) rfl rfl ?_
        refine ox_aload_n B 0 od_Mo_improve_63 rfl rfl ?_
        obtain ⟨r8, hr8, h⟩ := ox_bind h
        refine omc_Mo_257 B F od_Mo_improve_64 (As := []) (rest := []) (st2 := [.int r8]) (ct_om_Mo_length hok s7 _ hr8) ⟨rfl, rfl, Nat.le_of_ble_eq_true rfl, Nat.le_of_ble_eq_true rfl⟩ rfl (Nat.le_of_ble_eq_true rfl) rfl rfl ?_
        cases h
        exact ox_iret B F od_Mo_improve_67 rfl rfl hG
    · rw [if_neg hc] at h
      refine ox_aload_n B 0 od_Mo_improve_20 rfl rfl ?_
      obtain ⟨r9, s10, hr9, h⟩ := ox_b2_some h
      refine omc_Mo_269 B F od_Mo_improve_21 (As := []) (rest := []) (st2 := [.int r9]) (ct_om_Mo_better hok σ _ hr9) ⟨rfl, rfl, Nat.le_of_ble_eq_true rfl, Nat.le_of_ble_eq_true rfl⟩ rfl (Nat.le_of_ble_eq_true rfl) rfl rfl ?_
      refine ox_istore_n B 1 od_Mo_improve_24 rfl (by decide) rfl (L2 := [some (.ref (ad 0)), some (.int r9)]) rfl ?_
      refine ox_goto B 16 od_Mo_improve_25 rfl ?_
      cases h
      exact hG
  have t_16 : ∀ (x1 : Int32) (σ : ox_S) (t : (Int32 × ox_S)), om_Mo_improve_h16 x1 σ = some t → (fun t : (Int32 × ox_S) => res = some (.int t.1) ∧ σf = t.2) t → ox_M p l e rm_om_Mo_improve s m args below meth c (om_W D ad cI cC cZ A) 2 res σf 16 [some (.ref (ad 0)), some (.int x1)] [] σ := by
    intro x1 σ t h hG
    exact ox_w_run (fun t : (Int32 × ox_S) => ox_M p l e rm_om_Mo_improve s m args below meth c (om_W D ad cI cC cZ A) 2 res σf 16 [some (.ref (ad 0)), some (.int t.1)] [] t.2) (fun t : (Int32 × ox_S) => res = some (.int t.1) ∧ σf = t.2) (fun a t h hG => t_b16 a.1 a.2 t h hG) (x1, σ) t h hG
  change ox_M p l e rm_om_Mo_improve s m args below meth c (om_W D ad cI cC cZ A) 2 res σf 0 [some (.ref (ad 0)), none] [] σ
  unfold om_Mo_improve at h
  refine ox_aload_n B 0 od_Mo_improve_0 rfl rfl ?_
  refine omg_Mo_187 B F od_Mo_improve_1 ?_
  refine ox_if_ne B 10 od_Mo_improve_4 rfl (fun hc => ?_) (fun hc => ?_)
  · rw [if_neg hc] at h
    refine ox_aload_n B 0 od_Mo_improve_10 rfl rfl ?_
    obtain ⟨s1, hs1, h⟩ := ox_bind h
    refine omc_Mo_266 B F od_Mo_improve_11 (As := []) (rest := []) (st2 := []) (ct_om_Mo_nearest hok σ _ hs1) ⟨rfl, rfl, Nat.le_of_ble_eq_true rfl, Nat.le_of_ble_eq_true rfl⟩ rfl (Nat.le_of_ble_eq_true rfl) rfl rfl ?_
    refine ox_iconst B od_Mo_improve_14 oxk_i1 ?_
    refine ox_istore_n B 1 od_Mo_improve_15 rfl (by decide) rfl (L2 := [some (.ref (ad 0)), some (.int (1 : Int32))]) rfl ?_
    exact (t_16 (1 : Int32) s1 _ h hG)
  · rw [if_pos hc] at h
    refine ox_ldc B od_Mo_improve_7 omk_Mo_231 ?_
    cases h
    exact ox_iret B F od_Mo_improve_9 rfl rfl hG
abbrev rm_om_Mo_tour : Room := { frames := 0, cells := 0, slots := 0, locals := 0 }
set_option maxRecDepth 100000 in
set_option maxHeartbeats 4000000 in
theorem ct_om_Mo_tour {l : Launch} {D : va_G} {ad : Nat → Nat} {cI cC cZ : ClassId} {A : Nat → Prop} (hok : ox_ok (om_W D ad cI cC cZ A)) (x1 : Int32) (σ : ox_S) (t : Int32) (h : om_Mo_tour x1 σ = some t) : Met l oy_Mo_tour (Cond.code oy_Mo_tour prog_11_method_54_code 2 (some .int) :: ox_ws) rm_om_Mo_tour (ox_P (om_W D ad cI cC cZ A) [.ref (ad 0), .int x1] σ) (ox_Q (om_W D ad cI cC cZ A) (some (.int t)) σ) 0 0 A := by
  refine ox_met (ω := om_W D ad cI cC cZ A) (by decide) rfl hok (Nat.le_of_ble_eq_true rfl) ?_
  intro p e s m args below meth c B F
  generalize hres : (some (.int t) : Option Value) = res
  have hG : (fun t : Int32 => res = some (.int t) ∧ σ = σ) t := ⟨hres.symm, rfl⟩
  change ox_M p l e rm_om_Mo_tour s m args below meth c (om_W D ad cI cC cZ A) 2 res σ 0 [some (.ref (ad 0)), some (.int x1)] [] σ
  unfold om_Mo_tour at h
  refine ox_aload_n B 0 od_Mo_tour_0 rfl rfl ?_
  refine omg_Mo_193 B F od_Mo_tour_1 ?_
  refine ox_if_eq B 28 od_Mo_tour_4 rfl (fun hc => ?_) (fun hc => ?_)
  · rw [if_pos hc] at h
    refine ox_iconst B od_Mo_tour_28 oxk_im1 ?_
    cases h
    exact ox_iret B F od_Mo_tour_29 rfl rfl hG
  · rw [if_neg hc] at h
    refine ox_iload_n B 1 od_Mo_tour_7 rfl rfl ?_
    refine ox_if_lt B 28 od_Mo_tour_8 rfl (fun hc => ?_) (fun hc => ?_)
    · rw [if_pos hc] at h
      refine ox_iconst B od_Mo_tour_28 oxk_im1 ?_
      cases h
      exact ox_iret B F od_Mo_tour_29 rfl rfl hG
    · rw [if_neg hc] at h
      refine ox_iload_n B 1 od_Mo_tour_11 rfl rfl ?_
      refine ox_aload_n B 0 od_Mo_tour_12 rfl rfl ?_
      refine omg_Mo_187 B F od_Mo_tour_13 ?_
      refine ox_icmp_ge B 28 od_Mo_tour_16 rfl (fun hc => ?_) (fun hc => ?_)
      · rw [if_pos hc] at h
        refine ox_iconst B od_Mo_tour_28 oxk_im1 ?_
        cases h
        exact ox_iret B F od_Mo_tour_29 rfl rfl hG
      · rw [if_neg hc] at h
        refine ox_aload_n B 0 od_Mo_tour_19 rfl rfl ?_
        refine omg_Mo_23 B F od_Mo_tour_20 ?_
        refine ox_iload_n B 1 od_Mo_tour_23 rfl rfl ?_
        obtain ⟨j1, ej1, hj1, h⟩ := ox_ix_some2 h
        refine omal_4 B F od_Mo_tour_24 hj1 ej1 ?_
        refine ox_goto B 29 od_Mo_tour_25 rfl ?_
        cases h
        exact ox_iret B F od_Mo_tour_29 rfl rfl hG
abbrev rm_om_Mo_add : Room := { frames := 0, cells := 0, slots := 0, locals := 0 }
set_option maxRecDepth 100000 in
set_option maxHeartbeats 4000000 in
theorem ct_om_Mo_add {l : Launch} {D : va_G} {ad : Nat → Nat} {cI cC cZ : ClassId} {A : Nat → Prop} (hok : ox_ok (om_W D ad cI cC cZ A)) (x1 : Int32) (x2 : Int32) (σ : ox_S) (t : (Int32 × ox_S)) (h : om_Mo_add x1 x2 σ = some t) : Met l oy_Mo_add (Cond.code oy_Mo_add prog_11_method_56_code 4 (some .int) :: ox_ws) rm_om_Mo_add (ox_P (om_W D ad cI cC cZ A) [.ref (ad 0), .int x1, .int x2] σ) (ox_Q (om_W D ad cI cC cZ A) (some (.int t.1)) t.2) 0 0 A := by
  refine ox_met (ω := om_W D ad cI cC cZ A) (by decide) rfl hok (Nat.le_of_ble_eq_true rfl) ?_
  intro p e s m args below meth c B F
  generalize hres : (some (.int t.1) : Option Value) = res
  generalize hσf : t.2 = σf
  have hG : (fun t : (Int32 × ox_S) => res = some (.int t.1) ∧ σf = t.2) t := ⟨hres.symm, hσf.symm⟩
  change ox_M p l e rm_om_Mo_add s m args below meth c (om_W D ad cI cC cZ A) 4 res σf 0 [some (.ref (ad 0)), some (.int x1), some (.int x2), none] [] σ
  unfold om_Mo_add at h
  refine ox_aload_n B 0 od_Mo_add_0 rfl rfl ?_
  refine omg_Mo_187 B F od_Mo_add_1 ?_
  refine ox_aload_n B 0 od_Mo_add_4 rfl rfl ?_
  refine omg_Mo_187 B F od_Mo_add_5 ?_
  refine ox_iconst B od_Mo_add_8 oxk_i1 ?_
  refine ox_isub B od_Mo_add_9 ?_
  refine ox_imul B od_Mo_add_10 ?_
  refine ox_iconst B od_Mo_add_11 oxk_i2 ?_
  refine ox_idiv B od_Mo_add_12 (by decide) ?_
  obtain ⟨v1, ev1, h⟩ := ox_let_some h
  refine ox_topi ev1 ?_
  refine ox_istore_n B 3 od_Mo_add_13 rfl (by decide) rfl (L2 := [some (.ref (ad 0)), some (.int x1), some (.int x2), some (.int v1)]) rfl ?_
  refine ox_aload_n B 0 od_Mo_add_14 rfl rfl ?_
  refine omg_Mo_187 B F od_Mo_add_15 ?_
  refine ox_if_eq B 39 od_Mo_add_18 rfl (fun hc => ?_) (fun hc => ?_)
  · rw [if_pos hc] at h
    refine ox_iconst B od_Mo_add_39 oxk_im1 ?_
    cases h
    exact ox_iret B F od_Mo_add_40 rfl rfl hG
  · rw [if_neg hc] at h
    refine ox_iload_n B 1 od_Mo_add_21 rfl rfl ?_
    refine ox_iload_n B 3 od_Mo_add_22 rfl rfl ?_
    refine ox_ishr B od_Mo_add_23 ?_
    refine ox_if_ne B 39 od_Mo_add_24 rfl (fun hc => ?_) (fun hc => ?_)
    · rw [if_neg hc] at h
      refine ox_iconst B od_Mo_add_39 oxk_im1 ?_
      cases h
      exact ox_iret B F od_Mo_add_40 rfl rfl hG
    · rw [if_pos hc] at h
      refine ox_iload_n B 2 od_Mo_add_27 rfl rfl ?_
      refine ox_iload_n B 3 od_Mo_add_28 rfl rfl ?_
      refine ox_ishr B od_Mo_add_29 ?_
      refine ox_if_ne B 39 od_Mo_add_30 rfl (fun hc => ?_) (fun hc => ?_)
      · rw [if_neg hc] at h
        refine ox_iconst B od_Mo_add_39 oxk_im1 ?_
        cases h
        exact ox_iret B F od_Mo_add_40 rfl rfl hG
      · rw [if_pos hc] at h
        refine ox_iload_n B 1 od_Mo_add_33 rfl rfl ?_
        refine ox_iload_n B 2 od_Mo_add_34 rfl rfl ?_
        refine ox_iand B od_Mo_add_35 ?_
        refine ox_if_eq B 41 od_Mo_add_36 rfl (fun hc => ?_) (fun hc => ?_)
        · rw [if_pos hc] at h
          refine ox_aload_n B 0 od_Mo_add_41 rfl rfl ?_
          refine omg_Mo_196 B F od_Mo_add_42 ?_
          refine ox_bipush B od_Mo_add_45 oxk_b10 ?_
          refine ox_icmp_ne B 53 od_Mo_add_47 rfl (fun hc => ?_) (fun hc => ?_)
          · rw [if_neg hc] at h
            refine ox_aload_n B 0 od_Mo_add_53 rfl rfl ?_
            refine omg_Mo_26 B F od_Mo_add_54 ?_
            refine ox_aload_n B 0 od_Mo_add_57 rfl rfl ?_
            refine omg_Mo_196 B F od_Mo_add_58 ?_
            refine ox_iload_n B 1 od_Mo_add_61 rfl rfl ?_
            obtain ⟨j2, ej2, hj2, h⟩ := ox_ix_some2 h
            obtain ⟨s3, es3, h⟩ := ox_let_some h
            refine omas_5 B F od_Mo_add_62 hj2 ej2 es3 ?_
            refine ox_aload_n B 0 od_Mo_add_63 rfl rfl ?_
            refine omg_Mo_29 B F od_Mo_add_64 ?_
            refine ox_aload_n B 0 od_Mo_add_67 rfl rfl ?_
            refine omg_Mo_196 B F od_Mo_add_68 ?_
            refine ox_iload_n B 2 od_Mo_add_71 rfl rfl ?_
            obtain ⟨j4, ej4, hj4, h⟩ := ox_ix_some2 h
            obtain ⟨s5, es5, h⟩ := ox_let_some h
            refine omas_6 B F od_Mo_add_72 hj4 ej4 es5 ?_
            refine ox_aload_n B 0 od_Mo_add_73 rfl rfl ?_
            refine ox_dup B od_Mo_add_74 rfl ?_
            refine omg_Mo_196 B F od_Mo_add_75 ?_
            refine ox_iconst B od_Mo_add_78 oxk_i1 ?_
            refine ox_iadd B od_Mo_add_79 ?_
            obtain ⟨s6, es6, h⟩ := ox_let_some h
            refine omp_Mo_196 B F od_Mo_add_80 es6 ?_
            refine ox_aload_n B 0 od_Mo_add_83 rfl rfl ?_
            refine omg_Mo_196 B F od_Mo_add_84 ?_
            cases h
            exact ox_iret B F od_Mo_add_87 rfl rfl hG
          · rw [if_pos hc] at h
            refine ox_ldc B od_Mo_add_50 omk_Mo_231 ?_
            cases h
            exact ox_iret B F od_Mo_add_52 rfl rfl hG
        · rw [if_neg hc] at h
          refine ox_iconst B od_Mo_add_39 oxk_im1 ?_
          cases h
          exact ox_iret B F od_Mo_add_40 rfl rfl hG
abbrev rm_om_Mo_drop : Room := { frames := 0, cells := 0, slots := 0, locals := 0 }
set_option maxRecDepth 100000 in
set_option maxHeartbeats 4000000 in
theorem ct_om_Mo_drop {l : Launch} {D : va_G} {ad : Nat → Nat} {cI cC cZ : ClassId} {A : Nat → Prop} (hok : ox_ok (om_W D ad cI cC cZ A))  (σ : ox_S) (t : ox_S) (h : om_Mo_drop  σ = some t) : Met l oy_Mo_drop (Cond.code oy_Mo_drop prog_11_method_57_code 1 none :: ox_ws) rm_om_Mo_drop (ox_P (om_W D ad cI cC cZ A) [.ref (ad 0)] σ) (ox_Q (om_W D ad cI cC cZ A) none t) 0 0 A := by
  refine ox_met (ω := om_W D ad cI cC cZ A) (by decide) rfl hok (Nat.le_of_ble_eq_true rfl) ?_
  intro p e s m args below meth c B F
  generalize hres : (none : Option Value) = res
  have hG : res = none ∧ t = t := ⟨hres.symm, rfl⟩
  obtain ⟨σf, hσf⟩ : ∃ z, z = t := ⟨_, rfl⟩
  have hG : (fun t : ox_S => res = none ∧ σf = t) t := ⟨hres.symm, hσf⟩
  rw [show ox_M p l e rm_om_Mo_drop s m args below meth c (om_W D ad cI cC cZ A) 1 res t 0 (ox_l0 [.ref (ad 0)] 1) [] σ = ox_M p l e rm_om_Mo_drop s m args below meth c (om_W D ad cI cC cZ A) 1 res σf 0 (ox_l0 [.ref (ad 0)] 1) [] σ by rw [hσf]]
  change ox_M p l e rm_om_Mo_drop s m args below meth c (om_W D ad cI cC cZ A) 1 res σf 0 [some (.ref (ad 0))] [] σ
  unfold om_Mo_drop at h
  refine ox_aload_n B 0 od_Mo_drop_0 rfl rfl ?_
  refine ox_iconst B od_Mo_drop_1 oxk_i0 ?_
  obtain ⟨s1, es1, h⟩ := ox_let_some h
  refine omp_Mo_196 B F od_Mo_drop_2 es1 ?_
  cases h
  exact ox_vret B F od_Mo_drop_5 rfl hG
abbrev rm_om_Mo_bit : Room := { frames := 0, cells := 0, slots := 0, locals := 0 }
set_option maxRecDepth 100000 in
set_option maxHeartbeats 4000000 in
theorem ct_om_Mo_bit {l : Launch} {D : va_G} {ad : Nat → Nat} {cI cC cZ : ClassId} {A : Nat → Prop} (hok : ox_ok (om_W D ad cI cC cZ A)) (x0 : Int32) (x1 : Int32) (σ : ox_S) (t : Int32) (h : om_Mo_bit x0 x1 σ = some t) : Met l oy_Mo_bit (Cond.code oy_Mo_bit prog_11_method_55_code 2 (some .int) :: ox_ws) rm_om_Mo_bit (ox_P (om_W D ad cI cC cZ A) [.int x0, .int x1] σ) (ox_Q (om_W D ad cI cC cZ A) (some (.int t)) σ) 0 0 A := by
  refine ox_met (ω := om_W D ad cI cC cZ A) (by decide) rfl hok (Nat.le_of_ble_eq_true rfl) ?_
  intro p e s m args below meth c B F
  generalize hres : (some (.int t) : Option Value) = res
  have hG : (fun t : Int32 => res = some (.int t) ∧ σ = σ) t := ⟨hres.symm, rfl⟩
  change ox_M p l e rm_om_Mo_bit s m args below meth c (om_W D ad cI cC cZ A) 2 res σ 0 [some (.int x0), some (.int x1)] [] σ
  unfold om_Mo_bit at h
  refine ox_iload_n B 0 od_Mo_bit_0 rfl rfl ?_
  refine ox_iload_n B 1 od_Mo_bit_1 rfl rfl ?_
  refine ox_ishr B od_Mo_bit_2 ?_
  refine ox_iconst B od_Mo_bit_3 oxk_i1 ?_
  refine ox_iand B od_Mo_bit_4 ?_
  cases h
  exact ox_iret B F od_Mo_bit_5 rfl rfl hG
abbrev rm_om_Mo_inCase : Room := { frames := 2, cells := 0, slots := 0, locals := 46 }
set_option maxRecDepth 100000 in
set_option maxHeartbeats 4000000 in
theorem ct_om_Mo_inCase {l : Launch} {D : va_G} {ad : Nat → Nat} {cI cC cZ : ClassId} {A : Nat → Prop} (hok : ox_ok (om_W D ad cI cC cZ A)) (x1 : Int32) (σ : ox_S) (t : Int32) (h : om_Mo_inCase x1 σ = some t) : Met l oy_Mo_inCase (Cond.code oy_Mo_inCase prog_11_method_58_code 7 (some .boolean) :: ox_ws) rm_om_Mo_inCase (ox_P (om_W D ad cI cC cZ A) [.ref (ad 0), .int x1] σ) (ox_Q (om_W D ad cI cC cZ A) (some (.int t)) σ) 0 0 A := by
  refine ox_met (ω := om_W D ad cI cC cZ A) (by decide) rfl hok (Nat.le_of_ble_eq_true rfl) ?_
  intro p e s m args below meth c B F
  generalize hres : (some (.int t) : Option Value) = res
  have hG : (fun t : Int32 => res = some (.int t) ∧ σ = σ) t := ⟨hres.symm, rfl⟩
  have t_63 : ∀ (x1 : Int32) (x3 : Int32) (x4 : Int32) (x5 : Int32) (x6 : Int32)  (t : ((Int32 × Int32 × Int32) ⊕ ((Int32 × Int32 × Int32) ⊕ Int32))), om_Mo_inCase_j63 x1 x3 x4 x5 x6 σ = some t → (ox_G (fun t : (Int32 × Int32 × Int32) => ox_M p l e rm_om_Mo_inCase s m args below meth c (om_W D ad cI cC cZ A) 7 res σ 22 [some (.ref (ad 0)), some (.int x1), some (.int t.1), some (.int t.2.1), some (.int x4), some (.int t.2.2), none] [] σ) (ox_G (fun t : (Int32 × Int32 × Int32) => ox_M p l e rm_om_Mo_inCase s m args below meth c (om_W D ad cI cC cZ A) 7 res σ 7 [some (.ref (ad 0)), some (.int x1), some (.int t.1), some (.int t.2.1), some (.int t.2.2), none, none] [] σ) (fun t : Int32 => res = some (.int t) ∧ σ = σ))) t → ox_M p l e rm_om_Mo_inCase s m args below meth c (om_W D ad cI cC cZ A) 7 res σ 63 [some (.ref (ad 0)), some (.int x1), none, some (.int x3), some (.int x4), some (.int x5), some (.int x6)] [] σ := by
    intro x1 x3 x4 x5 x6  t h hG
    unfold om_Mo_inCase_j63 at h
    refine ox_aload_n B 0 od_Mo_inCase_63 rfl rfl ?_
    refine omg_Mo_29 B F od_Mo_inCase_64 ?_
    refine ox_iload_n B 1 od_Mo_inCase_67 rfl rfl ?_
    obtain ⟨j8, ej8, hj8, h⟩ := ox_ix_some2 h
    refine omal_6 B F od_Mo_inCase_68 hj8 ej8 ?_
    refine ox_iload_n B 3 od_Mo_inCase_69 rfl rfl ?_
    obtain ⟨r9, hr9, h⟩ := ox_bind h
    refine omc_Mo_272 B F od_Mo_inCase_70 (As := [.int (σ.2 6 j8), .int x3]) (rest := []) (st2 := [.int r9]) (ct_om_Mo_bit hok (σ.2 6 j8) x3 σ _ hr9) ⟨rfl, rfl, Nat.le_of_ble_eq_true rfl, Nat.le_of_ble_eq_true rfl⟩ rfl (Nat.le_of_ble_eq_true rfl) rfl rfl ?_
    refine ox_if_eq B 81 od_Mo_inCase_73 rfl (fun hc => ?_) (fun hc => ?_)
    · rw [if_pos hc] at h
      refine ox_iconst B od_Mo_inCase_81 oxk_i1 ?_
      refine ox_goto B 86 od_Mo_inCase_82 rfl ?_
      refine ox_istore_n B 2 od_Mo_inCase_86 rfl (by decide) rfl (L2 := [some (.ref (ad 0)), some (.int x1), some (.int (1 : Int32)), some (.int x3), some (.int x4), some (.int x5), some (.int x6)]) rfl ?_
      obtain ⟨v10, ev10, h⟩ := ox_let_some h
      refine ox_iinc B od_Mo_inCase_87 rfl ((congrArg (x3 + ·) oxk_i1).trans ev10.symm) (by decide) rfl (L2 := [some (.ref (ad 0)), some (.int x1), some (.int (1 : Int32)), some (.int v10), some (.int x4), some (.int x5), some (.int x6)]) rfl ?_
      obtain ⟨v11, ev11, h⟩ := ox_let_some h
      refine ox_iinc B od_Mo_inCase_90 rfl ((congrArg (x5 + ·) oxk_i1).trans ev11.symm) (by decide) rfl (L2 := [some (.ref (ad 0)), some (.int x1), some (.int (1 : Int32)), some (.int v10), some (.int x4), some (.int v11), some (.int x6)]) rfl ?_
      refine ox_goto B 22 od_Mo_inCase_93 rfl ?_
      cases h
      exact (ox_mask [true, true, true, true, true, true, false] hG)
    · rw [if_neg hc] at h
      refine ox_iload B od_Mo_inCase_76 rfl ?_
      refine ox_if_ne B 85 od_Mo_inCase_78 rfl (fun hc => ?_) (fun hc => ?_)
      · rw [if_neg hc] at h
        refine ox_iconst B od_Mo_inCase_85 oxk_i0 ?_
        refine ox_istore_n B 2 od_Mo_inCase_86 rfl (by decide) rfl (L2 := [some (.ref (ad 0)), some (.int x1), some (.int (0 : Int32)), some (.int x3), some (.int x4), some (.int x5), some (.int x6)]) rfl ?_
        obtain ⟨v12, ev12, h⟩ := ox_let_some h
        refine ox_iinc B od_Mo_inCase_87 rfl ((congrArg (x3 + ·) oxk_i1).trans ev12.symm) (by decide) rfl (L2 := [some (.ref (ad 0)), some (.int x1), some (.int (0 : Int32)), some (.int v12), some (.int x4), some (.int x5), some (.int x6)]) rfl ?_
        obtain ⟨v13, ev13, h⟩ := ox_let_some h
        refine ox_iinc B od_Mo_inCase_90 rfl ((congrArg (x5 + ·) oxk_i1).trans ev13.symm) (by decide) rfl (L2 := [some (.ref (ad 0)), some (.int x1), some (.int (0 : Int32)), some (.int v12), some (.int x4), some (.int v13), some (.int x6)]) rfl ?_
        refine ox_goto B 22 od_Mo_inCase_93 rfl ?_
        cases h
        exact (ox_mask [true, true, true, true, true, true, false] hG)
      · rw [if_pos hc] at h
        refine ox_iconst B od_Mo_inCase_81 oxk_i1 ?_
        refine ox_goto B 86 od_Mo_inCase_82 rfl ?_
        refine ox_istore_n B 2 od_Mo_inCase_86 rfl (by decide) rfl (L2 := [some (.ref (ad 0)), some (.int x1), some (.int (1 : Int32)), some (.int x3), some (.int x4), some (.int x5), some (.int x6)]) rfl ?_
        obtain ⟨v14, ev14, h⟩ := ox_let_some h
        refine ox_iinc B od_Mo_inCase_87 rfl ((congrArg (x3 + ·) oxk_i1).trans ev14.symm) (by decide) rfl (L2 := [some (.ref (ad 0)), some (.int x1), some (.int (1 : Int32)), some (.int v14), some (.int x4), some (.int x5), some (.int x6)]) rfl ?_
        obtain ⟨v15, ev15, h⟩ := ox_let_some h
        refine ox_iinc B od_Mo_inCase_90 rfl ((congrArg (x5 + ·) oxk_i1).trans ev15.symm) (by decide) rfl (L2 := [some (.ref (ad 0)), some (.int x1), some (.int (1 : Int32)), some (.int v14), some (.int x4), some (.int v15), some (.int x6)]) rfl ?_
        refine ox_goto B 22 od_Mo_inCase_93 rfl ?_
        cases h
        exact (ox_mask [true, true, true, true, true, true, false] hG)
  have t_b22 : ∀ (x1 : Int32) (x2 : Int32) (x3 : Int32) (x4 : Int32) (x5 : Int32)  (t : ((Int32 × Int32 × Int32) ⊕ ((Int32 × Int32 × Int32) ⊕ Int32))), om_Mo_inCase_b22 x1 x2 x3 x4 x5 σ = some t → (ox_G (fun t : (Int32 × Int32 × Int32) => ox_M p l e rm_om_Mo_inCase s m args below meth c (om_W D ad cI cC cZ A) 7 res σ 22 [some (.ref (ad 0)), some (.int x1), some (.int t.1), some (.int t.2.1), some (.int x4), some (.int t.2.2), none] [] σ) (ox_G (fun t : (Int32 × Int32 × Int32) => ox_M p l e rm_om_Mo_inCase s m args below meth c (om_W D ad cI cC cZ A) 7 res σ 7 [some (.ref (ad 0)), some (.int x1), some (.int t.1), some (.int t.2.1), some (.int t.2.2), none, none] [] σ) (fun t : Int32 => res = some (.int t) ∧ σ = σ))) t → ox_M p l e rm_om_Mo_inCase s m args below meth c (om_W D ad cI cC cZ A) 7 res σ 22 [some (.ref (ad 0)), some (.int x1), some (.int x2), some (.int x3), some (.int x4), some (.int x5), none] [] σ := by
    intro x1 x2 x3 x4 x5  t h hG
    unfold om_Mo_inCase_b22 at h
    refine ox_iload B od_Mo_inCase_22 rfl ?_
    refine ox_aload_n B 0 od_Mo_inCase_24 rfl rfl ?_
    refine omg_Mo_187 B F od_Mo_inCase_25 ?_
    refine ox_icmp_ge B 96 od_Mo_inCase_28 rfl (fun hc => ?_) (fun hc => ?_)
    · rw [if_pos hc] at h
      obtain ⟨v2, ev2, h⟩ := ox_let_some h
      refine ox_iinc B od_Mo_inCase_96 rfl ((congrArg (x4 + ·) oxk_i1).trans ev2.symm) (by decide) rfl (L2 := [some (.ref (ad 0)), some (.int x1), some (.int x2), some (.int x3), some (.int v2), some (.int x5), none]) rfl ?_
      refine ox_goto B 7 od_Mo_inCase_99 rfl ?_
      cases h
      exact (ox_mask [true, true, true, true, true, false, false] hG)
    · rw [if_neg hc] at h
      refine ox_aload_n B 0 od_Mo_inCase_31 rfl rfl ?_
      refine ox_iload B od_Mo_inCase_32 rfl ?_
      refine ox_iload B od_Mo_inCase_34 rfl ?_
      obtain ⟨r3, hr3, h⟩ := ox_bind h
      refine omc_Mo_248 B F od_Mo_inCase_36 (As := [.int x4, .int x5]) (rest := []) (st2 := [.int r3]) (ct_om_Mo_has hok x4 x5 σ _ hr3) ⟨rfl, rfl, Nat.le_of_ble_eq_true rfl, Nat.le_of_ble_eq_true rfl⟩ rfl (Nat.le_of_ble_eq_true rfl) rfl rfl ?_
      refine ox_istore B od_Mo_inCase_39 (by decide) rfl (L2 := [some (.ref (ad 0)), some (.int x1), some (.int x2), some (.int x3), some (.int x4), some (.int x5), some (.int r3)]) rfl ?_
      refine ox_iload_n B 2 od_Mo_inCase_41 rfl rfl ?_
      refine ox_if_eq B 85 od_Mo_inCase_42 rfl (fun hc => ?_) (fun hc => ?_)
      · rw [if_pos hc] at h
        refine ox_iconst B od_Mo_inCase_85 oxk_i0 ?_
        refine ox_istore_n B 2 od_Mo_inCase_86 rfl (by decide) rfl (L2 := [some (.ref (ad 0)), some (.int x1), some (.int (0 : Int32)), some (.int x3), some (.int x4), some (.int x5), some (.int r3)]) rfl ?_
        obtain ⟨v4, ev4, h⟩ := ox_let_some h
        refine ox_iinc B od_Mo_inCase_87 rfl ((congrArg (x3 + ·) oxk_i1).trans ev4.symm) (by decide) rfl (L2 := [some (.ref (ad 0)), some (.int x1), some (.int (0 : Int32)), some (.int v4), some (.int x4), some (.int x5), some (.int r3)]) rfl ?_
        obtain ⟨v5, ev5, h⟩ := ox_let_some h
        refine ox_iinc B od_Mo_inCase_90 rfl ((congrArg (x5 + ·) oxk_i1).trans ev5.symm) (by decide) rfl (L2 := [some (.ref (ad 0)), some (.int x1), some (.int (0 : Int32)), some (.int v4), some (.int x4), some (.int v5), some (.int r3)]) rfl ?_
        refine ox_goto B 22 od_Mo_inCase_93 rfl ?_
        cases h
        exact (ox_mask [true, true, true, true, true, true, false] hG)
      · rw [if_neg hc] at h
        refine ox_aload_n B 0 od_Mo_inCase_45 rfl rfl ?_
        refine omg_Mo_26 B F od_Mo_inCase_46 ?_
        refine ox_iload_n B 1 od_Mo_inCase_49 rfl rfl ?_
        obtain ⟨j6, ej6, hj6, h⟩ := ox_ix_some2 h
        refine omal_5 B F od_Mo_inCase_50 hj6 ej6 ?_
        refine ox_iload_n B 3 od_Mo_inCase_51 rfl rfl ?_
        obtain ⟨r7, hr7, h⟩ := ox_bind h
        refine omc_Mo_272 B F od_Mo_inCase_52 (As := [.int (σ.2 5 j6), .int x3]) (rest := []) (st2 := [.int r7]) (ct_om_Mo_bit hok (σ.2 5 j6) x3 σ _ hr7) ⟨rfl, rfl, Nat.le_of_ble_eq_true rfl, Nat.le_of_ble_eq_true rfl⟩ rfl (Nat.le_of_ble_eq_true rfl) rfl rfl ?_
        refine ox_if_eq B 63 od_Mo_inCase_55 rfl (fun hc => ?_) (fun hc => ?_)
        · rw [if_pos hc] at h
          exact (ox_mask [true, true, false, true, true, true, true] (t_63 x1 x3 x4 x5 r3 _ h hG))
        · rw [if_neg hc] at h
          refine ox_iload B od_Mo_inCase_58 rfl ?_
          refine ox_if_eq B 85 od_Mo_inCase_60 rfl (fun hc => ?_) (fun hc => ?_)
          · rw [if_pos hc] at h
            refine ox_iconst B od_Mo_inCase_85 oxk_i0 ?_
            refine ox_istore_n B 2 od_Mo_inCase_86 rfl (by decide) rfl (L2 := [some (.ref (ad 0)), some (.int x1), some (.int (0 : Int32)), some (.int x3), some (.int x4), some (.int x5), some (.int r3)]) rfl ?_
            obtain ⟨v16, ev16, h⟩ := ox_let_some h
            refine ox_iinc B od_Mo_inCase_87 rfl ((congrArg (x3 + ·) oxk_i1).trans ev16.symm) (by decide) rfl (L2 := [some (.ref (ad 0)), some (.int x1), some (.int (0 : Int32)), some (.int v16), some (.int x4), some (.int x5), some (.int r3)]) rfl ?_
            obtain ⟨v17, ev17, h⟩ := ox_let_some h
            refine ox_iinc B od_Mo_inCase_90 rfl ((congrArg (x5 + ·) oxk_i1).trans ev17.symm) (by decide) rfl (L2 := [some (.ref (ad 0)), some (.int x1), some (.int (0 : Int32)), some (.int v16), some (.int x4), some (.int v17), some (.int r3)]) rfl ?_
            refine ox_goto B 22 od_Mo_inCase_93 rfl ?_
            cases h
            exact (ox_mask [true, true, true, true, true, true, false] hG)
          · rw [if_neg hc] at h
            exact (ox_mask [true, true, false, true, true, true, true] (t_63 x1 x3 x4 x5 r3 _ h hG))
  have t_22 : ∀ (x1 : Int32) (x2 : Int32) (x3 : Int32) (x4 : Int32) (x5 : Int32)  (t : ((Int32 × Int32 × Int32) ⊕ Int32)), om_Mo_inCase_h22 x1 x2 x3 x4 x5 σ = some t → (ox_G (fun t : (Int32 × Int32 × Int32) => ox_M p l e rm_om_Mo_inCase s m args below meth c (om_W D ad cI cC cZ A) 7 res σ 7 [some (.ref (ad 0)), some (.int x1), some (.int t.1), some (.int t.2.1), some (.int t.2.2), none, none] [] σ) (fun t : Int32 => res = some (.int t) ∧ σ = σ)) t → ox_M p l e rm_om_Mo_inCase s m args below meth c (om_W D ad cI cC cZ A) 7 res σ 22 [some (.ref (ad 0)), some (.int x1), some (.int x2), some (.int x3), some (.int x4), some (.int x5), none] [] σ := by
    intro x1 x2 x3 x4 x5  t h hG
    exact ox_w_run (fun t : (Int32 × Int32 × Int32) => ox_M p l e rm_om_Mo_inCase s m args below meth c (om_W D ad cI cC cZ A) 7 res σ 22 [some (.ref (ad 0)), some (.int x1), some (.int t.1), some (.int t.2.1), some (.int x4), some (.int t.2.2), none] [] σ) (ox_G (fun t : (Int32 × Int32 × Int32) => ox_M p l e rm_om_Mo_inCase s m args below meth c (om_W D ad cI cC cZ A) 7 res σ 7 [some (.ref (ad 0)), some (.int x1), some (.int t.1), some (.int t.2.1), some (.int t.2.2), none, none] [] σ) (fun t : Int32 => res = some (.int t) ∧ σ = σ)) (fun a t h hG => t_b22 x1 a.1 a.2.1 x4 a.2.2  t h hG) (x2, x3, x5) t h hG
  have t_b7 : ∀ (x1 : Int32) (x2 : Int32) (x3 : Int32) (x4 : Int32)  (t : ((Int32 × Int32 × Int32) ⊕ Int32)), om_Mo_inCase_b7 x1 x2 x3 x4 σ = some t → (ox_G (fun t : (Int32 × Int32 × Int32) => ox_M p l e rm_om_Mo_inCase s m args below meth c (om_W D ad cI cC cZ A) 7 res σ 7 [some (.ref (ad 0)), some (.int x1), some (.int t.1), some (.int t.2.1), some (.int t.2.2), none, none] [] σ) (fun t : Int32 => res = some (.int t) ∧ σ = σ)) t → ox_M p l e rm_om_Mo_inCase s m args below meth c (om_W D ad cI cC cZ A) 7 res σ 7 [some (.ref (ad 0)), some (.int x1), some (.int x2), some (.int x3), some (.int x4), none, none] [] σ := by
    intro x1 x2 x3 x4  t h hG
    unfold om_Mo_inCase_b7 at h
    refine ox_iload B od_Mo_inCase_7 rfl ?_
    refine ox_aload_n B 0 od_Mo_inCase_9 rfl rfl ?_
    refine omg_Mo_187 B F od_Mo_inCase_10 ?_
    refine ox_icmp_ge B 102 od_Mo_inCase_13 rfl (fun hc => ?_) (fun hc => ?_)
    · rw [if_pos hc] at h
      refine ox_iload_n B 2 od_Mo_inCase_102 rfl rfl ?_
      obtain ⟨hz, h⟩ := ox_z_some h
      cases h
      exact ox_iret B F od_Mo_inCase_103 rfl (ox_nz hz) hG
    · rw [if_neg hc] at h
      refine ox_iload B od_Mo_inCase_16 rfl ?_
      refine ox_iconst B od_Mo_inCase_18 oxk_i1 ?_
      refine ox_iadd B od_Mo_inCase_19 ?_
      obtain ⟨v1, ev1, h⟩ := ox_let_some h
      refine ox_topi ev1 ?_
      refine ox_istore B od_Mo_inCase_20 (by decide) rfl (L2 := [some (.ref (ad 0)), some (.int x1), some (.int x2), some (.int x3), some (.int x4), some (.int v1), none]) rfl ?_
      exact (t_22 x1 x2 x3 x4 v1 _ h hG)
  have t_7 : ∀ (x1 : Int32) (x2 : Int32) (x3 : Int32) (x4 : Int32)  (t : Int32), om_Mo_inCase_h7 x1 x2 x3 x4 σ = some t → (fun t : Int32 => res = some (.int t) ∧ σ = σ) t → ox_M p l e rm_om_Mo_inCase s m args below meth c (om_W D ad cI cC cZ A) 7 res σ 7 [some (.ref (ad 0)), some (.int x1), some (.int x2), some (.int x3), some (.int x4), none, none] [] σ := by
    intro x1 x2 x3 x4  t h hG
    exact ox_w_run (fun t : (Int32 × Int32 × Int32) => ox_M p l e rm_om_Mo_inCase s m args below meth c (om_W D ad cI cC cZ A) 7 res σ 7 [some (.ref (ad 0)), some (.int x1), some (.int t.1), some (.int t.2.1), some (.int t.2.2), none, none] [] σ) (fun t : Int32 => res = some (.int t) ∧ σ = σ) (fun a t h hG => t_b7 x1 a.1 a.2.1 a.2.2  t h hG) (x2, x3, x4) t h hG
  change ox_M p l e rm_om_Mo_inCase s m args below meth c (om_W D ad cI cC cZ A) 7 res σ 0 [some (.ref (ad 0)), some (.int x1), none, none, none, none, none] [] σ
  unfold om_Mo_inCase at h
  refine ox_iconst B od_Mo_inCase_0 oxk_i1 ?_
  refine ox_istore_n B 2 od_Mo_inCase_1 rfl (by decide) rfl (L2 := [some (.ref (ad 0)), some (.int x1), some (.int (1 : Int32)), none, none, none, none]) rfl ?_
  refine ox_iconst B od_Mo_inCase_2 oxk_i0 ?_
  refine ox_istore_n B 3 od_Mo_inCase_3 rfl (by decide) rfl (L2 := [some (.ref (ad 0)), some (.int x1), some (.int (1 : Int32)), some (.int (0 : Int32)), none, none, none]) rfl ?_
  refine ox_iconst B od_Mo_inCase_4 oxk_i0 ?_
  refine ox_istore B od_Mo_inCase_5 (by decide) rfl (L2 := [some (.ref (ad 0)), some (.int x1), some (.int (1 : Int32)), some (.int (0 : Int32)), some (.int (0 : Int32)), none, none]) rfl ?_
  exact (t_7 x1 (1 : Int32) (0 : Int32) (0 : Int32) _ h hG)
abbrev rm_om_Mo_covers : Room := { frames := 3, cells := 0, slots := 0, locals := 72 }
set_option maxRecDepth 100000 in
set_option maxHeartbeats 4000000 in
theorem ct_om_Mo_covers {l : Launch} {D : va_G} {ad : Nat → Nat} {cI cC cZ : ClassId} {A : Nat → Prop} (hok : ox_ok (om_W D ad cI cC cZ A))  (σ : ox_S) (t : (Int32 × ox_S)) (h : om_Mo_covers  σ = some t) : Met l oy_Mo_covers (Cond.code oy_Mo_covers prog_11_method_59_code 4 (some .boolean) :: ox_ws) rm_om_Mo_covers (ox_P (om_W D ad cI cC cZ A) [.ref (ad 0)] σ) (ox_Q (om_W D ad cI cC cZ A) (some (.int t.1)) t.2) 0 0 A := by
  refine ox_met (ω := om_W D ad cI cC cZ A) (by decide) rfl hok (Nat.le_of_ble_eq_true rfl) ?_
  intro p e s m args below meth c B F
  generalize hres : (some (.int t.1) : Option Value) = res
  generalize hσf : t.2 = σf
  have hG : (fun t : (Int32 × ox_S) => res = some (.int t.1) ∧ σf = t.2) t := ⟨hres.symm, hσf.symm⟩
  have t_b49 : ∀ (x2 : Int32) (x3 : Int32) (σ : ox_S) (t : ((Int32 × Int32) ⊕ ((Int32 × Int32 × ox_S) ⊕ (Int32 × ox_S)))), om_Mo_covers_b49 x2 x3 σ = some t → (ox_G (fun t : (Int32 × Int32) => ox_M p l e rm_om_Mo_covers s m args below meth c (om_W D ad cI cC cZ A) 4 res σf 49 [some (.ref (ad 0)), none, some (.int t.1), some (.int t.2)] [] σ) (ox_G (fun t : (Int32 × Int32 × ox_S) => ox_M p l e rm_om_Mo_covers s m args below meth c (om_W D ad cI cC cZ A) 4 res σf 30 [some (.ref (ad 0)), some (.int t.1), some (.int t.2.1), none] [] t.2.2) (fun t : (Int32 × ox_S) => res = some (.int t.1) ∧ σf = t.2))) t → ox_M p l e rm_om_Mo_covers s m args below meth c (om_W D ad cI cC cZ A) 4 res σf 49 [some (.ref (ad 0)), none, some (.int x2), some (.int x3)] [] σ := by
    intro x2 x3 σ t h hG
    unfold om_Mo_covers_b49 at h
    refine ox_iload_n B 3 od_Mo_covers_49 rfl rfl ?_
    refine ox_aload_n B 0 od_Mo_covers_50 rfl rfl ?_
    refine omg_Mo_196 B F od_Mo_covers_51 ?_
    refine ox_icmp_ge B 81 od_Mo_covers_54 rfl (fun hc => ?_) (fun hc => ?_)
    · rw [if_pos hc] at h
      refine ox_aload_n B 0 od_Mo_covers_81 rfl rfl ?_
      obtain ⟨r5, s6, hr5, h⟩ := ox_b2_some h
      refine omc_Mo_263 B F od_Mo_covers_82 (As := []) (rest := []) (st2 := [.int r5]) (ct_om_Mo_nextTour hok σ _ hr5) ⟨rfl, rfl, Nat.le_of_ble_eq_true rfl, Nat.le_of_ble_eq_true rfl⟩ rfl (Nat.le_of_ble_eq_true rfl) rfl rfl ?_
      refine ox_istore_n B 1 od_Mo_covers_85 rfl (by decide) rfl (L2 := [some (.ref (ad 0)), some (.int r5), some (.int x2), some (.int x3)]) rfl ?_
      refine ox_goto B 30 od_Mo_covers_86 rfl ?_
      cases h
      exact (ox_mask [true, true, true, false] hG)
    · rw [if_neg hc] at h
      refine ox_iload_n B 2 od_Mo_covers_57 rfl rfl ?_
      refine ox_if_ne B 69 od_Mo_covers_58 rfl (fun hc => ?_) (fun hc => ?_)
      · rw [if_neg hc] at h
        refine ox_iconst B od_Mo_covers_69 oxk_i1 ?_
        refine ox_goto B 74 od_Mo_covers_70 rfl ?_
        refine ox_istore_n B 2 od_Mo_covers_74 rfl (by decide) rfl (L2 := [some (.ref (ad 0)), none, some (.int (1 : Int32)), some (.int x3)]) rfl ?_
        obtain ⟨v7, ev7, h⟩ := ox_let_some h
        refine ox_iinc B od_Mo_covers_75 rfl ((congrArg (x3 + ·) oxk_i1).trans ev7.symm) (by decide) rfl (L2 := [some (.ref (ad 0)), none, some (.int (1 : Int32)), some (.int v7)]) rfl ?_
        refine ox_goto B 49 od_Mo_covers_78 rfl ?_
        cases h
        exact hG
      · rw [if_pos hc] at h
        refine ox_aload_n B 0 od_Mo_covers_61 rfl rfl ?_
        refine ox_iload_n B 3 od_Mo_covers_62 rfl rfl ?_
        obtain ⟨r8, hr8, h⟩ := ox_bind h
        refine omc_Mo_275 B F od_Mo_covers_63 (As := [.int x3]) (rest := []) (st2 := [.int r8]) (ct_om_Mo_inCase hok x3 σ _ hr8) ⟨rfl, rfl, Nat.le_of_ble_eq_true rfl, Nat.le_of_ble_eq_true rfl⟩ rfl (Nat.le_of_ble_eq_true rfl) rfl rfl ?_
        refine ox_if_eq B 73 od_Mo_covers_66 rfl (fun hc => ?_) (fun hc => ?_)
        · rw [if_pos hc] at h
          refine ox_iconst B od_Mo_covers_73 oxk_i0 ?_
          refine ox_istore_n B 2 od_Mo_covers_74 rfl (by decide) rfl (L2 := [some (.ref (ad 0)), none, some (.int (0 : Int32)), some (.int x3)]) rfl ?_
          obtain ⟨v9, ev9, h⟩ := ox_let_some h
          refine ox_iinc B od_Mo_covers_75 rfl ((congrArg (x3 + ·) oxk_i1).trans ev9.symm) (by decide) rfl (L2 := [some (.ref (ad 0)), none, some (.int (0 : Int32)), some (.int v9)]) rfl ?_
          refine ox_goto B 49 od_Mo_covers_78 rfl ?_
          cases h
          exact hG
        · rw [if_neg hc] at h
          refine ox_iconst B od_Mo_covers_69 oxk_i1 ?_
          refine ox_goto B 74 od_Mo_covers_70 rfl ?_
          refine ox_istore_n B 2 od_Mo_covers_74 rfl (by decide) rfl (L2 := [some (.ref (ad 0)), none, some (.int (1 : Int32)), some (.int x3)]) rfl ?_
          obtain ⟨v10, ev10, h⟩ := ox_let_some h
          refine ox_iinc B od_Mo_covers_75 rfl ((congrArg (x3 + ·) oxk_i1).trans ev10.symm) (by decide) rfl (L2 := [some (.ref (ad 0)), none, some (.int (1 : Int32)), some (.int v10)]) rfl ?_
          refine ox_goto B 49 od_Mo_covers_78 rfl ?_
          cases h
          exact hG
  have t_49 : ∀ (x2 : Int32) (x3 : Int32) (σ : ox_S) (t : ((Int32 × Int32 × ox_S) ⊕ (Int32 × ox_S))), om_Mo_covers_h49 x2 x3 σ = some t → (ox_G (fun t : (Int32 × Int32 × ox_S) => ox_M p l e rm_om_Mo_covers s m args below meth c (om_W D ad cI cC cZ A) 4 res σf 30 [some (.ref (ad 0)), some (.int t.1), some (.int t.2.1), none] [] t.2.2) (fun t : (Int32 × ox_S) => res = some (.int t.1) ∧ σf = t.2)) t → ox_M p l e rm_om_Mo_covers s m args below meth c (om_W D ad cI cC cZ A) 4 res σf 49 [some (.ref (ad 0)), none, some (.int x2), some (.int x3)] [] σ := by
    intro x2 x3 σ t h hG
    exact ox_w_run (fun t : (Int32 × Int32) => ox_M p l e rm_om_Mo_covers s m args below meth c (om_W D ad cI cC cZ A) 4 res σf 49 [some (.ref (ad 0)), none, some (.int t.1), some (.int t.2)] [] σ) (ox_G (fun t : (Int32 × Int32 × ox_S) => ox_M p l e rm_om_Mo_covers s m args below meth c (om_W D ad cI cC cZ A) 4 res σf 30 [some (.ref (ad 0)), some (.int t.1), some (.int t.2.1), none] [] t.2.2) (fun t : (Int32 × ox_S) => res = some (.int t.1) ∧ σf = t.2)) (fun a t h hG => t_b49 a.1 a.2 σ t h hG) (x2, x3) t h hG
  have t_b30 : ∀ (x1 : Int32) (x2 : Int32) (σ : ox_S) (t : ((Int32 × Int32 × ox_S) ⊕ (Int32 × ox_S))), om_Mo_covers_b30 x1 x2 σ = some t → (ox_G (fun t : (Int32 × Int32 × ox_S) => ox_M p l e rm_om_Mo_covers s m args below meth c (om_W D ad cI cC cZ A) 4 res σf 30 [some (.ref (ad 0)), some (.int t.1), some (.int t.2.1), none] [] t.2.2) (fun t : (Int32 × ox_S) => res = some (.int t.1) ∧ σf = t.2)) t → ox_M p l e rm_om_Mo_covers s m args below meth c (om_W D ad cI cC cZ A) 4 res σf 30 [some (.ref (ad 0)), some (.int x1), some (.int x2), none] [] σ := by
    intro x1 x2 σ t h hG
    unfold om_Mo_covers_b30 at h
    refine ox_iload_n B 1 od_Mo_covers_30 rfl rfl ?_
    refine ox_if_eq B 89 od_Mo_covers_31 rfl (fun hc => ?_) (fun hc => ?_)
    · rw [if_pos hc] at h
      refine ox_iload_n B 2 od_Mo_covers_89 rfl rfl ?_
      obtain ⟨hz, h⟩ := ox_z_some h
      cases h
      exact ox_iret B F od_Mo_covers_90 rfl (ox_nz hz) hG
    · rw [if_neg hc] at h
      refine ox_iload_n B 2 od_Mo_covers_34 rfl rfl ?_
      refine ox_if_eq B 89 od_Mo_covers_35 rfl (fun hc => ?_) (fun hc => ?_)
      · rw [if_pos hc] at h
        refine ox_iload_n B 2 od_Mo_covers_89 rfl rfl ?_
        obtain ⟨hz, h⟩ := ox_z_some h
        cases h
        exact ox_iret B F od_Mo_covers_90 rfl (ox_nz hz) hG
      · rw [if_neg hc] at h
        refine ox_aload_n B 0 od_Mo_covers_38 rfl rfl ?_
        obtain ⟨r2, hr2, h⟩ := ox_bind h
        refine omc_Mo_254 B F od_Mo_covers_39 (As := []) (rest := []) (st2 := [.int r2]) (ct_om_Mo_allowed hok σ _ hr2) ⟨rfl, rfl, Nat.le_of_ble_eq_true rfl, Nat.le_of_ble_eq_true rfl⟩ rfl (Nat.le_of_ble_eq_true rfl) rfl rfl ?_
        refine ox_if_eq B 81 od_Mo_covers_42 rfl (fun hc => ?_) (fun hc => ?_)
        · rw [if_pos hc] at h
          refine ox_aload_n B 0 od_Mo_covers_81 rfl rfl ?_
          obtain ⟨r3, s4, hr3, h⟩ := ox_b2_some h
          refine omc_Mo_263 B F od_Mo_covers_82 (As := []) (rest := []) (st2 := [.int r3]) (ct_om_Mo_nextTour hok σ _ hr3) ⟨rfl, rfl, Nat.le_of_ble_eq_true rfl, Nat.le_of_ble_eq_true rfl⟩ rfl (Nat.le_of_ble_eq_true rfl) rfl rfl ?_
          refine ox_istore_n B 1 od_Mo_covers_85 rfl (by decide) rfl (L2 := [some (.ref (ad 0)), some (.int r3), some (.int x2), none]) rfl ?_
          refine ox_goto B 30 od_Mo_covers_86 rfl ?_
          cases h
          exact hG
        · rw [if_neg hc] at h
          refine ox_iconst B od_Mo_covers_45 oxk_i0 ?_
          refine ox_istore_n B 2 od_Mo_covers_46 rfl (by decide) rfl (L2 := [some (.ref (ad 0)), some (.int x1), some (.int (0 : Int32)), none]) rfl ?_
          refine ox_iconst B od_Mo_covers_47 oxk_i0 ?_
          refine ox_istore_n B 3 od_Mo_covers_48 rfl (by decide) rfl (L2 := [some (.ref (ad 0)), some (.int x1), some (.int (0 : Int32)), some (.int (0 : Int32))]) rfl ?_
          exact (ox_mask [true, false, true, true] (t_49 (0 : Int32) (0 : Int32) σ _ h hG))
  have t_30 : ∀ (x1 : Int32) (x2 : Int32) (σ : ox_S) (t : (Int32 × ox_S)), om_Mo_covers_h30 x1 x2 σ = some t → (fun t : (Int32 × ox_S) => res = some (.int t.1) ∧ σf = t.2) t → ox_M p l e rm_om_Mo_covers s m args below meth c (om_W D ad cI cC cZ A) 4 res σf 30 [some (.ref (ad 0)), some (.int x1), some (.int x2), none] [] σ := by
    intro x1 x2 σ t h hG
    exact ox_w_run (fun t : (Int32 × Int32 × ox_S) => ox_M p l e rm_om_Mo_covers s m args below meth c (om_W D ad cI cC cZ A) 4 res σf 30 [some (.ref (ad 0)), some (.int t.1), some (.int t.2.1), none] [] t.2.2) (fun t : (Int32 × ox_S) => res = some (.int t.1) ∧ σf = t.2) (fun a t h hG => t_b30 a.1 a.2.1 a.2.2 t h hG) (x1, x2, σ) t h hG
  have t_12 : ∀ (y0 : Int32) (σ : ox_S) (t : (Int32 × ox_S)), om_Mo_covers_j12 y0 σ = some t → (fun t : (Int32 × ox_S) => res = some (.int t.1) ∧ σf = t.2) t → ox_M p l e rm_om_Mo_covers s m args below meth c (om_W D ad cI cC cZ A) 4 res σf 12 [some (.ref (ad 0)), none, none, none] [.int y0] σ := by
    intro y0 σ t h hG
    unfold om_Mo_covers_j12 at h
    refine ox_istore_n B 1 od_Mo_covers_12 rfl (by decide) rfl (L2 := [some (.ref (ad 0)), some (.int y0), none, none]) rfl ?_
    refine ox_aload_n B 0 od_Mo_covers_13 rfl rfl ?_
    refine omg_Mo_187 B F od_Mo_covers_14 ?_
    refine ox_if_le B 24 od_Mo_covers_17 rfl (fun hc => ?_) (fun hc => ?_)
    · rw [if_pos hc] at h
      refine ox_iconst B od_Mo_covers_24 oxk_i0 ?_
      refine ox_istore_n B 2 od_Mo_covers_25 rfl (by decide) rfl (L2 := [some (.ref (ad 0)), some (.int y0), some (.int (0 : Int32)), none]) rfl ?_
      refine ox_aload_n B 0 od_Mo_covers_26 rfl rfl ?_
      obtain ⟨s1, hs1, h⟩ := ox_bind h
      refine omc_Mo_251 B F od_Mo_covers_27 (As := []) (rest := []) (st2 := []) (ct_om_Mo_firstTour hok σ _ hs1) ⟨rfl, rfl, Nat.le_of_ble_eq_true rfl, Nat.le_of_ble_eq_true rfl⟩ rfl (Nat.le_of_ble_eq_true rfl) rfl rfl ?_
      exact (t_30 y0 (0 : Int32) s1 _ h hG)
    · rw [if_neg hc] at h
      refine ox_iconst B od_Mo_covers_20 oxk_i1 ?_
      refine ox_goto B 25 od_Mo_covers_21 rfl ?_
      refine ox_istore_n B 2 od_Mo_covers_25 rfl (by decide) rfl (L2 := [some (.ref (ad 0)), some (.int y0), some (.int (1 : Int32)), none]) rfl ?_
      refine ox_aload_n B 0 od_Mo_covers_26 rfl rfl ?_
      obtain ⟨s11, hs11, h⟩ := ox_bind h
      refine omc_Mo_251 B F od_Mo_covers_27 (As := []) (rest := []) (st2 := []) (ct_om_Mo_firstTour hok σ _ hs11) ⟨rfl, rfl, Nat.le_of_ble_eq_true rfl, Nat.le_of_ble_eq_true rfl⟩ rfl (Nat.le_of_ble_eq_true rfl) rfl rfl ?_
      exact (t_30 y0 (1 : Int32) s11 _ h hG)
  change ox_M p l e rm_om_Mo_covers s m args below meth c (om_W D ad cI cC cZ A) 4 res σf 0 [some (.ref (ad 0)), none, none, none] [] σ
  unfold om_Mo_covers at h
  refine ox_aload_n B 0 od_Mo_covers_0 rfl rfl ?_
  refine omg_Mo_187 B F od_Mo_covers_1 ?_
  refine ox_if_le B 11 od_Mo_covers_4 rfl (fun hc => ?_) (fun hc => ?_)
  · rw [if_pos hc] at h
    refine ox_iconst B od_Mo_covers_11 oxk_i0 ?_
    exact (t_12 (0 : Int32) σ _ h hG)
  · rw [if_neg hc] at h
    refine ox_iconst B od_Mo_covers_7 oxk_i1 ?_
    refine ox_goto B 12 od_Mo_covers_8 rfl ?_
    exact (t_12 (1 : Int32) σ _ h hG)
abbrev rm_om_Mo_caseBound : Room := { frames := 5, cells := 0, slots := 0, locals := 118 }
set_option maxRecDepth 100000 in
set_option maxHeartbeats 4000000 in
theorem ct_om_Mo_caseBound {l : Launch} {D : va_G} {ad : Nat → Nat} {cI cC cZ : ClassId} {A : Nat → Prop} (hok : ox_ok (om_W D ad cI cC cZ A)) (x1 : Int32) (σ : ox_S) (t : (Int32 × ox_S)) (h : om_Mo_caseBound x1 σ = some t) : Met l oy_Mo_caseBound (Cond.code oy_Mo_caseBound prog_11_method_60_code 5 (some .int) :: ox_ws) rm_om_Mo_caseBound (ox_P (om_W D ad cI cC cZ A) [.ref (ad 0), .int x1] σ) (ox_Q (om_W D ad cI cC cZ A) (some (.int t.1)) t.2) 0 0 A := by
  refine ox_met (ω := om_W D ad cI cC cZ A) (by decide) rfl hok (Nat.le_of_ble_eq_true rfl) ?_
  intro p e s m args below meth c B F
  generalize hres : (some (.int t.1) : Option Value) = res
  generalize hσf : t.2 = σf
  have hG : (fun t : (Int32 × ox_S) => res = some (.int t.1) ∧ σf = t.2) t := ⟨hres.symm, hσf.symm⟩
  have t_b31 : ∀ (x1 : Int32) (x2 : Int32) (x3 : Int32) (x4 : Int32) (σ : ox_S) (t : ((Int32 × Int32 × ox_S) ⊕ ((Int32 × Int32 × ox_S) ⊕ (Int32 × ox_S)))), om_Mo_caseBound_b31 x1 x2 x3 x4 σ = some t → (ox_G (fun t : (Int32 × Int32 × ox_S) => ox_M p l e rm_om_Mo_caseBound s m args below meth c (om_W D ad cI cC cZ A) 5 res σf 31 [some (.ref (ad 0)), some (.int x1), some (.int t.1), some (.int x3), some (.int t.2.1)] [] t.2.2) (ox_G (fun t : (Int32 × Int32 × ox_S) => ox_M p l e rm_om_Mo_caseBound s m args below meth c (om_W D ad cI cC cZ A) 5 res σf 18 [some (.ref (ad 0)), some (.int x1), some (.int t.1), some (.int t.2.1), none] [] t.2.2) (fun t : (Int32 × ox_S) => res = some (.int t.1) ∧ σf = t.2))) t → ox_M p l e rm_om_Mo_caseBound s m args below meth c (om_W D ad cI cC cZ A) 5 res σf 31 [some (.ref (ad 0)), some (.int x1), some (.int x2), some (.int x3), some (.int x4)] [] σ := by
    intro x1 x2 x3 x4 σ t h hG
    unfold om_Mo_caseBound_b31 at h
    refine ox_iload B od_Mo_caseBound_31 rfl ?_
    refine ox_aload_n B 0 od_Mo_caseBound_33 rfl rfl ?_
    refine omg_Mo_187 B F od_Mo_caseBound_34 ?_
    refine ox_icmp_ge B 98 od_Mo_caseBound_37 rfl (fun hc => ?_) (fun hc => ?_)
    · rw [if_pos hc] at h
      obtain ⟨v4, ev4, h⟩ := ox_let_some h
      refine ox_iinc B od_Mo_caseBound_98 rfl ((congrArg (x3 + ·) oxk_i1).trans ev4.symm) (by decide) rfl (L2 := [some (.ref (ad 0)), some (.int x1), some (.int x2), some (.int v4), some (.int x4)]) rfl ?_
      refine ox_goto B 18 od_Mo_caseBound_101 rfl ?_
      cases h
      exact (ox_mask [true, true, true, true, false] hG)
    · rw [if_neg hc] at h
      refine ox_aload_n B 0 od_Mo_caseBound_40 rfl rfl ?_
      refine omg_Mo_45 B F od_Mo_caseBound_41 ?_
      refine ox_bipush B od_Mo_caseBound_44 oxk_b8 ?_
      refine ox_iload_n B 3 od_Mo_caseBound_46 rfl rfl ?_
      refine ox_imul B od_Mo_caseBound_47 ?_
      refine ox_iload B od_Mo_caseBound_48 rfl ?_
      refine ox_iadd B od_Mo_caseBound_50 ?_
      refine ox_aload_n B 0 od_Mo_caseBound_51 rfl rfl ?_
      refine omg_Mo_26 B F od_Mo_caseBound_52 ?_
      refine ox_iload_n B 1 od_Mo_caseBound_55 rfl rfl ?_
      obtain ⟨j5, ej5, hj5, h⟩ := ox_ix_some2 h
      refine omal_5 B F od_Mo_caseBound_56 hj5 ej5 ?_
      refine ox_iload_n B 2 od_Mo_caseBound_57 rfl rfl ?_
      obtain ⟨r6, hr6, h⟩ := ox_bind h
      refine omc_Mo_272 B F od_Mo_caseBound_58 (As := [.int (σ.2 5 j5), .int x2]) (rest := [.int (((8 : Int32) * x3) + x4), .ref (ad 12)]) (st2 := [.int r6, .int (((8 : Int32) * x3) + x4), .ref (ad 12)]) (ct_om_Mo_bit hok (σ.2 5 j5) x2 σ _ hr6) ⟨rfl, rfl, Nat.le_of_ble_eq_true rfl, Nat.le_of_ble_eq_true rfl⟩ rfl (Nat.le_of_ble_eq_true rfl) rfl rfl ?_
      refine ox_iconst B od_Mo_caseBound_61 oxk_i1 ?_
      refine ox_icmp_ne B 69 od_Mo_caseBound_62 rfl (fun hc => ?_) (fun hc => ?_)
      · rw [if_neg hc] at h
        refine ox_aload_n B 0 od_Mo_caseBound_69 rfl rfl ?_
        refine omg_Mo_29 B F od_Mo_caseBound_70 ?_
        refine ox_iload_n B 1 od_Mo_caseBound_73 rfl rfl ?_
        obtain ⟨j7, ej7, hj7, h⟩ := ox_ix_some2 h
        refine omal_6 B F od_Mo_caseBound_74 hj7 ej7 ?_
        refine ox_iload_n B 2 od_Mo_caseBound_75 rfl rfl ?_
        obtain ⟨r8, hr8, h⟩ := ox_bind h
        refine omc_Mo_272 B F od_Mo_caseBound_76 (As := [.int (σ.2 6 j7), .int x2]) (rest := [.int (((8 : Int32) * x3) + x4), .ref (ad 12)]) (st2 := [.int r8, .int (((8 : Int32) * x3) + x4), .ref (ad 12)]) (ct_om_Mo_bit hok (σ.2 6 j7) x2 σ _ hr8) ⟨rfl, rfl, Nat.le_of_ble_eq_true rfl, Nat.le_of_ble_eq_true rfl⟩ rfl (Nat.le_of_ble_eq_true rfl) rfl rfl ?_
        refine ox_iconst B od_Mo_caseBound_79 oxk_i1 ?_
        refine ox_icmp_ne B 87 od_Mo_caseBound_80 rfl (fun hc => ?_) (fun hc => ?_)
        · rw [if_neg hc] at h
          refine ox_iconst B od_Mo_caseBound_87 oxk_i0 ?_
          obtain ⟨j9, ej9, hj9, h⟩ := ox_ix_some2 h
          obtain ⟨s10, es10, h⟩ := ox_let_some h
          refine omas_11 B F od_Mo_caseBound_88 hj9 ej9 es10 ?_
          obtain ⟨v11, ev11, h⟩ := ox_let_some h
          refine ox_iinc B od_Mo_caseBound_89 rfl ((congrArg (x2 + ·) oxk_i1).trans ev11.symm) (by decide) rfl (L2 := [some (.ref (ad 0)), some (.int x1), some (.int v11), some (.int x3), some (.int x4)]) rfl ?_
          obtain ⟨v12, ev12, h⟩ := ox_let_some h
          refine ox_iinc B od_Mo_caseBound_92 rfl ((congrArg (x4 + ·) oxk_i1).trans ev12.symm) (by decide) rfl (L2 := [some (.ref (ad 0)), some (.int x1), some (.int v11), some (.int x3), some (.int v12)]) rfl ?_
          refine ox_goto B 31 od_Mo_caseBound_95 rfl ?_
          cases h
          exact hG
        · rw [if_pos hc] at h
          refine ox_iconst B od_Mo_caseBound_83 oxk_i2 ?_
          refine ox_goto B 88 od_Mo_caseBound_84 rfl ?_
          obtain ⟨j13, ej13, hj13, h⟩ := ox_ix_some2 h
          obtain ⟨s14, es14, h⟩ := ox_let_some h
          refine omas_11 B F od_Mo_caseBound_88 hj13 ej13 es14 ?_
          obtain ⟨v15, ev15, h⟩ := ox_let_some h
          refine ox_iinc B od_Mo_caseBound_89 rfl ((congrArg (x2 + ·) oxk_i1).trans ev15.symm) (by decide) rfl (L2 := [some (.ref (ad 0)), some (.int x1), some (.int v15), some (.int x3), some (.int x4)]) rfl ?_
          obtain ⟨v16, ev16, h⟩ := ox_let_some h
          refine ox_iinc B od_Mo_caseBound_92 rfl ((congrArg (x4 + ·) oxk_i1).trans ev16.symm) (by decide) rfl (L2 := [some (.ref (ad 0)), some (.int x1), some (.int v15), some (.int x3), some (.int v16)]) rfl ?_
          refine ox_goto B 31 od_Mo_caseBound_95 rfl ?_
          cases h
          exact hG
      · rw [if_pos hc] at h
        refine ox_iconst B od_Mo_caseBound_65 oxk_i1 ?_
        refine ox_goto B 88 od_Mo_caseBound_66 rfl ?_
        obtain ⟨j17, ej17, hj17, h⟩ := ox_ix_some2 h
        obtain ⟨s18, es18, h⟩ := ox_let_some h
        refine omas_11 B F od_Mo_caseBound_88 hj17 ej17 es18 ?_
        obtain ⟨v19, ev19, h⟩ := ox_let_some h
        refine ox_iinc B od_Mo_caseBound_89 rfl ((congrArg (x2 + ·) oxk_i1).trans ev19.symm) (by decide) rfl (L2 := [some (.ref (ad 0)), some (.int x1), some (.int v19), some (.int x3), some (.int x4)]) rfl ?_
        obtain ⟨v20, ev20, h⟩ := ox_let_some h
        refine ox_iinc B od_Mo_caseBound_92 rfl ((congrArg (x4 + ·) oxk_i1).trans ev20.symm) (by decide) rfl (L2 := [some (.ref (ad 0)), some (.int x1), some (.int v19), some (.int x3), some (.int v20)]) rfl ?_
        refine ox_goto B 31 od_Mo_caseBound_95 rfl ?_
        cases h
        exact hG
  have t_31 : ∀ (x1 : Int32) (x2 : Int32) (x3 : Int32) (x4 : Int32) (σ : ox_S) (t : ((Int32 × Int32 × ox_S) ⊕ (Int32 × ox_S))), om_Mo_caseBound_h31 x1 x2 x3 x4 σ = some t → (ox_G (fun t : (Int32 × Int32 × ox_S) => ox_M p l e rm_om_Mo_caseBound s m args below meth c (om_W D ad cI cC cZ A) 5 res σf 18 [some (.ref (ad 0)), some (.int x1), some (.int t.1), some (.int t.2.1), none] [] t.2.2) (fun t : (Int32 × ox_S) => res = some (.int t.1) ∧ σf = t.2)) t → ox_M p l e rm_om_Mo_caseBound s m args below meth c (om_W D ad cI cC cZ A) 5 res σf 31 [some (.ref (ad 0)), some (.int x1), some (.int x2), some (.int x3), some (.int x4)] [] σ := by
    intro x1 x2 x3 x4 σ t h hG
    exact ox_w_run (fun t : (Int32 × Int32 × ox_S) => ox_M p l e rm_om_Mo_caseBound s m args below meth c (om_W D ad cI cC cZ A) 5 res σf 31 [some (.ref (ad 0)), some (.int x1), some (.int t.1), some (.int x3), some (.int t.2.1)] [] t.2.2) (ox_G (fun t : (Int32 × Int32 × ox_S) => ox_M p l e rm_om_Mo_caseBound s m args below meth c (om_W D ad cI cC cZ A) 5 res σf 18 [some (.ref (ad 0)), some (.int x1), some (.int t.1), some (.int t.2.1), none] [] t.2.2) (fun t : (Int32 × ox_S) => res = some (.int t.1) ∧ σf = t.2)) (fun a t h hG => t_b31 x1 a.1 x3 a.2.1 a.2.2 t h hG) (x2, x4, σ) t h hG
  have t_b18 : ∀ (x1 : Int32) (x2 : Int32) (x3 : Int32) (σ : ox_S) (t : ((Int32 × Int32 × ox_S) ⊕ (Int32 × ox_S))), om_Mo_caseBound_b18 x1 x2 x3 σ = some t → (ox_G (fun t : (Int32 × Int32 × ox_S) => ox_M p l e rm_om_Mo_caseBound s m args below meth c (om_W D ad cI cC cZ A) 5 res σf 18 [some (.ref (ad 0)), some (.int x1), some (.int t.1), some (.int t.2.1), none] [] t.2.2) (fun t : (Int32 × ox_S) => res = some (.int t.1) ∧ σf = t.2)) t → ox_M p l e rm_om_Mo_caseBound s m args below meth c (om_W D ad cI cC cZ A) 5 res σf 18 [some (.ref (ad 0)), some (.int x1), some (.int x2), some (.int x3), none] [] σ := by
    intro x1 x2 x3 σ t h hG
    unfold om_Mo_caseBound_b18 at h
    refine ox_iload_n B 3 od_Mo_caseBound_18 rfl rfl ?_
    refine ox_aload_n B 0 od_Mo_caseBound_19 rfl rfl ?_
    refine omg_Mo_187 B F od_Mo_caseBound_20 ?_
    refine ox_icmp_ge B 104 od_Mo_caseBound_23 rfl (fun hc => ?_) (fun hc => ?_)
    · rw [if_pos hc] at h
      refine ox_aload_n B 0 od_Mo_caseBound_104 rfl rfl ?_
      obtain ⟨r1, s2, hr1, h⟩ := ox_b2_some h
      refine omc_Mo_235 B F od_Mo_caseBound_105 (As := []) (rest := []) (st2 := [.int r1]) (ct_om_Mo_boundNow hok σ _ hr1) ⟨rfl, rfl, Nat.le_of_ble_eq_true rfl, Nat.le_of_ble_eq_true rfl⟩ rfl (Nat.le_of_ble_eq_true rfl) rfl rfl ?_
      cases h
      exact ox_iret B F od_Mo_caseBound_108 rfl rfl hG
    · rw [if_neg hc] at h
      refine ox_iload_n B 3 od_Mo_caseBound_26 rfl rfl ?_
      refine ox_iconst B od_Mo_caseBound_27 oxk_i1 ?_
      refine ox_iadd B od_Mo_caseBound_28 ?_
      obtain ⟨v3, ev3, h⟩ := ox_let_some h
      refine ox_topi ev3 ?_
      refine ox_istore B od_Mo_caseBound_29 (by decide) rfl (L2 := [some (.ref (ad 0)), some (.int x1), some (.int x2), some (.int x3), some (.int v3)]) rfl ?_
      exact (t_31 x1 x2 x3 v3 σ _ h hG)
  have t_18 : ∀ (x1 : Int32) (x2 : Int32) (x3 : Int32) (σ : ox_S) (t : (Int32 × ox_S)), om_Mo_caseBound_h18 x1 x2 x3 σ = some t → (fun t : (Int32 × ox_S) => res = some (.int t.1) ∧ σf = t.2) t → ox_M p l e rm_om_Mo_caseBound s m args below meth c (om_W D ad cI cC cZ A) 5 res σf 18 [some (.ref (ad 0)), some (.int x1), some (.int x2), some (.int x3), none] [] σ := by
    intro x1 x2 x3 σ t h hG
    exact ox_w_run (fun t : (Int32 × Int32 × ox_S) => ox_M p l e rm_om_Mo_caseBound s m args below meth c (om_W D ad cI cC cZ A) 5 res σf 18 [some (.ref (ad 0)), some (.int x1), some (.int t.1), some (.int t.2.1), none] [] t.2.2) (fun t : (Int32 × ox_S) => res = some (.int t.1) ∧ σf = t.2) (fun a t h hG => t_b18 x1 a.1 a.2.1 a.2.2 t h hG) (x2, x3, σ) t h hG
  change ox_M p l e rm_om_Mo_caseBound s m args below meth c (om_W D ad cI cC cZ A) 5 res σf 0 [some (.ref (ad 0)), some (.int x1), none, none, none] [] σ
  unfold om_Mo_caseBound at h
  refine ox_iload_n B 1 od_Mo_caseBound_0 rfl rfl ?_
  refine ox_if_lt B 12 od_Mo_caseBound_1 rfl (fun hc => ?_) (fun hc => ?_)
  · rw [if_pos hc] at h
    refine ox_iconst B od_Mo_caseBound_12 oxk_im1 ?_
    cases h
    exact ox_iret B F od_Mo_caseBound_13 rfl rfl hG
  · rw [if_neg hc] at h
    refine ox_iload_n B 1 od_Mo_caseBound_4 rfl rfl ?_
    refine ox_aload_n B 0 od_Mo_caseBound_5 rfl rfl ?_
    refine omg_Mo_196 B F od_Mo_caseBound_6 ?_
    refine ox_icmp_lt B 14 od_Mo_caseBound_9 rfl (fun hc => ?_) (fun hc => ?_)
    · rw [if_pos hc] at h
      refine ox_iconst B od_Mo_caseBound_14 oxk_i0 ?_
      refine ox_istore_n B 2 od_Mo_caseBound_15 rfl (by decide) rfl (L2 := [some (.ref (ad 0)), some (.int x1), some (.int (0 : Int32)), none, none]) rfl ?_
      refine ox_iconst B od_Mo_caseBound_16 oxk_i0 ?_
      refine ox_istore_n B 3 od_Mo_caseBound_17 rfl (by decide) rfl (L2 := [some (.ref (ad 0)), some (.int x1), some (.int (0 : Int32)), some (.int (0 : Int32)), none]) rfl ?_
      exact (t_18 x1 (0 : Int32) (0 : Int32) σ _ h hG)
    · rw [if_neg hc] at h
      refine ox_iconst B od_Mo_caseBound_12 oxk_im1 ?_
      cases h
      exact ox_iret B F od_Mo_caseBound_13 rfl rfl hG
abbrev rm_om_Mo_proves : Room := { frames := 6, cells := 0, slots := 0, locals := 142 }
set_option maxRecDepth 100000 in
set_option maxHeartbeats 4000000 in
theorem ct_om_Mo_proves {l : Launch} {D : va_G} {ad : Nat → Nat} {cI cC cZ : ClassId} {A : Nat → Prop} (hok : ox_ok (om_W D ad cI cC cZ A)) (x1 : Int32) (σ : ox_S) (t : (Int32 × ox_S)) (h : om_Mo_proves x1 σ = some t) : Met l oy_Mo_proves (Cond.code oy_Mo_proves prog_11_method_61_code 5 (some .boolean) :: ox_ws) rm_om_Mo_proves (ox_P (om_W D ad cI cC cZ A) [.ref (ad 0), .int x1] σ) (ox_Q (om_W D ad cI cC cZ A) (some (.int t.1)) t.2) 0 0 A := by
  refine ox_met (ω := om_W D ad cI cC cZ A) (by decide) rfl hok (Nat.le_of_ble_eq_true rfl) ?_
  intro p e s m args below meth c B F
  generalize hres : (some (.int t.1) : Option Value) = res
  generalize hσf : t.2 = σf
  have hG : (fun t : (Int32 × ox_S) => res = some (.int t.1) ∧ σf = t.2) t := ⟨hres.symm, hσf.symm⟩
  have t_b7 : ∀ (x1 : Int32) (x2 : Int32) (x3 : Int32) (σ : ox_S) (t : ((Int32 × Int32 × ox_S) ⊕ (Int32 × ox_S))), om_Mo_proves_b7 x1 x2 x3 σ = some t → (ox_G (fun t : (Int32 × Int32 × ox_S) => ox_M p l e rm_om_Mo_proves s m args below meth c (om_W D ad cI cC cZ A) 5 res σf 7 [some (.ref (ad 0)), some (.int x1), some (.int t.1), some (.int t.2.1), none] [] t.2.2) (fun t : (Int32 × ox_S) => res = some (.int t.1) ∧ σf = t.2)) t → ox_M p l e rm_om_Mo_proves s m args below meth c (om_W D ad cI cC cZ A) 5 res σf 7 [some (.ref (ad 0)), some (.int x1), some (.int x2), some (.int x3), none] [] σ := by
    intro x1 x2 x3 σ t h hG
    unfold om_Mo_proves_b7 at h
    refine ox_iload_n B 3 od_Mo_proves_7 rfl rfl ?_
    refine ox_aload_n B 0 od_Mo_proves_8 rfl rfl ?_
    refine omg_Mo_196 B F od_Mo_proves_9 ?_
    refine ox_icmp_ge B 51 od_Mo_proves_12 rfl (fun hc => ?_) (fun hc => ?_)
    · rw [if_pos hc] at h
      refine ox_iload_n B 2 od_Mo_proves_51 rfl rfl ?_
      obtain ⟨hz, h⟩ := ox_z_some h
      cases h
      exact ox_iret B F od_Mo_proves_52 rfl (ox_nz hz) hG
    · rw [if_neg hc] at h
      refine ox_iload_n B 2 od_Mo_proves_15 rfl rfl ?_
      refine ox_if_eq B 51 od_Mo_proves_16 rfl (fun hc => ?_) (fun hc => ?_)
      · rw [if_pos hc] at h
        refine ox_iload_n B 2 od_Mo_proves_51 rfl rfl ?_
        obtain ⟨hz, h⟩ := ox_z_some h
        cases h
        exact ox_iret B F od_Mo_proves_52 rfl (ox_nz hz) hG
      · rw [if_neg hc] at h
        refine ox_aload_n B 0 od_Mo_proves_19 rfl rfl ?_
        refine ox_iload_n B 3 od_Mo_proves_20 rfl rfl ?_
        obtain ⟨r3, s4, hr3, h⟩ := ox_b2_some h
        refine omc_Mo_281 B F od_Mo_proves_21 (As := [.int x3]) (rest := []) (st2 := [.int r3]) (ct_om_Mo_caseBound hok x3 σ _ hr3) ⟨rfl, rfl, Nat.le_of_ble_eq_true rfl, Nat.le_of_ble_eq_true rfl⟩ rfl (Nat.le_of_ble_eq_true rfl) rfl rfl ?_
        refine ox_istore B od_Mo_proves_24 (by decide) rfl (L2 := [some (.ref (ad 0)), some (.int x1), some (.int x2), some (.int x3), some (.int r3)]) rfl ?_
        refine ox_aload_n B 0 od_Mo_proves_26 rfl rfl ?_
        obtain ⟨r5, s6, hr5, h⟩ := ox_b2_some h
        refine omc_Mo_228 B F od_Mo_proves_27 (As := []) (rest := []) (st2 := [.int r5]) (ct_om_Mo_tree hok s4 _ hr5) ⟨rfl, rfl, Nat.le_of_ble_eq_true rfl, Nat.le_of_ble_eq_true rfl⟩ rfl (Nat.le_of_ble_eq_true rfl) rfl rfl ?_
        refine ox_if_eq B 39 od_Mo_proves_30 rfl (fun hc => ?_) (fun hc => ?_)
        · rw [if_pos hc] at h
          refine ox_iconst B od_Mo_proves_39 oxk_i1 ?_
          refine ox_goto B 44 od_Mo_proves_40 rfl ?_
          refine ox_istore_n B 2 od_Mo_proves_44 rfl (by decide) rfl (L2 := [some (.ref (ad 0)), some (.int x1), some (.int (1 : Int32)), some (.int x3), some (.int r3)]) rfl ?_
          obtain ⟨v7, ev7, h⟩ := ox_let_some h
          refine ox_iinc B od_Mo_proves_45 rfl ((congrArg (x3 + ·) oxk_i1).trans ev7.symm) (by decide) rfl (L2 := [some (.ref (ad 0)), some (.int x1), some (.int (1 : Int32)), some (.int v7), some (.int r3)]) rfl ?_
          refine ox_goto B 7 od_Mo_proves_48 rfl ?_
          cases h
          exact (ox_mask [true, true, true, true, false] hG)
        · rw [if_neg hc] at h
          refine ox_iload B od_Mo_proves_33 rfl ?_
          refine ox_iload_n B 1 od_Mo_proves_35 rfl rfl ?_
          refine ox_icmp_lt B 43 od_Mo_proves_36 rfl (fun hc => ?_) (fun hc => ?_)
          · rw [if_pos hc] at h
            refine ox_iconst B od_Mo_proves_43 oxk_i0 ?_
            refine ox_istore_n B 2 od_Mo_proves_44 rfl (by decide) rfl (L2 := [some (.ref (ad 0)), some (.int x1), some (.int (0 : Int32)), some (.int x3), some (.int r3)]) rfl ?_
            obtain ⟨v8, ev8, h⟩ := ox_let_some h
            refine ox_iinc B od_Mo_proves_45 rfl ((congrArg (x3 + ·) oxk_i1).trans ev8.symm) (by decide) rfl (L2 := [some (.ref (ad 0)), some (.int x1), some (.int (0 : Int32)), some (.int v8), some (.int r3)]) rfl ?_
            refine ox_goto B 7 od_Mo_proves_48 rfl ?_
            cases h
            exact (ox_mask [true, true, true, true, false] hG)
          · rw [if_neg hc] at h
            refine ox_iconst B od_Mo_proves_39 oxk_i1 ?_
            refine ox_goto B 44 od_Mo_proves_40 rfl ?_
            refine ox_istore_n B 2 od_Mo_proves_44 rfl (by decide) rfl (L2 := [some (.ref (ad 0)), some (.int x1), some (.int (1 : Int32)), some (.int x3), some (.int r3)]) rfl ?_
            obtain ⟨v9, ev9, h⟩ := ox_let_some h
            refine ox_iinc B od_Mo_proves_45 rfl ((congrArg (x3 + ·) oxk_i1).trans ev9.symm) (by decide) rfl (L2 := [some (.ref (ad 0)), some (.int x1), some (.int (1 : Int32)), some (.int v9), some (.int r3)]) rfl ?_
            refine ox_goto B 7 od_Mo_proves_48 rfl ?_
            cases h
            exact (ox_mask [true, true, true, true, false] hG)
  have t_7 : ∀ (x1 : Int32) (x2 : Int32) (x3 : Int32) (σ : ox_S) (t : (Int32 × ox_S)), om_Mo_proves_h7 x1 x2 x3 σ = some t → (fun t : (Int32 × ox_S) => res = some (.int t.1) ∧ σf = t.2) t → ox_M p l e rm_om_Mo_proves s m args below meth c (om_W D ad cI cC cZ A) 5 res σf 7 [some (.ref (ad 0)), some (.int x1), some (.int x2), some (.int x3), none] [] σ := by
    intro x1 x2 x3 σ t h hG
    exact ox_w_run (fun t : (Int32 × Int32 × ox_S) => ox_M p l e rm_om_Mo_proves s m args below meth c (om_W D ad cI cC cZ A) 5 res σf 7 [some (.ref (ad 0)), some (.int x1), some (.int t.1), some (.int t.2.1), none] [] t.2.2) (fun t : (Int32 × ox_S) => res = some (.int t.1) ∧ σf = t.2) (fun a t h hG => t_b7 x1 a.1 a.2.1 a.2.2 t h hG) (x2, x3, σ) t h hG
  change ox_M p l e rm_om_Mo_proves s m args below meth c (om_W D ad cI cC cZ A) 5 res σf 0 [some (.ref (ad 0)), some (.int x1), none, none, none] [] σ
  unfold om_Mo_proves at h
  refine ox_aload_n B 0 od_Mo_proves_0 rfl rfl ?_
  obtain ⟨r1, s2, hr1, h⟩ := ox_b2_some h
  refine omc_Mo_278 B F od_Mo_proves_1 (As := []) (rest := []) (st2 := [.int r1]) (ct_om_Mo_covers hok σ _ hr1) ⟨rfl, rfl, Nat.le_of_ble_eq_true rfl, Nat.le_of_ble_eq_true rfl⟩ rfl (Nat.le_of_ble_eq_true rfl) rfl rfl ?_
  refine ox_istore_n B 2 od_Mo_proves_4 rfl (by decide) rfl (L2 := [some (.ref (ad 0)), some (.int x1), some (.int r1), none, none]) rfl ?_
  refine ox_iconst B od_Mo_proves_5 oxk_i0 ?_
  refine ox_istore_n B 3 od_Mo_proves_6 rfl (by decide) rfl (L2 := [some (.ref (ad 0)), some (.int x1), some (.int r1), some (.int (0 : Int32)), none]) rfl ?_
  exact (t_7 x1 r1 (0 : Int32) s2 _ h hG)
