abbrev rm_oc_Text_byteOf : Room := { frames := 0, cells := 0, slots := 0, locals := 0 }
set_option maxRecDepth 100000 in
set_option maxHeartbeats 4000000 in
theorem ct_oc_Text_byteOf {l : Launch} {D : va_G} {ad : Nat → Nat} {cI cC : ClassId} {A : Nat → Prop} {adK adV : Nat → Nat} (hok : ox_ok (oc_W D ad cI cC A adK adV)) (x0 : Int64) (x2 : Int32) (σ : ox_S) (t : Int32) (h : oc_Text_byteOf x0 x2 σ = some t) : Met l oy_Text_byteOf (Cond.code oy_Text_byteOf prog_8_method_4_code 3 (some .int) :: ox_ws) rm_oc_Text_byteOf (ox_P (oc_W D ad cI cC A adK adV) [.long x0, .int x2] σ) (ox_Q (oc_W D ad cI cC A adK adV) (some (.int t)) σ) 0 0 A := by
  refine ox_met (ω := oc_W D ad cI cC A adK adV) (by decide) rfl hok (Nat.le_of_ble_eq_true rfl) ?_
  intro p e s m args below meth c B F
  generalize hres : (some (.int t) : Option Value) = res
  have hG : (fun t : Int32 => res = some (.int t) ∧ σ = σ) t := ⟨hres.symm, rfl⟩
  change ox_M p l e rm_oc_Text_byteOf s m args below meth c (oc_W D ad cI cC A adK adV) 3 res σ 0 [some (.long x0), none, some (.int x2)] [] σ
  unfold oc_Text_byteOf at h
  refine ox_lload_n B 0 od_Text_byteOf_0 rfl rfl ?_
  refine ox_bipush B od_Text_byteOf_1 oxk_b8 ?_
  refine ox_iload_n B 2 od_Text_byteOf_3 rfl rfl ?_
  refine ox_imul B od_Text_byteOf_4 ?_
  refine ox_lushr B od_Text_byteOf_5 ?_
  refine ox_l2i B od_Text_byteOf_6 ?_
  refine ox_sipush B od_Text_byteOf_7 oxk_s255 ?_
  refine ox_iand B od_Text_byteOf_10 ?_
  cases h
  exact ox_iret B F od_Text_byteOf_11 rfl rfl hG
abbrev rm_oc_Text_countGood : Room := { frames := 1, cells := 0, slots := 0, locals := 22 }
set_option maxRecDepth 100000 in
set_option maxHeartbeats 4000000 in
theorem ct_oc_Text_countGood {l : Launch} {D : va_G} {ad : Nat → Nat} {cI cC : ClassId} {A : Nat → Prop} {adK adV : Nat → Nat} (hok : ox_ok (oc_W D ad cI cC A adK adV)) (x0 : Int64) (σ : ox_S) (t : Int32) (h : oc_Text_countGood x0 σ = some t) : Met l oy_Text_countGood (Cond.code oy_Text_countGood prog_8_method_3_code 5 (some .int) :: ox_ws) rm_oc_Text_countGood (ox_P (oc_W D ad cI cC A adK adV) [.long x0] σ) (ox_Q (oc_W D ad cI cC A adK adV) (some (.int t)) σ) 0 0 A := by
  refine ox_met (ω := oc_W D ad cI cC A adK adV) (by decide) rfl hok (Nat.le_of_ble_eq_true rfl) ?_
  intro p e s m args below meth c B F
  generalize hres : (some (.int t) : Option Value) = res
  have hG : (fun t : Int32 => res = some (.int t) ∧ σ = σ) t := ⟨hres.symm, rfl⟩
  have t_b4 : ∀ (x0 : Int64) (x2 : Int32) (x3 : Int32)  (t : ((Int32 × Int32) ⊕ Int32)), oc_Text_countGood_b4 x0 x2 x3 σ = some t → (ox_G (fun t : (Int32 × Int32) => ox_M p l e rm_oc_Text_countGood s m args below meth c (oc_W D ad cI cC A adK adV) 5 res σ 4 [some (.long x0), none, some (.int t.1), some (.int t.2), none] [] σ) (fun t : Int32 => res = some (.int t) ∧ σ = σ)) t → ox_M p l e rm_oc_Text_countGood s m args below meth c (oc_W D ad cI cC A adK adV) 5 res σ 4 [some (.long x0), none, some (.int x2), some (.int x3), none] [] σ := by
    intro x0 x2 x3  t h hG
    unfold oc_Text_countGood_b4 at h
    refine ox_iload_n B 3 od_Text_countGood_4 rfl rfl ?_
    refine ox_bipush B od_Text_countGood_5 oxk_b8 ?_
    refine ox_icmp_ge B 57 od_Text_countGood_7 rfl (fun hc => ?_) (fun hc => ?_)
    · rw [if_pos hc] at h
      refine ox_iload_n B 2 od_Text_countGood_57 rfl rfl ?_
      cases h
      exact ox_iret B F od_Text_countGood_58 rfl rfl hG
    · rw [if_neg hc] at h
      refine ox_lload_n B 0 od_Text_countGood_10 rfl rfl ?_
      refine ox_iload_n B 3 od_Text_countGood_11 rfl rfl ?_
      obtain ⟨r1, hr1, h⟩ := ox_bind h
      refine occ_Text_23 B F od_Text_countGood_12 (As := [.long x0, .int x3]) (rest := []) (st2 := [.int r1]) (ct_oc_Text_byteOf hok x0 x3 σ _ hr1) ⟨rfl, rfl, Nat.le_of_ble_eq_true rfl, Nat.le_of_ble_eq_true rfl⟩ rfl (Nat.le_of_ble_eq_true rfl) rfl rfl ?_
      refine ox_istore B od_Text_countGood_15 (by decide) rfl (L2 := [some (.long x0), none, some (.int x2), some (.int x3), some (.int r1)]) rfl ?_
      refine ox_iload B od_Text_countGood_17 rfl ?_
      refine ox_bipush B od_Text_countGood_19 oxk_b10 ?_
      refine ox_icmp_eq B 38 od_Text_countGood_21 rfl (fun hc => ?_) (fun hc => ?_)
      · rw [if_pos hc] at h
        obtain ⟨v2, ev2, h⟩ := ox_let_some h
        refine ox_iinc B od_Text_countGood_38 rfl ((congrArg (x2 + ·) oxk_i1).trans ev2.symm) (by decide) rfl (L2 := [some (.long x0), none, some (.int v2), some (.int x3), some (.int r1)]) rfl ?_
        refine ox_goto B 51 od_Text_countGood_41 rfl ?_
        obtain ⟨v3, ev3, h⟩ := ox_let_some h
        refine ox_iinc B od_Text_countGood_51 rfl ((congrArg (x3 + ·) oxk_i1).trans ev3.symm) (by decide) rfl (L2 := [some (.long x0), none, some (.int v2), some (.int v3), some (.int r1)]) rfl ?_
        refine ox_goto B 4 od_Text_countGood_54 rfl ?_
        cases h
        exact (ox_mask [true, false, true, true, false] hG)
      · rw [if_neg hc] at h
        refine ox_iload B od_Text_countGood_24 rfl ?_
        refine ox_bipush B od_Text_countGood_26 oxk_b32 ?_
        refine ox_icmp_lt B 44 od_Text_countGood_28 rfl (fun hc => ?_) (fun hc => ?_)
        · rw [if_pos hc] at h
          refine ox_iload B od_Text_countGood_44 rfl ?_
          refine ox_if_eq B 51 od_Text_countGood_46 rfl (fun hc => ?_) (fun hc => ?_)
          · rw [if_pos hc] at h
            obtain ⟨v4, ev4, h⟩ := ox_let_some h
            refine ox_iinc B od_Text_countGood_51 rfl ((congrArg (x3 + ·) oxk_i1).trans ev4.symm) (by decide) rfl (L2 := [some (.long x0), none, some (.int x2), some (.int v4), some (.int r1)]) rfl ?_
            refine ox_goto B 4 od_Text_countGood_54 rfl ?_
            cases h
            exact (ox_mask [true, false, true, true, false] hG)
          · rw [if_neg hc] at h
            refine ox_iconst B od_Text_countGood_49 oxk_im1 ?_
            cases h
            exact ox_iret B F od_Text_countGood_50 rfl rfl hG
        · rw [if_neg hc] at h
          refine ox_iload B od_Text_countGood_31 rfl ?_
          refine ox_bipush B od_Text_countGood_33 oxk_b126 ?_
          refine ox_icmp_gt B 44 od_Text_countGood_35 rfl (fun hc => ?_) (fun hc => ?_)
          · rw [if_pos hc] at h
            refine ox_iload B od_Text_countGood_44 rfl ?_
            refine ox_if_eq B 51 od_Text_countGood_46 rfl (fun hc => ?_) (fun hc => ?_)
            · rw [if_pos hc] at h
              obtain ⟨v5, ev5, h⟩ := ox_let_some h
              refine ox_iinc B od_Text_countGood_51 rfl ((congrArg (x3 + ·) oxk_i1).trans ev5.symm) (by decide) rfl (L2 := [some (.long x0), none, some (.int x2), some (.int v5), some (.int r1)]) rfl ?_
              refine ox_goto B 4 od_Text_countGood_54 rfl ?_
              cases h
              exact (ox_mask [true, false, true, true, false] hG)
            · rw [if_neg hc] at h
              refine ox_iconst B od_Text_countGood_49 oxk_im1 ?_
              cases h
              exact ox_iret B F od_Text_countGood_50 rfl rfl hG
          · rw [if_neg hc] at h
            obtain ⟨v6, ev6, h⟩ := ox_let_some h
            refine ox_iinc B od_Text_countGood_38 rfl ((congrArg (x2 + ·) oxk_i1).trans ev6.symm) (by decide) rfl (L2 := [some (.long x0), none, some (.int v6), some (.int x3), some (.int r1)]) rfl ?_
            refine ox_goto B 51 od_Text_countGood_41 rfl ?_
            obtain ⟨v7, ev7, h⟩ := ox_let_some h
            refine ox_iinc B od_Text_countGood_51 rfl ((congrArg (x3 + ·) oxk_i1).trans ev7.symm) (by decide) rfl (L2 := [some (.long x0), none, some (.int v6), some (.int v7), some (.int r1)]) rfl ?_
            refine ox_goto B 4 od_Text_countGood_54 rfl ?_
            cases h
            exact (ox_mask [true, false, true, true, false] hG)
  have t_4 : ∀ (x0 : Int64) (x2 : Int32) (x3 : Int32)  (t : Int32), oc_Text_countGood_h4 x0 x2 x3 σ = some t → (fun t : Int32 => res = some (.int t) ∧ σ = σ) t → ox_M p l e rm_oc_Text_countGood s m args below meth c (oc_W D ad cI cC A adK adV) 5 res σ 4 [some (.long x0), none, some (.int x2), some (.int x3), none] [] σ := by
    intro x0 x2 x3  t h hG
    exact ox_w_run (fun t : (Int32 × Int32) => ox_M p l e rm_oc_Text_countGood s m args below meth c (oc_W D ad cI cC A adK adV) 5 res σ 4 [some (.long x0), none, some (.int t.1), some (.int t.2), none] [] σ) (fun t : Int32 => res = some (.int t) ∧ σ = σ) (fun a t h hG => t_b4 x0 a.1 a.2  t h hG) (x2, x3) t h hG
  change ox_M p l e rm_oc_Text_countGood s m args below meth c (oc_W D ad cI cC A adK adV) 5 res σ 0 [some (.long x0), none, none, none, none] [] σ
  unfold oc_Text_countGood at h
  refine ox_iconst B od_Text_countGood_0 oxk_i0 ?_
  refine ox_istore_n B 2 od_Text_countGood_1 rfl (by decide) rfl (L2 := [some (.long x0), none, some (.int (0 : Int32)), none, none]) rfl ?_
  refine ox_iconst B od_Text_countGood_2 oxk_i0 ?_
  refine ox_istore_n B 3 od_Text_countGood_3 rfl (by decide) rfl (L2 := [some (.long x0), none, some (.int (0 : Int32)), some (.int (0 : Int32)), none]) rfl ?_
  exact (t_4 x0 (0 : Int32) (0 : Int32) _ h hG)
abbrev rm_oc_Text_append : Room := { frames := 2, cells := 0, slots := 0, locals := 46 }
set_option maxRecDepth 100000 in
set_option maxHeartbeats 4000000 in
theorem ct_oc_Text_append {l : Launch} {D : va_G} {ad : Nat → Nat} {cI cC : ClassId} {A : Nat → Prop} {adK adV : Nat → Nat} (hok : ox_ok (oc_W D ad cI cC A adK adV)) (x1 : Int64) (σ : ox_S) (t : (Int32 × ox_S)) (h : oc_Text_append x1 σ = some t) : Met l oy_Text_append (Cond.code oy_Text_append prog_8_method_2_code 6 (some .boolean) :: ox_ws) rm_oc_Text_append (ox_P (oc_W D ad cI cC A adK adV) [.ref (ad 1), .long x1] σ) (ox_Q (oc_W D ad cI cC A adK adV) (some (.int t.1)) t.2) 0 0 A := by
  refine ox_met (ω := oc_W D ad cI cC A adK adV) (by decide) rfl hok (Nat.le_of_ble_eq_true rfl) ?_
  intro p e s m args below meth c B F
  generalize hres : (some (.int t.1) : Option Value) = res
  generalize hσf : t.2 = σf
  have hG : (fun t : (Int32 × ox_S) => res = some (.int t.1) ∧ σf = t.2) t := ⟨hres.symm, hσf.symm⟩
  have t_b26 : ∀ (x1 : Int64) (x4 : Int32) (σ : ox_S) (t : ((Int32 × ox_S) ⊕ (Int32 × ox_S))), oc_Text_append_b26 x1 x4 σ = some t → (ox_G (fun t : (Int32 × ox_S) => ox_M p l e rm_oc_Text_append s m args below meth c (oc_W D ad cI cC A adK adV) 6 res σf 26 [some (.ref (ad 1)), some (.long x1), none, none, some (.int t.1), none] [] t.2) (fun t : (Int32 × ox_S) => res = some (.int t.1) ∧ σf = t.2)) t → ox_M p l e rm_oc_Text_append s m args below meth c (oc_W D ad cI cC A adK adV) 6 res σf 26 [some (.ref (ad 1)), some (.long x1), none, none, some (.int x4), none] [] σ := by
    intro x1 x4 σ t h hG
    unfold oc_Text_append_b26 at h
    refine ox_iload B od_Text_append_26 rfl ?_
    refine ox_bipush B od_Text_append_28 oxk_b8 ?_
    refine ox_icmp_ge B 74 od_Text_append_30 rfl (fun hc => ?_) (fun hc => ?_)
    · rw [if_pos hc] at h
      refine ox_iconst B od_Text_append_74 oxk_i1 ?_
      cases h
      exact ox_iret B F od_Text_append_75 rfl (ox_nz (Or.inr rfl)) hG
    · rw [if_neg hc] at h
      refine ox_lload_n B 1 od_Text_append_33 rfl rfl ?_
      refine ox_iload B od_Text_append_34 rfl ?_
      obtain ⟨r2, hr2, h⟩ := ox_bind h
      refine occ_Text_23 B F od_Text_append_36 (As := [.long x1, .int x4]) (rest := []) (st2 := [.int r2]) (ct_oc_Text_byteOf hok x1 x4 σ _ hr2) ⟨rfl, rfl, Nat.le_of_ble_eq_true rfl, Nat.le_of_ble_eq_true rfl⟩ rfl (Nat.le_of_ble_eq_true rfl) rfl rfl ?_
      refine ox_istore B od_Text_append_39 (by decide) rfl (L2 := [some (.ref (ad 1)), some (.long x1), none, none, some (.int x4), some (.int r2)]) rfl ?_
      refine ox_iload B od_Text_append_41 rfl ?_
      refine ox_if_eq B 68 od_Text_append_43 rfl (fun hc => ?_) (fun hc => ?_)
      · rw [if_pos hc] at h
        obtain ⟨v3, ev3, h⟩ := ox_let_some h
        refine ox_iinc B od_Text_append_68 rfl ((congrArg (x4 + ·) oxk_i1).trans ev3.symm) (by decide) rfl (L2 := [some (.ref (ad 1)), some (.long x1), none, none, some (.int v3), some (.int r2)]) rfl ?_
        refine ox_goto B 26 od_Text_append_71 rfl ?_
        cases h
        exact (ox_mask [true, true, false, false, true, false] hG)
      · rw [if_neg hc] at h
        refine ox_aload_n B 0 od_Text_append_46 rfl rfl ?_
        refine ocg_Text_9 B F od_Text_append_47 ?_
        refine ox_aload_n B 0 od_Text_append_50 rfl rfl ?_
        refine ocg_Text_15 B F od_Text_append_51 ?_
        refine ox_iload B od_Text_append_54 rfl ?_
        refine ox_i2c B od_Text_append_56 ?_
        obtain ⟨j4, ej4, hj4, h⟩ := ox_ix_some2 h
        obtain ⟨s5, es5, h⟩ := ox_let_some h
        refine ocas_0 B F od_Text_append_57 hj4 ej4 es5 ?_
        refine ox_aload_n B 0 od_Text_append_58 rfl rfl ?_
        refine ox_dup B od_Text_append_59 rfl ?_
        refine ocg_Text_15 B F od_Text_append_60 ?_
        refine ox_iconst B od_Text_append_63 oxk_i1 ?_
        refine ox_iadd B od_Text_append_64 ?_
        obtain ⟨s6, es6, h⟩ := ox_let_some h
        refine ocp_Text_15 B F od_Text_append_65 es6 ?_
        obtain ⟨v7, ev7, h⟩ := ox_let_some h
        refine ox_iinc B od_Text_append_68 rfl ((congrArg (x4 + ·) oxk_i1).trans ev7.symm) (by decide) rfl (L2 := [some (.ref (ad 1)), some (.long x1), none, none, some (.int v7), some (.int r2)]) rfl ?_
        refine ox_goto B 26 od_Text_append_71 rfl ?_
        cases h
        exact (ox_mask [true, true, false, false, true, false] hG)
  have t_26 : ∀ (x1 : Int64) (x4 : Int32) (σ : ox_S) (t : (Int32 × ox_S)), oc_Text_append_h26 x1 x4 σ = some t → (fun t : (Int32 × ox_S) => res = some (.int t.1) ∧ σf = t.2) t → ox_M p l e rm_oc_Text_append s m args below meth c (oc_W D ad cI cC A adK adV) 6 res σf 26 [some (.ref (ad 1)), some (.long x1), none, none, some (.int x4), none] [] σ := by
    intro x1 x4 σ t h hG
    exact ox_w_run (fun t : (Int32 × ox_S) => ox_M p l e rm_oc_Text_append s m args below meth c (oc_W D ad cI cC A adK adV) 6 res σf 26 [some (.ref (ad 1)), some (.long x1), none, none, some (.int t.1), none] [] t.2) (fun t : (Int32 × ox_S) => res = some (.int t.1) ∧ σf = t.2) (fun a t h hG => t_b26 x1 a.1 a.2 t h hG) (x4, σ) t h hG
  change ox_M p l e rm_oc_Text_append s m args below meth c (oc_W D ad cI cC A adK adV) 6 res σf 0 [some (.ref (ad 1)), some (.long x1), none, none, none, none] [] σ
  unfold oc_Text_append at h
  refine ox_lload_n B 1 od_Text_append_0 rfl rfl ?_
  obtain ⟨r1, hr1, h⟩ := ox_bind h
  refine occ_Text_19 B F od_Text_append_1 (As := [.long x1]) (rest := []) (st2 := [.int r1]) (ct_oc_Text_countGood hok x1 σ _ hr1) ⟨rfl, rfl, Nat.le_of_ble_eq_true rfl, Nat.le_of_ble_eq_true rfl⟩ rfl (Nat.le_of_ble_eq_true rfl) rfl rfl ?_
  refine ox_istore_n B 3 od_Text_append_4 rfl (by decide) rfl (L2 := [some (.ref (ad 1)), some (.long x1), none, some (.int r1), none, none]) rfl ?_
  refine ox_iload_n B 3 od_Text_append_5 rfl rfl ?_
  refine ox_if_lt B 21 od_Text_append_6 rfl (fun hc => ?_) (fun hc => ?_)
  · rw [if_pos hc] at h
    refine ox_iconst B od_Text_append_21 oxk_i0 ?_
    cases h
    exact ox_iret B F od_Text_append_22 rfl (ox_nz (Or.inl rfl)) hG
  · rw [if_neg hc] at h
    refine ox_aload_n B 0 od_Text_append_9 rfl rfl ?_
    refine ocg_Text_15 B F od_Text_append_10 ?_
    refine ox_iload_n B 3 od_Text_append_13 rfl rfl ?_
    refine ox_iadd B od_Text_append_14 ?_
    refine ox_sipush B od_Text_append_15 oxk_s480 ?_
    refine ox_icmp_le B 23 od_Text_append_18 rfl (fun hc => ?_) (fun hc => ?_)
    · rw [if_pos hc] at h
      refine ox_iconst B od_Text_append_23 oxk_i0 ?_
      refine ox_istore B od_Text_append_24 (by decide) rfl (L2 := [some (.ref (ad 1)), some (.long x1), none, some (.int r1), some (.int (0 : Int32)), none]) rfl ?_
      exact (ox_mask [true, true, false, false, true, false] (t_26 x1 (0 : Int32) σ _ h hG))
    · rw [if_neg hc] at h
      refine ox_iconst B od_Text_append_21 oxk_i0 ?_
      cases h
      exact ox_iret B F od_Text_append_22 rfl (ox_nz (Or.inl rfl)) hG
abbrev rm_oc_T_write : Room := { frames := 3, cells := 0, slots := 0, locals := 71 }
set_option maxRecDepth 100000 in
set_option maxHeartbeats 4000000 in
theorem ct_oc_T_write {l : Launch} {D : va_G} {ad : Nat → Nat} {cI cC : ClassId} {A : Nat → Prop} {adK adV : Nat → Nat} (hok : ox_ok (oc_W D ad cI cC A adK adV)) (x1 : Int64) (σ : ox_S) (t : (Int32 × ox_S)) (h : oc_T_write x1 σ = some t) : Met l oy_T_write (Cond.code oy_T_write prog_1_method_2_code 3 (some .boolean) :: ox_ws) rm_oc_T_write (ox_P (oc_W D ad cI cC A adK adV) [.ref (ad 0), .long x1] σ) (ox_Q (oc_W D ad cI cC A adK adV) (some (.int t.1)) t.2) 0 0 A := by
  refine ox_met (ω := oc_W D ad cI cC A adK adV) (by decide) rfl hok (Nat.le_of_ble_eq_true rfl) ?_
  intro p e s m args below meth c B F
  generalize hres : (some (.int t.1) : Option Value) = res
  generalize hσf : t.2 = σf
  have hG : (fun t : (Int32 × ox_S) => res = some (.int t.1) ∧ σf = t.2) t := ⟨hres.symm, hσf.symm⟩
  change ox_M p l e rm_oc_T_write s m args below meth c (oc_W D ad cI cC A adK adV) 3 res σf 0 [some (.ref (ad 0)), some (.long x1), none] [] σ
  unfold oc_T_write at h
  refine ox_aload_n B 0 od_T_write_0 rfl rfl ?_
  refine ocg_T_10 B F od_T_write_1 ?_
  refine ox_lload_n B 1 od_T_write_4 rfl rfl ?_
  obtain ⟨r1, s2, hr1, h⟩ := ox_b2_some h
  refine occ_T_62 B F od_T_write_5 (As := [.long x1]) (rest := []) (st2 := [.int r1]) (ct_oc_Text_append hok x1 σ _ hr1) ⟨rfl, rfl, Nat.le_of_ble_eq_true rfl, Nat.le_of_ble_eq_true rfl⟩ rfl (Nat.le_of_ble_eq_true rfl) rfl rfl ?_
  obtain ⟨hz, h⟩ := ox_z_some h
  cases h
  exact ox_iret B F od_T_write_8 rfl (ox_nz hz) hG
abbrev rm_oc_T_wipe : Room := { frames := 0, cells := 0, slots := 0, locals := 0 }
set_option maxRecDepth 100000 in
set_option maxHeartbeats 4000000 in
theorem ct_oc_T_wipe {l : Launch} {D : va_G} {ad : Nat → Nat} {cI cC : ClassId} {A : Nat → Prop} {adK adV : Nat → Nat} (hok : ox_ok (oc_W D ad cI cC A adK adV))  (σ : ox_S) (t : ox_S) (h : oc_T_wipe  σ = some t) : Met l oy_T_wipe (Cond.code oy_T_wipe prog_1_method_3_code 1 none :: ox_ws) rm_oc_T_wipe (ox_P (oc_W D ad cI cC A adK adV) [.ref (ad 0)] σ) (ox_Q (oc_W D ad cI cC A adK adV) none t) 0 0 A := by
  refine ox_met (ω := oc_W D ad cI cC A adK adV) (by decide) rfl hok (Nat.le_of_ble_eq_true rfl) ?_
  intro p e s m args below meth c B F
  generalize hres : (none : Option Value) = res
  have hG : res = none ∧ t = t := ⟨hres.symm, rfl⟩
  obtain ⟨σf, hσf⟩ : ∃ z, z = t := ⟨_, rfl⟩
  have hG : (fun t : ox_S => res = none ∧ σf = t) t := ⟨hres.symm, hσf⟩
  rw [show ox_M p l e rm_oc_T_wipe s m args below meth c (oc_W D ad cI cC A adK adV) 1 res t 0 (ox_l0 [.ref (ad 0)] 1) [] σ = ox_M p l e rm_oc_T_wipe s m args below meth c (oc_W D ad cI cC A adK adV) 1 res σf 0 (ox_l0 [.ref (ad 0)] 1) [] σ by rw [hσf]]
  change ox_M p l e rm_oc_T_wipe s m args below meth c (oc_W D ad cI cC A adK adV) 1 res σf 0 [some (.ref (ad 0))] [] σ
  unfold oc_T_wipe at h
  refine ox_aload_n B 0 od_T_wipe_0 rfl rfl ?_
  refine ocg_T_10 B F od_T_wipe_1 ?_
  refine ox_iconst B od_T_wipe_4 oxk_i0 ?_
  obtain ⟨s1, es1, h⟩ := ox_let_some h
  refine ocp_T_66 B F od_T_wipe_5 es1 ?_
  cases h
  exact ox_vret B F od_T_wipe_8 rfl hG
abbrev rm_oc_Line_part : Room := { frames := 0, cells := 0, slots := 0, locals := 0 }
set_option maxRecDepth 100000 in
set_option maxHeartbeats 4000000 in
theorem ct_oc_Line_part {l : Launch} {D : va_G} {ad : Nat → Nat} {cI cC : ClassId} {A : Nat → Prop} {adK adV : Nat → Nat} (hok : ox_ok (oc_W D ad cI cC A adK adV)) (x1 : Int32) (x2 : Int32) (σ : ox_S) (t : ox_S) (h : oc_Line_part x1 x2 σ = some t) : Met l oy_Line_part (Cond.code oy_Line_part prog_4_method_2_code 4 none :: ox_ws) rm_oc_Line_part (ox_P (oc_W D ad cI cC A adK adV) [.ref (ad 2), .int x1, .int x2] σ) (ox_Q (oc_W D ad cI cC A adK adV) none t) 0 0 A := by
  refine ox_met (ω := oc_W D ad cI cC A adK adV) (by decide) rfl hok (Nat.le_of_ble_eq_true rfl) ?_
  intro p e s m args below meth c B F
  generalize hres : (none : Option Value) = res
  have hG : res = none ∧ t = t := ⟨hres.symm, rfl⟩
  obtain ⟨σf, hσf⟩ : ∃ z, z = t := ⟨_, rfl⟩
  have hG : (fun t : ox_S => res = none ∧ σf = t) t := ⟨hres.symm, hσf⟩
  rw [show ox_M p l e rm_oc_Line_part s m args below meth c (oc_W D ad cI cC A adK adV) 4 res t 0 (ox_l0 [.ref (ad 2), .int x1, .int x2] 4) [] σ = ox_M p l e rm_oc_Line_part s m args below meth c (oc_W D ad cI cC A adK adV) 4 res σf 0 (ox_l0 [.ref (ad 2), .int x1, .int x2] 4) [] σ by rw [hσf]]
  have t_63 : ∀ (x3 : Int32) (σ : ox_S) (t : ((Int32 × ox_S) ⊕ ox_S)), oc_Line_part_j63 x3 σ = some t → (ox_G (fun t : (Int32 × ox_S) => ox_M p l e rm_oc_Line_part s m args below meth c (oc_W D ad cI cC A adK adV) 4 res σf 20 [some (.ref (ad 2)), none, none, some (.int t.1)] [] t.2) (fun t : ox_S => res = none ∧ σf = t)) t → ox_M p l e rm_oc_Line_part s m args below meth c (oc_W D ad cI cC A adK adV) 4 res σf 63 [some (.ref (ad 2)), none, none, some (.int x3)] [] σ := by
    intro x3 σ t h hG
    unfold oc_Line_part_j63 at h
    refine ox_aload_n B 0 od_Line_part_63 rfl rfl ?_
    refine ocg_Line_11 B F od_Line_part_64 ?_
    refine ox_aload_n B 0 od_Line_part_67 rfl rfl ?_
    refine ocg_Line_25 B F od_Line_part_68 ?_
    refine ox_iload_n B 3 od_Line_part_71 rfl rfl ?_
    obtain ⟨j6, ej6, hj6, h⟩ := ox_ix_some2 h
    obtain ⟨s7, es7, h⟩ := ox_let_some h
    refine ocas_1 B F od_Line_part_72 hj6 ej6 es7 ?_
    refine ox_aload_n B 0 od_Line_part_73 rfl rfl ?_
    refine ox_dup B od_Line_part_74 rfl ?_
    refine ocg_Line_25 B F od_Line_part_75 ?_
    refine ox_iconst B od_Line_part_78 oxk_i1 ?_
    refine ox_iadd B od_Line_part_79 ?_
    obtain ⟨s8, es8, h⟩ := ox_let_some h
    refine ocp_Line_25 B F od_Line_part_80 es8 ?_
    refine ox_aload_n B 0 od_Line_part_83 rfl rfl ?_
    refine ocg_Line_15 B F od_Line_part_84 ?_
    refine ox_aload_n B 0 od_Line_part_87 rfl rfl ?_
    refine ocg_Line_25 B F od_Line_part_88 ?_
    refine ox_iconst B od_Line_part_91 oxk_i1 ?_
    refine ox_isub B od_Line_part_92 ?_
    refine ox_iload_n B 3 od_Line_part_93 rfl rfl ?_
    refine ox_iconst B od_Line_part_94 oxk_i1 ?_
    refine ox_iadd B od_Line_part_95 ?_
    obtain ⟨j9, ej9, hj9, h⟩ := ox_ix_some2 h
    obtain ⟨s10, es10, h⟩ := ox_let_some h
    refine ocas_2 B F od_Line_part_96 hj9 ej9 es10 ?_
    obtain ⟨v11, ev11, h⟩ := ox_let_some h
    refine ox_iinc B od_Line_part_97 rfl ((congrArg (x3 + ·) oxk_i1).trans ev11.symm) (by decide) rfl (L2 := [some (.ref (ad 2)), none, none, some (.int v11)]) rfl ?_
    refine ox_goto B 20 od_Line_part_100 rfl ?_
    cases h
    exact hG
  have t_b20 : ∀ (x3 : Int32) (σ : ox_S) (t : ((Int32 × ox_S) ⊕ ox_S)), oc_Line_part_b20 x3 σ = some t → (ox_G (fun t : (Int32 × ox_S) => ox_M p l e rm_oc_Line_part s m args below meth c (oc_W D ad cI cC A adK adV) 4 res σf 20 [some (.ref (ad 2)), none, none, some (.int t.1)] [] t.2) (fun t : ox_S => res = none ∧ σf = t)) t → ox_M p l e rm_oc_Line_part s m args below meth c (oc_W D ad cI cC A adK adV) 4 res σf 20 [some (.ref (ad 2)), none, none, some (.int x3)] [] σ := by
    intro x3 σ t h hG
    unfold oc_Line_part_b20 at h
    refine ox_iload_n B 3 od_Line_part_20 rfl rfl ?_
    refine ox_aload_n B 0 od_Line_part_21 rfl rfl ?_
    refine ocg_Line_22 B F od_Line_part_22 ?_
    refine ox_icmp_ge B 103 od_Line_part_25 rfl (fun hc => ?_) (fun hc => ?_)
    · rw [if_pos hc] at h
      cases h
      exact ox_vret B F od_Line_part_103 rfl hG
    · rw [if_neg hc] at h
      refine ox_aload_n B 0 od_Line_part_28 rfl rfl ?_
      refine ocg_Line_34 B F od_Line_part_29 ?_
      refine ox_iload_n B 3 od_Line_part_32 rfl rfl ?_
      obtain ⟨j5, ej5, hj5, h⟩ := ox_ix_some2 h
      refine ocal_0 B F od_Line_part_33 hj5 ej5 ?_
      refine ox_bipush B od_Line_part_34 oxk_b32 ?_
      refine ox_icmp_ne B 42 od_Line_part_36 rfl (fun hc => ?_) (fun hc => ?_)
      · rw [if_neg hc] at h
        refine ox_iload_n B 3 od_Line_part_42 rfl rfl ?_
        refine ox_aload_n B 0 od_Line_part_43 rfl rfl ?_
        refine ocg_Line_18 B F od_Line_part_44 ?_
        refine ox_icmp_eq B 63 od_Line_part_47 rfl (fun hc => ?_) (fun hc => ?_)
        · rw [if_pos hc] at h
          exact (t_63 x3 σ _ h hG)
        · rw [if_neg hc] at h
          refine ox_aload_n B 0 od_Line_part_50 rfl rfl ?_
          refine ocg_Line_34 B F od_Line_part_51 ?_
          refine ox_iload_n B 3 od_Line_part_54 rfl rfl ?_
          refine ox_iconst B od_Line_part_55 oxk_i1 ?_
          refine ox_isub B od_Line_part_56 ?_
          obtain ⟨j12, ej12, hj12, h⟩ := ox_ix_some2 h
          refine ocal_0 B F od_Line_part_57 hj12 ej12 ?_
          refine ox_bipush B od_Line_part_58 oxk_b32 ?_
          refine ox_icmp_ne B 83 od_Line_part_60 rfl (fun hc => ?_) (fun hc => ?_)
          · rw [if_neg hc] at h
            refine ox_aload_n B 0 od_Line_part_83 rfl rfl ?_
            refine ocg_Line_15 B F od_Line_part_84 ?_
            refine ox_aload_n B 0 od_Line_part_87 rfl rfl ?_
            refine ocg_Line_25 B F od_Line_part_88 ?_
            refine ox_iconst B od_Line_part_91 oxk_i1 ?_
            refine ox_isub B od_Line_part_92 ?_
            refine ox_iload_n B 3 od_Line_part_93 rfl rfl ?_
            refine ox_iconst B od_Line_part_94 oxk_i1 ?_
            refine ox_iadd B od_Line_part_95 ?_
            obtain ⟨j13, ej13, hj13, h⟩ := ox_ix_some2 h
            obtain ⟨s14, es14, h⟩ := ox_let_some h
            refine ocas_2 B F od_Line_part_96 hj13 ej13 es14 ?_
            obtain ⟨v15, ev15, h⟩ := ox_let_some h
            refine ox_iinc B od_Line_part_97 rfl ((congrArg (x3 + ·) oxk_i1).trans ev15.symm) (by decide) rfl (L2 := [some (.ref (ad 2)), none, none, some (.int v15)]) rfl ?_
            refine ox_goto B 20 od_Line_part_100 rfl ?_
            cases h
            exact hG
          · rw [if_pos hc] at h
            exact (t_63 x3 σ _ h hG)
      · rw [if_pos hc] at h
        refine ox_goto B 97 od_Line_part_39 rfl ?_
        obtain ⟨v16, ev16, h⟩ := ox_let_some h
        refine ox_iinc B od_Line_part_97 rfl ((congrArg (x3 + ·) oxk_i1).trans ev16.symm) (by decide) rfl (L2 := [some (.ref (ad 2)), none, none, some (.int v16)]) rfl ?_
        refine ox_goto B 20 od_Line_part_100 rfl ?_
        cases h
        exact hG
  have t_20 : ∀ (x3 : Int32) (σ : ox_S) (t : ox_S), oc_Line_part_h20 x3 σ = some t → (fun t : ox_S => res = none ∧ σf = t) t → ox_M p l e rm_oc_Line_part s m args below meth c (oc_W D ad cI cC A adK adV) 4 res σf 20 [some (.ref (ad 2)), none, none, some (.int x3)] [] σ := by
    intro x3 σ t h hG
    exact ox_w_run (fun t : (Int32 × ox_S) => ox_M p l e rm_oc_Line_part s m args below meth c (oc_W D ad cI cC A adK adV) 4 res σf 20 [some (.ref (ad 2)), none, none, some (.int t.1)] [] t.2) (fun t : ox_S => res = none ∧ σf = t) (fun a t h hG => t_b20 a.1 a.2 t h hG) (x3, σ) t h hG
  change ox_M p l e rm_oc_Line_part s m args below meth c (oc_W D ad cI cC A adK adV) 4 res σf 0 [some (.ref (ad 2)), some (.int x1), some (.int x2), none] [] σ
  unfold oc_Line_part at h
  refine ox_aload_n B 0 od_Line_part_0 rfl rfl ?_
  refine ox_iload_n B 1 od_Line_part_1 rfl rfl ?_
  obtain ⟨s1, es1, h⟩ := ox_let_some h
  refine ocp_Line_18 B F od_Line_part_2 es1 ?_
  refine ox_aload_n B 0 od_Line_part_5 rfl rfl ?_
  refine ox_iload_n B 2 od_Line_part_6 rfl rfl ?_
  obtain ⟨s2, es2, h⟩ := ox_let_some h
  refine ocp_Line_22 B F od_Line_part_7 es2 ?_
  refine ox_aload_n B 0 od_Line_part_10 rfl rfl ?_
  refine ox_iconst B od_Line_part_11 oxk_i0 ?_
  obtain ⟨s3, es3, h⟩ := ox_let_some h
  refine ocp_Line_25 B F od_Line_part_12 es3 ?_
  refine ox_aload_n B 0 od_Line_part_15 rfl rfl ?_
  refine ocg_Line_18 B F od_Line_part_16 ?_
  obtain ⟨v4, ev4, h⟩ := ox_let_some h
  refine ox_topi ev4 ?_
  refine ox_istore_n B 3 od_Line_part_19 rfl (by decide) rfl (L2 := [some (.ref (ad 2)), some (.int x1), some (.int x2), some (.int v4)]) rfl ?_
  exact (ox_mask [true, false, false, true] (t_20 v4 s3 _ h hG))
abbrev rm_oc_Line_digits : Room := { frames := 0, cells := 0, slots := 0, locals := 0 }
set_option maxRecDepth 100000 in
set_option maxHeartbeats 4000000 in
theorem ct_oc_Line_digits {l : Launch} {D : va_G} {ad : Nat → Nat} {cI cC : ClassId} {A : Nat → Prop} {adK adV : Nat → Nat} (hok : ox_ok (oc_W D ad cI cC A adK adV)) (x1 : Int32) (x2 : Int32) (σ : ox_S) (t : Int32) (h : oc_Line_digits x1 x2 σ = some t) : Met l oy_Line_digits (Cond.code oy_Line_digits prog_4_method_8_code 6 (some .int) :: ox_ws) rm_oc_Line_digits (ox_P (oc_W D ad cI cC A adK adV) [.ref (ad 2), .int x1, .int x2] σ) (ox_Q (oc_W D ad cI cC A adK adV) (some (.int t)) σ) 0 0 A := by
  refine ox_met (ω := oc_W D ad cI cC A adK adV) (by decide) rfl hok (Nat.le_of_ble_eq_true rfl) ?_
  intro p e s m args below meth c B F
  generalize hres : (some (.int t) : Option Value) = res
  have hG : (fun t : Int32 => res = some (.int t) ∧ σ = σ) t := ⟨hres.symm, rfl⟩
  have t_b19 : ∀ (x2 : Int32) (x3 : Int32) (x4 : Int32)  (t : ((Int32 × Int32) ⊕ Int32)), oc_Line_digits_b19 x2 x3 x4 σ = some t → (ox_G (fun t : (Int32 × Int32) => ox_M p l e rm_oc_Line_digits s m args below meth c (oc_W D ad cI cC A adK adV) 6 res σ 19 [some (.ref (ad 2)), none, some (.int x2), some (.int t.1), some (.int t.2), none] [] σ) (fun t : Int32 => res = some (.int t) ∧ σ = σ)) t → ox_M p l e rm_oc_Line_digits s m args below meth c (oc_W D ad cI cC A adK adV) 6 res σ 19 [some (.ref (ad 2)), none, some (.int x2), some (.int x3), some (.int x4), none] [] σ := by
    intro x2 x3 x4  t h hG
    unfold oc_Line_digits_b19 at h
    refine ox_iload B od_Line_digits_19 rfl ?_
    refine ox_iload_n B 2 od_Line_digits_21 rfl rfl ?_
    refine ox_icmp_ge B 67 od_Line_digits_22 rfl (fun hc => ?_) (fun hc => ?_)
    · rw [if_pos hc] at h
      refine ox_iload_n B 3 od_Line_digits_67 rfl rfl ?_
      cases h
      exact ox_iret B F od_Line_digits_68 rfl rfl hG
    · rw [if_neg hc] at h
      refine ox_aload_n B 0 od_Line_digits_25 rfl rfl ?_
      refine ocg_Line_34 B F od_Line_digits_26 ?_
      refine ox_iload B od_Line_digits_29 rfl ?_
      obtain ⟨j1, ej1, hj1, h⟩ := ox_ix_some2 h
      refine ocal_0 B F od_Line_digits_31 hj1 ej1 ?_
      obtain ⟨v2, ev2, h⟩ := ox_let_some h
      refine ox_topi ev2 ?_
      refine ox_istore B od_Line_digits_32 (by decide) rfl (L2 := [some (.ref (ad 2)), none, some (.int x2), some (.int x3), some (.int x4), some (.int v2)]) rfl ?_
      refine ox_iload B od_Line_digits_34 rfl ?_
      refine ox_bipush B od_Line_digits_36 oxk_b48 ?_
      refine ox_icmp_lt B 48 od_Line_digits_38 rfl (fun hc => ?_) (fun hc => ?_)
      · rw [if_pos hc] at h
        refine ox_iconst B od_Line_digits_48 oxk_im1 ?_
        cases h
        exact ox_iret B F od_Line_digits_49 rfl rfl hG
      · rw [if_neg hc] at h
        refine ox_iload B od_Line_digits_41 rfl ?_
        refine ox_bipush B od_Line_digits_43 oxk_b57 ?_
        refine ox_icmp_le B 50 od_Line_digits_45 rfl (fun hc => ?_) (fun hc => ?_)
        · rw [if_pos hc] at h
          refine ox_bipush B od_Line_digits_50 oxk_b10 ?_
          refine ox_iload_n B 3 od_Line_digits_52 rfl rfl ?_
          refine ox_imul B od_Line_digits_53 ?_
          refine ox_iload B od_Line_digits_54 rfl ?_
          refine ox_bipush B od_Line_digits_56 oxk_b48 ?_
          refine ox_isub B od_Line_digits_58 ?_
          refine ox_iadd B od_Line_digits_59 ?_
          obtain ⟨v3, ev3, h⟩ := ox_let_some h
          refine ox_topi ev3 ?_
          refine ox_istore_n B 3 od_Line_digits_60 rfl (by decide) rfl (L2 := [some (.ref (ad 2)), none, some (.int x2), some (.int v3), some (.int x4), some (.int v2)]) rfl ?_
          obtain ⟨v4, ev4, h⟩ := ox_let_some h
          refine ox_iinc B od_Line_digits_61 rfl ((congrArg (x4 + ·) oxk_i1).trans ev4.symm) (by decide) rfl (L2 := [some (.ref (ad 2)), none, some (.int x2), some (.int v3), some (.int v4), some (.int v2)]) rfl ?_
          refine ox_goto B 19 od_Line_digits_64 rfl ?_
          cases h
          exact (ox_mask [true, false, true, true, true, false] hG)
        · rw [if_neg hc] at h
          refine ox_iconst B od_Line_digits_48 oxk_im1 ?_
          cases h
          exact ox_iret B F od_Line_digits_49 rfl rfl hG
  have t_19 : ∀ (x2 : Int32) (x3 : Int32) (x4 : Int32)  (t : Int32), oc_Line_digits_h19 x2 x3 x4 σ = some t → (fun t : Int32 => res = some (.int t) ∧ σ = σ) t → ox_M p l e rm_oc_Line_digits s m args below meth c (oc_W D ad cI cC A adK adV) 6 res σ 19 [some (.ref (ad 2)), none, some (.int x2), some (.int x3), some (.int x4), none] [] σ := by
    intro x2 x3 x4  t h hG
    exact ox_w_run (fun t : (Int32 × Int32) => ox_M p l e rm_oc_Line_digits s m args below meth c (oc_W D ad cI cC A adK adV) 6 res σ 19 [some (.ref (ad 2)), none, some (.int x2), some (.int t.1), some (.int t.2), none] [] σ) (fun t : Int32 => res = some (.int t) ∧ σ = σ) (fun a t h hG => t_b19 x2 a.1 a.2  t h hG) (x3, x4) t h hG
  change ox_M p l e rm_oc_Line_digits s m args below meth c (oc_W D ad cI cC A adK adV) 6 res σ 0 [some (.ref (ad 2)), some (.int x1), some (.int x2), none, none, none] [] σ
  unfold oc_Line_digits at h
  refine ox_iload_n B 1 od_Line_digits_0 rfl rfl ?_
  refine ox_iload_n B 2 od_Line_digits_1 rfl rfl ?_
  refine ox_icmp_ge B 12 od_Line_digits_2 rfl (fun hc => ?_) (fun hc => ?_)
  · rw [if_pos hc] at h
    refine ox_iconst B od_Line_digits_12 oxk_im1 ?_
    cases h
    exact ox_iret B F od_Line_digits_13 rfl rfl hG
  · rw [if_neg hc] at h
    refine ox_iload_n B 2 od_Line_digits_5 rfl rfl ?_
    refine ox_iload_n B 1 od_Line_digits_6 rfl rfl ?_
    refine ox_isub B od_Line_digits_7 ?_
    refine ox_iconst B od_Line_digits_8 oxk_i4 ?_
    refine ox_icmp_le B 14 od_Line_digits_9 rfl (fun hc => ?_) (fun hc => ?_)
    · rw [if_pos hc] at h
      refine ox_iconst B od_Line_digits_14 oxk_i0 ?_
      refine ox_istore_n B 3 od_Line_digits_15 rfl (by decide) rfl (L2 := [some (.ref (ad 2)), some (.int x1), some (.int x2), some (.int (0 : Int32)), none, none]) rfl ?_
      refine ox_iload_n B 1 od_Line_digits_16 rfl rfl ?_
      refine ox_istore B od_Line_digits_17 (by decide) rfl (L2 := [some (.ref (ad 2)), some (.int x1), some (.int x2), some (.int (0 : Int32)), some (.int x1), none]) rfl ?_
      exact (ox_mask [true, false, true, true, true, false] (t_19 x2 (0 : Int32) x1 _ h hG))
    · rw [if_neg hc] at h
      refine ox_iconst B od_Line_digits_12 oxk_im1 ?_
      cases h
      exact ox_iret B F od_Line_digits_13 rfl rfl hG
abbrev rm_oc_Line_number : Room := { frames := 1, cells := 0, slots := 0, locals := 25 }
set_option maxRecDepth 100000 in
set_option maxHeartbeats 4000000 in
theorem ct_oc_Line_number {l : Launch} {D : va_G} {ad : Nat → Nat} {cI cC : ClassId} {A : Nat → Prop} {adK adV : Nat → Nat} (hok : ox_ok (oc_W D ad cI cC A adK adV)) (x1 : Int32) (σ : ox_S) (t : Int32) (h : oc_Line_number x1 σ = some t) : Met l oy_Line_number (Cond.code oy_Line_number prog_4_method_5_code 4 (some .int) :: ox_ws) rm_oc_Line_number (ox_P (oc_W D ad cI cC A adK adV) [.ref (ad 2), .int x1] σ) (ox_Q (oc_W D ad cI cC A adK adV) (some (.int t)) σ) 0 0 A := by
  refine ox_met (ω := oc_W D ad cI cC A adK adV) (by decide) rfl hok (Nat.le_of_ble_eq_true rfl) ?_
  intro p e s m args below meth c B F
  generalize hres : (some (.int t) : Option Value) = res
  have hG : (fun t : Int32 => res = some (.int t) ∧ σ = σ) t := ⟨hres.symm, rfl⟩
  have t_56 : ∀ (x1 : Int32) (x2 : Int32) (y0 : Int32)  (t : Int32), oc_Line_number_j56 x1 x2 y0 σ = some t → (fun t : Int32 => res = some (.int t) ∧ σ = σ) t → ox_M p l e rm_oc_Line_number s m args below meth c (oc_W D ad cI cC A adK adV) 4 res σ 56 [some (.ref (ad 2)), some (.int x1), some (.int x2), none] [.int y0, .ref (ad 2)] σ := by
    intro x1 x2 y0  t h hG
    unfold oc_Line_number_j56 at h
    refine ox_aload_n B 0 od_Line_number_56 rfl rfl ?_
    refine ocg_Line_15 B F od_Line_number_57 ?_
    refine ox_iload_n B 1 od_Line_number_60 rfl rfl ?_
    obtain ⟨j4, ej4, hj4, h⟩ := ox_ix_some2 h
    refine ocal_2 B F od_Line_number_61 hj4 ej4 ?_
    obtain ⟨r5, hr5, h⟩ := ox_bind h
    refine occ_Line_45 B F od_Line_number_62 (As := [.int y0, .int (σ.2 2 j4)]) (rest := []) (st2 := [.int r5]) (ct_oc_Line_digits hok y0 (σ.2 2 j4) σ _ hr5) ⟨rfl, rfl, Nat.le_of_ble_eq_true rfl, Nat.le_of_ble_eq_true rfl⟩ rfl (Nat.le_of_ble_eq_true rfl) rfl rfl ?_
    refine ox_istore_n B 3 od_Line_number_65 rfl (by decide) rfl (L2 := [some (.ref (ad 2)), some (.int x1), some (.int x2), some (.int r5)]) rfl ?_
    refine ox_iload_n B 3 od_Line_number_66 rfl rfl ?_
    refine ox_if_ge B 74 od_Line_number_67 rfl (fun hc => ?_) (fun hc => ?_)
    · rw [if_pos hc] at h
      refine ox_iload_n B 2 od_Line_number_74 rfl rfl ?_
      refine ox_if_eq B 83 od_Line_number_75 rfl (fun hc => ?_) (fun hc => ?_)
      · rw [if_pos hc] at h
        refine ox_iload_n B 3 od_Line_number_83 rfl rfl ?_
        cases h
        exact ox_iret B F od_Line_number_84 rfl rfl hG
      · rw [if_neg hc] at h
        refine ox_iload_n B 3 od_Line_number_78 rfl rfl ?_
        refine ox_ineg B od_Line_number_79 ?_
        refine ox_goto B 84 od_Line_number_80 rfl ?_
        cases h
        exact ox_iret B F od_Line_number_84 rfl rfl hG
    · rw [if_neg hc] at h
      refine ox_sipush B od_Line_number_70 oxk_sm10000 ?_
      cases h
      exact ox_iret B F od_Line_number_73 rfl rfl hG
  have t_33 : ∀ (x1 : Int32) (y0 : Int32)  (t : Int32), oc_Line_number_j33 x1 y0 σ = some t → (fun t : Int32 => res = some (.int t) ∧ σ = σ) t → ox_M p l e rm_oc_Line_number s m args below meth c (oc_W D ad cI cC A adK adV) 4 res σ 33 [some (.ref (ad 2)), some (.int x1), none, none] [.int y0] σ := by
    intro x1 y0  t h hG
    unfold oc_Line_number_j33 at h
    refine ox_istore_n B 2 od_Line_number_33 rfl (by decide) rfl (L2 := [some (.ref (ad 2)), some (.int x1), some (.int y0), none]) rfl ?_
    refine ox_aload_n B 0 od_Line_number_34 rfl rfl ?_
    refine ox_iload_n B 2 od_Line_number_35 rfl rfl ?_
    refine ox_if_eq B 50 od_Line_number_36 rfl (fun hc => ?_) (fun hc => ?_)
    · rw [if_pos hc] at h
      refine ox_aload_n B 0 od_Line_number_50 rfl rfl ?_
      refine ocg_Line_11 B F od_Line_number_51 ?_
      refine ox_iload_n B 1 od_Line_number_54 rfl rfl ?_
      obtain ⟨j3, ej3, hj3, h⟩ := ox_ix_some2 h
      refine ocal_1 B F od_Line_number_55 hj3 ej3 ?_
      exact (t_56 x1 y0 (σ.2 1 j3) _ h hG)
    · rw [if_neg hc] at h
      refine ox_aload_n B 0 od_Line_number_39 rfl rfl ?_
      refine ocg_Line_11 B F od_Line_number_40 ?_
      refine ox_iload_n B 1 od_Line_number_43 rfl rfl ?_
      obtain ⟨j6, ej6, hj6, h⟩ := ox_ix_some2 h
      refine ocal_1 B F od_Line_number_44 hj6 ej6 ?_
      refine ox_iconst B od_Line_number_45 oxk_i1 ?_
      refine ox_iadd B od_Line_number_46 ?_
      refine ox_goto B 56 od_Line_number_47 rfl ?_
      exact (t_56 x1 y0 ((σ.2 1 j6) + (1 : Int32)) _ h hG)
  change ox_M p l e rm_oc_Line_number s m args below meth c (oc_W D ad cI cC A adK adV) 4 res σ 0 [some (.ref (ad 2)), some (.int x1), none, none] [] σ
  unfold oc_Line_number at h
  refine ox_iload_n B 1 od_Line_number_0 rfl rfl ?_
  refine ox_aload_n B 0 od_Line_number_1 rfl rfl ?_
  refine ocg_Line_25 B F od_Line_number_2 ?_
  refine ox_icmp_lt B 12 od_Line_number_5 rfl (fun hc => ?_) (fun hc => ?_)
  · rw [if_pos hc] at h
    refine ox_aload_n B 0 od_Line_number_12 rfl rfl ?_
    refine ocg_Line_34 B F od_Line_number_13 ?_
    refine ox_aload_n B 0 od_Line_number_16 rfl rfl ?_
    refine ocg_Line_11 B F od_Line_number_17 ?_
    refine ox_iload_n B 1 od_Line_number_20 rfl rfl ?_
    obtain ⟨j1, ej1, hj1, h⟩ := ox_ix_some2 h
    refine ocal_1 B F od_Line_number_21 hj1 ej1 ?_
    obtain ⟨j2, ej2, hj2, h⟩ := ox_ix_some2 h
    refine ocal_0 B F od_Line_number_22 hj2 ej2 ?_
    refine ox_bipush B od_Line_number_23 oxk_b45 ?_
    refine ox_icmp_ne B 32 od_Line_number_25 rfl (fun hc => ?_) (fun hc => ?_)
    · rw [if_neg hc] at h
      refine ox_iconst B od_Line_number_32 oxk_i0 ?_
      exact (t_33 x1 (0 : Int32) _ h hG)
    · rw [if_pos hc] at h
      refine ox_iconst B od_Line_number_28 oxk_i1 ?_
      refine ox_goto B 33 od_Line_number_29 rfl ?_
      exact (t_33 x1 (1 : Int32) _ h hG)
  · rw [if_neg hc] at h
    refine ox_sipush B od_Line_number_8 oxk_sm10000 ?_
    cases h
    exact ox_iret B F od_Line_number_11 rfl rfl hG
abbrev rm_oc_Reader_isPlace : Room := { frames := 0, cells := 0, slots := 0, locals := 0 }
set_option maxRecDepth 100000 in
set_option maxHeartbeats 4000000 in
theorem ct_oc_Reader_isPlace {l : Launch} {D : va_G} {ad : Nat → Nat} {cI cC : ClassId} {A : Nat → Prop} {adK adV : Nat → Nat} (hok : ox_ok (oc_W D ad cI cC A adK adV)) (x0 : Int32) (σ : ox_S) (t : Int32) (h : oc_Reader_isPlace x0 σ = some t) : Met l oy_Reader_isPlace (Cond.code oy_Reader_isPlace prog_6_method_18_code 1 (some .boolean) :: ox_ws) rm_oc_Reader_isPlace (ox_P (oc_W D ad cI cC A adK adV) [.int x0] σ) (ox_Q (oc_W D ad cI cC A adK adV) (some (.int t)) σ) 0 0 A := by
  refine ox_met (ω := oc_W D ad cI cC A adK adV) (by decide) rfl hok (Nat.le_of_ble_eq_true rfl) ?_
  intro p e s m args below meth c B F
  generalize hres : (some (.int t) : Option Value) = res
  have hG : (fun t : Int32 => res = some (.int t) ∧ σ = σ) t := ⟨hres.symm, rfl⟩
  change ox_M p l e rm_oc_Reader_isPlace s m args below meth c (oc_W D ad cI cC A adK adV) 1 res σ 0 [some (.int x0)] [] σ
  unfold oc_Reader_isPlace at h
  refine ox_iload_n B 0 od_Reader_isPlace_0 rfl rfl ?_
  refine ox_sipush B od_Reader_isPlace_1 oxk_sm999 ?_
  refine ox_icmp_lt B 18 od_Reader_isPlace_4 rfl (fun hc => ?_) (fun hc => ?_)
  · rw [if_pos hc] at h
    refine ox_iconst B od_Reader_isPlace_18 oxk_i0 ?_
    cases h
    exact ox_iret B F od_Reader_isPlace_19 rfl (ox_nz (Or.inl rfl)) hG
  · rw [if_neg hc] at h
    refine ox_iload_n B 0 od_Reader_isPlace_7 rfl rfl ?_
    refine ox_sipush B od_Reader_isPlace_8 oxk_s999 ?_
    refine ox_icmp_gt B 18 od_Reader_isPlace_11 rfl (fun hc => ?_) (fun hc => ?_)
    · rw [if_pos hc] at h
      refine ox_iconst B od_Reader_isPlace_18 oxk_i0 ?_
      cases h
      exact ox_iret B F od_Reader_isPlace_19 rfl (ox_nz (Or.inl rfl)) hG
    · rw [if_neg hc] at h
      refine ox_iconst B od_Reader_isPlace_14 oxk_i1 ?_
      refine ox_goto B 19 od_Reader_isPlace_15 rfl ?_
      cases h
      exact ox_iret B F od_Reader_isPlace_19 rfl (ox_nz (Or.inr rfl)) hG
abbrev rm_oc_Reader_wholeRoot : Room := { frames := 0, cells := 0, slots := 0, locals := 0 }
set_option maxRecDepth 100000 in
set_option maxHeartbeats 4000000 in
theorem ct_oc_Reader_wholeRoot {l : Launch} {D : va_G} {ad : Nat → Nat} {cI cC : ClassId} {A : Nat → Prop} {adK adV : Nat → Nat} (hok : ox_ok (oc_W D ad cI cC A adK adV)) (x0 : Int32) (σ : ox_S) (t : Int32) (h : oc_Reader_wholeRoot x0 σ = some t) : Met l oy_Reader_wholeRoot (Cond.code oy_Reader_wholeRoot prog_6_method_20_code 4 (some .int) :: ox_ws) rm_oc_Reader_wholeRoot (ox_P (oc_W D ad cI cC A adK adV) [.int x0] σ) (ox_Q (oc_W D ad cI cC A adK adV) (some (.int t)) σ) 0 0 A := by
  refine ox_met (ω := oc_W D ad cI cC A adK adV) (by decide) rfl hok (Nat.le_of_ble_eq_true rfl) ?_
  intro p e s m args below meth c B F
  generalize hres : (some (.int t) : Option Value) = res
  have hG : (fun t : Int32 => res = some (.int t) ∧ σ = σ) t := ⟨hres.symm, rfl⟩
  have t_b6 : ∀ (x0 : Int32) (x1 : Int32) (x2 : Int32)  (t : ((Int32 × Int32) ⊕ Int32)), oc_Reader_wholeRoot_b6 x0 x1 x2 σ = some t → (ox_G (fun t : (Int32 × Int32) => ox_M p l e rm_oc_Reader_wholeRoot s m args below meth c (oc_W D ad cI cC A adK adV) 4 res σ 6 [some (.int x0), some (.int t.1), some (.int t.2), none] [] σ) (fun t : Int32 => res = some (.int t) ∧ σ = σ)) t → ox_M p l e rm_oc_Reader_wholeRoot s m args below meth c (oc_W D ad cI cC A adK adV) 4 res σ 6 [some (.int x0), some (.int x1), some (.int x2), none] [] σ := by
    intro x0 x1 x2  t h hG
    unfold oc_Reader_wholeRoot_b6 at h
    refine ox_iload_n B 2 od_Reader_wholeRoot_6 rfl rfl ?_
    refine ox_if_le B 30 od_Reader_wholeRoot_7 rfl (fun hc => ?_) (fun hc => ?_)
    · rw [if_pos hc] at h
      refine ox_iload_n B 1 od_Reader_wholeRoot_30 rfl rfl ?_
      cases h
      exact ox_iret B F od_Reader_wholeRoot_31 rfl rfl hG
    · rw [if_neg hc] at h
      refine ox_iload_n B 1 od_Reader_wholeRoot_10 rfl rfl ?_
      refine ox_iload_n B 2 od_Reader_wholeRoot_11 rfl rfl ?_
      refine ox_iadd B od_Reader_wholeRoot_12 ?_
      obtain ⟨v1, ev1, h⟩ := ox_let_some h
      refine ox_topi ev1 ?_
      refine ox_istore_n B 3 od_Reader_wholeRoot_13 rfl (by decide) rfl (L2 := [some (.int x0), some (.int x1), some (.int x2), some (.int v1)]) rfl ?_
      refine ox_iload_n B 3 od_Reader_wholeRoot_14 rfl rfl ?_
      refine ox_iload_n B 3 od_Reader_wholeRoot_15 rfl rfl ?_
      refine ox_imul B od_Reader_wholeRoot_16 ?_
      refine ox_iload_n B 0 od_Reader_wholeRoot_17 rfl rfl ?_
      refine ox_icmp_gt B 23 od_Reader_wholeRoot_18 rfl (fun hc => ?_) (fun hc => ?_)
      · rw [if_pos hc] at h
        refine ox_iload_n B 2 od_Reader_wholeRoot_23 rfl rfl ?_
        refine ox_iconst B od_Reader_wholeRoot_24 oxk_i1 ?_
        refine ox_ishr B od_Reader_wholeRoot_25 ?_
        obtain ⟨v2, ev2, h⟩ := ox_let_some h
        refine ox_topi ev2 ?_
        refine ox_istore_n B 2 od_Reader_wholeRoot_26 rfl (by decide) rfl (L2 := [some (.int x0), some (.int x1), some (.int v2), some (.int v1)]) rfl ?_
        refine ox_goto B 6 od_Reader_wholeRoot_27 rfl ?_
        cases h
        exact (ox_mask [true, true, true, false] hG)
      · rw [if_neg hc] at h
        refine ox_iload_n B 3 od_Reader_wholeRoot_21 rfl rfl ?_
        refine ox_istore_n B 1 od_Reader_wholeRoot_22 rfl (by decide) rfl (L2 := [some (.int x0), some (.int v1), some (.int x2), some (.int v1)]) rfl ?_
        refine ox_iload_n B 2 od_Reader_wholeRoot_23 rfl rfl ?_
        refine ox_iconst B od_Reader_wholeRoot_24 oxk_i1 ?_
        refine ox_ishr B od_Reader_wholeRoot_25 ?_
        obtain ⟨v3, ev3, h⟩ := ox_let_some h
        refine ox_topi ev3 ?_
        refine ox_istore_n B 2 od_Reader_wholeRoot_26 rfl (by decide) rfl (L2 := [some (.int x0), some (.int v1), some (.int v3), some (.int v1)]) rfl ?_
        refine ox_goto B 6 od_Reader_wholeRoot_27 rfl ?_
        cases h
        exact (ox_mask [true, true, true, false] hG)
  have t_6 : ∀ (x0 : Int32) (x1 : Int32) (x2 : Int32)  (t : Int32), oc_Reader_wholeRoot_h6 x0 x1 x2 σ = some t → (fun t : Int32 => res = some (.int t) ∧ σ = σ) t → ox_M p l e rm_oc_Reader_wholeRoot s m args below meth c (oc_W D ad cI cC A adK adV) 4 res σ 6 [some (.int x0), some (.int x1), some (.int x2), none] [] σ := by
    intro x0 x1 x2  t h hG
    exact ox_w_run (fun t : (Int32 × Int32) => ox_M p l e rm_oc_Reader_wholeRoot s m args below meth c (oc_W D ad cI cC A adK adV) 4 res σ 6 [some (.int x0), some (.int t.1), some (.int t.2), none] [] σ) (fun t : Int32 => res = some (.int t) ∧ σ = σ) (fun a t h hG => t_b6 x0 a.1 a.2  t h hG) (x1, x2) t h hG
  change ox_M p l e rm_oc_Reader_wholeRoot s m args below meth c (oc_W D ad cI cC A adK adV) 4 res σ 0 [some (.int x0), none, none, none] [] σ
  unfold oc_Reader_wholeRoot at h
  refine ox_iconst B od_Reader_wholeRoot_0 oxk_i0 ?_
  refine ox_istore_n B 1 od_Reader_wholeRoot_1 rfl (by decide) rfl (L2 := [some (.int x0), some (.int (0 : Int32)), none, none]) rfl ?_
  refine ox_sipush B od_Reader_wholeRoot_2 oxk_s2048 ?_
  refine ox_istore_n B 2 od_Reader_wholeRoot_5 rfl (by decide) rfl (L2 := [some (.int x0), some (.int (0 : Int32)), some (.int (2048 : Int32)), none]) rfl ?_
  exact (t_6 x0 (0 : Int32) (2048 : Int32) _ h hG)
abbrev rm_oc_Reader_apart : Room := { frames := 1, cells := 0, slots := 0, locals := 23 }
set_option maxRecDepth 100000 in
set_option maxHeartbeats 4000000 in
theorem ct_oc_Reader_apart {l : Launch} {D : va_G} {ad : Nat → Nat} {cI cC : ClassId} {A : Nat → Prop} {adK adV : Nat → Nat} (hok : ox_ok (oc_W D ad cI cC A adK adV)) (x1 : Int32) (x2 : Int32) (σ : ox_S) (t : Int32) (h : oc_Reader_apart x1 x2 σ = some t) : Met l oy_Reader_apart (Cond.code oy_Reader_apart prog_6_method_19_code 6 (some .int) :: ox_ws) rm_oc_Reader_apart (ox_P (oc_W D ad cI cC A adK adV) [.ref (ad 3), .int x1, .int x2] σ) (ox_Q (oc_W D ad cI cC A adK adV) (some (.int t)) σ) 0 0 A := by
  refine ox_met (ω := oc_W D ad cI cC A adK adV) (by decide) rfl hok (Nat.le_of_ble_eq_true rfl) ?_
  intro p e s m args below meth c B F
  generalize hres : (some (.int t) : Option Value) = res
  have hG : (fun t : Int32 => res = some (.int t) ∧ σ = σ) t := ⟨hres.symm, rfl⟩
  change ox_M p l e rm_oc_Reader_apart s m args below meth c (oc_W D ad cI cC A adK adV) 6 res σ 0 [some (.ref (ad 3)), some (.int x1), some (.int x2), none, none, none] [] σ
  unfold oc_Reader_apart at h
  refine ox_aload_n B 0 od_Reader_apart_0 rfl rfl ?_
  refine ocg_Reader_15 B F od_Reader_apart_1 ?_
  refine ox_iconst B od_Reader_apart_4 oxk_i4 ?_
  refine ox_icmp_ne B 12 od_Reader_apart_5 rfl (fun hc => ?_) (fun hc => ?_)
  · rw [if_neg hc] at h
    refine ox_iload_n B 1 od_Reader_apart_12 rfl rfl ?_
    refine ox_iload_n B 1 od_Reader_apart_13 rfl rfl ?_
    refine ox_imul B od_Reader_apart_14 ?_
    refine ox_iload_n B 2 od_Reader_apart_15 rfl rfl ?_
    refine ox_iload_n B 2 od_Reader_apart_16 rfl rfl ?_
    refine ox_imul B od_Reader_apart_17 ?_
    refine ox_iadd B od_Reader_apart_18 ?_
    obtain ⟨v1, ev1, h⟩ := ox_let_some h
    refine ox_topi ev1 ?_
    refine ox_istore_n B 3 od_Reader_apart_19 rfl (by decide) rfl (L2 := [some (.ref (ad 3)), some (.int x1), some (.int x2), some (.int v1), none, none]) rfl ?_
    refine ox_iload_n B 3 od_Reader_apart_20 rfl rfl ?_
    obtain ⟨r2, hr2, h⟩ := ox_bind h
    refine occ_Reader_178 B F od_Reader_apart_21 (As := [.int v1]) (rest := []) (st2 := [.int r2]) (ct_oc_Reader_wholeRoot hok v1 σ _ hr2) ⟨rfl, rfl, Nat.le_of_ble_eq_true rfl, Nat.le_of_ble_eq_true rfl⟩ rfl (Nat.le_of_ble_eq_true rfl) rfl rfl ?_
    refine ox_istore B od_Reader_apart_24 (by decide) rfl (L2 := [some (.ref (ad 3)), some (.int x1), some (.int x2), some (.int v1), some (.int r2), none]) rfl ?_
    refine ox_aload_n B 0 od_Reader_apart_26 rfl rfl ?_
    refine ocg_Reader_15 B F od_Reader_apart_27 ?_
    refine ox_iconst B od_Reader_apart_30 oxk_i2 ?_
    refine ox_icmp_ne B 45 od_Reader_apart_31 rfl (fun hc => ?_) (fun hc => ?_)
    · rw [if_neg hc] at h
      refine ox_iload B od_Reader_apart_45 rfl ?_
      refine ox_iload B od_Reader_apart_47 rfl ?_
      refine ox_imul B od_Reader_apart_49 ?_
      obtain ⟨v3, ev3, h⟩ := ox_let_some h
      refine ox_topi ev3 ?_
      refine ox_istore B od_Reader_apart_50 (by decide) rfl (L2 := [some (.ref (ad 3)), some (.int x1), some (.int x2), some (.int v1), some (.int r2), some (.int v3)]) rfl ?_
      refine ox_iload_n B 3 od_Reader_apart_52 rfl rfl ?_
      refine ox_iload B od_Reader_apart_53 rfl ?_
      refine ox_icmp_le B 65 od_Reader_apart_55 rfl (fun hc => ?_) (fun hc => ?_)
      · rw [if_pos hc] at h
        refine ox_iload B od_Reader_apart_65 rfl ?_
        cases h
        exact ox_iret B F od_Reader_apart_67 rfl rfl hG
      · rw [if_neg hc] at h
        refine ox_iload B od_Reader_apart_58 rfl ?_
        refine ox_iconst B od_Reader_apart_60 oxk_i1 ?_
        refine ox_iadd B od_Reader_apart_61 ?_
        refine ox_goto B 67 od_Reader_apart_62 rfl ?_
        cases h
        exact ox_iret B F od_Reader_apart_67 rfl rfl hG
    · rw [if_pos hc] at h
      refine ox_iload B od_Reader_apart_34 rfl ?_
      refine ox_iload B od_Reader_apart_36 rfl ?_
      refine ox_imul B od_Reader_apart_38 ?_
      refine ox_iload B od_Reader_apart_39 rfl ?_
      refine ox_iadd B od_Reader_apart_41 ?_
      refine ox_goto B 50 od_Reader_apart_42 rfl ?_
      obtain ⟨v4, ev4, h⟩ := ox_let_some h
      refine ox_topi ev4 ?_
      refine ox_istore B od_Reader_apart_50 (by decide) rfl (L2 := [some (.ref (ad 3)), some (.int x1), some (.int x2), some (.int v1), some (.int r2), some (.int v4)]) rfl ?_
      refine ox_iload_n B 3 od_Reader_apart_52 rfl rfl ?_
      refine ox_iload B od_Reader_apart_53 rfl ?_
      refine ox_icmp_le B 65 od_Reader_apart_55 rfl (fun hc => ?_) (fun hc => ?_)
      · rw [if_pos hc] at h
        refine ox_iload B od_Reader_apart_65 rfl ?_
        cases h
        exact ox_iret B F od_Reader_apart_67 rfl rfl hG
      · rw [if_neg hc] at h
        refine ox_iload B od_Reader_apart_58 rfl ?_
        refine ox_iconst B od_Reader_apart_60 oxk_i1 ?_
        refine ox_iadd B od_Reader_apart_61 ?_
        refine ox_goto B 67 od_Reader_apart_62 rfl ?_
        cases h
        exact ox_iret B F od_Reader_apart_67 rfl rfl hG
  · rw [if_pos hc] at h
    refine ox_iload_n B 1 od_Reader_apart_8 rfl rfl ?_
    refine ox_iload_n B 2 od_Reader_apart_9 rfl rfl ?_
    refine ox_iadd B od_Reader_apart_10 ?_
    cases h
    exact ox_iret B F od_Reader_apart_11 rfl rfl hG
abbrev rm_oc_Reader_rows : Room := { frames := 0, cells := 0, slots := 0, locals := 0 }
set_option maxRecDepth 100000 in
set_option maxHeartbeats 4000000 in
theorem ct_oc_Reader_rows {l : Launch} {D : va_G} {ad : Nat → Nat} {cI cC : ClassId} {A : Nat → Prop} {adK adV : Nat → Nat} (hok : ox_ok (oc_W D ad cI cC A adK adV))  (σ : ox_S) (t : Int32) (h : oc_Reader_rows  σ = some t) : Met l oy_Reader_rows (Cond.code oy_Reader_rows prog_6_method_13_code 1 (some .int) :: ox_ws) rm_oc_Reader_rows (ox_P (oc_W D ad cI cC A adK adV) [.ref (ad 3)] σ) (ox_Q (oc_W D ad cI cC A adK adV) (some (.int t)) σ) 0 0 A := by
  refine ox_met (ω := oc_W D ad cI cC A adK adV) (by decide) rfl hok (Nat.le_of_ble_eq_true rfl) ?_
  intro p e s m args below meth c B F
  generalize hres : (some (.int t) : Option Value) = res
  have hG : (fun t : Int32 => res = some (.int t) ∧ σ = σ) t := ⟨hres.symm, rfl⟩
  change ox_M p l e rm_oc_Reader_rows s m args below meth c (oc_W D ad cI cC A adK adV) 1 res σ 0 [some (.ref (ad 3))] [] σ
  unfold oc_Reader_rows at h
  refine ox_aload_n B 0 od_Reader_rows_0 rfl rfl ?_
  refine ocg_Reader_18 B F od_Reader_rows_1 ?_
  refine ox_iconst B od_Reader_rows_4 oxk_i2 ?_
  refine ox_icmp_ne B 17 od_Reader_rows_5 rfl (fun hc => ?_) (fun hc => ?_)
  · rw [if_neg hc] at h
    refine ox_aload_n B 0 od_Reader_rows_17 rfl rfl ?_
    refine ocg_Reader_34 B F od_Reader_rows_18 ?_
    cases h
    exact ox_iret B F od_Reader_rows_21 rfl rfl hG
  · rw [if_pos hc] at h
    refine ox_aload_n B 0 od_Reader_rows_8 rfl rfl ?_
    refine ocg_Reader_34 B F od_Reader_rows_9 ?_
    refine ox_iconst B od_Reader_rows_12 oxk_i1 ?_
    refine ox_isub B od_Reader_rows_13 ?_
    refine ox_goto B 21 od_Reader_rows_14 rfl ?_
    cases h
    exact ox_iret B F od_Reader_rows_21 rfl rfl hG
