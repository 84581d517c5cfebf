abbrev rm_oc_Line_unsigned : Room := { frames := 1, cells := 0, slots := 0, locals := 25 }
set_option maxRecDepth 100000 in
set_option maxHeartbeats 4000000 in
theorem ct_oc_Line_unsigned {l : Launch} {D : va_G} {ad : Nat → Nat} {cI cC : ClassId} {A : Nat → Prop} {adK adV : Nat → Nat} (hok : ox_ok (oc_W D ad cI cC A adK adV)) (x1 : Int32) (σ : ox_S) (t : Int32) (h : oc_Line_unsigned x1 σ = some t) : Met l oy_Line_unsigned (Cond.code oy_Line_unsigned prog_4_method_6_code 2 (some .int) :: ox_ws) rm_oc_Line_unsigned (ox_P (oc_W D ad cI cC A adK adV) [.ref (ad 2), .int x1] σ) (ox_Q (oc_W D ad cI cC A adK adV) (some (.int t)) σ) 0 0 A := by
  refine ox_met (ω := oc_W D ad cI cC A adK adV) (by decide) rfl hok (Nat.le_of_ble_eq_true rfl) ?_
  intro p e s m args below meth c B F
  generalize hres : (some (.int t) : Option Value) = res
  have hG : (fun t : Int32 => res = some (.int t) ∧ σ = σ) t := ⟨hres.symm, rfl⟩
  change ox_M p l e rm_oc_Line_unsigned s m args below meth c (oc_W D ad cI cC A adK adV) 2 res σ 0 [some (.ref (ad 2)), some (.int x1)] [] σ
  unfold oc_Line_unsigned at h
  refine ox_iload_n B 1 od_Line_unsigned_0 rfl rfl ?_
  refine ox_aload_n B 0 od_Line_unsigned_1 rfl rfl ?_
  refine ocg_Line_25 B F od_Line_unsigned_2 ?_
  refine ox_icmp_ge B 27 od_Line_unsigned_5 rfl (fun hc => ?_) (fun hc => ?_)
  · rw [if_pos hc] at h
    refine ox_iconst B od_Line_unsigned_27 oxk_im1 ?_
    cases h
    exact ox_iret B F od_Line_unsigned_28 rfl rfl hG
  · rw [if_neg hc] at h
    refine ox_aload_n B 0 od_Line_unsigned_8 rfl rfl ?_
    refine ox_aload_n B 0 od_Line_unsigned_9 rfl rfl ?_
    refine ocg_Line_11 B F od_Line_unsigned_10 ?_
    refine ox_iload_n B 1 od_Line_unsigned_13 rfl rfl ?_
    obtain ⟨j1, ej1, hj1, h⟩ := ox_ix_some2 h
    refine ocal_1 B F od_Line_unsigned_14 hj1 ej1 ?_
    refine ox_aload_n B 0 od_Line_unsigned_15 rfl rfl ?_
    refine ocg_Line_15 B F od_Line_unsigned_16 ?_
    refine ox_iload_n B 1 od_Line_unsigned_19 rfl rfl ?_
    obtain ⟨j2, ej2, hj2, h⟩ := ox_ix_some2 h
    refine ocal_2 B F od_Line_unsigned_20 hj2 ej2 ?_
    obtain ⟨r3, hr3, h⟩ := ox_bind h
    refine occ_Line_45 B F od_Line_unsigned_21 (As := [.int (σ.2 1 j1), .int (σ.2 2 j2)]) (rest := []) (st2 := [.int r3]) (ct_oc_Line_digits hok (σ.2 1 j1) (σ.2 2 j2) σ _ hr3) ⟨rfl, rfl, Nat.le_of_ble_eq_true rfl, Nat.le_of_ble_eq_true rfl⟩ rfl (Nat.le_of_ble_eq_true rfl) rfl rfl ?_
    refine ox_goto B 28 od_Line_unsigned_24 rfl ?_
    cases h
    exact ox_iret B F od_Line_unsigned_28 rfl rfl hG
abbrev rm_oc_Reader_fits : Room := { frames := 0, cells := 0, slots := 0, locals := 0 }
set_option maxRecDepth 100000 in
set_option maxHeartbeats 4000000 in
theorem ct_oc_Reader_fits {l : Launch} {D : va_G} {ad : Nat → Nat} {cI cC : ClassId} {A : Nat → Prop} {adK adV : Nat → Nat} (hok : ox_ok (oc_W D ad cI cC A adK adV)) (x1 : Int32) (σ : ox_S) (t : Int32) (h : oc_Reader_fits x1 σ = some t) : Met l oy_Reader_fits (Cond.code oy_Reader_fits prog_6_method_12_code 3 (some .boolean) :: ox_ws) rm_oc_Reader_fits (ox_P (oc_W D ad cI cC A adK adV) [.ref (ad 3), .int x1] σ) (ox_Q (oc_W D ad cI cC A adK adV) (some (.int t)) σ) 0 0 A := by
  refine ox_met (ω := oc_W D ad cI cC A adK adV) (by decide) rfl hok (Nat.le_of_ble_eq_true rfl) ?_
  intro p e s m args below meth c B F
  generalize hres : (some (.int t) : Option Value) = res
  have hG : (fun t : Int32 => res = some (.int t) ∧ σ = σ) t := ⟨hres.symm, rfl⟩
  have t_45 : ∀ (x1 : Int32) (y0 : Int32)  (t : Int32), oc_Reader_fits_j45 x1 y0 σ = some t → (fun t : Int32 => res = some (.int t) ∧ σ = σ) t → ox_M p l e rm_oc_Reader_fits s m args below meth c (oc_W D ad cI cC A adK adV) 3 res σ 45 [some (.ref (ad 3)), some (.int x1), none] [.int y0] σ := by
    intro x1 y0  t h hG
    unfold oc_Reader_fits_j45 at h
    refine ox_istore_n B 2 od_Reader_fits_45 rfl (by decide) rfl (L2 := [some (.ref (ad 3)), some (.int x1), some (.int y0)]) rfl ?_
    refine ox_iload_n B 2 od_Reader_fits_46 rfl rfl ?_
    refine ox_if_eq B 71 od_Reader_fits_47 rfl (fun hc => ?_) (fun hc => ?_)
    · rw [if_pos hc] at h
      refine ox_iconst B od_Reader_fits_71 oxk_i1 ?_
      refine ox_goto B 76 od_Reader_fits_72 rfl ?_
      cases h
      exact ox_iret B F od_Reader_fits_76 rfl (ox_nz (Or.inr rfl)) hG
    · rw [if_neg hc] at h
      refine ox_iload_n B 1 od_Reader_fits_50 rfl rfl ?_
      refine ox_aload_n B 0 od_Reader_fits_51 rfl rfl ?_
      refine ocg_Reader_37 B F od_Reader_fits_52 ?_
      refine ox_aload_n B 0 od_Reader_fits_55 rfl rfl ?_
      refine ocg_Reader_21 B F od_Reader_fits_56 ?_
      refine ox_bipush B od_Reader_fits_59 oxk_b8 ?_
      refine ox_imul B od_Reader_fits_61 ?_
      refine ox_aload_n B 0 od_Reader_fits_62 rfl rfl ?_
      refine ocg_Reader_24 B F od_Reader_fits_63 ?_
      refine ox_iadd B od_Reader_fits_66 ?_
      obtain ⟨j1, ej1, hj1, h⟩ := ox_ix_some2 h
      refine ocal_5 B F od_Reader_fits_67 hj1 ej1 ?_
      refine ox_icmp_ne B 75 od_Reader_fits_68 rfl (fun hc => ?_) (fun hc => ?_)
      · rw [if_neg hc] at h
        refine ox_iconst B od_Reader_fits_75 oxk_i0 ?_
        cases h
        exact ox_iret B F od_Reader_fits_76 rfl (ox_nz (Or.inl rfl)) hG
      · rw [if_pos hc] at h
        refine ox_iconst B od_Reader_fits_71 oxk_i1 ?_
        refine ox_goto B 76 od_Reader_fits_72 rfl ?_
        cases h
        exact ox_iret B F od_Reader_fits_76 rfl (ox_nz (Or.inr rfl)) hG
  change ox_M p l e rm_oc_Reader_fits s m args below meth c (oc_W D ad cI cC A adK adV) 3 res σ 0 [some (.ref (ad 3)), some (.int x1), none] [] σ
  unfold oc_Reader_fits at h
  refine ox_aload_n B 0 od_Reader_fits_0 rfl rfl ?_
  refine ocg_Reader_21 B F od_Reader_fits_1 ?_
  refine ox_aload_n B 0 od_Reader_fits_4 rfl rfl ?_
  refine ocg_Reader_24 B F od_Reader_fits_5 ?_
  refine ox_icmp_ne B 21 od_Reader_fits_8 rfl (fun hc => ?_) (fun hc => ?_)
  · rw [if_neg hc] at h
    refine ox_aload_n B 0 od_Reader_fits_21 rfl rfl ?_
    refine ocg_Reader_18 B F od_Reader_fits_22 ?_
    refine ox_iconst B od_Reader_fits_25 oxk_i1 ?_
    refine ox_icmp_ne B 44 od_Reader_fits_26 rfl (fun hc => ?_) (fun hc => ?_)
    · rw [if_neg hc] at h
      refine ox_iconst B od_Reader_fits_44 oxk_i0 ?_
      exact (t_45 x1 (0 : Int32) _ h hG)
    · rw [if_pos hc] at h
      refine ox_aload_n B 0 od_Reader_fits_29 rfl rfl ?_
      refine ocg_Reader_24 B F od_Reader_fits_30 ?_
      refine ox_aload_n B 0 od_Reader_fits_33 rfl rfl ?_
      refine ocg_Reader_21 B F od_Reader_fits_34 ?_
      refine ox_icmp_ge B 44 od_Reader_fits_37 rfl (fun hc => ?_) (fun hc => ?_)
      · rw [if_pos hc] at h
        refine ox_iconst B od_Reader_fits_44 oxk_i0 ?_
        exact (t_45 x1 (0 : Int32) _ h hG)
      · rw [if_neg hc] at h
        refine ox_iconst B od_Reader_fits_40 oxk_i1 ?_
        refine ox_goto B 45 od_Reader_fits_41 rfl ?_
        exact (t_45 x1 (1 : Int32) _ h hG)
  · rw [if_pos hc] at h
    refine ox_iload_n B 1 od_Reader_fits_11 rfl rfl ?_
    refine ox_if_ne B 19 od_Reader_fits_12 rfl (fun hc => ?_) (fun hc => ?_)
    · rw [if_neg hc] at h
      refine ox_iconst B od_Reader_fits_19 oxk_i0 ?_
      cases h
      exact ox_iret B F od_Reader_fits_20 rfl (ox_nz (Or.inl rfl)) hG
    · rw [if_pos hc] at h
      refine ox_iconst B od_Reader_fits_15 oxk_i1 ?_
      refine ox_goto B 20 od_Reader_fits_16 rfl ?_
      cases h
      exact ox_iret B F od_Reader_fits_20 rfl (ox_nz (Or.inr rfl)) hG
abbrev rm_oc_Reader_lastColumn : Room := { frames := 0, cells := 0, slots := 0, locals := 0 }
set_option maxRecDepth 100000 in
set_option maxHeartbeats 4000000 in
theorem ct_oc_Reader_lastColumn {l : Launch} {D : va_G} {ad : Nat → Nat} {cI cC : ClassId} {A : Nat → Prop} {adK adV : Nat → Nat} (hok : ox_ok (oc_W D ad cI cC A adK adV))  (σ : ox_S) (t : Int32) (h : oc_Reader_lastColumn  σ = some t) : Met l oy_Reader_lastColumn (Cond.code oy_Reader_lastColumn prog_6_method_15_code 1 (some .int) :: ox_ws) rm_oc_Reader_lastColumn (ox_P (oc_W D ad cI cC A adK adV) [.ref (ad 3)] σ) (ox_Q (oc_W D ad cI cC A adK adV) (some (.int t)) σ) 0 0 A := by
  refine ox_met (ω := oc_W D ad cI cC A adK adV) (by decide) rfl hok (Nat.le_of_ble_eq_true rfl) ?_
  intro p e s m args below meth c B F
  generalize hres : (some (.int t) : Option Value) = res
  have hG : (fun t : Int32 => res = some (.int t) ∧ σ = σ) t := ⟨hres.symm, rfl⟩
  change ox_M p l e rm_oc_Reader_lastColumn s m args below meth c (oc_W D ad cI cC A adK adV) 1 res σ 0 [some (.ref (ad 3))] [] σ
  unfold oc_Reader_lastColumn at h
  refine ox_aload_n B 0 od_Reader_lastColumn_0 rfl rfl ?_
  refine ocg_Reader_18 B F od_Reader_lastColumn_1 ?_
  refine ox_iconst B od_Reader_lastColumn_4 oxk_i3 ?_
  refine ox_icmp_ne B 15 od_Reader_lastColumn_5 rfl (fun hc => ?_) (fun hc => ?_)
  · rw [if_neg hc] at h
    refine ox_aload_n B 0 od_Reader_lastColumn_15 rfl rfl ?_
    refine ocg_Reader_34 B F od_Reader_lastColumn_16 ?_
    refine ox_iconst B od_Reader_lastColumn_19 oxk_i1 ?_
    refine ox_isub B od_Reader_lastColumn_20 ?_
    cases h
    exact ox_iret B F od_Reader_lastColumn_21 rfl rfl hG
  · rw [if_pos hc] at h
    refine ox_aload_n B 0 od_Reader_lastColumn_8 rfl rfl ?_
    refine ocg_Reader_21 B F od_Reader_lastColumn_9 ?_
    refine ox_goto B 21 od_Reader_lastColumn_12 rfl ?_
    cases h
    exact ox_iret B F od_Reader_lastColumn_21 rfl rfl hG
abbrev rm_oc_Reader_firstColumn : Room := { frames := 0, cells := 0, slots := 0, locals := 0 }
set_option maxRecDepth 100000 in
set_option maxHeartbeats 4000000 in
theorem ct_oc_Reader_firstColumn {l : Launch} {D : va_G} {ad : Nat → Nat} {cI cC : ClassId} {A : Nat → Prop} {adK adV : Nat → Nat} (hok : ox_ok (oc_W D ad cI cC A adK adV))  (σ : ox_S) (t : Int32) (h : oc_Reader_firstColumn  σ = some t) : Met l oy_Reader_firstColumn (Cond.code oy_Reader_firstColumn prog_6_method_14_code 1 (some .int) :: ox_ws) rm_oc_Reader_firstColumn (ox_P (oc_W D ad cI cC A adK adV) [.ref (ad 3)] σ) (ox_Q (oc_W D ad cI cC A adK adV) (some (.int t)) σ) 0 0 A := by
  refine ox_met (ω := oc_W D ad cI cC A adK adV) (by decide) rfl hok (Nat.le_of_ble_eq_true rfl) ?_
  intro p e s m args below meth c B F
  generalize hres : (some (.int t) : Option Value) = res
  have hG : (fun t : Int32 => res = some (.int t) ∧ σ = σ) t := ⟨hres.symm, rfl⟩
  change ox_M p l e rm_oc_Reader_firstColumn s m args below meth c (oc_W D ad cI cC A adK adV) 1 res σ 0 [some (.ref (ad 3))] [] σ
  unfold oc_Reader_firstColumn at h
  refine ox_aload_n B 0 od_Reader_firstColumn_0 rfl rfl ?_
  refine ocg_Reader_18 B F od_Reader_firstColumn_1 ?_
  refine ox_iconst B od_Reader_firstColumn_4 oxk_i2 ?_
  refine ox_icmp_ne B 17 od_Reader_firstColumn_5 rfl (fun hc => ?_) (fun hc => ?_)
  · rw [if_neg hc] at h
    refine ox_iconst B od_Reader_firstColumn_17 oxk_i0 ?_
    cases h
    exact ox_iret B F od_Reader_firstColumn_18 rfl rfl hG
  · rw [if_pos hc] at h
    refine ox_aload_n B 0 od_Reader_firstColumn_8 rfl rfl ?_
    refine ocg_Reader_21 B F od_Reader_firstColumn_9 ?_
    refine ox_iconst B od_Reader_firstColumn_12 oxk_i1 ?_
    refine ox_iadd B od_Reader_firstColumn_13 ?_
    refine ox_goto B 18 od_Reader_firstColumn_14 rfl ?_
    cases h
    exact ox_iret B F od_Reader_firstColumn_18 rfl rfl hG
abbrev rm_oc_Reader_goToNextCell : Room := { frames := 1, cells := 0, slots := 0, locals := 20 }
set_option maxRecDepth 100000 in
set_option maxHeartbeats 4000000 in
theorem ct_oc_Reader_goToNextCell {l : Launch} {D : va_G} {ad : Nat → Nat} {cI cC : ClassId} {A : Nat → Prop} {adK adV : Nat → Nat} (hok : ox_ok (oc_W D ad cI cC A adK adV))  (σ : ox_S) (t : ox_S) (h : oc_Reader_goToNextCell  σ = some t) : Met l oy_Reader_goToNextCell (Cond.code oy_Reader_goToNextCell prog_6_method_16_code 1 none :: ox_ws) rm_oc_Reader_goToNextCell (ox_P (oc_W D ad cI cC A adK adV) [.ref (ad 3)] σ) (ox_Q (oc_W D ad cI cC A adK adV) none t) 0 0 A := by
  refine ox_met (ω := oc_W D ad cI cC A adK adV) (by decide) rfl hok (Nat.le_of_ble_eq_true rfl) ?_
  intro p e s m args below meth c B F
  generalize hres : (none : Option Value) = res
  have hG : res = none ∧ t = t := ⟨hres.symm, rfl⟩
  obtain ⟨σf, hσf⟩ : ∃ z, z = t := ⟨_, rfl⟩
  have hG : (fun t : ox_S => res = none ∧ σf = t) t := ⟨hres.symm, hσf⟩
  rw [show ox_M p l e rm_oc_Reader_goToNextCell s m args below meth c (oc_W D ad cI cC A adK adV) 1 res t 0 (ox_l0 [.ref (ad 3)] 1) [] σ = ox_M p l e rm_oc_Reader_goToNextCell s m args below meth c (oc_W D ad cI cC A adK adV) 1 res σf 0 (ox_l0 [.ref (ad 3)] 1) [] σ by rw [hσf]]
  change ox_M p l e rm_oc_Reader_goToNextCell s m args below meth c (oc_W D ad cI cC A adK adV) 1 res σf 0 [some (.ref (ad 3))] [] σ
  unfold oc_Reader_goToNextCell at h
  refine ox_aload_n B 0 od_Reader_goToNextCell_0 rfl rfl ?_
  refine ocg_Reader_24 B F od_Reader_goToNextCell_1 ?_
  refine ox_aload_n B 0 od_Reader_goToNextCell_4 rfl rfl ?_
  obtain ⟨r1, hr1, h⟩ := ox_bind h
  refine occ_Reader_163 B F od_Reader_goToNextCell_5 (As := []) (rest := [.int (σ.1 8)]) (st2 := [.int r1, .int (σ.1 8)]) (ct_oc_Reader_lastColumn hok σ _ hr1) ⟨rfl, rfl, Nat.le_of_ble_eq_true rfl, Nat.le_of_ble_eq_true rfl⟩ rfl (Nat.le_of_ble_eq_true rfl) rfl rfl ?_
  refine ox_icmp_ge B 24 od_Reader_goToNextCell_8 rfl (fun hc => ?_) (fun hc => ?_)
  · rw [if_pos hc] at h
    refine ox_aload_n B 0 od_Reader_goToNextCell_24 rfl rfl ?_
    refine ox_dup B od_Reader_goToNextCell_25 rfl ?_
    refine ocg_Reader_21 B F od_Reader_goToNextCell_26 ?_
    refine ox_iconst B od_Reader_goToNextCell_29 oxk_i1 ?_
    refine ox_iadd B od_Reader_goToNextCell_30 ?_
    obtain ⟨s2, es2, h⟩ := ox_let_some h
    refine ocp_Reader_21 B F od_Reader_goToNextCell_31 es2 ?_
    refine ox_aload_n B 0 od_Reader_goToNextCell_34 rfl rfl ?_
    refine ox_aload_n B 0 od_Reader_goToNextCell_35 rfl rfl ?_
    obtain ⟨r3, hr3, h⟩ := ox_bind h
    refine occ_Reader_141 B F od_Reader_goToNextCell_36 (As := []) (rest := [.ref (ad 3)]) (st2 := [.int r3, .ref (ad 3)]) (ct_oc_Reader_firstColumn hok s2 _ hr3) ⟨rfl, rfl, Nat.le_of_ble_eq_true rfl, Nat.le_of_ble_eq_true rfl⟩ rfl (Nat.le_of_ble_eq_true rfl) rfl rfl ?_
    obtain ⟨s4, es4, h⟩ := ox_let_some h
    refine ocp_Reader_24 B F od_Reader_goToNextCell_39 es4 ?_
    cases h
    exact ox_vret B F od_Reader_goToNextCell_42 rfl hG
  · rw [if_neg hc] at h
    refine ox_aload_n B 0 od_Reader_goToNextCell_11 rfl rfl ?_
    refine ox_dup B od_Reader_goToNextCell_12 rfl ?_
    refine ocg_Reader_24 B F od_Reader_goToNextCell_13 ?_
    refine ox_iconst B od_Reader_goToNextCell_16 oxk_i1 ?_
    refine ox_iadd B od_Reader_goToNextCell_17 ?_
    obtain ⟨s5, es5, h⟩ := ox_let_some h
    refine ocp_Reader_24 B F od_Reader_goToNextCell_18 es5 ?_
    refine ox_goto B 42 od_Reader_goToNextCell_21 rfl ?_
    cases h
    exact ox_vret B F od_Reader_goToNextCell_42 rfl hG
abbrev rm_oc_Reader_acceptsDimension : Room := { frames := 2, cells := 0, slots := 0, locals := 48 }
set_option maxRecDepth 100000 in
set_option maxHeartbeats 4000000 in
theorem ct_oc_Reader_acceptsDimension {l : Launch} {D : va_G} {ad : Nat → Nat} {cI cC : ClassId} {A : Nat → Prop} {adK adV : Nat → Nat} (hok : ox_ok (oc_W D ad cI cC A adK adV))  (σ : ox_S) (t : (Int32 × ox_S)) (h : oc_Reader_acceptsDimension  σ = some t) : Met l oy_Reader_acceptsDimension (Cond.code oy_Reader_acceptsDimension prog_6_method_6_code 2 (some .boolean) :: ox_ws) rm_oc_Reader_acceptsDimension (ox_P (oc_W D ad cI cC A adK adV) [.ref (ad 3)] σ) (ox_Q (oc_W D ad cI cC A adK adV) (some (.int t.1)) t.2) 0 0 A := by
  refine ox_met (ω := oc_W D ad cI cC A adK adV) (by decide) rfl hok (Nat.le_of_ble_eq_true rfl) ?_
  intro p e s m args below meth c B F
  generalize hres : (some (.int t.1) : Option Value) = res
  generalize hσf : t.2 = σf
  have hG : (fun t : (Int32 × ox_S) => res = some (.int t.1) ∧ σf = t.2) t := ⟨hres.symm, hσf.symm⟩
  change ox_M p l e rm_oc_Reader_acceptsDimension s m args below meth c (oc_W D ad cI cC A adK adV) 2 res σf 0 [some (.ref (ad 3)), none] [] σ
  unfold oc_Reader_acceptsDimension at h
  refine ox_aload_n B 0 od_Reader_acceptsDimension_0 rfl rfl ?_
  refine ocg_Reader_49 B F od_Reader_acceptsDimension_1 ?_
  refine ox_iconst B od_Reader_acceptsDimension_4 oxk_i1 ?_
  obtain ⟨r1, hr1, h⟩ := ox_bind h
  refine occ_Reader_119 B F od_Reader_acceptsDimension_5 (As := [.int (1 : Int32)]) (rest := []) (st2 := [.int r1]) (ct_oc_Line_number hok (1 : Int32) σ _ hr1) ⟨rfl, rfl, Nat.le_of_ble_eq_true rfl, Nat.le_of_ble_eq_true rfl⟩ rfl (Nat.le_of_ble_eq_true rfl) rfl rfl ?_
  refine ox_istore_n B 1 od_Reader_acceptsDimension_8 rfl (by decide) rfl (L2 := [some (.ref (ad 3)), some (.int r1)]) rfl ?_
  refine ox_aload_n B 0 od_Reader_acceptsDimension_9 rfl rfl ?_
  refine ocg_Reader_34 B F od_Reader_acceptsDimension_10 ?_
  refine ox_if_ne B 27 od_Reader_acceptsDimension_13 rfl (fun hc => ?_) (fun hc => ?_)
  · rw [if_neg hc] at h
    refine ox_iconst B od_Reader_acceptsDimension_27 oxk_i0 ?_
    cases h
    exact ox_iret B F od_Reader_acceptsDimension_28 rfl (ox_nz (Or.inl rfl)) hG
  · rw [if_pos hc] at h
    refine ox_iload_n B 1 od_Reader_acceptsDimension_16 rfl rfl ?_
    refine ox_iconst B od_Reader_acceptsDimension_17 oxk_i3 ?_
    refine ox_icmp_lt B 27 od_Reader_acceptsDimension_18 rfl (fun hc => ?_) (fun hc => ?_)
    · rw [if_pos hc] at h
      refine ox_iconst B od_Reader_acceptsDimension_27 oxk_i0 ?_
      cases h
      exact ox_iret B F od_Reader_acceptsDimension_28 rfl (ox_nz (Or.inl rfl)) hG
    · rw [if_neg hc] at h
      refine ox_iload_n B 1 od_Reader_acceptsDimension_21 rfl rfl ?_
      refine ox_bipush B od_Reader_acceptsDimension_22 oxk_b8 ?_
      refine ox_icmp_le B 29 od_Reader_acceptsDimension_24 rfl (fun hc => ?_) (fun hc => ?_)
      · rw [if_pos hc] at h
        refine ox_aload_n B 0 od_Reader_acceptsDimension_29 rfl rfl ?_
        refine ox_iload_n B 1 od_Reader_acceptsDimension_30 rfl rfl ?_
        obtain ⟨s2, es2, h⟩ := ox_let_some h
        refine ocp_Reader_34 B F od_Reader_acceptsDimension_31 es2 ?_
        refine ox_iconst B od_Reader_acceptsDimension_34 oxk_i1 ?_
        cases h
        exact ox_iret B F od_Reader_acceptsDimension_35 rfl (ox_nz (Or.inr rfl)) hG
      · rw [if_neg hc] at h
        refine ox_iconst B od_Reader_acceptsDimension_27 oxk_i0 ?_
        cases h
        exact ox_iret B F od_Reader_acceptsDimension_28 rfl (ox_nz (Or.inl rfl)) hG
abbrev rm_oc_Land_numberEdges : Room := { frames := 0, cells := 0, slots := 0, locals := 0 }
set_option maxRecDepth 100000 in
set_option maxHeartbeats 4000000 in
theorem ct_oc_Land_numberEdges {l : Launch} {D : va_G} {ad : Nat → Nat} {cI cC : ClassId} {A : Nat → Prop} {adK adV : Nat → Nat} (hok : ox_ok (oc_W D ad cI cC A adK adV))  (σ : ox_S) (t : ox_S) (h : oc_Land_numberEdges  σ = some t) : Met l oy_Land_numberEdges (Cond.code oy_Land_numberEdges prog_3_method_3_code 3 none :: ox_ws) rm_oc_Land_numberEdges (ox_P (oc_W D ad cI cC A adK adV) [.ref (ad 4)] σ) (ox_Q (oc_W D ad cI cC A adK adV) none t) 0 0 A := by
  refine ox_met (ω := oc_W D ad cI cC A adK adV) (by decide) rfl hok (Nat.le_of_ble_eq_true rfl) ?_
  intro p e s m args below meth c B F
  generalize hres : (none : Option Value) = res
  have hG : res = none ∧ t = t := ⟨hres.symm, rfl⟩
  obtain ⟨σf, hσf⟩ : ∃ z, z = t := ⟨_, rfl⟩
  have hG : (fun t : ox_S => res = none ∧ σf = t) t := ⟨hres.symm, hσf⟩
  rw [show ox_M p l e rm_oc_Land_numberEdges s m args below meth c (oc_W D ad cI cC A adK adV) 3 res t 0 (ox_l0 [.ref (ad 4)] 3) [] σ = ox_M p l e rm_oc_Land_numberEdges s m args below meth c (oc_W D ad cI cC A adK adV) 3 res σf 0 (ox_l0 [.ref (ad 4)] 3) [] σ by rw [hσf]]
  have t_b19 : ∀ (x1 : Int32) (x2 : Int32) (σ : ox_S) (t : ((Int32 × ox_S) ⊕ ((Int32 × ox_S) ⊕ ox_S))), oc_Land_numberEdges_b19 x1 x2 σ = some t → (ox_G (fun t : (Int32 × ox_S) => ox_M p l e rm_oc_Land_numberEdges s m args below meth c (oc_W D ad cI cC A adK adV) 3 res σf 19 [some (.ref (ad 4)), some (.int x1), some (.int t.1)] [] t.2) (ox_G (fun t : (Int32 × ox_S) => ox_M p l e rm_oc_Land_numberEdges s m args below meth c (oc_W D ad cI cC A adK adV) 3 res σf 7 [some (.ref (ad 4)), some (.int t.1), none] [] t.2) (fun t : ox_S => res = none ∧ σf = t))) t → ox_M p l e rm_oc_Land_numberEdges s m args below meth c (oc_W D ad cI cC A adK adV) 3 res σf 19 [some (.ref (ad 4)), some (.int x1), some (.int x2)] [] σ := by
    intro x1 x2 σ t h hG
    unfold oc_Land_numberEdges_b19 at h
    refine ox_iload_n B 2 od_Land_numberEdges_19 rfl rfl ?_
    refine ox_aload_n B 0 od_Land_numberEdges_20 rfl rfl ?_
    refine ocg_Land_27 B F od_Land_numberEdges_21 ?_
    refine ox_icmp_ge B 93 od_Land_numberEdges_24 rfl (fun hc => ?_) (fun hc => ?_)
    · rw [if_pos hc] at h
      obtain ⟨v3, ev3, h⟩ := ox_let_some h
      refine ox_iinc B od_Land_numberEdges_93 rfl ((congrArg (x1 + ·) oxk_i1).trans ev3.symm) (by decide) rfl (L2 := [some (.ref (ad 4)), some (.int v3), some (.int x2)]) rfl ?_
      refine ox_goto B 7 od_Land_numberEdges_96 rfl ?_
      cases h
      exact (ox_mask [true, true, false] hG)
    · rw [if_neg hc] at h
      refine ox_aload_n B 0 od_Land_numberEdges_27 rfl rfl ?_
      refine ocg_Land_18 B F od_Land_numberEdges_28 ?_
      refine ox_aload_n B 0 od_Land_numberEdges_31 rfl rfl ?_
      refine ocg_Land_31 B F od_Land_numberEdges_32 ?_
      refine ox_iload_n B 1 od_Land_numberEdges_35 rfl rfl ?_
      obtain ⟨j4, ej4, hj4, h⟩ := ox_ix_some2 h
      obtain ⟨s5, es5, h⟩ := ox_let_some h
      refine ocas_8 B F od_Land_numberEdges_36 hj4 ej4 es5 ?_
      refine ox_aload_n B 0 od_Land_numberEdges_37 rfl rfl ?_
      refine ocg_Land_21 B F od_Land_numberEdges_38 ?_
      refine ox_aload_n B 0 od_Land_numberEdges_41 rfl rfl ?_
      refine ocg_Land_31 B F od_Land_numberEdges_42 ?_
      refine ox_iload_n B 2 od_Land_numberEdges_45 rfl rfl ?_
      obtain ⟨j6, ej6, hj6, h⟩ := ox_ix_some2 h
      obtain ⟨s7, es7, h⟩ := ox_let_some h
      refine ocas_9 B F od_Land_numberEdges_46 hj6 ej6 es7 ?_
      refine ox_aload_n B 0 od_Land_numberEdges_47 rfl rfl ?_
      refine ocg_Land_15 B F od_Land_numberEdges_48 ?_
      refine ox_iload_n B 1 od_Land_numberEdges_51 rfl rfl ?_
      refine ox_bipush B od_Land_numberEdges_52 oxk_b8 ?_
      refine ox_imul B od_Land_numberEdges_54 ?_
      refine ox_iload_n B 2 od_Land_numberEdges_55 rfl rfl ?_
      refine ox_iadd B od_Land_numberEdges_56 ?_
      refine ox_aload_n B 0 od_Land_numberEdges_57 rfl rfl ?_
      refine ocg_Land_31 B F od_Land_numberEdges_58 ?_
      obtain ⟨j8, ej8, hj8, h⟩ := ox_ix_some2 h
      obtain ⟨s9, es9, h⟩ := ox_let_some h
      refine ocas_7 B F od_Land_numberEdges_61 hj8 ej8 es9 ?_
      refine ox_aload_n B 0 od_Land_numberEdges_62 rfl rfl ?_
      refine ocg_Land_15 B F od_Land_numberEdges_63 ?_
      refine ox_iload_n B 2 od_Land_numberEdges_66 rfl rfl ?_
      refine ox_bipush B od_Land_numberEdges_67 oxk_b8 ?_
      refine ox_imul B od_Land_numberEdges_69 ?_
      refine ox_iload_n B 1 od_Land_numberEdges_70 rfl rfl ?_
      refine ox_iadd B od_Land_numberEdges_71 ?_
      refine ox_aload_n B 0 od_Land_numberEdges_72 rfl rfl ?_
      refine ocg_Land_31 B F od_Land_numberEdges_73 ?_
      obtain ⟨j10, ej10, hj10, h⟩ := ox_ix_some2 h
      obtain ⟨s11, es11, h⟩ := ox_let_some h
      refine ocas_7 B F od_Land_numberEdges_76 hj10 ej10 es11 ?_
      refine ox_aload_n B 0 od_Land_numberEdges_77 rfl rfl ?_
      refine ox_dup B od_Land_numberEdges_78 rfl ?_
      refine ocg_Land_31 B F od_Land_numberEdges_79 ?_
      refine ox_iconst B od_Land_numberEdges_82 oxk_i1 ?_
      refine ox_iadd B od_Land_numberEdges_83 ?_
      obtain ⟨s12, es12, h⟩ := ox_let_some h
      refine ocp_Land_31 B F od_Land_numberEdges_84 es12 ?_
      obtain ⟨v13, ev13, h⟩ := ox_let_some h
      refine ox_iinc B od_Land_numberEdges_87 rfl ((congrArg (x2 + ·) oxk_i1).trans ev13.symm) (by decide) rfl (L2 := [some (.ref (ad 4)), some (.int x1), some (.int v13)]) rfl ?_
      refine ox_goto B 19 od_Land_numberEdges_90 rfl ?_
      cases h
      exact hG
  have t_19 : ∀ (x1 : Int32) (x2 : Int32) (σ : ox_S) (t : ((Int32 × ox_S) ⊕ ox_S)), oc_Land_numberEdges_h19 x1 x2 σ = some t → (ox_G (fun t : (Int32 × ox_S) => ox_M p l e rm_oc_Land_numberEdges s m args below meth c (oc_W D ad cI cC A adK adV) 3 res σf 7 [some (.ref (ad 4)), some (.int t.1), none] [] t.2) (fun t : ox_S => res = none ∧ σf = t)) t → ox_M p l e rm_oc_Land_numberEdges s m args below meth c (oc_W D ad cI cC A adK adV) 3 res σf 19 [some (.ref (ad 4)), some (.int x1), some (.int x2)] [] σ := by
    intro x1 x2 σ t h hG
    exact ox_w_run (fun t : (Int32 × ox_S) => ox_M p l e rm_oc_Land_numberEdges s m args below meth c (oc_W D ad cI cC A adK adV) 3 res σf 19 [some (.ref (ad 4)), some (.int x1), some (.int t.1)] [] t.2) (ox_G (fun t : (Int32 × ox_S) => ox_M p l e rm_oc_Land_numberEdges s m args below meth c (oc_W D ad cI cC A adK adV) 3 res σf 7 [some (.ref (ad 4)), some (.int t.1), none] [] t.2) (fun t : ox_S => res = none ∧ σf = t)) (fun a t h hG => t_b19 x1 a.1 a.2 t h hG) (x2, σ) t h hG
  have t_b7 : ∀ (x1 : Int32) (σ : ox_S) (t : ((Int32 × ox_S) ⊕ ox_S)), oc_Land_numberEdges_b7 x1 σ = some t → (ox_G (fun t : (Int32 × ox_S) => ox_M p l e rm_oc_Land_numberEdges s m args below meth c (oc_W D ad cI cC A adK adV) 3 res σf 7 [some (.ref (ad 4)), some (.int t.1), none] [] t.2) (fun t : ox_S => res = none ∧ σf = t)) t → ox_M p l e rm_oc_Land_numberEdges s m args below meth c (oc_W D ad cI cC A adK adV) 3 res σf 7 [some (.ref (ad 4)), some (.int x1), none] [] σ := by
    intro x1 σ t h hG
    unfold oc_Land_numberEdges_b7 at h
    refine ox_iload_n B 1 od_Land_numberEdges_7 rfl rfl ?_
    refine ox_aload_n B 0 od_Land_numberEdges_8 rfl rfl ?_
    refine ocg_Land_27 B F od_Land_numberEdges_9 ?_
    refine ox_icmp_ge B 99 od_Land_numberEdges_12 rfl (fun hc => ?_) (fun hc => ?_)
    · rw [if_pos hc] at h
      cases h
      exact ox_vret B F od_Land_numberEdges_99 rfl hG
    · rw [if_neg hc] at h
      refine ox_iload_n B 1 od_Land_numberEdges_15 rfl rfl ?_
      refine ox_iconst B od_Land_numberEdges_16 oxk_i1 ?_
      refine ox_iadd B od_Land_numberEdges_17 ?_
      obtain ⟨v2, ev2, h⟩ := ox_let_some h
      refine ox_topi ev2 ?_
      refine ox_istore_n B 2 od_Land_numberEdges_18 rfl (by decide) rfl (L2 := [some (.ref (ad 4)), some (.int x1), some (.int v2)]) rfl ?_
      exact (t_19 x1 v2 σ _ h hG)
  have t_7 : ∀ (x1 : Int32) (σ : ox_S) (t : ox_S), oc_Land_numberEdges_h7 x1 σ = some t → (fun t : ox_S => res = none ∧ σf = t) t → ox_M p l e rm_oc_Land_numberEdges s m args below meth c (oc_W D ad cI cC A adK adV) 3 res σf 7 [some (.ref (ad 4)), some (.int x1), none] [] σ := by
    intro x1 σ t h hG
    exact ox_w_run (fun t : (Int32 × ox_S) => ox_M p l e rm_oc_Land_numberEdges s m args below meth c (oc_W D ad cI cC A adK adV) 3 res σf 7 [some (.ref (ad 4)), some (.int t.1), none] [] t.2) (fun t : ox_S => res = none ∧ σf = t) (fun a t h hG => t_b7 a.1 a.2 t h hG) (x1, σ) t h hG
  change ox_M p l e rm_oc_Land_numberEdges s m args below meth c (oc_W D ad cI cC A adK adV) 3 res σf 0 [some (.ref (ad 4)), none, none] [] σ
  unfold oc_Land_numberEdges at h
  refine ox_aload_n B 0 od_Land_numberEdges_0 rfl rfl ?_
  refine ox_iconst B od_Land_numberEdges_1 oxk_i0 ?_
  obtain ⟨s1, es1, h⟩ := ox_let_some h
  refine ocp_Land_31 B F od_Land_numberEdges_2 es1 ?_
  refine ox_iconst B od_Land_numberEdges_5 oxk_i0 ?_
  refine ox_istore_n B 1 od_Land_numberEdges_6 rfl (by decide) rfl (L2 := [some (.ref (ad 4)), some (.int (0 : Int32)), none]) rfl ?_
  exact (t_7 (0 : Int32) s1 _ h hG)
abbrev rm_oc_T_turnRound_a22 : Room := { frames := 0, cells := 0, slots := 0, locals := 0 }
set_option maxRecDepth 100000 in
set_option maxHeartbeats 4000000 in
theorem ct_oc_T_turnRound_a22 {l : Launch} {D : va_G} {ad : Nat → Nat} {cI cC : ClassId} {A : Nat → Prop} {adK adV : Nat → Nat} (hok : ox_ok (oc_W D ad cI cC A adK adV)) (x1 : Int32) (x2 : Int32) (σ : ox_S) (t : ox_S) (h : oc_T_turnRound_a22 x1 x2 σ = some t) : Met l oy_T_turnRound (Cond.code oy_T_turnRound prog_1_method_25_code 6 none :: ox_ws) rm_oc_T_turnRound_a22 (ox_P (oc_W D ad cI cC A adK adV) [.ref (ad 22), .int x1, .int x2] σ) (ox_Q (oc_W D ad cI cC A adK adV) none t) 0 0 A := by
  refine ox_met (ω := oc_W D ad cI cC A adK adV) (by decide) rfl hok (Nat.le_of_ble_eq_true rfl) ?_
  intro p e s m args below meth c B F
  generalize hres : (none : Option Value) = res
  have hG : res = none ∧ t = t := ⟨hres.symm, rfl⟩
  obtain ⟨σf, hσf⟩ : ∃ z, z = t := ⟨_, rfl⟩
  have hG : (fun t : ox_S => res = none ∧ σf = t) t := ⟨hres.symm, hσf⟩
  rw [show ox_M p l e rm_oc_T_turnRound_a22 s m args below meth c (oc_W D ad cI cC A adK adV) 6 res t 0 (ox_l0 [.ref (ad 22), .int x1, .int x2] 6) [] σ = ox_M p l e rm_oc_T_turnRound_a22 s m args below meth c (oc_W D ad cI cC A adK adV) 6 res σf 0 (ox_l0 [.ref (ad 22), .int x1, .int x2] 6) [] σ by rw [hσf]]
  have t_b5 : ∀ (x3 : Int32) (x4 : Int32) (σ : ox_S) (t : ((Int32 × Int32 × ox_S) ⊕ ox_S)), oc_T_turnRound_a22_b5 x3 x4 σ = some t → (ox_G (fun t : (Int32 × Int32 × ox_S) => ox_M p l e rm_oc_T_turnRound_a22 s m args below meth c (oc_W D ad cI cC A adK adV) 6 res σf 5 [some (.ref (ad 22)), none, none, some (.int t.1), some (.int t.2.1), none] [] t.2.2) (fun t : ox_S => res = none ∧ σf = t)) t → ox_M p l e rm_oc_T_turnRound_a22 s m args below meth c (oc_W D ad cI cC A adK adV) 6 res σf 5 [some (.ref (ad 22)), none, none, some (.int x3), some (.int x4), none] [] σ := by
    intro x3 x4 σ t h hG
    unfold oc_T_turnRound_a22_b5 at h
    refine ox_iload_n B 3 od_T_turnRound_5 rfl rfl ?_
    refine ox_iload B od_T_turnRound_6 rfl ?_
    refine ox_icmp_ge B 38 od_T_turnRound_8 rfl (fun hc => ?_) (fun hc => ?_)
    · rw [if_pos hc] at h
      cases h
      exact ox_vret B F od_T_turnRound_38 rfl hG
    · rw [if_neg hc] at h
      refine ox_aload_n B 0 od_T_turnRound_11 rfl rfl ?_
      refine ox_iload_n B 3 od_T_turnRound_12 rfl rfl ?_
      obtain ⟨j1, ej1, hj1, h⟩ := ox_ix_some2 h
      refine ocal_13 B F od_T_turnRound_13 hj1 ej1 ?_
      obtain ⟨v2, ev2, h⟩ := ox_let_some h
      refine ox_topi ev2 ?_
      refine ox_istore B od_T_turnRound_14 (by decide) rfl (L2 := [some (.ref (ad 22)), none, none, some (.int x3), some (.int x4), some (.int v2)]) rfl ?_
      refine ox_aload_n B 0 od_T_turnRound_16 rfl rfl ?_
      refine ox_iload_n B 3 od_T_turnRound_17 rfl rfl ?_
      refine ox_aload_n B 0 od_T_turnRound_18 rfl rfl ?_
      refine ox_iload B od_T_turnRound_19 rfl ?_
      obtain ⟨j3, ej3, hj3, h⟩ := ox_ix_some2 h
      refine ocal_13 B F od_T_turnRound_21 hj3 ej3 ?_
      obtain ⟨j4, ej4, hj4, h⟩ := ox_ix_some2 h
      obtain ⟨s5, es5, h⟩ := ox_let_some h
      refine ocas_13 B F od_T_turnRound_22 hj4 ej4 es5 ?_
      refine ox_aload_n B 0 od_T_turnRound_23 rfl rfl ?_
      refine ox_iload B od_T_turnRound_24 rfl ?_
      refine ox_iload B od_T_turnRound_26 rfl ?_
      obtain ⟨j6, ej6, hj6, h⟩ := ox_ix_some2 h
      obtain ⟨s7, es7, h⟩ := ox_let_some h
      refine ocas_13 B F od_T_turnRound_28 hj6 ej6 es7 ?_
      obtain ⟨v8, ev8, h⟩ := ox_let_some h
      refine ox_iinc B od_T_turnRound_29 rfl ((congrArg (x3 + ·) oxk_i1).trans ev8.symm) (by decide) rfl (L2 := [some (.ref (ad 22)), none, none, some (.int v8), some (.int x4), some (.int v2)]) rfl ?_
      obtain ⟨v9, ev9, h⟩ := ox_let_some h
      refine ox_iinc B od_T_turnRound_32 rfl ((congrArg (x4 + ·) oxk_im1).trans ev9.symm) (by decide) rfl (L2 := [some (.ref (ad 22)), none, none, some (.int v8), some (.int v9), some (.int v2)]) rfl ?_
      refine ox_goto B 5 od_T_turnRound_35 rfl ?_
      cases h
      exact (ox_mask [true, false, false, true, true, false] hG)
  have t_5 : ∀ (x3 : Int32) (x4 : Int32) (σ : ox_S) (t : ox_S), oc_T_turnRound_a22_h5 x3 x4 σ = some t → (fun t : ox_S => res = none ∧ σf = t) t → ox_M p l e rm_oc_T_turnRound_a22 s m args below meth c (oc_W D ad cI cC A adK adV) 6 res σf 5 [some (.ref (ad 22)), none, none, some (.int x3), some (.int x4), none] [] σ := by
    intro x3 x4 σ t h hG
    exact ox_w_run (fun t : (Int32 × Int32 × ox_S) => ox_M p l e rm_oc_T_turnRound_a22 s m args below meth c (oc_W D ad cI cC A adK adV) 6 res σf 5 [some (.ref (ad 22)), none, none, some (.int t.1), some (.int t.2.1), none] [] t.2.2) (fun t : ox_S => res = none ∧ σf = t) (fun a t h hG => t_b5 a.1 a.2.1 a.2.2 t h hG) (x3, x4, σ) t h hG
  change ox_M p l e rm_oc_T_turnRound_a22 s m args below meth c (oc_W D ad cI cC A adK adV) 6 res σf 0 [some (.ref (ad 22)), some (.int x1), some (.int x2), none, none, none] [] σ
  unfold oc_T_turnRound_a22 at h
  refine ox_iload_n B 1 od_T_turnRound_0 rfl rfl ?_
  refine ox_istore_n B 3 od_T_turnRound_1 rfl (by decide) rfl (L2 := [some (.ref (ad 22)), some (.int x1), some (.int x2), some (.int x1), none, none]) rfl ?_
  refine ox_iload_n B 2 od_T_turnRound_2 rfl rfl ?_
  refine ox_istore B od_T_turnRound_3 (by decide) rfl (L2 := [some (.ref (ad 22)), some (.int x1), some (.int x2), some (.int x1), some (.int x2), none]) rfl ?_
  exact (ox_mask [true, false, false, true, true, false] (t_5 x1 x2 σ _ h hG))
abbrev rm_oc_TourList_goToNextRow : Room := { frames := 1, cells := 0, slots := 0, locals := 25 }
set_option maxRecDepth 100000 in
set_option maxHeartbeats 4000000 in
theorem ct_oc_TourList_goToNextRow {l : Launch} {D : va_G} {ad : Nat → Nat} {cI cC : ClassId} {A : Nat → Prop} {adK adV : Nat → Nat} (hok : ox_ok (oc_W D ad cI cC A adK adV))  (σ : ox_S) (t : (Int32 × ox_S)) (h : oc_TourList_goToNextRow  σ = some t) : Met l oy_TourList_goToNextRow (Cond.code oy_TourList_goToNextRow prog_9_method_7_code 5 (some .boolean) :: ox_ws) rm_oc_TourList_goToNextRow (ox_P (oc_W D ad cI cC A adK adV) [.ref (ad 6)] σ) (ox_Q (oc_W D ad cI cC A adK adV) (some (.int t.1)) t.2) 0 0 A := by
  refine ox_met (ω := oc_W D ad cI cC A adK adV) (by decide) rfl hok (Nat.le_of_ble_eq_true rfl) ?_
  intro p e s m args below meth c B F
  generalize hres : (some (.int t.1) : Option Value) = res
  generalize hσf : t.2 = σf
  have hG : (fun t : (Int32 × ox_S) => res = some (.int t.1) ∧ σf = t.2) t := ⟨hres.symm, hσf.symm⟩
  have t_79 : ∀ (x1 : Int32) (x2 : Int32) (x3 : Int32) (σ : ox_S) (t : (Int32 × ox_S)), oc_TourList_goToNextRow_j79 x1 x2 x3 σ = some t → (fun t : (Int32 × ox_S) => res = some (.int t.1) ∧ σf = t.2) t → ox_M p l e rm_oc_TourList_goToNextRow s m args below meth c (oc_W D ad cI cC A adK adV) 5 res σf 79 [some (.ref (ad 6)), some (.int x1), some (.int x2), some (.int x3), none] [] σ := by
    intro x1 x2 x3 σ t h hG
    unfold oc_TourList_goToNextRow_j79 at h
    refine ox_aload_n B 0 od_TourList_goToNextRow_79 rfl rfl ?_
    refine ocg_TourList_9 B F od_TourList_goToNextRow_80 ?_
    refine ox_iload_n B 2 od_TourList_goToNextRow_83 rfl rfl ?_
    obtain ⟨j3, ej3, hj3, h⟩ := ox_ix_some2 h
    refine ocal_13 B F od_TourList_goToNextRow_84 hj3 ej3 ?_
    obtain ⟨v4, ev4, h⟩ := ox_let_some h
    refine ox_topi ev4 ?_
    refine ox_istore B od_TourList_goToNextRow_85 (by decide) rfl (L2 := [some (.ref (ad 6)), some (.int x1), some (.int x2), some (.int x3), some (.int v4)]) rfl ?_
    refine ox_aload_n B 0 od_TourList_goToNextRow_87 rfl rfl ?_
    refine ocg_TourList_9 B F od_TourList_goToNextRow_88 ?_
    refine ox_iload_n B 2 od_TourList_goToNextRow_91 rfl rfl ?_
    refine ox_aload_n B 0 od_TourList_goToNextRow_92 rfl rfl ?_
    refine ocg_TourList_9 B F od_TourList_goToNextRow_93 ?_
    refine ox_iload_n B 3 od_TourList_goToNextRow_96 rfl rfl ?_
    obtain ⟨j5, ej5, hj5, h⟩ := ox_ix_some2 h
    refine ocal_13 B F od_TourList_goToNextRow_97 hj5 ej5 ?_
    obtain ⟨j6, ej6, hj6, h⟩ := ox_ix_some2 h
    obtain ⟨s7, es7, h⟩ := ox_let_some h
    refine ocas_13 B F od_TourList_goToNextRow_98 hj6 ej6 es7 ?_
    refine ox_aload_n B 0 od_TourList_goToNextRow_99 rfl rfl ?_
    refine ocg_TourList_9 B F od_TourList_goToNextRow_100 ?_
    refine ox_iload_n B 3 od_TourList_goToNextRow_103 rfl rfl ?_
    refine ox_iload B od_TourList_goToNextRow_104 rfl ?_
    obtain ⟨j8, ej8, hj8, h⟩ := ox_ix_some2 h
    obtain ⟨s9, es9, h⟩ := ox_let_some h
    refine ocas_13 B F od_TourList_goToNextRow_106 hj8 ej8 es9 ?_
    refine ox_aload_n B 0 od_TourList_goToNextRow_107 rfl rfl ?_
    refine ocg_TourList_9 B F od_TourList_goToNextRow_108 ?_
    refine ox_iload_n B 2 od_TourList_goToNextRow_111 rfl rfl ?_
    refine ox_iconst B od_TourList_goToNextRow_112 oxk_i1 ?_
    refine ox_iadd B od_TourList_goToNextRow_113 ?_
    refine ox_iload_n B 1 od_TourList_goToNextRow_114 rfl rfl ?_
    obtain ⟨s10, hs10, h⟩ := ox_bind h
    refine occ_TourList_66 B F od_TourList_goToNextRow_115 (As := [.ref (ad 22), .int (x2 + (1 : Int32)), .int x1]) (rest := []) (st2 := []) (ct_oc_T_turnRound_a22 hok (x2 + (1 : Int32)) x1 s9 _ hs10) ⟨rfl, rfl, Nat.le_of_ble_eq_true rfl, Nat.le_of_ble_eq_true rfl⟩ rfl (Nat.le_of_ble_eq_true rfl) rfl rfl ?_
    refine ox_iconst B od_TourList_goToNextRow_118 oxk_i1 ?_
    cases h
    exact ox_iret B F od_TourList_goToNextRow_119 rfl (ox_nz (Or.inr rfl)) hG
  have t_b51 : ∀ (x1 : Int32) (x2 : Int32) (x3 : Int32) (σ : ox_S) (t : (Int32 ⊕ (Int32 × ox_S))), oc_TourList_goToNextRow_b51 x1 x2 x3 σ = some t → (ox_G (fun t : Int32 => ox_M p l e rm_oc_TourList_goToNextRow s m args below meth c (oc_W D ad cI cC A adK adV) 5 res σf 51 [some (.ref (ad 6)), some (.int x1), some (.int x2), some (.int t), none] [] σ) (fun t : (Int32 × ox_S) => res = some (.int t.1) ∧ σf = t.2)) t → ox_M p l e rm_oc_TourList_goToNextRow s m args below meth c (oc_W D ad cI cC A adK adV) 5 res σf 51 [some (.ref (ad 6)), some (.int x1), some (.int x2), some (.int x3), none] [] σ := by
    intro x1 x2 x3 σ t h hG
    unfold oc_TourList_goToNextRow_b51 at h
    refine ox_iload_n B 3 od_TourList_goToNextRow_51 rfl rfl ?_
    refine ox_iload_n B 2 od_TourList_goToNextRow_52 rfl rfl ?_
    refine ox_iconst B od_TourList_goToNextRow_53 oxk_i1 ?_
    refine ox_iadd B od_TourList_goToNextRow_54 ?_
    refine ox_icmp_le B 79 od_TourList_goToNextRow_55 rfl (fun hc => ?_) (fun hc => ?_)
    · rw [if_pos hc] at h
      obtain ⟨t', h', e'⟩ := ox_map h
      subst e'
      exact (t_79 x1 x2 x3 σ _ h' hG)
    · rw [if_neg hc] at h
      refine ox_aload_n B 0 od_TourList_goToNextRow_58 rfl rfl ?_
      refine ocg_TourList_9 B F od_TourList_goToNextRow_59 ?_
      refine ox_iload_n B 3 od_TourList_goToNextRow_62 rfl rfl ?_
      obtain ⟨j11, ej11, hj11, h⟩ := ox_ix_some2 h
      refine ocal_13 B F od_TourList_goToNextRow_63 hj11 ej11 ?_
      refine ox_aload_n B 0 od_TourList_goToNextRow_64 rfl rfl ?_
      refine ocg_TourList_9 B F od_TourList_goToNextRow_65 ?_
      refine ox_iload_n B 2 od_TourList_goToNextRow_68 rfl rfl ?_
      obtain ⟨j12, ej12, hj12, h⟩ := ox_ix_some2 h
      refine ocal_13 B F od_TourList_goToNextRow_69 hj12 ej12 ?_
      refine ox_icmp_ge B 79 od_TourList_goToNextRow_70 rfl (fun hc => ?_) (fun hc => ?_)
      · rw [if_pos hc] at h
        obtain ⟨t', h', e'⟩ := ox_map h
        subst e'
        exact (t_79 x1 x2 x3 σ _ h' hG)
      · rw [if_neg hc] at h
        obtain ⟨v13, ev13, h⟩ := ox_let_some h
        refine ox_iinc B od_TourList_goToNextRow_73 rfl ((congrArg (x3 + ·) oxk_im1).trans ev13.symm) (by decide) rfl (L2 := [some (.ref (ad 6)), some (.int x1), some (.int x2), some (.int v13), none]) rfl ?_
        refine ox_goto B 51 od_TourList_goToNextRow_76 rfl ?_
        cases h
        exact hG
  have t_51 : ∀ (x1 : Int32) (x2 : Int32) (x3 : Int32) (σ : ox_S) (t : (Int32 × ox_S)), oc_TourList_goToNextRow_h51 x1 x2 x3 σ = some t → (fun t : (Int32 × ox_S) => res = some (.int t.1) ∧ σf = t.2) t → ox_M p l e rm_oc_TourList_goToNextRow s m args below meth c (oc_W D ad cI cC A adK adV) 5 res σf 51 [some (.ref (ad 6)), some (.int x1), some (.int x2), some (.int x3), none] [] σ := by
    intro x1 x2 x3 σ t h hG
    exact ox_w_run (fun t : Int32 => ox_M p l e rm_oc_TourList_goToNextRow s m args below meth c (oc_W D ad cI cC A adK adV) 5 res σf 51 [some (.ref (ad 6)), some (.int x1), some (.int x2), some (.int t), none] [] σ) (fun t : (Int32 × ox_S) => res = some (.int t.1) ∧ σf = t.2) (fun a t h hG => t_b51 x1 x2 a σ t h hG) x3 t h hG
  have t_b14 : ∀ (x1 : Int32) (x2 : Int32) (σ : ox_S) (t : (Int32 ⊕ (Int32 × ox_S))), oc_TourList_goToNextRow_b14 x1 x2 σ = some t → (ox_G (fun t : Int32 => ox_M p l e rm_oc_TourList_goToNextRow s m args below meth c (oc_W D ad cI cC A adK adV) 5 res σf 14 [some (.ref (ad 6)), some (.int x1), some (.int t), none, none] [] σ) (fun t : (Int32 × ox_S) => res = some (.int t.1) ∧ σf = t.2)) t → ox_M p l e rm_oc_TourList_goToNextRow s m args below meth c (oc_W D ad cI cC A adK adV) 5 res σf 14 [some (.ref (ad 6)), some (.int x1), some (.int x2), none, none] [] σ := by
    intro x1 x2 σ t h hG
    unfold oc_TourList_goToNextRow_b14 at h
    refine ox_iload_n B 2 od_TourList_goToNextRow_14 rfl rfl ?_
    refine ox_iconst B od_TourList_goToNextRow_15 oxk_i1 ?_
    refine ox_icmp_lt B 42 od_TourList_goToNextRow_16 rfl (fun hc => ?_) (fun hc => ?_)
    · rw [if_pos hc] at h
      refine ox_iload_n B 2 od_TourList_goToNextRow_42 rfl rfl ?_
      refine ox_iconst B od_TourList_goToNextRow_43 oxk_i1 ?_
      refine ox_icmp_ge B 49 od_TourList_goToNextRow_44 rfl (fun hc => ?_) (fun hc => ?_)
      · rw [if_pos hc] at h
        refine ox_iload_n B 1 od_TourList_goToNextRow_49 rfl rfl ?_
        refine ox_istore_n B 3 od_TourList_goToNextRow_50 rfl (by decide) rfl (L2 := [some (.ref (ad 6)), some (.int x1), some (.int x2), some (.int x1), none]) rfl ?_
        obtain ⟨t', h', e'⟩ := ox_map h
        subst e'
        exact (t_51 x1 x2 x1 σ _ h' hG)
      · rw [if_neg hc] at h
        refine ox_iconst B od_TourList_goToNextRow_47 oxk_i0 ?_
        cases h
        exact ox_iret B F od_TourList_goToNextRow_48 rfl (ox_nz (Or.inl rfl)) hG
    · rw [if_neg hc] at h
      refine ox_aload_n B 0 od_TourList_goToNextRow_19 rfl rfl ?_
      refine ocg_TourList_9 B F od_TourList_goToNextRow_20 ?_
      refine ox_iload_n B 2 od_TourList_goToNextRow_23 rfl rfl ?_
      obtain ⟨j14, ej14, hj14, h⟩ := ox_ix_some2 h
      refine ocal_13 B F od_TourList_goToNextRow_24 hj14 ej14 ?_
      refine ox_aload_n B 0 od_TourList_goToNextRow_25 rfl rfl ?_
      refine ocg_TourList_9 B F od_TourList_goToNextRow_26 ?_
      refine ox_iload_n B 2 od_TourList_goToNextRow_29 rfl rfl ?_
      refine ox_iconst B od_TourList_goToNextRow_30 oxk_i1 ?_
      refine ox_iadd B od_TourList_goToNextRow_31 ?_
      obtain ⟨j15, ej15, hj15, h⟩ := ox_ix_some2 h
      refine ocal_13 B F od_TourList_goToNextRow_32 hj15 ej15 ?_
      refine ox_icmp_le B 42 od_TourList_goToNextRow_33 rfl (fun hc => ?_) (fun hc => ?_)
      · rw [if_pos hc] at h
        refine ox_iload_n B 2 od_TourList_goToNextRow_42 rfl rfl ?_
        refine ox_iconst B od_TourList_goToNextRow_43 oxk_i1 ?_
        refine ox_icmp_ge B 49 od_TourList_goToNextRow_44 rfl (fun hc => ?_) (fun hc => ?_)
        · rw [if_pos hc] at h
          refine ox_iload_n B 1 od_TourList_goToNextRow_49 rfl rfl ?_
          refine ox_istore_n B 3 od_TourList_goToNextRow_50 rfl (by decide) rfl (L2 := [some (.ref (ad 6)), some (.int x1), some (.int x2), some (.int x1), none]) rfl ?_
          obtain ⟨t', h', e'⟩ := ox_map h
          subst e'
          exact (t_51 x1 x2 x1 σ _ h' hG)
        · rw [if_neg hc] at h
          refine ox_iconst B od_TourList_goToNextRow_47 oxk_i0 ?_
          cases h
          exact ox_iret B F od_TourList_goToNextRow_48 rfl (ox_nz (Or.inl rfl)) hG
      · rw [if_neg hc] at h
        obtain ⟨v16, ev16, h⟩ := ox_let_some h
        refine ox_iinc B od_TourList_goToNextRow_36 rfl ((congrArg (x2 + ·) oxk_im1).trans ev16.symm) (by decide) rfl (L2 := [some (.ref (ad 6)), some (.int x1), some (.int v16), none, none]) rfl ?_
        refine ox_goto B 14 od_TourList_goToNextRow_39 rfl ?_
        cases h
        exact hG
  have t_14 : ∀ (x1 : Int32) (x2 : Int32) (σ : ox_S) (t : (Int32 × ox_S)), oc_TourList_goToNextRow_h14 x1 x2 σ = some t → (fun t : (Int32 × ox_S) => res = some (.int t.1) ∧ σf = t.2) t → ox_M p l e rm_oc_TourList_goToNextRow s m args below meth c (oc_W D ad cI cC A adK adV) 5 res σf 14 [some (.ref (ad 6)), some (.int x1), some (.int x2), none, none] [] σ := by
    intro x1 x2 σ t h hG
    exact ox_w_run (fun t : Int32 => ox_M p l e rm_oc_TourList_goToNextRow s m args below meth c (oc_W D ad cI cC A adK adV) 5 res σf 14 [some (.ref (ad 6)), some (.int x1), some (.int t), none, none] [] σ) (fun t : (Int32 × ox_S) => res = some (.int t.1) ∧ σf = t.2) (fun a t h hG => t_b14 x1 a σ t h hG) x2 t h hG
  change ox_M p l e rm_oc_TourList_goToNextRow s m args below meth c (oc_W D ad cI cC A adK adV) 5 res σf 0 [some (.ref (ad 6)), none, none, none, none] [] σ
  unfold oc_TourList_goToNextRow at h
  refine ox_aload_n B 0 od_TourList_goToNextRow_0 rfl rfl ?_
  refine ocg_TourList_25 B F od_TourList_goToNextRow_1 ?_
  refine ocg_TourList_29 B F od_TourList_goToNextRow_4 ?_
  refine ox_iconst B od_TourList_goToNextRow_7 oxk_i1 ?_
  refine ox_isub B od_TourList_goToNextRow_8 ?_
  obtain ⟨v1, ev1, h⟩ := ox_let_some h
  refine ox_topi ev1 ?_
  refine ox_istore_n B 1 od_TourList_goToNextRow_9 rfl (by decide) rfl (L2 := [some (.ref (ad 6)), some (.int v1), none, none, none]) rfl ?_
  refine ox_iload_n B 1 od_TourList_goToNextRow_10 rfl rfl ?_
  refine ox_iconst B od_TourList_goToNextRow_11 oxk_i1 ?_
  refine ox_isub B od_TourList_goToNextRow_12 ?_
  obtain ⟨v2, ev2, h⟩ := ox_let_some h
  refine ox_topi ev2 ?_
  refine ox_istore_n B 2 od_TourList_goToNextRow_13 rfl (by decide) rfl (L2 := [some (.ref (ad 6)), some (.int v1), some (.int v2), none, none]) rfl ?_
  exact (t_14 v1 v2 σ _ h hG)
abbrev rm_oc_Land_edgeBit : Room := { frames := 0, cells := 0, slots := 0, locals := 0 }
set_option maxRecDepth 100000 in
set_option maxHeartbeats 4000000 in
theorem ct_oc_Land_edgeBit {l : Launch} {D : va_G} {ad : Nat → Nat} {cI cC : ClassId} {A : Nat → Prop} {adK adV : Nat → Nat} (hok : ox_ok (oc_W D ad cI cC A adK adV)) (x1 : Int32) (x2 : Int32) (σ : ox_S) (t : Int32) (h : oc_Land_edgeBit x1 x2 σ = some t) : Met l oy_Land_edgeBit (Cond.code oy_Land_edgeBit prog_3_method_7_code 3 (some .int) :: ox_ws) rm_oc_Land_edgeBit (ox_P (oc_W D ad cI cC A adK adV) [.ref (ad 4), .int x1, .int x2] σ) (ox_Q (oc_W D ad cI cC A adK adV) (some (.int t)) σ) 0 0 A := by
  refine ox_met (ω := oc_W D ad cI cC A adK adV) (by decide) rfl hok (Nat.le_of_ble_eq_true rfl) ?_
  intro p e s m args below meth c B F
  generalize hres : (some (.int t) : Option Value) = res
  have hG : (fun t : Int32 => res = some (.int t) ∧ σ = σ) t := ⟨hres.symm, rfl⟩
  change ox_M p l e rm_oc_Land_edgeBit s m args below meth c (oc_W D ad cI cC A adK adV) 3 res σ 0 [some (.ref (ad 4)), some (.int x1), some (.int x2)] [] σ
  unfold oc_Land_edgeBit at h
  refine ox_iconst B od_Land_edgeBit_0 oxk_i1 ?_
  refine ox_aload_n B 0 od_Land_edgeBit_1 rfl rfl ?_
  refine ocg_Land_15 B F od_Land_edgeBit_2 ?_
  refine ox_iload_n B 1 od_Land_edgeBit_5 rfl rfl ?_
  refine ox_bipush B od_Land_edgeBit_6 oxk_b8 ?_
  refine ox_imul B od_Land_edgeBit_8 ?_
  refine ox_iload_n B 2 od_Land_edgeBit_9 rfl rfl ?_
  refine ox_iadd B od_Land_edgeBit_10 ?_
  obtain ⟨j1, ej1, hj1, h⟩ := ox_ix_some2 h
  refine ocal_7 B F od_Land_edgeBit_11 hj1 ej1 ?_
  refine ox_ishl B od_Land_edgeBit_12 ?_
  cases h
  exact ox_iret B F od_Land_edgeBit_13 rfl rfl hG
abbrev rm_oc_Land_between : Room := { frames := 0, cells := 0, slots := 0, locals := 0 }
set_option maxRecDepth 100000 in
set_option maxHeartbeats 4000000 in
theorem ct_oc_Land_between {l : Launch} {D : va_G} {ad : Nat → Nat} {cI cC : ClassId} {A : Nat → Prop} {adK adV : Nat → Nat} (hok : ox_ok (oc_W D ad cI cC A adK adV)) (x1 : Int32) (x2 : Int32) (σ : ox_S) (t : Int32) (h : oc_Land_between x1 x2 σ = some t) : Met l oy_Land_between (Cond.code oy_Land_between prog_3_method_6_code 3 (some .int) :: ox_ws) rm_oc_Land_between (ox_P (oc_W D ad cI cC A adK adV) [.ref (ad 4), .int x1, .int x2] σ) (ox_Q (oc_W D ad cI cC A adK adV) (some (.int t)) σ) 0 0 A := by
  refine ox_met (ω := oc_W D ad cI cC A adK adV) (by decide) rfl hok (Nat.le_of_ble_eq_true rfl) ?_
  intro p e s m args below meth c B F
  generalize hres : (some (.int t) : Option Value) = res
  have hG : (fun t : Int32 => res = some (.int t) ∧ σ = σ) t := ⟨hres.symm, rfl⟩
  change ox_M p l e rm_oc_Land_between s m args below meth c (oc_W D ad cI cC A adK adV) 3 res σ 0 [some (.ref (ad 4)), some (.int x1), some (.int x2)] [] σ
  unfold oc_Land_between at h
  refine ox_aload_n B 0 od_Land_between_0 rfl rfl ?_
  refine ocg_Land_9 B F od_Land_between_1 ?_
  refine ox_iload_n B 1 od_Land_between_4 rfl rfl ?_
  refine ox_bipush B od_Land_between_5 oxk_b8 ?_
  refine ox_imul B od_Land_between_7 ?_
  refine ox_iload_n B 2 od_Land_between_8 rfl rfl ?_
  refine ox_iadd B od_Land_between_9 ?_
  obtain ⟨j1, ej1, hj1, h⟩ := ox_ix_some2 h
  refine ocal_6 B F od_Land_between_10 hj1 ej1 ?_
  cases h
  exact ox_iret B F od_Land_between_11 rfl rfl hG
abbrev rm_oc_TourList_append : Room := { frames := 1, cells := 0, slots := 0, locals := 22 }
set_option maxRecDepth 100000 in
set_option maxHeartbeats 4000000 in
theorem ct_oc_TourList_append {l : Launch} {D : va_G} {ad : Nat → Nat} {cI cC : ClassId} {A : Nat → Prop} {adK adV : Nat → Nat} (hok : ox_ok (oc_W D ad cI cC A adK adV))  (σ : ox_S) (t : ox_S) (h : oc_TourList_append  σ = some t) : Met l oy_TourList_append (Cond.code oy_TourList_append prog_9_method_6_code 5 none :: ox_ws) rm_oc_TourList_append (ox_P (oc_W D ad cI cC A adK adV) [.ref (ad 6)] σ) (ox_Q (oc_W D ad cI cC A adK adV) none t) 0 0 A := by
  refine ox_met (ω := oc_W D ad cI cC A adK adV) (by decide) rfl hok (Nat.le_of_ble_eq_true rfl) ?_
  intro p e s m args below meth c B F
  generalize hres : (none : Option Value) = res
  have hG : res = none ∧ t = t := ⟨hres.symm, rfl⟩
  obtain ⟨σf, hσf⟩ : ∃ z, z = t := ⟨_, rfl⟩
  have hG : (fun t : ox_S => res = none ∧ σf = t) t := ⟨hres.symm, hσf⟩
  rw [show ox_M p l e rm_oc_TourList_append s m args below meth c (oc_W D ad cI cC A adK adV) 5 res t 0 (ox_l0 [.ref (ad 6)] 5) [] σ = ox_M p l e rm_oc_TourList_append s m args below meth c (oc_W D ad cI cC A adK adV) 5 res σf 0 (ox_l0 [.ref (ad 6)] 5) [] σ by rw [hσf]]
  have t_b22 : ∀ (x1 : Int32) (x2 : Int32) (x3 : Int32) (x4 : Int32) (σ : ox_S) (t : ((Int32 × Int32 × Int32 × Int32) ⊕ ox_S)), oc_TourList_append_b22 x1 x2 x3 x4 σ = some t → (ox_G (fun t : (Int32 × Int32 × Int32 × Int32) => ox_M p l e rm_oc_TourList_append s m args below meth c (oc_W D ad cI cC A adK adV) 5 res σf 22 [some (.ref (ad 6)), some (.int t.1), some (.int t.2.1), some (.int t.2.2.1), some (.int t.2.2.2)] [] σ) (fun t : ox_S => res = none ∧ σf = t)) t → ox_M p l e rm_oc_TourList_append s m args below meth c (oc_W D ad cI cC A adK adV) 5 res σf 22 [some (.ref (ad 6)), some (.int x1), some (.int x2), some (.int x3), some (.int x4)] [] σ := by
    intro x1 x2 x3 x4 σ t h hG
    unfold oc_TourList_append_b22 at h
    refine ox_iload B od_TourList_append_22 rfl ?_
    refine ox_aload_n B 0 od_TourList_append_24 rfl rfl ?_
    refine ocg_TourList_25 B F od_TourList_append_25 ?_
    refine ocg_TourList_29 B F od_TourList_append_28 ?_
    refine ox_icmp_ge B 84 od_TourList_append_31 rfl (fun hc => ?_) (fun hc => ?_)
    · rw [if_pos hc] at h
      refine ox_aload_n B 0 od_TourList_append_84 rfl rfl ?_
      refine ocg_TourList_15 B F od_TourList_append_85 ?_
      refine ox_aload_n B 0 od_TourList_append_88 rfl rfl ?_
      refine ocg_TourList_21 B F od_TourList_append_89 ?_
      refine ox_iload_n B 1 od_TourList_append_92 rfl rfl ?_
      obtain ⟨j3, ej3, hj3, h⟩ := ox_ix_some2 h
      obtain ⟨s4, es4, h⟩ := ox_let_some h
      refine ocas_14 B F od_TourList_append_93 hj3 ej3 es4 ?_
      refine ox_aload_n B 0 od_TourList_append_94 rfl rfl ?_
      refine ocg_TourList_18 B F od_TourList_append_95 ?_
      refine ox_aload_n B 0 od_TourList_append_98 rfl rfl ?_
      refine ocg_TourList_21 B F od_TourList_append_99 ?_
      refine ox_iload_n B 2 od_TourList_append_102 rfl rfl ?_
      obtain ⟨j5, ej5, hj5, h⟩ := ox_ix_some2 h
      obtain ⟨s6, es6, h⟩ := ox_let_some h
      refine ocas_15 B F od_TourList_append_103 hj5 ej5 es6 ?_
      refine ox_aload_n B 0 od_TourList_append_104 rfl rfl ?_
      refine ox_dup B od_TourList_append_105 rfl ?_
      refine ocg_TourList_21 B F od_TourList_append_106 ?_
      refine ox_iconst B od_TourList_append_109 oxk_i1 ?_
      refine ox_iadd B od_TourList_append_110 ?_
      obtain ⟨s7, es7, h⟩ := ox_let_some h
      refine ocp_TourList_21 B F od_TourList_append_111 es7 ?_
      cases h
      exact ox_vret B F od_TourList_append_114 rfl hG
    · rw [if_neg hc] at h
      refine ox_iload_n B 1 od_TourList_append_34 rfl rfl ?_
      refine ox_aload_n B 0 od_TourList_append_35 rfl rfl ?_
      refine ocg_TourList_25 B F od_TourList_append_36 ?_
      refine ox_iload_n B 3 od_TourList_append_39 rfl rfl ?_
      refine ox_aload_n B 0 od_TourList_append_40 rfl rfl ?_
      refine ocg_TourList_9 B F od_TourList_append_41 ?_
      refine ox_iload B od_TourList_append_44 rfl ?_
      obtain ⟨j8, ej8, hj8, h⟩ := ox_ix_some2 h
      refine ocal_13 B F od_TourList_append_46 hj8 ej8 ?_
      obtain ⟨r9, hr9, h⟩ := ox_bind h
      refine occ_TourList_59 B F od_TourList_append_47 (As := [.int x3, .int (σ.2 13 j8)]) (rest := [.int x1]) (st2 := [.int r9, .int x1]) (ct_oc_Land_edgeBit hok x3 (σ.2 13 j8) σ _ hr9) ⟨rfl, rfl, Nat.le_of_ble_eq_true rfl, Nat.le_of_ble_eq_true rfl⟩ rfl (Nat.le_of_ble_eq_true rfl) rfl rfl ?_
      refine ox_ior B od_TourList_append_50 ?_
      obtain ⟨v10, ev10, h⟩ := ox_let_some h
      refine ox_topi ev10 ?_
      refine ox_istore_n B 1 od_TourList_append_51 rfl (by decide) rfl (L2 := [some (.ref (ad 6)), some (.int v10), some (.int x2), some (.int x3), some (.int x4)]) rfl ?_
      refine ox_iload_n B 2 od_TourList_append_52 rfl rfl ?_
      refine ox_aload_n B 0 od_TourList_append_53 rfl rfl ?_
      refine ocg_TourList_25 B F od_TourList_append_54 ?_
      refine ox_iload_n B 3 od_TourList_append_57 rfl rfl ?_
      refine ox_aload_n B 0 od_TourList_append_58 rfl rfl ?_
      refine ocg_TourList_9 B F od_TourList_append_59 ?_
      refine ox_iload B od_TourList_append_62 rfl ?_
      obtain ⟨j11, ej11, hj11, h⟩ := ox_ix_some2 h
      refine ocal_13 B F od_TourList_append_64 hj11 ej11 ?_
      obtain ⟨r12, hr12, h⟩ := ox_bind h
      refine occ_TourList_63 B F od_TourList_append_65 (As := [.int x3, .int (σ.2 13 j11)]) (rest := [.int x2]) (st2 := [.int r12, .int x2]) (ct_oc_Land_between hok x3 (σ.2 13 j11) σ _ hr12) ⟨rfl, rfl, Nat.le_of_ble_eq_true rfl, Nat.le_of_ble_eq_true rfl⟩ rfl (Nat.le_of_ble_eq_true rfl) rfl rfl ?_
      refine ox_iadd B od_TourList_append_68 ?_
      obtain ⟨v13, ev13, h⟩ := ox_let_some h
      refine ox_topi ev13 ?_
      refine ox_istore_n B 2 od_TourList_append_69 rfl (by decide) rfl (L2 := [some (.ref (ad 6)), some (.int v10), some (.int v13), some (.int x3), some (.int x4)]) rfl ?_
      refine ox_aload_n B 0 od_TourList_append_70 rfl rfl ?_
      refine ocg_TourList_9 B F od_TourList_append_71 ?_
      refine ox_iload B od_TourList_append_74 rfl ?_
      obtain ⟨j14, ej14, hj14, h⟩ := ox_ix_some2 h
      refine ocal_13 B F od_TourList_append_76 hj14 ej14 ?_
      obtain ⟨v15, ev15, h⟩ := ox_let_some h
      refine ox_topi ev15 ?_
      refine ox_istore_n B 3 od_TourList_append_77 rfl (by decide) rfl (L2 := [some (.ref (ad 6)), some (.int v10), some (.int v13), some (.int v15), some (.int x4)]) rfl ?_
      obtain ⟨v16, ev16, h⟩ := ox_let_some h
      refine ox_iinc B od_TourList_append_78 rfl ((congrArg (x4 + ·) oxk_i1).trans ev16.symm) (by decide) rfl (L2 := [some (.ref (ad 6)), some (.int v10), some (.int v13), some (.int v15), some (.int v16)]) rfl ?_
      refine ox_goto B 22 od_TourList_append_81 rfl ?_
      cases h
      exact hG
  have t_22 : ∀ (x1 : Int32) (x2 : Int32) (x3 : Int32) (x4 : Int32) (σ : ox_S) (t : ox_S), oc_TourList_append_h22 x1 x2 x3 x4 σ = some t → (fun t : ox_S => res = none ∧ σf = t) t → ox_M p l e rm_oc_TourList_append s m args below meth c (oc_W D ad cI cC A adK adV) 5 res σf 22 [some (.ref (ad 6)), some (.int x1), some (.int x2), some (.int x3), some (.int x4)] [] σ := by
    intro x1 x2 x3 x4 σ t h hG
    exact ox_w_run (fun t : (Int32 × Int32 × Int32 × Int32) => ox_M p l e rm_oc_TourList_append s m args below meth c (oc_W D ad cI cC A adK adV) 5 res σf 22 [some (.ref (ad 6)), some (.int t.1), some (.int t.2.1), some (.int t.2.2.1), some (.int t.2.2.2)] [] σ) (fun t : ox_S => res = none ∧ σf = t) (fun a t h hG => t_b22 a.1 a.2.1 a.2.2.1 a.2.2.2 σ t h hG) (x1, x2, x3, x4) t h hG
  change ox_M p l e rm_oc_TourList_append s m args below meth c (oc_W D ad cI cC A adK adV) 5 res σf 0 [some (.ref (ad 6)), none, none, none, none] [] σ
  unfold oc_TourList_append at h
  refine ox_iconst B od_TourList_append_0 oxk_i0 ?_
  refine ox_istore_n B 1 od_TourList_append_1 rfl (by decide) rfl (L2 := [some (.ref (ad 6)), some (.int (0 : Int32)), none, none, none]) rfl ?_
  refine ox_iconst B od_TourList_append_2 oxk_i0 ?_
  refine ox_istore_n B 2 od_TourList_append_3 rfl (by decide) rfl (L2 := [some (.ref (ad 6)), some (.int (0 : Int32)), some (.int (0 : Int32)), none, none]) rfl ?_
  refine ox_aload_n B 0 od_TourList_append_4 rfl rfl ?_
  refine ocg_TourList_9 B F od_TourList_append_5 ?_
  refine ox_aload_n B 0 od_TourList_append_8 rfl rfl ?_
  refine ocg_TourList_25 B F od_TourList_append_9 ?_
  refine ocg_TourList_29 B F od_TourList_append_12 ?_
  refine ox_iconst B od_TourList_append_15 oxk_i1 ?_
  refine ox_isub B od_TourList_append_16 ?_
  obtain ⟨j1, ej1, hj1, h⟩ := ox_ix_some2 h
  refine ocal_13 B F od_TourList_append_17 hj1 ej1 ?_
  obtain ⟨v2, ev2, h⟩ := ox_let_some h
  refine ox_topi ev2 ?_
  refine ox_istore_n B 3 od_TourList_append_18 rfl (by decide) rfl (L2 := [some (.ref (ad 6)), some (.int (0 : Int32)), some (.int (0 : Int32)), some (.int v2), none]) rfl ?_
  refine ox_iconst B od_TourList_append_19 oxk_i0 ?_
  refine ox_istore B od_TourList_append_20 (by decide) rfl (L2 := [some (.ref (ad 6)), some (.int (0 : Int32)), some (.int (0 : Int32)), some (.int v2), some (.int (0 : Int32))]) rfl ?_
  exact (t_22 (0 : Int32) (0 : Int32) v2 (0 : Int32) σ _ h hG)
