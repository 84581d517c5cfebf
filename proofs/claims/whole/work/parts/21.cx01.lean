abbrev rm_oc_Reader_acceptsType : Room := { frames := 6, cells := 0, slots := 0, locals := 130 }
set_option maxRecDepth 100000 in
set_option maxHeartbeats 4000000 in
theorem ct_oc_Reader_acceptsType {l : Launch} {D : va_G} {ad : Nat → Nat} {cI cC : ClassId} {A : Nat → Prop} {adK adV : Nat → Nat} (hok : ox_ok (oc_W D ad cI cC A adK adV))  (σ : ox_S) (t : (Int32 × ox_S)) (h : oc_Reader_acceptsType  σ = some t) : Met l oy_Reader_acceptsType (Cond.code oy_Reader_acceptsType prog_6_method_7_code 1 (some .boolean) :: ox_ws) rm_oc_Reader_acceptsType (ox_P (oc_W D ad cI cC A adK adV) [.ref (ad 3)] σ) (ox_Q (oc_W D ad cI cC A adK adV) (some (.int t.1)) t.2) 0 0 A := by
  refine ox_met (ω := oc_W D ad cI cC A adK adV) (by decide) rfl hok (Nat.le_of_ble_eq_true rfl) ?_
  intro p e s m args below meth c B F
  generalize hres : (some (.int t.1) : Option Value) = res
  generalize hσf : t.2 = σf
  have hG : (fun t : (Int32 × ox_S) => res = some (.int t.1) ∧ σf = t.2) t := ⟨hres.symm, hσf.symm⟩
  change ox_M p l e rm_oc_Reader_acceptsType s m args below meth c (oc_W D ad cI cC A adK adV) 1 res σf 0 [some (.ref (ad 3))] [] σ
  unfold oc_Reader_acceptsType at h
  refine ox_aload_n B 0 od_Reader_acceptsType_0 rfl rfl ?_
  refine ocg_Reader_15 B F od_Reader_acceptsType_1 ?_
  refine ox_if_eq B 9 od_Reader_acceptsType_4 rfl (fun hc => ?_) (fun hc => ?_)
  · rw [if_pos hc] at h
    refine ox_aload_n B 0 od_Reader_acceptsType_9 rfl rfl ?_
    refine ocg_Reader_49 B F od_Reader_acceptsType_10 ?_
    refine ox_iconst B od_Reader_acceptsType_13 oxk_i1 ?_
    refine ocs_Reader_123 B F od_Reader_acceptsType_14 ?_
    obtain ⟨r1, hr1, h⟩ := ox_bind h
    refine occ_Reader_102 B F od_Reader_acceptsType_16 (As := [.int (1 : Int32), .ref (adK 8)]) (rest := []) (st2 := [.int r1]) (ct_oc_Line_wordIs hok (1 : Int32) 8 σ _ hr1) ⟨rfl, rfl, Nat.le_of_ble_eq_true rfl, Nat.le_of_ble_eq_true rfl⟩ rfl (Nat.le_of_ble_eq_true rfl) rfl rfl ?_
    refine ox_if_eq B 30 od_Reader_acceptsType_19 rfl (fun hc => ?_) (fun hc => ?_)
    · rw [if_pos hc] at h
      refine ox_aload_n B 0 od_Reader_acceptsType_30 rfl rfl ?_
      refine ocg_Reader_49 B F od_Reader_acceptsType_31 ?_
      refine ox_iconst B od_Reader_acceptsType_34 oxk_i1 ?_
      refine ocs_Reader_125 B F od_Reader_acceptsType_35 ?_
      obtain ⟨r2, hr2, h⟩ := ox_bind h
      refine occ_Reader_102 B F od_Reader_acceptsType_37 (As := [.int (1 : Int32), .ref (adK 9)]) (rest := []) (st2 := [.int r2]) (ct_oc_Line_wordIs hok (1 : Int32) 9 σ _ hr2) ⟨rfl, rfl, Nat.le_of_ble_eq_true rfl, Nat.le_of_ble_eq_true rfl⟩ rfl (Nat.le_of_ble_eq_true rfl) rfl rfl ?_
      refine ox_if_eq B 51 od_Reader_acceptsType_40 rfl (fun hc => ?_) (fun hc => ?_)
      · rw [if_pos hc] at h
        refine ox_aload_n B 0 od_Reader_acceptsType_51 rfl rfl ?_
        refine ocg_Reader_49 B F od_Reader_acceptsType_52 ?_
        refine ox_iconst B od_Reader_acceptsType_55 oxk_i1 ?_
        refine ocs_Reader_127 B F od_Reader_acceptsType_56 ?_
        obtain ⟨r3, hr3, h⟩ := ox_bind h
        refine occ_Reader_102 B F od_Reader_acceptsType_58 (As := [.int (1 : Int32), .ref (adK 10)]) (rest := []) (st2 := [.int r3]) (ct_oc_Line_wordIs hok (1 : Int32) 10 σ _ hr3) ⟨rfl, rfl, Nat.le_of_ble_eq_true rfl, Nat.le_of_ble_eq_true rfl⟩ rfl (Nat.le_of_ble_eq_true rfl) rfl rfl ?_
        refine ox_if_eq B 72 od_Reader_acceptsType_61 rfl (fun hc => ?_) (fun hc => ?_)
        · rw [if_pos hc] at h
          refine ox_aload_n B 0 od_Reader_acceptsType_72 rfl rfl ?_
          refine ocg_Reader_49 B F od_Reader_acceptsType_73 ?_
          refine ox_iconst B od_Reader_acceptsType_76 oxk_i1 ?_
          refine ocs_Reader_129 B F od_Reader_acceptsType_77 ?_
          obtain ⟨r4, hr4, h⟩ := ox_bind h
          refine occ_Reader_102 B F od_Reader_acceptsType_79 (As := [.int (1 : Int32), .ref (adK 11)]) (rest := []) (st2 := [.int r4]) (ct_oc_Line_wordIs hok (1 : Int32) 11 σ _ hr4) ⟨rfl, rfl, Nat.le_of_ble_eq_true rfl, Nat.le_of_ble_eq_true rfl⟩ rfl (Nat.le_of_ble_eq_true rfl) rfl rfl ?_
          refine ox_if_eq B 90 od_Reader_acceptsType_82 rfl (fun hc => ?_) (fun hc => ?_)
          · rw [if_pos hc] at h
            refine ox_aload_n B 0 od_Reader_acceptsType_90 rfl rfl ?_
            refine ocg_Reader_15 B F od_Reader_acceptsType_91 ?_
            refine ox_if_eq B 101 od_Reader_acceptsType_94 rfl (fun hc => ?_) (fun hc => ?_)
            · rw [if_pos hc] at h
              refine ox_iconst B od_Reader_acceptsType_101 oxk_i0 ?_
              cases h
              exact ox_iret B F od_Reader_acceptsType_102 rfl (ox_nz (Or.inl rfl)) hG
            · rw [if_neg hc] at h
              refine ox_iconst B od_Reader_acceptsType_97 oxk_i1 ?_
              refine ox_goto B 102 od_Reader_acceptsType_98 rfl ?_
              cases h
              exact ox_iret B F od_Reader_acceptsType_102 rfl (ox_nz (Or.inr rfl)) hG
          · rw [if_neg hc] at h
            refine ox_aload_n B 0 od_Reader_acceptsType_85 rfl rfl ?_
            refine ox_iconst B od_Reader_acceptsType_86 oxk_i4 ?_
            obtain ⟨s5, es5, h⟩ := ox_let_some h
            refine ocp_Reader_15 B F od_Reader_acceptsType_87 es5 ?_
            refine ox_aload_n B 0 od_Reader_acceptsType_90 rfl rfl ?_
            refine ocg_Reader_15 B F od_Reader_acceptsType_91 ?_
            refine ox_if_eq B 101 od_Reader_acceptsType_94 rfl (fun hc => ?_) (fun hc => ?_)
            · rw [if_pos hc] at h
              refine ox_iconst B od_Reader_acceptsType_101 oxk_i0 ?_
              cases h
              exact ox_iret B F od_Reader_acceptsType_102 rfl (ox_nz (Or.inl rfl)) hG
            · rw [if_neg hc] at h
              refine ox_iconst B od_Reader_acceptsType_97 oxk_i1 ?_
              refine ox_goto B 102 od_Reader_acceptsType_98 rfl ?_
              cases h
              exact ox_iret B F od_Reader_acceptsType_102 rfl (ox_nz (Or.inr rfl)) hG
        · rw [if_neg hc] at h
          refine ox_aload_n B 0 od_Reader_acceptsType_64 rfl rfl ?_
          refine ox_iconst B od_Reader_acceptsType_65 oxk_i3 ?_
          obtain ⟨s6, es6, h⟩ := ox_let_some h
          refine ocp_Reader_15 B F od_Reader_acceptsType_66 es6 ?_
          refine ox_goto B 90 od_Reader_acceptsType_69 rfl ?_
          refine ox_aload_n B 0 od_Reader_acceptsType_90 rfl rfl ?_
          refine ocg_Reader_15 B F od_Reader_acceptsType_91 ?_
          refine ox_if_eq B 101 od_Reader_acceptsType_94 rfl (fun hc => ?_) (fun hc => ?_)
          · rw [if_pos hc] at h
            refine ox_iconst B od_Reader_acceptsType_101 oxk_i0 ?_
            cases h
            exact ox_iret B F od_Reader_acceptsType_102 rfl (ox_nz (Or.inl rfl)) hG
          · rw [if_neg hc] at h
            refine ox_iconst B od_Reader_acceptsType_97 oxk_i1 ?_
            refine ox_goto B 102 od_Reader_acceptsType_98 rfl ?_
            cases h
            exact ox_iret B F od_Reader_acceptsType_102 rfl (ox_nz (Or.inr rfl)) hG
      · rw [if_neg hc] at h
        refine ox_aload_n B 0 od_Reader_acceptsType_43 rfl rfl ?_
        refine ox_iconst B od_Reader_acceptsType_44 oxk_i2 ?_
        obtain ⟨s7, es7, h⟩ := ox_let_some h
        refine ocp_Reader_15 B F od_Reader_acceptsType_45 es7 ?_
        refine ox_goto B 90 od_Reader_acceptsType_48 rfl ?_
        refine ox_aload_n B 0 od_Reader_acceptsType_90 rfl rfl ?_
        refine ocg_Reader_15 B F od_Reader_acceptsType_91 ?_
        refine ox_if_eq B 101 od_Reader_acceptsType_94 rfl (fun hc => ?_) (fun hc => ?_)
        · rw [if_pos hc] at h
          refine ox_iconst B od_Reader_acceptsType_101 oxk_i0 ?_
          cases h
          exact ox_iret B F od_Reader_acceptsType_102 rfl (ox_nz (Or.inl rfl)) hG
        · rw [if_neg hc] at h
          refine ox_iconst B od_Reader_acceptsType_97 oxk_i1 ?_
          refine ox_goto B 102 od_Reader_acceptsType_98 rfl ?_
          cases h
          exact ox_iret B F od_Reader_acceptsType_102 rfl (ox_nz (Or.inr rfl)) hG
    · rw [if_neg hc] at h
      refine ox_aload_n B 0 od_Reader_acceptsType_22 rfl rfl ?_
      refine ox_iconst B od_Reader_acceptsType_23 oxk_i1 ?_
      obtain ⟨s8, es8, h⟩ := ox_let_some h
      refine ocp_Reader_15 B F od_Reader_acceptsType_24 es8 ?_
      refine ox_goto B 90 od_Reader_acceptsType_27 rfl ?_
      refine ox_aload_n B 0 od_Reader_acceptsType_90 rfl rfl ?_
      refine ocg_Reader_15 B F od_Reader_acceptsType_91 ?_
      refine ox_if_eq B 101 od_Reader_acceptsType_94 rfl (fun hc => ?_) (fun hc => ?_)
      · rw [if_pos hc] at h
        refine ox_iconst B od_Reader_acceptsType_101 oxk_i0 ?_
        cases h
        exact ox_iret B F od_Reader_acceptsType_102 rfl (ox_nz (Or.inl rfl)) hG
      · rw [if_neg hc] at h
        refine ox_iconst B od_Reader_acceptsType_97 oxk_i1 ?_
        refine ox_goto B 102 od_Reader_acceptsType_98 rfl ?_
        cases h
        exact ox_iret B F od_Reader_acceptsType_102 rfl (ox_nz (Or.inr rfl)) hG
  · rw [if_neg hc] at h
    refine ox_iconst B od_Reader_acceptsType_7 oxk_i0 ?_
    cases h
    exact ox_iret B F od_Reader_acceptsType_8 rfl (ox_nz (Or.inl rfl)) hG
abbrev rm_oc_Reader_acceptsSection : Room := { frames := 6, cells := 0, slots := 0, locals := 130 }
set_option maxRecDepth 100000 in
set_option maxHeartbeats 4000000 in
theorem ct_oc_Reader_acceptsSection {l : Launch} {D : va_G} {ad : Nat → Nat} {cI cC : ClassId} {A : Nat → Prop} {adK adV : Nat → Nat} (hok : ox_ok (oc_W D ad cI cC A adK adV))  (σ : ox_S) (t : (Int32 × ox_S)) (h : oc_Reader_acceptsSection  σ = some t) : Met l oy_Reader_acceptsSection (Cond.code oy_Reader_acceptsSection prog_6_method_9_code 2 (some .boolean) :: ox_ws) rm_oc_Reader_acceptsSection (ox_P (oc_W D ad cI cC A adK adV) [.ref (ad 3)] σ) (ox_Q (oc_W D ad cI cC A adK adV) (some (.int t.1)) t.2) 0 0 A := by
  refine ox_met (ω := oc_W D ad cI cC A adK adV) (by decide) rfl hok (Nat.le_of_ble_eq_true rfl) ?_
  intro p e s m args below meth c B F
  generalize hres : (some (.int t.1) : Option Value) = res
  generalize hσf : t.2 = σf
  have hG : (fun t : (Int32 × ox_S) => res = some (.int t.1) ∧ σf = t.2) t := ⟨hres.symm, hσf.symm⟩
  have t_46 : ∀ (y0 : Nat) (σ : ox_S) (t : (Int32 × ox_S)), oc_Reader_acceptsSection_j46 y0 σ = some t → (fun t : (Int32 × ox_S) => res = some (.int t.1) ∧ σf = t.2) t → ox_M p l e rm_oc_Reader_acceptsSection s m args below meth c (oc_W D ad cI cC A adK adV) 2 res σf 46 [some (.ref (ad 3)), none] [.ref (adK y0)] σ := by
    intro y0 σ t h hG
    unfold oc_Reader_acceptsSection_j46 at h
    refine ox_astore_n B 1 od_Reader_acceptsSection_46 rfl (by decide) rfl (L2 := [some (.ref (ad 3)), some (.ref (adK y0))]) rfl ?_
    refine ox_aload_n B 0 od_Reader_acceptsSection_47 rfl rfl ?_
    refine ocg_Reader_49 B F od_Reader_acceptsSection_48 ?_
    refine ox_iconst B od_Reader_acceptsSection_51 oxk_i0 ?_
    refine ox_aload_n B 1 od_Reader_acceptsSection_52 rfl rfl ?_
    obtain ⟨r1, hr1, h⟩ := ox_bind h
    refine occ_Reader_102 B F od_Reader_acceptsSection_53 (As := [.int (0 : Int32), .ref (adK y0)]) (rest := []) (st2 := [.int r1]) (ct_oc_Line_wordIs hok (0 : Int32) y0 σ _ hr1) ⟨rfl, rfl, Nat.le_of_ble_eq_true rfl, Nat.le_of_ble_eq_true rfl⟩ rfl (Nat.le_of_ble_eq_true rfl) rfl rfl ?_
    refine ox_if_ne B 61 od_Reader_acceptsSection_56 rfl (fun hc => ?_) (fun hc => ?_)
    · rw [if_neg hc] at h
      refine ox_aload_n B 0 od_Reader_acceptsSection_61 rfl rfl ?_
      refine ox_iconst B od_Reader_acceptsSection_62 oxk_i1 ?_
      obtain ⟨s2, es2, h⟩ := ox_let_some h
      refine ocp_Reader_11 B F od_Reader_acceptsSection_63 es2 ?_
      refine ox_aload_n B 0 od_Reader_acceptsSection_66 rfl rfl ?_
      refine ox_iconst B od_Reader_acceptsSection_67 oxk_i0 ?_
      obtain ⟨s3, es3, h⟩ := ox_let_some h
      refine ocp_Reader_21 B F od_Reader_acceptsSection_68 es3 ?_
      refine ox_aload_n B 0 od_Reader_acceptsSection_71 rfl rfl ?_
      refine ox_aload_n B 0 od_Reader_acceptsSection_72 rfl rfl ?_
      obtain ⟨r4, hr4, h⟩ := ox_bind h
      refine occ_Reader_141 B F od_Reader_acceptsSection_73 (As := []) (rest := [.ref (ad 3)]) (st2 := [.int r4, .ref (ad 3)]) (ct_oc_Reader_firstColumn hok s3 _ hr4) ⟨rfl, rfl, Nat.le_of_ble_eq_true rfl, Nat.le_of_ble_eq_true rfl⟩ rfl (Nat.le_of_ble_eq_true rfl) rfl rfl ?_
      obtain ⟨s5, es5, h⟩ := ox_let_some h
      refine ocp_Reader_24 B F od_Reader_acceptsSection_76 es5 ?_
      refine ox_iconst B od_Reader_acceptsSection_79 oxk_i1 ?_
      cases h
      exact ox_iret B F od_Reader_acceptsSection_80 rfl (ox_nz (Or.inr rfl)) hG
    · rw [if_pos hc] at h
      refine ox_iconst B od_Reader_acceptsSection_59 oxk_i0 ?_
      cases h
      exact ox_iret B F od_Reader_acceptsSection_60 rfl (ox_nz (Or.inl rfl)) hG
  change ox_M p l e rm_oc_Reader_acceptsSection s m args below meth c (oc_W D ad cI cC A adK adV) 2 res σf 0 [some (.ref (ad 3)), none] [] σ
  unfold oc_Reader_acceptsSection at h
  refine ox_aload_n B 0 od_Reader_acceptsSection_0 rfl rfl ?_
  refine ocg_Reader_34 B F od_Reader_acceptsSection_1 ?_
  refine ox_if_eq B 29 od_Reader_acceptsSection_4 rfl (fun hc => ?_) (fun hc => ?_)
  · rw [if_pos hc] at h
    refine ox_iconst B od_Reader_acceptsSection_29 oxk_i0 ?_
    cases h
    exact ox_iret B F od_Reader_acceptsSection_30 rfl (ox_nz (Or.inl rfl)) hG
  · rw [if_neg hc] at h
    refine ox_aload_n B 0 od_Reader_acceptsSection_7 rfl rfl ?_
    refine ocg_Reader_15 B F od_Reader_acceptsSection_8 ?_
    refine ox_if_eq B 29 od_Reader_acceptsSection_11 rfl (fun hc => ?_) (fun hc => ?_)
    · rw [if_pos hc] at h
      refine ox_iconst B od_Reader_acceptsSection_29 oxk_i0 ?_
      cases h
      exact ox_iret B F od_Reader_acceptsSection_30 rfl (ox_nz (Or.inl rfl)) hG
    · rw [if_neg hc] at h
      refine ox_aload_n B 0 od_Reader_acceptsSection_14 rfl rfl ?_
      refine ocg_Reader_15 B F od_Reader_acceptsSection_15 ?_
      refine ox_iconst B od_Reader_acceptsSection_18 oxk_i1 ?_
      refine ox_icmp_ne B 31 od_Reader_acceptsSection_19 rfl (fun hc => ?_) (fun hc => ?_)
      · rw [if_neg hc] at h
        refine ox_aload_n B 0 od_Reader_acceptsSection_31 rfl rfl ?_
        refine ocg_Reader_15 B F od_Reader_acceptsSection_32 ?_
        refine ox_iconst B od_Reader_acceptsSection_35 oxk_i1 ?_
        refine ox_icmp_ne B 44 od_Reader_acceptsSection_36 rfl (fun hc => ?_) (fun hc => ?_)
        · rw [if_neg hc] at h
          refine ocs_Reader_139 B F od_Reader_acceptsSection_44 ?_
          exact (t_46 12 σ _ h hG)
        · rw [if_pos hc] at h
          refine ocs_Reader_137 B F od_Reader_acceptsSection_39 ?_
          refine ox_goto B 46 od_Reader_acceptsSection_41 rfl ?_
          exact (t_46 13 σ _ h hG)
      · rw [if_pos hc] at h
        refine ox_aload_n B 0 od_Reader_acceptsSection_22 rfl rfl ?_
        refine ocg_Reader_18 B F od_Reader_acceptsSection_23 ?_
        refine ox_if_ne B 31 od_Reader_acceptsSection_26 rfl (fun hc => ?_) (fun hc => ?_)
        · rw [if_neg hc] at h
          refine ox_aload_n B 0 od_Reader_acceptsSection_31 rfl rfl ?_
          refine ocg_Reader_15 B F od_Reader_acceptsSection_32 ?_
          refine ox_iconst B od_Reader_acceptsSection_35 oxk_i1 ?_
          refine ox_icmp_ne B 44 od_Reader_acceptsSection_36 rfl (fun hc => ?_) (fun hc => ?_)
          · rw [if_neg hc] at h
            refine ocs_Reader_139 B F od_Reader_acceptsSection_44 ?_
            exact (t_46 12 σ _ h hG)
          · rw [if_pos hc] at h
            refine ocs_Reader_137 B F od_Reader_acceptsSection_39 ?_
            refine ox_goto B 46 od_Reader_acceptsSection_41 rfl ?_
            exact (t_46 13 σ _ h hG)
        · rw [if_pos hc] at h
          refine ox_iconst B od_Reader_acceptsSection_29 oxk_i0 ?_
          cases h
          exact ox_iret B F od_Reader_acceptsSection_30 rfl (ox_nz (Or.inl rfl)) hG
abbrev rm_oc_Reader_acceptsHead : Room := { frames := 7, cells := 0, slots := 0, locals := 151 }
set_option maxRecDepth 100000 in
set_option maxHeartbeats 4000000 in
theorem ct_oc_Reader_acceptsHead {l : Launch} {D : va_G} {ad : Nat → Nat} {cI cC : ClassId} {A : Nat → Prop} {adK adV : Nat → Nat} (hok : ox_ok (oc_W D ad cI cC A adK adV))  (σ : ox_S) (t : (Int32 × ox_S)) (h : oc_Reader_acceptsHead  σ = some t) : Met l oy_Reader_acceptsHead (Cond.code oy_Reader_acceptsHead prog_6_method_5_code 1 (some .boolean) :: ox_ws) rm_oc_Reader_acceptsHead (ox_P (oc_W D ad cI cC A adK adV) [.ref (ad 3)] σ) (ox_Q (oc_W D ad cI cC A adK adV) (some (.int t.1)) t.2) 0 0 A := by
  refine ox_met (ω := oc_W D ad cI cC A adK adV) (by decide) rfl hok (Nat.le_of_ble_eq_true rfl) ?_
  intro p e s m args below meth c B F
  generalize hres : (some (.int t.1) : Option Value) = res
  generalize hσf : t.2 = σf
  have hG : (fun t : (Int32 × ox_S) => res = some (.int t.1) ∧ σf = t.2) t := ⟨hres.symm, hσf.symm⟩
  change ox_M p l e rm_oc_Reader_acceptsHead s m args below meth c (oc_W D ad cI cC A adK adV) 1 res σf 0 [some (.ref (ad 3))] [] σ
  unfold oc_Reader_acceptsHead at h
  refine ox_aload_n B 0 od_Reader_acceptsHead_0 rfl rfl ?_
  refine ocg_Reader_49 B F od_Reader_acceptsHead_1 ?_
  refine ocs_Reader_88 B F od_Reader_acceptsHead_4 ?_
  obtain ⟨r1, hr1, h⟩ := ox_bind h
  refine occ_Reader_90 B F od_Reader_acceptsHead_6 (As := [.ref (adK 1)]) (rest := []) (st2 := [.int r1]) (ct_oc_Line_beginsWith hok 1 σ _ hr1) ⟨rfl, rfl, Nat.le_of_ble_eq_true rfl, Nat.le_of_ble_eq_true rfl⟩ rfl (Nat.le_of_ble_eq_true rfl) rfl rfl ?_
  refine ox_if_eq B 14 od_Reader_acceptsHead_9 rfl (fun hc => ?_) (fun hc => ?_)
  · rw [if_pos hc] at h
    refine ox_aload_n B 0 od_Reader_acceptsHead_14 rfl rfl ?_
    refine ocg_Reader_49 B F od_Reader_acceptsHead_15 ?_
    refine ocg_Reader_94 B F od_Reader_acceptsHead_18 ?_
    refine ox_iconst B od_Reader_acceptsHead_21 oxk_i1 ?_
    refine ox_icmp_ne B 30 od_Reader_acceptsHead_22 rfl (fun hc => ?_) (fun hc => ?_)
    · rw [if_neg hc] at h
      refine ox_aload_n B 0 od_Reader_acceptsHead_30 rfl rfl ?_
      refine ocg_Reader_49 B F od_Reader_acceptsHead_31 ?_
      refine ocg_Reader_94 B F od_Reader_acceptsHead_34 ?_
      refine ox_iconst B od_Reader_acceptsHead_37 oxk_i2 ?_
      refine ox_icmp_eq B 43 od_Reader_acceptsHead_38 rfl (fun hc => ?_) (fun hc => ?_)
      · rw [if_pos hc] at h
        refine ox_aload_n B 0 od_Reader_acceptsHead_43 rfl rfl ?_
        refine ocg_Reader_49 B F od_Reader_acceptsHead_44 ?_
        refine ox_iconst B od_Reader_acceptsHead_47 oxk_i0 ?_
        refine ocs_Reader_100 B F od_Reader_acceptsHead_48 ?_
        obtain ⟨r2, hr2, h⟩ := ox_bind h
        refine occ_Reader_102 B F od_Reader_acceptsHead_50 (As := [.int (0 : Int32), .ref (adK 2)]) (rest := []) (st2 := [.int r2]) (ct_oc_Line_wordIs hok (0 : Int32) 2 σ _ hr2) ⟨rfl, rfl, Nat.le_of_ble_eq_true rfl, Nat.le_of_ble_eq_true rfl⟩ rfl (Nat.le_of_ble_eq_true rfl) rfl rfl ?_
        refine ox_if_eq B 61 od_Reader_acceptsHead_53 rfl (fun hc => ?_) (fun hc => ?_)
        · rw [if_pos hc] at h
          refine ox_aload_n B 0 od_Reader_acceptsHead_61 rfl rfl ?_
          refine ocg_Reader_49 B F od_Reader_acceptsHead_62 ?_
          refine ox_iconst B od_Reader_acceptsHead_65 oxk_i0 ?_
          refine ocs_Reader_109 B F od_Reader_acceptsHead_66 ?_
          obtain ⟨r3, hr3, h⟩ := ox_bind h
          refine occ_Reader_102 B F od_Reader_acceptsHead_68 (As := [.int (0 : Int32), .ref (adK 3)]) (rest := []) (st2 := [.int r3]) (ct_oc_Line_wordIs hok (0 : Int32) 3 σ _ hr3) ⟨rfl, rfl, Nat.le_of_ble_eq_true rfl, Nat.le_of_ble_eq_true rfl⟩ rfl (Nat.le_of_ble_eq_true rfl) rfl rfl ?_
          refine ox_if_eq B 79 od_Reader_acceptsHead_71 rfl (fun hc => ?_) (fun hc => ?_)
          · rw [if_pos hc] at h
            refine ox_aload_n B 0 od_Reader_acceptsHead_79 rfl rfl ?_
            refine ocg_Reader_49 B F od_Reader_acceptsHead_80 ?_
            refine ox_iconst B od_Reader_acceptsHead_83 oxk_i0 ?_
            refine ocs_Reader_114 B F od_Reader_acceptsHead_84 ?_
            obtain ⟨r4, hr4, h⟩ := ox_bind h
            refine occ_Reader_102 B F od_Reader_acceptsHead_86 (As := [.int (0 : Int32), .ref (adK 4)]) (rest := []) (st2 := [.int r4]) (ct_oc_Line_wordIs hok (0 : Int32) 4 σ _ hr4) ⟨rfl, rfl, Nat.le_of_ble_eq_true rfl, Nat.le_of_ble_eq_true rfl⟩ rfl (Nat.le_of_ble_eq_true rfl) rfl rfl ?_
            refine ox_if_eq B 103 od_Reader_acceptsHead_89 rfl (fun hc => ?_) (fun hc => ?_)
            · rw [if_pos hc] at h
              refine ox_iconst B od_Reader_acceptsHead_103 oxk_i0 ?_
              cases h
              exact ox_iret B F od_Reader_acceptsHead_104 rfl (ox_nz (Or.inl rfl)) hG
            · rw [if_neg hc] at h
              refine ox_aload_n B 0 od_Reader_acceptsHead_92 rfl rfl ?_
              obtain ⟨r5, s6, hr5, h⟩ := ox_b2_some h
              refine occ_Reader_116 B F od_Reader_acceptsHead_93 (As := []) (rest := []) (st2 := [.int r5]) (ct_oc_Reader_acceptsFormat hok σ _ hr5) ⟨rfl, rfl, Nat.le_of_ble_eq_true rfl, Nat.le_of_ble_eq_true rfl⟩ rfl (Nat.le_of_ble_eq_true rfl) rfl rfl ?_
              refine ox_if_eq B 103 od_Reader_acceptsHead_96 rfl (fun hc => ?_) (fun hc => ?_)
              · rw [if_pos hc] at h
                refine ox_iconst B od_Reader_acceptsHead_103 oxk_i0 ?_
                cases h
                exact ox_iret B F od_Reader_acceptsHead_104 rfl (ox_nz (Or.inl rfl)) hG
              · rw [if_neg hc] at h
                refine ox_iconst B od_Reader_acceptsHead_99 oxk_i1 ?_
                refine ox_goto B 104 od_Reader_acceptsHead_100 rfl ?_
                cases h
                exact ox_iret B F od_Reader_acceptsHead_104 rfl (ox_nz (Or.inr rfl)) hG
          · rw [if_neg hc] at h
            refine ox_aload_n B 0 od_Reader_acceptsHead_74 rfl rfl ?_
            obtain ⟨r7, s8, hr7, h⟩ := ox_b2_some h
            refine occ_Reader_111 B F od_Reader_acceptsHead_75 (As := []) (rest := []) (st2 := [.int r7]) (ct_oc_Reader_acceptsType hok σ _ hr7) ⟨rfl, rfl, Nat.le_of_ble_eq_true rfl, Nat.le_of_ble_eq_true rfl⟩ rfl (Nat.le_of_ble_eq_true rfl) rfl rfl ?_
            obtain ⟨hz, h⟩ := ox_z_some h
            cases h
            exact ox_iret B F od_Reader_acceptsHead_78 rfl (ox_nz hz) hG
        · rw [if_neg hc] at h
          refine ox_aload_n B 0 od_Reader_acceptsHead_56 rfl rfl ?_
          obtain ⟨r9, s10, hr9, h⟩ := ox_b2_some h
          refine occ_Reader_106 B F od_Reader_acceptsHead_57 (As := []) (rest := []) (st2 := [.int r9]) (ct_oc_Reader_acceptsDimension hok σ _ hr9) ⟨rfl, rfl, Nat.le_of_ble_eq_true rfl, Nat.le_of_ble_eq_true rfl⟩ rfl (Nat.le_of_ble_eq_true rfl) rfl rfl ?_
          obtain ⟨hz, h⟩ := ox_z_some h
          cases h
          exact ox_iret B F od_Reader_acceptsHead_60 rfl (ox_nz hz) hG
      · rw [if_neg hc] at h
        refine ox_iconst B od_Reader_acceptsHead_41 oxk_i0 ?_
        cases h
        exact ox_iret B F od_Reader_acceptsHead_42 rfl (ox_nz (Or.inl rfl)) hG
    · rw [if_pos hc] at h
      refine ox_aload_n B 0 od_Reader_acceptsHead_25 rfl rfl ?_
      obtain ⟨r11, s12, hr11, h⟩ := ox_b2_some h
      refine occ_Reader_97 B F od_Reader_acceptsHead_26 (As := []) (rest := []) (st2 := [.int r11]) (ct_oc_Reader_acceptsSection hok σ _ hr11) ⟨rfl, rfl, Nat.le_of_ble_eq_true rfl, Nat.le_of_ble_eq_true rfl⟩ rfl (Nat.le_of_ble_eq_true rfl) rfl rfl ?_
      obtain ⟨hz, h⟩ := ox_z_some h
      cases h
      exact ox_iret B F od_Reader_acceptsHead_29 rfl (ox_nz hz) hG
  · rw [if_neg hc] at h
    refine ox_iconst B od_Reader_acceptsHead_12 oxk_i1 ?_
    cases h
    exact ox_iret B F od_Reader_acceptsHead_13 rfl (ox_nz (Or.inr rfl)) hG
abbrev rm_oc_Reader_accepts : Room := { frames := 8, cells := 0, slots := 0, locals := 174 }
set_option maxRecDepth 100000 in
set_option maxHeartbeats 4000000 in
theorem ct_oc_Reader_accepts {l : Launch} {D : va_G} {ad : Nat → Nat} {cI cC : ClassId} {A : Nat → Prop} {adK adV : Nat → Nat} (hok : ox_ok (oc_W D ad cI cC A adK adV))  (σ : ox_S) (t : (Int32 × ox_S)) (h : oc_Reader_accepts  σ = some t) : Met l oy_Reader_accepts (Cond.code oy_Reader_accepts prog_6_method_4_code 1 (some .boolean) :: ox_ws) rm_oc_Reader_accepts (ox_P (oc_W D ad cI cC A adK adV) [.ref (ad 3)] σ) (ox_Q (oc_W D ad cI cC A adK adV) (some (.int t.1)) t.2) 0 0 A := by
  refine ox_met (ω := oc_W D ad cI cC A adK adV) (by decide) rfl hok (Nat.le_of_ble_eq_true rfl) ?_
  intro p e s m args below meth c B F
  generalize hres : (some (.int t.1) : Option Value) = res
  generalize hσf : t.2 = σf
  have hG : (fun t : (Int32 × ox_S) => res = some (.int t.1) ∧ σf = t.2) t := ⟨hres.symm, hσf.symm⟩
  change ox_M p l e rm_oc_Reader_accepts s m args below meth c (oc_W D ad cI cC A adK adV) 1 res σf 0 [some (.ref (ad 3))] [] σ
  unfold oc_Reader_accepts at h
  refine ox_aload_n B 0 od_Reader_accepts_0 rfl rfl ?_
  refine ocg_Reader_11 B F od_Reader_accepts_1 ?_
  refine ox_if_ne B 12 od_Reader_accepts_4 rfl (fun hc => ?_) (fun hc => ?_)
  · rw [if_neg hc] at h
    refine ox_aload_n B 0 od_Reader_accepts_12 rfl rfl ?_
    refine ocg_Reader_11 B F od_Reader_accepts_13 ?_
    refine ox_iconst B od_Reader_accepts_16 oxk_i2 ?_
    refine ox_icmp_ne B 22 od_Reader_accepts_17 rfl (fun hc => ?_) (fun hc => ?_)
    · rw [if_neg hc] at h
      refine ox_aload_n B 0 od_Reader_accepts_22 rfl rfl ?_
      refine ocg_Reader_15 B F od_Reader_accepts_23 ?_
      refine ox_iconst B od_Reader_accepts_26 oxk_i1 ?_
      refine ox_icmp_ne B 37 od_Reader_accepts_27 rfl (fun hc => ?_) (fun hc => ?_)
      · rw [if_neg hc] at h
        refine ox_aload_n B 0 od_Reader_accepts_37 rfl rfl ?_
        obtain ⟨r1, s2, hr1, h⟩ := ox_b2_some h
        refine occ_Reader_85 B F od_Reader_accepts_38 (As := []) (rest := []) (st2 := [.int r1]) (ct_oc_Reader_acceptsPlace hok σ _ hr1) ⟨rfl, rfl, Nat.le_of_ble_eq_true rfl, Nat.le_of_ble_eq_true rfl⟩ rfl (Nat.le_of_ble_eq_true rfl) rfl rfl ?_
        obtain ⟨hz, h⟩ := ox_z_some h
        cases h
        exact ox_iret B F od_Reader_accepts_41 rfl (ox_nz hz) hG
      · rw [if_pos hc] at h
        refine ox_aload_n B 0 od_Reader_accepts_30 rfl rfl ?_
        obtain ⟨r3, s4, hr3, h⟩ := ox_b2_some h
        refine occ_Reader_82 B F od_Reader_accepts_31 (As := []) (rest := []) (st2 := [.int r3]) (ct_oc_Reader_acceptsDistances hok σ _ hr3) ⟨rfl, rfl, Nat.le_of_ble_eq_true rfl, Nat.le_of_ble_eq_true rfl⟩ rfl (Nat.le_of_ble_eq_true rfl) rfl rfl ?_
        refine ox_goto B 41 od_Reader_accepts_34 rfl ?_
        obtain ⟨hz, h⟩ := ox_z_some h
        cases h
        exact ox_iret B F od_Reader_accepts_41 rfl (ox_nz hz) hG
    · rw [if_pos hc] at h
      refine ox_iconst B od_Reader_accepts_20 oxk_i0 ?_
      cases h
      exact ox_iret B F od_Reader_accepts_21 rfl (ox_nz (Or.inl rfl)) hG
  · rw [if_pos hc] at h
    refine ox_aload_n B 0 od_Reader_accepts_7 rfl rfl ?_
    obtain ⟨r5, s6, hr5, h⟩ := ox_b2_some h
    refine occ_Reader_79 B F od_Reader_accepts_8 (As := []) (rest := []) (st2 := [.int r5]) (ct_oc_Reader_acceptsHead hok σ _ hr5) ⟨rfl, rfl, Nat.le_of_ble_eq_true rfl, Nat.le_of_ble_eq_true rfl⟩ rfl (Nat.le_of_ble_eq_true rfl) rfl rfl ?_
    obtain ⟨hz, h⟩ := ox_z_some h
    cases h
    exact ox_iret B F od_Reader_accepts_11 rfl (ox_nz hz) hG
abbrev rm_oc_Reader_read : Room := { frames := 9, cells := 0, slots := 0, locals := 194 }
set_option maxRecDepth 100000 in
set_option maxHeartbeats 4000000 in
theorem ct_oc_Reader_read {l : Launch} {D : va_G} {ad : Nat → Nat} {cI cC : ClassId} {A : Nat → Prop} {adK adV : Nat → Nat} (hok : ox_ok (oc_W D ad cI cC A adK adV))  (σ : ox_S) (t : (Int32 × ox_S)) (h : oc_Reader_read  σ = some t) : Met l oy_Reader_read (Cond.code oy_Reader_read prog_6_method_2_code 4 (some .int) :: ox_ws) rm_oc_Reader_read (ox_P (oc_W D ad cI cC A adK adV) [.ref (ad 3)] σ) (ox_Q (oc_W D ad cI cC A adK adV) (some (.int t.1)) t.2) 0 0 A := by
  refine ox_met (ω := oc_W D ad cI cC A adK adV) (by decide) rfl hok (Nat.le_of_ble_eq_true rfl) ?_
  intro p e s m args below meth c B F
  generalize hres : (some (.int t.1) : Option Value) = res
  generalize hσf : t.2 = σf
  have hG : (fun t : (Int32 × ox_S) => res = some (.int t.1) ∧ σf = t.2) t := ⟨hres.symm, hσf.symm⟩
  have t_b10 : ∀ (x1 : Int32) (x2 : Int32) (x3 : Int32) (σ : ox_S) (t : ((Int32 × Int32 × Int32 × ox_S) ⊕ (Int32 × ox_S))), oc_Reader_read_b10 x1 x2 x3 σ = some t → (ox_G (fun t : (Int32 × Int32 × Int32 × ox_S) => ox_M p l e rm_oc_Reader_read s m args below meth c (oc_W D ad cI cC A adK adV) 4 res σf 10 [some (.ref (ad 3)), some (.int t.1), some (.int t.2.1), some (.int t.2.2.1)] [] t.2.2.2) (fun t : (Int32 × ox_S) => res = some (.int t.1) ∧ σf = t.2)) t → ox_M p l e rm_oc_Reader_read s m args below meth c (oc_W D ad cI cC A adK adV) 4 res σf 10 [some (.ref (ad 3)), some (.int x1), some (.int x2), some (.int x3)] [] σ := by
    intro x1 x2 x3 σ t h hG
    unfold oc_Reader_read_b10 at h
    refine ox_iload_n B 3 od_Reader_read_10 rfl rfl ?_
    refine ox_aload_n B 0 od_Reader_read_11 rfl rfl ?_
    refine ocg_Reader_40 B F od_Reader_read_12 ?_
    refine ocg_Reader_56 B F od_Reader_read_15 ?_
    refine ox_icmp_ge B 67 od_Reader_read_18 rfl (fun hc => ?_) (fun hc => ?_)
    · rw [if_pos hc] at h
      refine ox_aload_n B 0 od_Reader_read_67 rfl rfl ?_
      refine ocg_Reader_11 B F od_Reader_read_68 ?_
      refine ox_iconst B od_Reader_read_71 oxk_i2 ?_
      refine ox_icmp_ne B 90 od_Reader_read_72 rfl (fun hc => ?_) (fun hc => ?_)
      · rw [if_neg hc] at h
        refine ox_iload_n B 1 od_Reader_read_90 rfl rfl ?_
        refine ox_ineg B od_Reader_read_91 ?_
        cases h
        exact ox_iret B F od_Reader_read_92 rfl rfl hG
      · rw [if_pos hc] at h
        refine ox_iload_n B 2 od_Reader_read_75 rfl rfl ?_
        refine ox_aload_n B 0 od_Reader_read_76 rfl rfl ?_
        refine ocg_Reader_40 B F od_Reader_read_77 ?_
        refine ocg_Reader_56 B F od_Reader_read_80 ?_
        refine ox_icmp_ne B 90 od_Reader_read_83 rfl (fun hc => ?_) (fun hc => ?_)
        · rw [if_neg hc] at h
          refine ox_iload_n B 1 od_Reader_read_90 rfl rfl ?_
          refine ox_ineg B od_Reader_read_91 ?_
          cases h
          exact ox_iret B F od_Reader_read_92 rfl rfl hG
        · rw [if_pos hc] at h
          refine ox_iconst B od_Reader_read_86 oxk_i0 ?_
          refine ox_goto B 92 od_Reader_read_87 rfl ?_
          cases h
          exact ox_iret B F od_Reader_read_92 rfl rfl hG
    · rw [if_neg hc] at h
      refine ox_aload_n B 0 od_Reader_read_21 rfl rfl ?_
      refine ocg_Reader_40 B F od_Reader_read_22 ?_
      refine ocg_Reader_61 B F od_Reader_read_25 ?_
      refine ox_iload_n B 3 od_Reader_read_28 rfl rfl ?_
      obtain ⟨j2, ej2, hj2, h⟩ := ox_ix_some2 h
      refine ocal_0 B F od_Reader_read_29 hj2 ej2 ?_
      refine ox_bipush B od_Reader_read_30 oxk_b10 ?_
      refine ox_icmp_ne B 61 od_Reader_read_32 rfl (fun hc => ?_) (fun hc => ?_)
      · rw [if_neg hc] at h
        obtain ⟨v3, ev3, h⟩ := ox_let_some h
        refine ox_iinc B od_Reader_read_61 rfl ((congrArg (x3 + ·) oxk_i1).trans ev3.symm) (by decide) rfl (L2 := [some (.ref (ad 3)), some (.int x1), some (.int x2), some (.int v3)]) rfl ?_
        refine ox_goto B 10 od_Reader_read_64 rfl ?_
        cases h
        exact hG
      · rw [if_pos hc] at h
        refine ox_aload_n B 0 od_Reader_read_35 rfl rfl ?_
        refine ocg_Reader_49 B F od_Reader_read_36 ?_
        refine ox_iload_n B 2 od_Reader_read_39 rfl rfl ?_
        refine ox_iload_n B 3 od_Reader_read_40 rfl rfl ?_
        obtain ⟨s4, hs4, h⟩ := ox_bind h
        refine occ_Reader_65 B F od_Reader_read_41 (As := [.int x2, .int x3]) (rest := []) (st2 := []) (ct_oc_Line_part hok x2 x3 σ _ hs4) ⟨rfl, rfl, Nat.le_of_ble_eq_true rfl, Nat.le_of_ble_eq_true rfl⟩ rfl (Nat.le_of_ble_eq_true rfl) rfl rfl ?_
        refine ox_aload_n B 0 od_Reader_read_44 rfl rfl ?_
        obtain ⟨r5, s6, hr5, h⟩ := ox_b2_some h
        refine occ_Reader_69 B F od_Reader_read_45 (As := []) (rest := []) (st2 := [.int r5]) (ct_oc_Reader_accepts hok s4 _ hr5) ⟨rfl, rfl, Nat.le_of_ble_eq_true rfl, Nat.le_of_ble_eq_true rfl⟩ rfl (Nat.le_of_ble_eq_true rfl) rfl rfl ?_
        refine ox_if_ne B 54 od_Reader_read_48 rfl (fun hc => ?_) (fun hc => ?_)
        · rw [if_neg hc] at h
          obtain ⟨v7, ev7, h⟩ := ox_let_some h
          refine ox_iinc B od_Reader_read_54 rfl ((congrArg (x1 + ·) oxk_i1).trans ev7.symm) (by decide) rfl (L2 := [some (.ref (ad 3)), some (.int v7), some (.int x2), some (.int x3)]) rfl ?_
          refine ox_iload_n B 3 od_Reader_read_57 rfl rfl ?_
          refine ox_iconst B od_Reader_read_58 oxk_i1 ?_
          refine ox_iadd B od_Reader_read_59 ?_
          obtain ⟨v8, ev8, h⟩ := ox_let_some h
          refine ox_topi ev8 ?_
          refine ox_istore_n B 2 od_Reader_read_60 rfl (by decide) rfl (L2 := [some (.ref (ad 3)), some (.int v7), some (.int v8), some (.int x3)]) rfl ?_
          obtain ⟨v9, ev9, h⟩ := ox_let_some h
          refine ox_iinc B od_Reader_read_61 rfl ((congrArg (x3 + ·) oxk_i1).trans ev9.symm) (by decide) rfl (L2 := [some (.ref (ad 3)), some (.int v7), some (.int v8), some (.int v9)]) rfl ?_
          refine ox_goto B 10 od_Reader_read_64 rfl ?_
          cases h
          exact hG
        · rw [if_pos hc] at h
          refine ox_iload_n B 1 od_Reader_read_51 rfl rfl ?_
          refine ox_ineg B od_Reader_read_52 ?_
          cases h
          exact ox_iret B F od_Reader_read_53 rfl rfl hG
  have t_10 : ∀ (x1 : Int32) (x2 : Int32) (x3 : Int32) (σ : ox_S) (t : (Int32 × ox_S)), oc_Reader_read_h10 x1 x2 x3 σ = some t → (fun t : (Int32 × ox_S) => res = some (.int t.1) ∧ σf = t.2) t → ox_M p l e rm_oc_Reader_read s m args below meth c (oc_W D ad cI cC A adK adV) 4 res σf 10 [some (.ref (ad 3)), some (.int x1), some (.int x2), some (.int x3)] [] σ := by
    intro x1 x2 x3 σ t h hG
    exact ox_w_run (fun t : (Int32 × Int32 × Int32 × ox_S) => ox_M p l e rm_oc_Reader_read s m args below meth c (oc_W D ad cI cC A adK adV) 4 res σf 10 [some (.ref (ad 3)), some (.int t.1), some (.int t.2.1), some (.int t.2.2.1)] [] t.2.2.2) (fun t : (Int32 × ox_S) => res = some (.int t.1) ∧ σf = t.2) (fun a t h hG => t_b10 a.1 a.2.1 a.2.2.1 a.2.2.2 t h hG) (x1, x2, x3, σ) t h hG
  change ox_M p l e rm_oc_Reader_read s m args below meth c (oc_W D ad cI cC A adK adV) 4 res σf 0 [some (.ref (ad 3)), none, none, none] [] σ
  unfold oc_Reader_read at h
  refine ox_aload_n B 0 od_Reader_read_0 rfl rfl ?_
  obtain ⟨s1, hs1, h⟩ := ox_bind h
  refine occ_Reader_53 B F od_Reader_read_1 (As := []) (rest := []) (st2 := []) (ct_oc_Reader_begin hok σ _ hs1) ⟨rfl, rfl, Nat.le_of_ble_eq_true rfl, Nat.le_of_ble_eq_true rfl⟩ rfl (Nat.le_of_ble_eq_true rfl) rfl rfl ?_
  refine ox_iconst B od_Reader_read_4 oxk_i1 ?_
  refine ox_istore_n B 1 od_Reader_read_5 rfl (by decide) rfl (L2 := [some (.ref (ad 3)), some (.int (1 : Int32)), none, none]) rfl ?_
  refine ox_iconst B od_Reader_read_6 oxk_i0 ?_
  refine ox_istore_n B 2 od_Reader_read_7 rfl (by decide) rfl (L2 := [some (.ref (ad 3)), some (.int (1 : Int32)), some (.int (0 : Int32)), none]) rfl ?_
  refine ox_iconst B od_Reader_read_8 oxk_i0 ?_
  refine ox_istore_n B 3 od_Reader_read_9 rfl (by decide) rfl (L2 := [some (.ref (ad 3)), some (.int (1 : Int32)), some (.int (0 : Int32)), some (.int (0 : Int32))]) rfl ?_
  exact (t_10 (1 : Int32) (0 : Int32) (0 : Int32) s1 _ h hG)
abbrev rm_oc_Land_settle_a14 : Room := { frames := 1, cells := 0, slots := 0, locals := 39 }
set_option maxRecDepth 100000 in
set_option maxHeartbeats 4000000 in
theorem ct_oc_Land_settle_a14 {l : Launch} {D : va_G} {ad : Nat → Nat} {cI cC : ClassId} {A : Nat → Prop} {adK adV : Nat → Nat} (hok : ox_ok (oc_W D ad cI cC A adK adV)) (x1 : Int32) (σ : ox_S) (t : ox_S) (h : oc_Land_settle_a14 x1 σ = some t) : Met l oy_Land_settle (Cond.code oy_Land_settle prog_3_method_2_code 3 none :: ox_ws) rm_oc_Land_settle_a14 (ox_P (oc_W D ad cI cC A adK adV) [.ref (ad 4), .int x1, .ref (ad 14)] σ) (ox_Q (oc_W D ad cI cC A adK adV) none t) 0 0 A := by
  refine ox_met (ω := oc_W D ad cI cC A adK adV) (by decide) rfl hok (Nat.le_of_ble_eq_true rfl) ?_
  intro p e s m args below meth c B F
  generalize hres : (none : Option Value) = res
  have hG : res = none ∧ t = t := ⟨hres.symm, rfl⟩
  obtain ⟨σf, hσf⟩ : ∃ z, z = t := ⟨_, rfl⟩
  have hG : (fun t : ox_S => res = none ∧ σf = t) t := ⟨hres.symm, hσf⟩
  rw [show ox_M p l e rm_oc_Land_settle_a14 s m args below meth c (oc_W D ad cI cC A adK adV) 3 res t 0 (ox_l0 [.ref (ad 4), .int x1, .ref (ad 14)] 3) [] σ = ox_M p l e rm_oc_Land_settle_a14 s m args below meth c (oc_W D ad cI cC A adK adV) 3 res σf 0 (ox_l0 [.ref (ad 4), .int x1, .ref (ad 14)] 3) [] σ by rw [hσf]]
  change ox_M p l e rm_oc_Land_settle_a14 s m args below meth c (oc_W D ad cI cC A adK adV) 3 res σf 0 [some (.ref (ad 4)), some (.int x1), some (.ref (ad 14))] [] σ
  unfold oc_Land_settle_a14 at h
  refine ox_aload_n B 0 od_Land_settle_0 rfl rfl ?_
  refine ox_iload_n B 1 od_Land_settle_1 rfl rfl ?_
  obtain ⟨s1, es1, h⟩ := ox_let_some h
  refine ocp_Land_27 B F od_Land_settle_2 es1 ?_
  refine ox_aload_n B 2 od_Land_settle_5 rfl rfl ?_
  refine ox_iconst B od_Land_settle_6 oxk_i0 ?_
  refine ox_aload_n B 0 od_Land_settle_7 rfl rfl ?_
  refine ocg_Land_9 B F od_Land_settle_8 ?_
  refine ox_iconst B od_Land_settle_11 oxk_i0 ?_
  refine ox_aload_n B 0 od_Land_settle_12 rfl rfl ?_
  refine ocg_Land_9 B F od_Land_settle_13 ?_
  refine oclen_6 B F od_Land_settle_16 ?_
  obtain ⟨s2, es2, h⟩ := ox_let_some h
  refine oc_copy_Land_40 B F od_Land_settle_17 (Nat.le_of_ble_eq_true rfl) (Nat.le_of_ble_eq_true rfl) es2 ?_
  refine ox_aload_n B 0 od_Land_settle_20 rfl rfl ?_
  refine ocg_Land_24 B F od_Land_settle_21 ?_
  refine ox_iconst B od_Land_settle_24 oxk_i0 ?_
  obtain ⟨s3, es3, h⟩ := ox_let_some h
  refine oc_fill_Land_46_10 B F od_Land_settle_25 (Nat.le_of_ble_eq_true rfl) (Nat.le_of_ble_eq_true rfl) (rest := []) (Nat.le_of_ble_eq_true rfl) es3 ?_
  refine ox_aload_n B 0 od_Land_settle_28 rfl rfl ?_
  refine ox_iconst B od_Land_settle_29 oxk_i0 ?_
  obtain ⟨s4, es4, h⟩ := ox_let_some h
  refine ocp_Land_34 B F od_Land_settle_30 es4 ?_
  refine ox_aload_n B 0 od_Land_settle_33 rfl rfl ?_
  refine ox_iconst B od_Land_settle_34 oxk_i0 ?_
  obtain ⟨s5, es5, h⟩ := ox_let_some h
  refine ocp_Land_37 B F od_Land_settle_35 es5 ?_
  refine ox_aload_n B 0 od_Land_settle_38 rfl rfl ?_
  obtain ⟨s6, hs6, h⟩ := ox_bind h
  refine occ_Land_52 B F od_Land_settle_39 (As := []) (rest := []) (st2 := []) (ct_oc_Land_numberEdges hok s5 _ hs6) ⟨rfl, rfl, Nat.le_of_ble_eq_true rfl, Nat.le_of_ble_eq_true rfl⟩ rfl (Nat.le_of_ble_eq_true rfl) rfl rfl ?_
  cases h
  exact ox_vret B F od_Land_settle_42 rfl hG
abbrev rm_oc_T_load : Room := { frames := 10, cells := 0, slots := 0, locals := 217 }
set_option maxRecDepth 100000 in
set_option maxHeartbeats 4000000 in
theorem ct_oc_T_load {l : Launch} {D : va_G} {ad : Nat → Nat} {cI cC : ClassId} {A : Nat → Prop} {adK adV : Nat → Nat} (hok : ox_ok (oc_W D ad cI cC A adK adV))  (σ : ox_S) (t : (Int32 × ox_S)) (h : oc_T_load  σ = some t) : Met l oy_T_load (Cond.code oy_T_load prog_1_method_4_code 2 (some .int) :: ox_ws) rm_oc_T_load (ox_P (oc_W D ad cI cC A adK adV) [.ref (ad 0)] σ) (ox_Q (oc_W D ad cI cC A adK adV) (some (.int t.1)) t.2) 0 0 A := by
  refine ox_met (ω := oc_W D ad cI cC A adK adV) (by decide) rfl hok (Nat.le_of_ble_eq_true rfl) ?_
  intro p e s m args below meth c B F
  generalize hres : (some (.int t.1) : Option Value) = res
  generalize hσf : t.2 = σf
  have hG : (fun t : (Int32 × ox_S) => res = some (.int t.1) ∧ σf = t.2) t := ⟨hres.symm, hσf.symm⟩
  change ox_M p l e rm_oc_T_load s m args below meth c (oc_W D ad cI cC A adK adV) 2 res σf 0 [some (.ref (ad 0)), none] [] σ
  unfold oc_T_load at h
  refine ox_aload_n B 0 od_T_load_0 rfl rfl ?_
  refine ocg_T_21 B F od_T_load_1 ?_
  obtain ⟨r1, s2, hr1, h⟩ := ox_b2_some h
  refine occ_T_70 B F od_T_load_4 (As := []) (rest := []) (st2 := [.int r1]) (ct_oc_Reader_read hok σ _ hr1) ⟨rfl, rfl, Nat.le_of_ble_eq_true rfl, Nat.le_of_ble_eq_true rfl⟩ rfl (Nat.le_of_ble_eq_true rfl) rfl rfl ?_
  refine ox_istore_n B 1 od_T_load_7 rfl (by decide) rfl (L2 := [some (.ref (ad 0)), some (.int r1)]) rfl ?_
  refine ox_iload_n B 1 od_T_load_8 rfl rfl ?_
  refine ox_if_ne B 56 od_T_load_9 rfl (fun hc => ?_) (fun hc => ?_)
  · rw [if_neg hc] at h
    refine ox_iload_n B 1 od_T_load_56 rfl rfl ?_
    cases h
    exact ox_iret B F od_T_load_57 rfl rfl hG
  · rw [if_pos hc] at h
    refine ox_aload_n B 0 od_T_load_12 rfl rfl ?_
    refine ocg_T_28 B F od_T_load_13 ?_
    refine ox_aload_n B 0 od_T_load_16 rfl rfl ?_
    refine ocg_T_21 B F od_T_load_17 ?_
    refine ocg_T_74 B F od_T_load_20 ?_
    refine ox_aload_n B 0 od_T_load_23 rfl rfl ?_
    refine ocg_T_21 B F od_T_load_24 ?_
    refine ocg_T_77 B F od_T_load_27 ?_
    obtain ⟨s3, hs3, h⟩ := ox_bind h
    refine occ_T_81 B F od_T_load_30 (As := [.int (s2.1 9), .ref (ad 14)]) (rest := []) (st2 := []) (ct_oc_Land_settle_a14 hok (s2.1 9) s2 _ hs3) ⟨rfl, rfl, Nat.le_of_ble_eq_true rfl, Nat.le_of_ble_eq_true rfl⟩ rfl (Nat.le_of_ble_eq_true rfl) rfl rfl ?_
    refine ox_aload_n B 0 od_T_load_33 rfl rfl ?_
    refine ocg_T_44 B F od_T_load_34 ?_
    obtain ⟨s4, hs4, h⟩ := ox_bind h
    refine occ_T_85 B F od_T_load_37 (As := []) (rest := []) (st2 := []) (ct_oc_TourList_listAll hok s3 _ hs4) ⟨rfl, rfl, Nat.le_of_ble_eq_true rfl, Nat.le_of_ble_eq_true rfl⟩ rfl (Nat.le_of_ble_eq_true rfl) rfl rfl ?_
    refine ox_aload_n B 0 od_T_load_40 rfl rfl ?_
    refine ocg_T_51 B F od_T_load_41 ?_
    refine ox_iconst B od_T_load_44 oxk_i0 ?_
    obtain ⟨s5, es5, h⟩ := ox_let_some h
    refine ocp_T_88 B F od_T_load_45 (Or.inl rfl) es5 ?_
    refine ox_aload_n B 0 od_T_load_48 rfl rfl ?_
    refine ocg_T_58 B F od_T_load_49 ?_
    refine ox_iconst B od_T_load_52 oxk_i0 ?_
    obtain ⟨s6, es6, h⟩ := ox_let_some h
    refine ocp_T_92 B F od_T_load_53 es6 ?_
    refine ox_iload_n B 1 od_T_load_56 rfl rfl ?_
    cases h
    exact ox_iret B F od_T_load_57 rfl rfl hG
