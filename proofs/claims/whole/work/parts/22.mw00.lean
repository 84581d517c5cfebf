abbrev rm_om_Mo_write : Room := { frames := 0, cells := 0, slots := 0, locals := 0 }
set_option maxRecDepth 100000 in
set_option maxHeartbeats 4000000 in
theorem ct_om_Mo_write {l : Launch} {D : va_G} {ad : Nat → Nat} {cI cC cZ : ClassId} {A : Nat → Prop} (hok : ox_ok (om_W D ad cI cC cZ A)) (x1 : Int64) (σ : ox_S) (t : (Int32 × ox_S)) (h : om_Mo_write x1 σ = some t) : Met l oy_Mo_write (Cond.code oy_Mo_write prog_11_method_2_code 6 (some .boolean) :: ox_ws) rm_om_Mo_write (ox_P (om_W D ad cI cC cZ A) [.ref (ad 0), .long x1] σ) (ox_Q (om_W D ad cI cC cZ A) (some (.int t.1)) t.2) 0 0 A := by
  refine ox_met (ω := om_W D ad cI cC cZ A) (by decide) rfl hok (Nat.le_of_ble_eq_true rfl) ?_
  intro p e s m args below meth c B F
  generalize hres : (some (.int t.1) : Option Value) = res
  generalize hσf : t.2 = σf
  have hG : (fun t : (Int32 × ox_S) => res = some (.int t.1) ∧ σf = t.2) t := ⟨hres.symm, hσf.symm⟩
  have t_b90 : ∀ (x1 : Int64) (x4 : Int32) (σ : ox_S) (t : ((Int32 × ox_S) ⊕ (Int32 × ox_S))), om_Mo_write_b90 x1 x4 σ = some t → (ox_G (fun t : (Int32 × ox_S) => ox_M p l e rm_om_Mo_write s m args below meth c (om_W D ad cI cC cZ A) 6 res σf 90 [some (.ref (ad 0)), some (.long x1), none, none, some (.int t.1), none] [] t.2) (fun t : (Int32 × ox_S) => res = some (.int t.1) ∧ σf = t.2)) t → ox_M p l e rm_om_Mo_write s m args below meth c (om_W D ad cI cC cZ A) 6 res σf 90 [some (.ref (ad 0)), some (.long x1), none, none, some (.int x4), none] [] σ := by
    intro x1 x4 σ t h hG
    unfold om_Mo_write_b90 at h
    refine ox_iload B od_Mo_write_90 rfl ?_
    refine ox_bipush B od_Mo_write_92 oxk_b8 ?_
    refine ox_icmp_ge B 144 od_Mo_write_94 rfl (fun hc => ?_) (fun hc => ?_)
    · rw [if_pos hc] at h
      refine ox_iconst B od_Mo_write_144 oxk_i1 ?_
      cases h
      exact ox_iret B F od_Mo_write_145 rfl (ox_nz (Or.inr rfl)) hG
    · rw [if_neg hc] at h
      refine ox_lload_n B 1 od_Mo_write_97 rfl rfl ?_
      refine ox_bipush B od_Mo_write_98 oxk_b8 ?_
      refine ox_iload B od_Mo_write_100 rfl ?_
      refine ox_imul B od_Mo_write_102 ?_
      refine ox_lshr B od_Mo_write_103 ?_
      refine ox_ldc2 B od_Mo_write_104 omk_Mo_54 ?_
      refine ox_land B od_Mo_write_107 ?_
      refine ox_l2i B od_Mo_write_108 ?_
      obtain ⟨v1, ev1, h⟩ := ox_let_some h
      refine ox_topi ev1 ?_
      refine ox_istore B od_Mo_write_109 (by decide) rfl (L2 := [some (.ref (ad 0)), some (.long x1), none, none, some (.int x4), some (.int v1)]) rfl ?_
      refine ox_iload B od_Mo_write_111 rfl ?_
      refine ox_if_eq B 138 od_Mo_write_113 rfl (fun hc => ?_) (fun hc => ?_)
      · rw [if_pos hc] at h
        obtain ⟨v2, ev2, h⟩ := ox_let_some h
        refine ox_iinc B od_Mo_write_138 rfl ((congrArg (x4 + ·) oxk_i1).trans ev2.symm) (by decide) rfl (L2 := [some (.ref (ad 0)), some (.long x1), none, none, some (.int v2), some (.int v1)]) rfl ?_
        refine ox_goto B 90 od_Mo_write_141 rfl ?_
        cases h
        exact (ox_mask [true, true, false, false, true, false] hG)
      · rw [if_neg hc] at h
        refine ox_aload_n B 0 od_Mo_write_116 rfl rfl ?_
        refine omg_Mo_7 B F od_Mo_write_117 ?_
        refine ox_aload_n B 0 od_Mo_write_120 rfl rfl ?_
        refine omg_Mo_56 B F od_Mo_write_121 ?_
        refine ox_iload B od_Mo_write_124 rfl ?_
        refine ox_i2c B od_Mo_write_126 ?_
        obtain ⟨j3, ej3, hj3, h⟩ := ox_ix_some2 h
        obtain ⟨s4, es4, h⟩ := ox_let_some h
        refine omas_0 B F od_Mo_write_127 hj3 ej3 es4 ?_
        refine ox_aload_n B 0 od_Mo_write_128 rfl rfl ?_
        refine ox_dup B od_Mo_write_129 rfl ?_
        refine omg_Mo_56 B F od_Mo_write_130 ?_
        refine ox_iconst B od_Mo_write_133 oxk_i1 ?_
        refine ox_iadd B od_Mo_write_134 ?_
        obtain ⟨s5, es5, h⟩ := ox_let_some h
        refine omp_Mo_56 B F od_Mo_write_135 es5 ?_
        obtain ⟨v6, ev6, h⟩ := ox_let_some h
        refine ox_iinc B od_Mo_write_138 rfl ((congrArg (x4 + ·) oxk_i1).trans ev6.symm) (by decide) rfl (L2 := [some (.ref (ad 0)), some (.long x1), none, none, some (.int v6), some (.int v1)]) rfl ?_
        refine ox_goto B 90 od_Mo_write_141 rfl ?_
        cases h
        exact (ox_mask [true, true, false, false, true, false] hG)
  have t_90 : ∀ (x1 : Int64) (x4 : Int32) (σ : ox_S) (t : (Int32 × ox_S)), om_Mo_write_h90 x1 x4 σ = some t → (fun t : (Int32 × ox_S) => res = some (.int t.1) ∧ σf = t.2) t → ox_M p l e rm_om_Mo_write s m args below meth c (om_W D ad cI cC cZ A) 6 res σf 90 [some (.ref (ad 0)), some (.long x1), none, none, some (.int x4), none] [] σ := by
    intro x1 x4 σ t h hG
    exact ox_w_run (fun t : (Int32 × ox_S) => ox_M p l e rm_om_Mo_write s m args below meth c (om_W D ad cI cC cZ A) 6 res σf 90 [some (.ref (ad 0)), some (.long x1), none, none, some (.int t.1), none] [] t.2) (fun t : (Int32 × ox_S) => res = some (.int t.1) ∧ σf = t.2) (fun a t h hG => t_b90 x1 a.1 a.2 t h hG) (x4, σ) t h hG
  have t_54 : ∀ (x1 : Int64) (x3 : Int32) (x4 : Int32) (x5 : Int32) (σ : ox_S) (t : ((Int32 × Int32) ⊕ (Int32 × ox_S))), om_Mo_write_j54 x1 x3 x4 x5 σ = some t → (ox_G (fun t : (Int32 × Int32) => ox_M p l e rm_om_Mo_write s m args below meth c (om_W D ad cI cC cZ A) 6 res σf 5 [some (.ref (ad 0)), some (.long x1), none, some (.int t.1), some (.int t.2), none] [] σ) (fun t : (Int32 × ox_S) => res = some (.int t.1) ∧ σf = t.2)) t → ox_M p l e rm_om_Mo_write s m args below meth c (om_W D ad cI cC cZ A) 6 res σf 54 [some (.ref (ad 0)), some (.long x1), none, some (.int x3), some (.int x4), some (.int x5)] [] σ := by
    intro x1 x3 x4 x5 σ t h hG
    unfold om_Mo_write_j54 at h
    refine ox_iload_n B 3 od_Mo_write_54 rfl rfl ?_
    refine ox_iload B od_Mo_write_55 rfl ?_
    refine ox_if_ne B 64 od_Mo_write_57 rfl (fun hc => ?_) (fun hc => ?_)
    · rw [if_neg hc] at h
      refine ox_iconst B od_Mo_write_64 oxk_i1 ?_
      refine ox_iadd B od_Mo_write_65 ?_
      obtain ⟨v8, ev8, h⟩ := ox_let_some h
      refine ox_topi ev8 ?_
      refine ox_istore_n B 3 od_Mo_write_66 rfl (by decide) rfl (L2 := [some (.ref (ad 0)), some (.long x1), none, some (.int v8), some (.int x4), some (.int x5)]) rfl ?_
      obtain ⟨v9, ev9, h⟩ := ox_let_some h
      refine ox_iinc B od_Mo_write_67 rfl ((congrArg (x4 + ·) oxk_i1).trans ev9.symm) (by decide) rfl (L2 := [some (.ref (ad 0)), some (.long x1), none, some (.int v8), some (.int v9), some (.int x5)]) rfl ?_
      refine ox_goto B 5 od_Mo_write_70 rfl ?_
      cases h
      exact (ox_mask [true, true, false, true, true, false] hG)
    · rw [if_pos hc] at h
      refine ox_iconst B od_Mo_write_60 oxk_i0 ?_
      refine ox_goto B 65 od_Mo_write_61 rfl ?_
      refine ox_iadd B od_Mo_write_65 ?_
      obtain ⟨v10, ev10, h⟩ := ox_let_some h
      refine ox_topi ev10 ?_
      refine ox_istore_n B 3 od_Mo_write_66 rfl (by decide) rfl (L2 := [some (.ref (ad 0)), some (.long x1), none, some (.int v10), some (.int x4), some (.int x5)]) rfl ?_
      obtain ⟨v11, ev11, h⟩ := ox_let_some h
      refine ox_iinc B od_Mo_write_67 rfl ((congrArg (x4 + ·) oxk_i1).trans ev11.symm) (by decide) rfl (L2 := [some (.ref (ad 0)), some (.long x1), none, some (.int v10), some (.int v11), some (.int x5)]) rfl ?_
      refine ox_goto B 5 od_Mo_write_70 rfl ?_
      cases h
      exact (ox_mask [true, true, false, true, true, false] hG)
  have t_b5 : ∀ (x1 : Int64) (x3 : Int32) (x4 : Int32) (σ : ox_S) (t : ((Int32 × Int32) ⊕ (Int32 × ox_S))), om_Mo_write_b5 x1 x3 x4 σ = some t → (ox_G (fun t : (Int32 × Int32) => ox_M p l e rm_om_Mo_write s m args below meth c (om_W D ad cI cC cZ A) 6 res σf 5 [some (.ref (ad 0)), some (.long x1), none, some (.int t.1), some (.int t.2), none] [] σ) (fun t : (Int32 × ox_S) => res = some (.int t.1) ∧ σf = t.2)) t → ox_M p l e rm_om_Mo_write s m args below meth c (om_W D ad cI cC cZ A) 6 res σf 5 [some (.ref (ad 0)), some (.long x1), none, some (.int x3), some (.int x4), none] [] σ := by
    intro x1 x3 x4 σ t h hG
    unfold om_Mo_write_b5 at h
    refine ox_iload B od_Mo_write_5 rfl ?_
    refine ox_bipush B od_Mo_write_7 oxk_b8 ?_
    refine ox_icmp_ge B 73 od_Mo_write_9 rfl (fun hc => ?_) (fun hc => ?_)
    · rw [if_pos hc] at h
      refine ox_aload_n B 0 od_Mo_write_73 rfl rfl ?_
      refine omg_Mo_56 B F od_Mo_write_74 ?_
      refine ox_iload_n B 3 od_Mo_write_77 rfl rfl ?_
      refine ox_iadd B od_Mo_write_78 ?_
      refine ox_sipush B od_Mo_write_79 oxk_s480 ?_
      refine ox_icmp_le B 87 od_Mo_write_82 rfl (fun hc => ?_) (fun hc => ?_)
      · rw [if_pos hc] at h
        refine ox_iconst B od_Mo_write_87 oxk_i0 ?_
        refine ox_istore B od_Mo_write_88 (by decide) rfl (L2 := [some (.ref (ad 0)), some (.long x1), none, some (.int x3), some (.int (0 : Int32)), none]) rfl ?_
        obtain ⟨t', h', e'⟩ := ox_map h
        subst e'
        exact (ox_mask [true, true, false, false, true, false] (t_90 x1 (0 : Int32) σ _ h' hG))
      · rw [if_neg hc] at h
        refine ox_iconst B od_Mo_write_85 oxk_i0 ?_
        cases h
        exact ox_iret B F od_Mo_write_86 rfl (ox_nz (Or.inl rfl)) hG
    · rw [if_neg hc] at h
      refine ox_lload_n B 1 od_Mo_write_12 rfl rfl ?_
      refine ox_bipush B od_Mo_write_13 oxk_b8 ?_
      refine ox_iload B od_Mo_write_15 rfl ?_
      refine ox_imul B od_Mo_write_17 ?_
      refine ox_lshr B od_Mo_write_18 ?_
      refine ox_ldc2 B od_Mo_write_19 omk_Mo_54 ?_
      refine ox_land B od_Mo_write_22 ?_
      refine ox_l2i B od_Mo_write_23 ?_
      obtain ⟨v7, ev7, h⟩ := ox_let_some h
      refine ox_topi ev7 ?_
      refine ox_istore B od_Mo_write_24 (by decide) rfl (L2 := [some (.ref (ad 0)), some (.long x1), none, some (.int x3), some (.int x4), some (.int v7)]) rfl ?_
      refine ox_iload B od_Mo_write_26 rfl ?_
      refine ox_if_eq B 54 od_Mo_write_28 rfl (fun hc => ?_) (fun hc => ?_)
      · rw [if_pos hc] at h
        exact (t_54 x1 x3 x4 v7 σ _ h hG)
      · rw [if_neg hc] at h
        refine ox_iload B od_Mo_write_31 rfl ?_
        refine ox_bipush B od_Mo_write_33 oxk_b10 ?_
        refine ox_icmp_eq B 54 od_Mo_write_35 rfl (fun hc => ?_) (fun hc => ?_)
        · rw [if_pos hc] at h
          exact (t_54 x1 x3 x4 v7 σ _ h hG)
        · rw [if_neg hc] at h
          refine ox_iload B od_Mo_write_38 rfl ?_
          refine ox_bipush B od_Mo_write_40 oxk_b32 ?_
          refine ox_icmp_lt B 52 od_Mo_write_42 rfl (fun hc => ?_) (fun hc => ?_)
          · rw [if_pos hc] at h
            refine ox_iconst B od_Mo_write_52 oxk_i0 ?_
            cases h
            exact ox_iret B F od_Mo_write_53 rfl (ox_nz (Or.inl rfl)) hG
          · rw [if_neg hc] at h
            refine ox_iload B od_Mo_write_45 rfl ?_
            refine ox_bipush B od_Mo_write_47 oxk_b126 ?_
            refine ox_icmp_le B 54 od_Mo_write_49 rfl (fun hc => ?_) (fun hc => ?_)
            · rw [if_pos hc] at h
              exact (t_54 x1 x3 x4 v7 σ _ h hG)
            · rw [if_neg hc] at h
              refine ox_iconst B od_Mo_write_52 oxk_i0 ?_
              cases h
              exact ox_iret B F od_Mo_write_53 rfl (ox_nz (Or.inl rfl)) hG
  have t_5 : ∀ (x1 : Int64) (x3 : Int32) (x4 : Int32) (σ : ox_S) (t : (Int32 × ox_S)), om_Mo_write_h5 x1 x3 x4 σ = some t → (fun t : (Int32 × ox_S) => res = some (.int t.1) ∧ σf = t.2) t → ox_M p l e rm_om_Mo_write s m args below meth c (om_W D ad cI cC cZ A) 6 res σf 5 [some (.ref (ad 0)), some (.long x1), none, some (.int x3), some (.int x4), none] [] σ := by
    intro x1 x3 x4 σ t h hG
    exact ox_w_run (fun t : (Int32 × Int32) => ox_M p l e rm_om_Mo_write s m args below meth c (om_W D ad cI cC cZ A) 6 res σf 5 [some (.ref (ad 0)), some (.long x1), none, some (.int t.1), some (.int t.2), none] [] σ) (fun t : (Int32 × ox_S) => res = some (.int t.1) ∧ σf = t.2) (fun a t h hG => t_b5 x1 a.1 a.2 σ t h hG) (x3, x4) t h hG
  change ox_M p l e rm_om_Mo_write s m args below meth c (om_W D ad cI cC cZ A) 6 res σf 0 [some (.ref (ad 0)), some (.long x1), none, none, none, none] [] σ
  unfold om_Mo_write at h
  refine ox_iconst B od_Mo_write_0 oxk_i0 ?_
  refine ox_istore_n B 3 od_Mo_write_1 rfl (by decide) rfl (L2 := [some (.ref (ad 0)), some (.long x1), none, some (.int (0 : Int32)), none, none]) rfl ?_
  refine ox_iconst B od_Mo_write_2 oxk_i0 ?_
  refine ox_istore B od_Mo_write_3 (by decide) rfl (L2 := [some (.ref (ad 0)), some (.long x1), none, some (.int (0 : Int32)), some (.int (0 : Int32)), none]) rfl ?_
  exact (t_5 x1 (0 : Int32) (0 : Int32) σ _ h hG)
abbrev rm_om_Mo_wipe : Room := { frames := 0, cells := 0, slots := 0, locals := 0 }
set_option maxRecDepth 100000 in
set_option maxHeartbeats 4000000 in
theorem ct_om_Mo_wipe {l : Launch} {D : va_G} {ad : Nat → Nat} {cI cC cZ : ClassId} {A : Nat → Prop} (hok : ox_ok (om_W D ad cI cC cZ A))  (σ : ox_S) (t : ox_S) (h : om_Mo_wipe  σ = some t) : Met l oy_Mo_wipe (Cond.code oy_Mo_wipe prog_11_method_3_code 1 none :: ox_ws) rm_om_Mo_wipe (ox_P (om_W D ad cI cC cZ A) [.ref (ad 0)] σ) (ox_Q (om_W D ad cI cC cZ A) none t) 0 0 A := by
  refine ox_met (ω := om_W D ad cI cC cZ A) (by decide) rfl hok (Nat.le_of_ble_eq_true rfl) ?_
  intro p e s m args below meth c B F
  generalize hres : (none : Option Value) = res
  have hG : res = none ∧ t = t := ⟨hres.symm, rfl⟩
  obtain ⟨σf, hσf⟩ : ∃ z, z = t := ⟨_, rfl⟩
  have hG : (fun t : ox_S => res = none ∧ σf = t) t := ⟨hres.symm, hσf⟩
  rw [show ox_M p l e rm_om_Mo_wipe s m args below meth c (om_W D ad cI cC cZ A) 1 res t 0 (ox_l0 [.ref (ad 0)] 1) [] σ = ox_M p l e rm_om_Mo_wipe s m args below meth c (om_W D ad cI cC cZ A) 1 res σf 0 (ox_l0 [.ref (ad 0)] 1) [] σ by rw [hσf]]
  change ox_M p l e rm_om_Mo_wipe s m args below meth c (om_W D ad cI cC cZ A) 1 res σf 0 [some (.ref (ad 0))] [] σ
  unfold om_Mo_wipe at h
  refine ox_aload_n B 0 od_Mo_wipe_0 rfl rfl ?_
  refine ox_iconst B od_Mo_wipe_1 oxk_i0 ?_
  obtain ⟨s1, es1, h⟩ := ox_let_some h
  refine omp_Mo_56 B F od_Mo_wipe_2 es1 ?_
  cases h
  exact ox_vret B F od_Mo_wipe_5 rfl hG
abbrev rm_om_Mo_apart : Room := { frames := 0, cells := 0, slots := 0, locals := 0 }
set_option maxRecDepth 100000 in
set_option maxHeartbeats 4000000 in
theorem ct_om_Mo_apart {l : Launch} {D : va_G} {ad : Nat → Nat} {cI cC cZ : ClassId} {A : Nat → Prop} (hok : ox_ok (om_W D ad cI cC cZ A)) (x1 : Int32) (x2 : Int32) (σ : ox_S) (t : Int32) (h : om_Mo_apart x1 x2 σ = some t) : Met l oy_Mo_apart (Cond.code oy_Mo_apart prog_11_method_20_code 8 (some .int) :: ox_ws) rm_om_Mo_apart (ox_P (om_W D ad cI cC cZ A) [.ref (ad 0), .int x1, .int x2] σ) (ox_Q (om_W D ad cI cC cZ A) (some (.int t)) σ) 0 0 A := by
  refine ox_met (ω := om_W D ad cI cC cZ A) (by decide) rfl hok (Nat.le_of_ble_eq_true rfl) ?_
  intro p e s m args below meth c B F
  generalize hres : (some (.int t) : Option Value) = res
  have hG : (fun t : Int32 => res = some (.int t) ∧ σ = σ) t := ⟨hres.symm, rfl⟩
  have t_b77 : ∀ (x5 : Int32) (x6 : Int32)  (t : (Int32 ⊕ Int32)), om_Mo_apart_b77 x5 x6 σ = some t → (ox_G (fun t : Int32 => ox_M p l e rm_om_Mo_apart s m args below meth c (om_W D ad cI cC cZ A) 8 res σ 77 [some (.ref (ad 0)), none, none, none, none, some (.int x5), some (.int t), none] [] σ) (fun t : Int32 => res = some (.int t) ∧ σ = σ)) t → ox_M p l e rm_om_Mo_apart s m args below meth c (om_W D ad cI cC cZ A) 8 res σ 77 [some (.ref (ad 0)), none, none, none, none, some (.int x5), some (.int x6), none] [] σ := by
    intro x5 x6  t h hG
    unfold om_Mo_apart_b77 at h
    refine ox_iload B od_Mo_apart_77 rfl ?_
    refine ox_iconst B od_Mo_apart_79 oxk_i1 ?_
    refine ox_iadd B od_Mo_apart_80 ?_
    refine ox_iload B od_Mo_apart_81 rfl ?_
    refine ox_iconst B od_Mo_apart_83 oxk_i1 ?_
    refine ox_iadd B od_Mo_apart_84 ?_
    refine ox_imul B od_Mo_apart_85 ?_
    refine ox_iload B od_Mo_apart_86 rfl ?_
    refine ox_icmp_gt B 97 od_Mo_apart_88 rfl (fun hc => ?_) (fun hc => ?_)
    · rw [if_pos hc] at h
      refine ox_aload_n B 0 od_Mo_apart_97 rfl rfl ?_
      refine omg_Mo_149 B F od_Mo_apart_98 ?_
      refine ox_iconst B od_Mo_apart_101 oxk_i5 ?_
      refine ox_icmp_ne B 126 od_Mo_apart_102 rfl (fun hc => ?_) (fun hc => ?_)
      · rw [if_neg hc] at h
        refine ox_iload B od_Mo_apart_126 rfl ?_
        refine ox_iload B od_Mo_apart_128 rfl ?_
        refine ox_iload B od_Mo_apart_130 rfl ?_
        refine ox_imul B od_Mo_apart_132 ?_
        refine ox_icmp_le B 140 od_Mo_apart_133 rfl (fun hc => ?_) (fun hc => ?_)
        · rw [if_pos hc] at h
          refine ox_iconst B od_Mo_apart_140 oxk_i0 ?_
          refine ox_istore B od_Mo_apart_141 (by decide) rfl (L2 := [some (.ref (ad 0)), none, none, none, none, some (.int x5), some (.int x6), some (.int (0 : Int32))]) rfl ?_
          refine ox_iload B od_Mo_apart_143 rfl ?_
          refine ox_if_eq B 155 od_Mo_apart_145 rfl (fun _ => ?_) (fun hc => absurd (by decide) hc)
          refine ox_iload B od_Mo_apart_155 rfl ?_
          cases h
          exact ox_iret B F od_Mo_apart_157 rfl rfl hG
        · rw [if_neg hc] at h
          refine ox_iconst B od_Mo_apart_136 oxk_i1 ?_
          refine ox_goto B 141 od_Mo_apart_137 rfl ?_
          refine ox_istore B od_Mo_apart_141 (by decide) rfl (L2 := [some (.ref (ad 0)), none, none, none, none, some (.int x5), some (.int x6), some (.int (1 : Int32))]) rfl ?_
          refine ox_iload B od_Mo_apart_143 rfl ?_
          refine ox_if_eq B 155 od_Mo_apart_145 rfl (fun hc => absurd hc (by decide)) (fun _ => ?_)
          refine ox_iload B od_Mo_apart_148 rfl ?_
          refine ox_iconst B od_Mo_apart_150 oxk_i1 ?_
          refine ox_iadd B od_Mo_apart_151 ?_
          refine ox_goto B 157 od_Mo_apart_152 rfl ?_
          cases h
          exact ox_iret B F od_Mo_apart_157 rfl rfl hG
      · rw [if_pos hc] at h
        refine ox_iload B od_Mo_apart_105 rfl ?_
        refine ox_iload B od_Mo_apart_107 rfl ?_
        refine ox_iload B od_Mo_apart_109 rfl ?_
        refine ox_imul B od_Mo_apart_111 ?_
        refine ox_iload B od_Mo_apart_112 rfl ?_
        refine ox_iadd B od_Mo_apart_114 ?_
        refine ox_icmp_le B 122 od_Mo_apart_115 rfl (fun hc => ?_) (fun hc => ?_)
        · rw [if_pos hc] at h
          refine ox_iconst B od_Mo_apart_122 oxk_i0 ?_
          refine ox_goto B 141 od_Mo_apart_123 rfl ?_
          refine ox_istore B od_Mo_apart_141 (by decide) rfl (L2 := [some (.ref (ad 0)), none, none, none, none, some (.int x5), some (.int x6), some (.int (0 : Int32))]) rfl ?_
          refine ox_iload B od_Mo_apart_143 rfl ?_
          refine ox_if_eq B 155 od_Mo_apart_145 rfl (fun _ => ?_) (fun hc => absurd (by decide) hc)
          refine ox_iload B od_Mo_apart_155 rfl ?_
          cases h
          exact ox_iret B F od_Mo_apart_157 rfl rfl hG
        · rw [if_neg hc] at h
          refine ox_iconst B od_Mo_apart_118 oxk_i1 ?_
          refine ox_goto B 141 od_Mo_apart_119 rfl ?_
          refine ox_istore B od_Mo_apart_141 (by decide) rfl (L2 := [some (.ref (ad 0)), none, none, none, none, some (.int x5), some (.int x6), some (.int (1 : Int32))]) rfl ?_
          refine ox_iload B od_Mo_apart_143 rfl ?_
          refine ox_if_eq B 155 od_Mo_apart_145 rfl (fun hc => absurd hc (by decide)) (fun _ => ?_)
          refine ox_iload B od_Mo_apart_148 rfl ?_
          refine ox_iconst B od_Mo_apart_150 oxk_i1 ?_
          refine ox_iadd B od_Mo_apart_151 ?_
          refine ox_goto B 157 od_Mo_apart_152 rfl ?_
          cases h
          exact ox_iret B F od_Mo_apart_157 rfl rfl hG
    · rw [if_neg hc] at h
      obtain ⟨v8, ev8, h⟩ := ox_let_some h
      refine ox_iinc B od_Mo_apart_91 rfl ((congrArg (x6 + ·) oxk_i1).trans ev8.symm) (by decide) rfl (L2 := [some (.ref (ad 0)), none, none, none, none, some (.int x5), some (.int v8), none]) rfl ?_
      refine ox_goto B 77 od_Mo_apart_94 rfl ?_
      cases h
      exact hG
  have t_77 : ∀ (x5 : Int32) (x6 : Int32)  (t : Int32), om_Mo_apart_h77 x5 x6 σ = some t → (fun t : Int32 => res = some (.int t) ∧ σ = σ) t → ox_M p l e rm_om_Mo_apart s m args below meth c (om_W D ad cI cC cZ A) 8 res σ 77 [some (.ref (ad 0)), none, none, none, none, some (.int x5), some (.int x6), none] [] σ := by
    intro x5 x6  t h hG
    exact ox_w_run (fun t : Int32 => ox_M p l e rm_om_Mo_apart s m args below meth c (om_W D ad cI cC cZ A) 8 res σ 77 [some (.ref (ad 0)), none, none, none, none, some (.int x5), some (.int t), none] [] σ) (fun t : Int32 => res = some (.int t) ∧ σ = σ) (fun a t h hG => t_b77 x5 a  t h hG) x6 t h hG
  change ox_M p l e rm_om_Mo_apart s m args below meth c (om_W D ad cI cC cZ A) 8 res σ 0 [some (.ref (ad 0)), some (.int x1), some (.int x2), none, none, none, none, none] [] σ
  unfold om_Mo_apart at h
  refine ox_aload_n B 0 od_Mo_apart_0 rfl rfl ?_
  refine omg_Mo_35 B F od_Mo_apart_1 ?_
  refine ox_iload_n B 1 od_Mo_apart_4 rfl rfl ?_
  obtain ⟨j1, ej1, hj1, h⟩ := ox_ix_some2 h
  refine omal_8 B F od_Mo_apart_5 hj1 ej1 ?_
  refine ox_aload_n B 0 od_Mo_apart_6 rfl rfl ?_
  refine omg_Mo_35 B F od_Mo_apart_7 ?_
  refine ox_iload_n B 2 od_Mo_apart_10 rfl rfl ?_
  obtain ⟨j2, ej2, hj2, h⟩ := ox_ix_some2 h
  refine omal_8 B F od_Mo_apart_11 hj2 ej2 ?_
  refine ox_isub B od_Mo_apart_12 ?_
  obtain ⟨v3, ev3, h⟩ := ox_let_some h
  refine ox_topi ev3 ?_
  refine ox_istore_n B 3 od_Mo_apart_13 rfl (by decide) rfl (L2 := [some (.ref (ad 0)), some (.int x1), some (.int x2), some (.int v3), none, none, none, none]) rfl ?_
  refine ox_aload_n B 0 od_Mo_apart_14 rfl rfl ?_
  refine omg_Mo_38 B F od_Mo_apart_15 ?_
  refine ox_iload_n B 1 od_Mo_apart_18 rfl rfl ?_
  obtain ⟨j4, ej4, hj4, h⟩ := ox_ix_some2 h
  refine omal_9 B F od_Mo_apart_19 hj4 ej4 ?_
  refine ox_aload_n B 0 od_Mo_apart_20 rfl rfl ?_
  refine omg_Mo_38 B F od_Mo_apart_21 ?_
  refine ox_iload_n B 2 od_Mo_apart_24 rfl rfl ?_
  obtain ⟨j5, ej5, hj5, h⟩ := ox_ix_some2 h
  refine omal_9 B F od_Mo_apart_25 hj5 ej5 ?_
  refine ox_isub B od_Mo_apart_26 ?_
  obtain ⟨v6, ev6, h⟩ := ox_let_some h
  refine ox_topi ev6 ?_
  refine ox_istore B od_Mo_apart_27 (by decide) rfl (L2 := [some (.ref (ad 0)), some (.int x1), some (.int x2), some (.int v3), some (.int v6), none, none, none]) rfl ?_
  refine ox_aload_n B 0 od_Mo_apart_29 rfl rfl ?_
  refine omg_Mo_149 B F od_Mo_apart_30 ?_
  refine ox_bipush B od_Mo_apart_33 oxk_b7 ?_
  refine ox_icmp_ne B 63 od_Mo_apart_35 rfl (fun hc => ?_) (fun hc => ?_)
  · rw [if_neg hc] at h
    refine ox_iload_n B 3 od_Mo_apart_63 rfl rfl ?_
    refine ox_iload_n B 3 od_Mo_apart_64 rfl rfl ?_
    refine ox_imul B od_Mo_apart_65 ?_
    refine ox_iload B od_Mo_apart_66 rfl ?_
    refine ox_iload B od_Mo_apart_68 rfl ?_
    refine ox_imul B od_Mo_apart_70 ?_
    refine ox_iadd B od_Mo_apart_71 ?_
    obtain ⟨v7, ev7, h⟩ := ox_let_some h
    refine ox_topi ev7 ?_
    refine ox_istore B od_Mo_apart_72 (by decide) rfl (L2 := [some (.ref (ad 0)), some (.int x1), some (.int x2), some (.int v3), some (.int v6), some (.int v7), none, none]) rfl ?_
    refine ox_iconst B od_Mo_apart_74 oxk_i0 ?_
    refine ox_istore B od_Mo_apart_75 (by decide) rfl (L2 := [some (.ref (ad 0)), some (.int x1), some (.int x2), some (.int v3), some (.int v6), some (.int v7), some (.int (0 : Int32)), none]) rfl ?_
    exact (ox_mask [true, false, false, false, false, true, true, false] (t_77 v7 (0 : Int32) _ h hG))
  · rw [if_pos hc] at h
    refine ox_iload_n B 3 od_Mo_apart_38 rfl rfl ?_
    refine ox_if_ge B 47 od_Mo_apart_39 rfl (fun hc => ?_) (fun hc => ?_)
    · rw [if_pos hc] at h
      refine ox_iload_n B 3 od_Mo_apart_47 rfl rfl ?_
      refine ox_iload B od_Mo_apart_48 rfl ?_
      refine ox_if_ge B 59 od_Mo_apart_50 rfl (fun hc => ?_) (fun hc => ?_)
      · rw [if_pos hc] at h
        refine ox_iload B od_Mo_apart_59 rfl ?_
        refine ox_iadd B od_Mo_apart_61 ?_
        cases h
        exact ox_iret B F od_Mo_apart_62 rfl rfl hG
      · rw [if_neg hc] at h
        refine ox_iload B od_Mo_apart_53 rfl ?_
        refine ox_ineg B od_Mo_apart_55 ?_
        refine ox_goto B 61 od_Mo_apart_56 rfl ?_
        refine ox_iadd B od_Mo_apart_61 ?_
        cases h
        exact ox_iret B F od_Mo_apart_62 rfl rfl hG
    · rw [if_neg hc] at h
      refine ox_iload_n B 3 od_Mo_apart_42 rfl rfl ?_
      refine ox_ineg B od_Mo_apart_43 ?_
      refine ox_goto B 48 od_Mo_apart_44 rfl ?_
      refine ox_iload B od_Mo_apart_48 rfl ?_
      refine ox_if_ge B 59 od_Mo_apart_50 rfl (fun hc => ?_) (fun hc => ?_)
      · rw [if_pos hc] at h
        refine ox_iload B od_Mo_apart_59 rfl ?_
        refine ox_iadd B od_Mo_apart_61 ?_
        cases h
        exact ox_iret B F od_Mo_apart_62 rfl rfl hG
      · rw [if_neg hc] at h
        refine ox_iload B od_Mo_apart_53 rfl ?_
        refine ox_ineg B od_Mo_apart_55 ?_
        refine ox_goto B 61 od_Mo_apart_56 rfl ?_
        refine ox_iadd B od_Mo_apart_61 ?_
        cases h
        exact ox_iret B F od_Mo_apart_62 rfl rfl hG
abbrev rm_om_Mo_adopt : Room := { frames := 1, cells := 0, slots := 0, locals := 27 }
set_option maxRecDepth 100000 in
set_option maxHeartbeats 4000000 in
theorem ct_om_Mo_adopt {l : Launch} {D : va_G} {ad : Nat → Nat} {cI cC cZ : ClassId} {A : Nat → Prop} (hok : ox_ok (om_W D ad cI cC cZ A))  (σ : ox_S) (t : ox_S) (h : om_Mo_adopt  σ = some t) : Met l oy_Mo_adopt (Cond.code oy_Mo_adopt prog_11_method_21_code 3 none :: ox_ws) rm_om_Mo_adopt (ox_P (om_W D ad cI cC cZ A) [.ref (ad 0)] σ) (ox_Q (om_W D ad cI cC cZ A) none t) 0 0 A := by
  refine ox_met (ω := om_W D ad cI cC cZ A) (by decide) rfl hok (Nat.le_of_ble_eq_true rfl) ?_
  intro p e s m args below meth c B F
  generalize hres : (none : Option Value) = res
  have hG : res = none ∧ t = t := ⟨hres.symm, rfl⟩
  obtain ⟨σf, hσf⟩ : ∃ z, z = t := ⟨_, rfl⟩
  have hG : (fun t : ox_S => res = none ∧ σf = t) t := ⟨hres.symm, hσf⟩
  rw [show ox_M p l e rm_om_Mo_adopt s m args below meth c (om_W D ad cI cC cZ A) 3 res t 0 (ox_l0 [.ref (ad 0)] 3) [] σ = ox_M p l e rm_om_Mo_adopt s m args below meth c (om_W D ad cI cC cZ A) 3 res σf 0 (ox_l0 [.ref (ad 0)] 3) [] σ by rw [hσf]]
  have t_b27 : ∀ (x1 : Int32) (x2 : Int32) (σ : ox_S) (t : ((Int32 × ox_S) ⊕ ((Int32 × ox_S) ⊕ ox_S))), om_Mo_adopt_b27 x1 x2 σ = some t → (ox_G (fun t : (Int32 × ox_S) => ox_M p l e rm_om_Mo_adopt s m args below meth c (om_W D ad cI cC cZ A) 3 res σf 27 [some (.ref (ad 0)), some (.int x1), some (.int t.1)] [] t.2) (ox_G (fun t : (Int32 × ox_S) => ox_M p l e rm_om_Mo_adopt s m args below meth c (om_W D ad cI cC cZ A) 3 res σf 10 [some (.ref (ad 0)), some (.int t.1), none] [] t.2) (fun t : ox_S => res = none ∧ σf = t))) t → ox_M p l e rm_om_Mo_adopt s m args below meth c (om_W D ad cI cC cZ A) 3 res σf 27 [some (.ref (ad 0)), some (.int x1), some (.int x2)] [] σ := by
    intro x1 x2 σ t h hG
    unfold om_Mo_adopt_b27 at h
    refine ox_iload_n B 2 od_Mo_adopt_27 rfl rfl ?_
    refine ox_aload_n B 0 od_Mo_adopt_28 rfl rfl ?_
    refine omg_Mo_187 B F od_Mo_adopt_29 ?_
    refine ox_icmp_ge B 101 od_Mo_adopt_32 rfl (fun hc => ?_) (fun hc => ?_)
    · rw [if_pos hc] at h
      obtain ⟨v6, ev6, h⟩ := ox_let_some h
      refine ox_iinc B od_Mo_adopt_101 rfl ((congrArg (x1 + ·) oxk_i1).trans ev6.symm) (by decide) rfl (L2 := [some (.ref (ad 0)), some (.int v6), some (.int x2)]) rfl ?_
      refine ox_goto B 10 od_Mo_adopt_104 rfl ?_
      cases h
      exact (ox_mask [true, true, false] hG)
    · rw [if_neg hc] at h
      refine ox_aload_n B 0 od_Mo_adopt_35 rfl rfl ?_
      refine omg_Mo_13 B F od_Mo_adopt_36 ?_
      refine ox_bipush B od_Mo_adopt_39 oxk_b8 ?_
      refine ox_iload_n B 1 od_Mo_adopt_41 rfl rfl ?_
      refine ox_imul B od_Mo_adopt_42 ?_
      refine ox_iload_n B 2 od_Mo_adopt_43 rfl rfl ?_
      refine ox_iadd B od_Mo_adopt_44 ?_
      refine ox_iload_n B 1 od_Mo_adopt_45 rfl rfl ?_
      refine ox_iload_n B 2 od_Mo_adopt_46 rfl rfl ?_
      refine ox_icmp_ne B 54 od_Mo_adopt_47 rfl (fun hc => ?_) (fun hc => ?_)
      · rw [if_neg hc] at h
        refine ox_aload_n B 0 od_Mo_adopt_54 rfl rfl ?_
        refine omg_Mo_149 B F od_Mo_adopt_55 ?_
        refine ox_iconst B od_Mo_adopt_58 oxk_i4 ?_
        refine ox_icmp_ne B 76 od_Mo_adopt_59 rfl (fun hc => ?_) (fun hc => ?_)
        · rw [if_neg hc] at h
          refine ox_aload_n B 0 od_Mo_adopt_76 rfl rfl ?_
          refine ox_iload_n B 1 od_Mo_adopt_77 rfl rfl ?_
          refine ox_iload_n B 2 od_Mo_adopt_78 rfl rfl ?_
          obtain ⟨r7, hr7, h⟩ := ox_bind h
          refine omc_Mo_190 B F od_Mo_adopt_79 (As := [.int x1, .int x2]) (rest := [.int (((8 : Int32) * x1) + x2), .ref (ad 2)]) (st2 := [.int r7, .int (((8 : Int32) * x1) + x2), .ref (ad 2)]) (ct_om_Mo_apart hok x1 x2 σ _ hr7) ⟨rfl, rfl, Nat.le_of_ble_eq_true rfl, Nat.le_of_ble_eq_true rfl⟩ rfl (Nat.le_of_ble_eq_true rfl) rfl rfl ?_
          obtain ⟨j8, ej8, hj8, h⟩ := ox_ix_some2 h
          obtain ⟨s9, es9, h⟩ := ox_let_some h
          refine omas_1 B F od_Mo_adopt_82 hj8 ej8 es9 ?_
          refine ox_aload_n B 0 od_Mo_adopt_83 rfl rfl ?_
          refine omg_Mo_17 B F od_Mo_adopt_84 ?_
          refine ox_bipush B od_Mo_adopt_87 oxk_b8 ?_
          refine ox_iload_n B 1 od_Mo_adopt_89 rfl rfl ?_
          refine ox_imul B od_Mo_adopt_90 ?_
          refine ox_iload_n B 2 od_Mo_adopt_91 rfl rfl ?_
          refine ox_iadd B od_Mo_adopt_92 ?_
          refine ox_iconst B od_Mo_adopt_93 oxk_i0 ?_
          obtain ⟨j10, ej10, hj10, h⟩ := ox_ix_some2 h
          obtain ⟨s11, es11, h⟩ := ox_let_some h
          refine omas_2 B F od_Mo_adopt_94 hj10 ej10 es11 ?_
          obtain ⟨v12, ev12, h⟩ := ox_let_some h
          refine ox_iinc B od_Mo_adopt_95 rfl ((congrArg (x2 + ·) oxk_i1).trans ev12.symm) (by decide) rfl (L2 := [some (.ref (ad 0)), some (.int x1), some (.int v12)]) rfl ?_
          refine ox_goto B 27 od_Mo_adopt_98 rfl ?_
          cases h
          exact hG
        · rw [if_pos hc] at h
          refine ox_aload_n B 0 od_Mo_adopt_62 rfl rfl ?_
          refine omg_Mo_32 B F od_Mo_adopt_63 ?_
          refine ox_bipush B od_Mo_adopt_66 oxk_b8 ?_
          refine ox_iload_n B 1 od_Mo_adopt_68 rfl rfl ?_
          refine ox_imul B od_Mo_adopt_69 ?_
          refine ox_iload_n B 2 od_Mo_adopt_70 rfl rfl ?_
          refine ox_iadd B od_Mo_adopt_71 ?_
          obtain ⟨j13, ej13, hj13, h⟩ := ox_ix_some2 h
          refine omal_7 B F od_Mo_adopt_72 hj13 ej13 ?_
          refine ox_goto B 82 od_Mo_adopt_73 rfl ?_
          obtain ⟨j14, ej14, hj14, h⟩ := ox_ix_some2 h
          obtain ⟨s15, es15, h⟩ := ox_let_some h
          refine omas_1 B F od_Mo_adopt_82 hj14 ej14 es15 ?_
          refine ox_aload_n B 0 od_Mo_adopt_83 rfl rfl ?_
          refine omg_Mo_17 B F od_Mo_adopt_84 ?_
          refine ox_bipush B od_Mo_adopt_87 oxk_b8 ?_
          refine ox_iload_n B 1 od_Mo_adopt_89 rfl rfl ?_
          refine ox_imul B od_Mo_adopt_90 ?_
          refine ox_iload_n B 2 od_Mo_adopt_91 rfl rfl ?_
          refine ox_iadd B od_Mo_adopt_92 ?_
          refine ox_iconst B od_Mo_adopt_93 oxk_i0 ?_
          obtain ⟨j16, ej16, hj16, h⟩ := ox_ix_some2 h
          obtain ⟨s17, es17, h⟩ := ox_let_some h
          refine omas_2 B F od_Mo_adopt_94 hj16 ej16 es17 ?_
          obtain ⟨v18, ev18, h⟩ := ox_let_some h
          refine ox_iinc B od_Mo_adopt_95 rfl ((congrArg (x2 + ·) oxk_i1).trans ev18.symm) (by decide) rfl (L2 := [some (.ref (ad 0)), some (.int x1), some (.int v18)]) rfl ?_
          refine ox_goto B 27 od_Mo_adopt_98 rfl ?_
          cases h
          exact hG
      · rw [if_pos hc] at h
        refine ox_iconst B od_Mo_adopt_50 oxk_i0 ?_
        refine ox_goto B 82 od_Mo_adopt_51 rfl ?_
        obtain ⟨j19, ej19, hj19, h⟩ := ox_ix_some2 h
        obtain ⟨s20, es20, h⟩ := ox_let_some h
        refine omas_1 B F od_Mo_adopt_82 hj19 ej19 es20 ?_
        refine ox_aload_n B 0 od_Mo_adopt_83 rfl rfl ?_
        refine omg_Mo_17 B F od_Mo_adopt_84 ?_
        refine ox_bipush B od_Mo_adopt_87 oxk_b8 ?_
        refine ox_iload_n B 1 od_Mo_adopt_89 rfl rfl ?_
        refine ox_imul B od_Mo_adopt_90 ?_
        refine ox_iload_n B 2 od_Mo_adopt_91 rfl rfl ?_
        refine ox_iadd B od_Mo_adopt_92 ?_
        refine ox_iconst B od_Mo_adopt_93 oxk_i0 ?_
        obtain ⟨j21, ej21, hj21, h⟩ := ox_ix_some2 h
        obtain ⟨s22, es22, h⟩ := ox_let_some h
        refine omas_2 B F od_Mo_adopt_94 hj21 ej21 es22 ?_
        obtain ⟨v23, ev23, h⟩ := ox_let_some h
        refine ox_iinc B od_Mo_adopt_95 rfl ((congrArg (x2 + ·) oxk_i1).trans ev23.symm) (by decide) rfl (L2 := [some (.ref (ad 0)), some (.int x1), some (.int v23)]) rfl ?_
        refine ox_goto B 27 od_Mo_adopt_98 rfl ?_
        cases h
        exact hG
  have t_27 : ∀ (x1 : Int32) (x2 : Int32) (σ : ox_S) (t : ((Int32 × ox_S) ⊕ ox_S)), om_Mo_adopt_h27 x1 x2 σ = some t → (ox_G (fun t : (Int32 × ox_S) => ox_M p l e rm_om_Mo_adopt s m args below meth c (om_W D ad cI cC cZ A) 3 res σf 10 [some (.ref (ad 0)), some (.int t.1), none] [] t.2) (fun t : ox_S => res = none ∧ σf = t)) t → ox_M p l e rm_om_Mo_adopt s m args below meth c (om_W D ad cI cC cZ A) 3 res σf 27 [some (.ref (ad 0)), some (.int x1), some (.int x2)] [] σ := by
    intro x1 x2 σ t h hG
    exact ox_w_run (fun t : (Int32 × ox_S) => ox_M p l e rm_om_Mo_adopt s m args below meth c (om_W D ad cI cC cZ A) 3 res σf 27 [some (.ref (ad 0)), some (.int x1), some (.int t.1)] [] t.2) (ox_G (fun t : (Int32 × ox_S) => ox_M p l e rm_om_Mo_adopt s m args below meth c (om_W D ad cI cC cZ A) 3 res σf 10 [some (.ref (ad 0)), some (.int t.1), none] [] t.2) (fun t : ox_S => res = none ∧ σf = t)) (fun a t h hG => t_b27 x1 a.1 a.2 t h hG) (x2, σ) t h hG
  have t_b10 : ∀ (x1 : Int32) (σ : ox_S) (t : ((Int32 × ox_S) ⊕ ox_S)), om_Mo_adopt_b10 x1 σ = some t → (ox_G (fun t : (Int32 × ox_S) => ox_M p l e rm_om_Mo_adopt s m args below meth c (om_W D ad cI cC cZ A) 3 res σf 10 [some (.ref (ad 0)), some (.int t.1), none] [] t.2) (fun t : ox_S => res = none ∧ σf = t)) t → ox_M p l e rm_om_Mo_adopt s m args below meth c (om_W D ad cI cC cZ A) 3 res σf 10 [some (.ref (ad 0)), some (.int x1), none] [] σ := by
    intro x1 σ t h hG
    unfold om_Mo_adopt_b10 at h
    refine ox_iload_n B 1 od_Mo_adopt_10 rfl rfl ?_
    refine ox_aload_n B 0 od_Mo_adopt_11 rfl rfl ?_
    refine omg_Mo_187 B F od_Mo_adopt_12 ?_
    refine ox_icmp_ge B 107 od_Mo_adopt_15 rfl (fun hc => ?_) (fun hc => ?_)
    · rw [if_pos hc] at h
      refine ox_aload_n B 0 od_Mo_adopt_107 rfl rfl ?_
      refine ox_iconst B od_Mo_adopt_108 oxk_i0 ?_
      obtain ⟨s2, es2, h⟩ := ox_let_some h
      refine omp_Mo_193 B F od_Mo_adopt_109 (Or.inl rfl) es2 ?_
      refine ox_aload_n B 0 od_Mo_adopt_112 rfl rfl ?_
      refine ox_iconst B od_Mo_adopt_113 oxk_i0 ?_
      obtain ⟨s3, es3, h⟩ := ox_let_some h
      refine omp_Mo_196 B F od_Mo_adopt_114 es3 ?_
      cases h
      exact ox_vret B F od_Mo_adopt_117 rfl hG
    · rw [if_neg hc] at h
      refine ox_aload_n B 0 od_Mo_adopt_18 rfl rfl ?_
      refine omg_Mo_20 B F od_Mo_adopt_19 ?_
      refine ox_iload_n B 1 od_Mo_adopt_22 rfl rfl ?_
      refine ox_iconst B od_Mo_adopt_23 oxk_i0 ?_
      obtain ⟨j4, ej4, hj4, h⟩ := ox_ix_some2 h
      obtain ⟨s5, es5, h⟩ := ox_let_some h
      refine omas_3 B F od_Mo_adopt_24 hj4 ej4 es5 ?_
      refine ox_iconst B od_Mo_adopt_25 oxk_i0 ?_
      refine ox_istore_n B 2 od_Mo_adopt_26 rfl (by decide) rfl (L2 := [some (.ref (ad 0)), some (.int x1), some (.int (0 : Int32))]) rfl ?_
      exact (t_27 x1 (0 : Int32) s5 _ h hG)
  have t_10 : ∀ (x1 : Int32) (σ : ox_S) (t : ox_S), om_Mo_adopt_h10 x1 σ = some t → (fun t : ox_S => res = none ∧ σf = t) t → ox_M p l e rm_om_Mo_adopt s m args below meth c (om_W D ad cI cC cZ A) 3 res σf 10 [some (.ref (ad 0)), some (.int x1), none] [] σ := by
    intro x1 σ t h hG
    exact ox_w_run (fun t : (Int32 × ox_S) => ox_M p l e rm_om_Mo_adopt s m args below meth c (om_W D ad cI cC cZ A) 3 res σf 10 [some (.ref (ad 0)), some (.int t.1), none] [] t.2) (fun t : ox_S => res = none ∧ σf = t) (fun a t h hG => t_b10 a.1 a.2 t h hG) (x1, σ) t h hG
  change ox_M p l e rm_om_Mo_adopt s m args below meth c (om_W D ad cI cC cZ A) 3 res σf 0 [some (.ref (ad 0)), none, none] [] σ
  unfold om_Mo_adopt at h
  refine ox_aload_n B 0 od_Mo_adopt_0 rfl rfl ?_
  refine ox_aload_n B 0 od_Mo_adopt_1 rfl rfl ?_
  refine omg_Mo_139 B F od_Mo_adopt_2 ?_
  obtain ⟨s1, es1, h⟩ := ox_let_some h
  refine omp_Mo_187 B F od_Mo_adopt_5 es1 ?_
  refine ox_iconst B od_Mo_adopt_8 oxk_i0 ?_
  refine ox_istore_n B 1 od_Mo_adopt_9 rfl (by decide) rfl (L2 := [some (.ref (ad 0)), some (.int (0 : Int32)), none]) rfl ?_
  exact (t_10 (0 : Int32) s1 _ h hG)
abbrev rm_om_Mo_due : Room := { frames := 0, cells := 0, slots := 0, locals := 0 }
set_option maxRecDepth 100000 in
set_option maxHeartbeats 4000000 in
theorem ct_om_Mo_due {l : Launch} {D : va_G} {ad : Nat → Nat} {cI cC cZ : ClassId} {A : Nat → Prop} (hok : ox_ok (om_W D ad cI cC cZ A))  (σ : ox_S) (t : Int32) (h : om_Mo_due  σ = some t) : Met l oy_Mo_due (Cond.code oy_Mo_due prog_11_method_15_code 1 (some .int) :: ox_ws) rm_om_Mo_due (ox_P (om_W D ad cI cC cZ A) [.ref (ad 0)] σ) (ox_Q (om_W D ad cI cC cZ A) (some (.int t)) σ) 0 0 A := by
  refine ox_met (ω := om_W D ad cI cC cZ A) (by decide) rfl hok (Nat.le_of_ble_eq_true rfl) ?_
  intro p e s m args below meth c B F
  generalize hres : (some (.int t) : Option Value) = res
  have hG : (fun t : Int32 => res = some (.int t) ∧ σ = σ) t := ⟨hres.symm, rfl⟩
  change ox_M p l e rm_om_Mo_due s m args below meth c (om_W D ad cI cC cZ A) 1 res σ 0 [some (.ref (ad 0))] [] σ
  unfold om_Mo_due at h
  refine ox_aload_n B 0 od_Mo_due_0 rfl rfl ?_
  refine omg_Mo_149 B F od_Mo_due_1 ?_
  refine ox_iconst B od_Mo_due_4 oxk_i4 ?_
  refine ox_icmp_eq B 15 od_Mo_due_5 rfl (fun hc => ?_) (fun hc => ?_)
  · rw [if_pos hc] at h
    refine ox_aload_n B 0 od_Mo_due_15 rfl rfl ?_
    refine omg_Mo_155 B F od_Mo_due_16 ?_
    refine ox_bipush B od_Mo_due_19 oxk_b8 ?_
    refine ox_icmp_ne B 36 od_Mo_due_21 rfl (fun hc => ?_) (fun hc => ?_)
    · rw [if_neg hc] at h
      refine ox_aload_n B 0 od_Mo_due_36 rfl rfl ?_
      refine omg_Mo_155 B F od_Mo_due_37 ?_
      refine ox_bipush B od_Mo_due_40 oxk_b9 ?_
      refine ox_icmp_ne B 61 od_Mo_due_42 rfl (fun hc => ?_) (fun hc => ?_)
      · rw [if_neg hc] at h
        refine ox_aload_n B 0 od_Mo_due_61 rfl rfl ?_
        refine omg_Mo_139 B F od_Mo_due_62 ?_
        refine ox_aload_n B 0 od_Mo_due_65 rfl rfl ?_
        refine omg_Mo_139 B F od_Mo_due_66 ?_
        refine ox_iconst B od_Mo_due_69 oxk_i1 ?_
        refine ox_iadd B od_Mo_due_70 ?_
        refine ox_imul B od_Mo_due_71 ?_
        refine ox_iconst B od_Mo_due_72 oxk_i2 ?_
        refine ox_idiv B od_Mo_due_73 (by decide) ?_
        cases h
        exact ox_iret B F od_Mo_due_74 rfl rfl hG
      · rw [if_pos hc] at h
        refine ox_aload_n B 0 od_Mo_due_45 rfl rfl ?_
        refine omg_Mo_139 B F od_Mo_due_46 ?_
        refine ox_aload_n B 0 od_Mo_due_49 rfl rfl ?_
        refine omg_Mo_139 B F od_Mo_due_50 ?_
        refine ox_iconst B od_Mo_due_53 oxk_i1 ?_
        refine ox_isub B od_Mo_due_54 ?_
        refine ox_imul B od_Mo_due_55 ?_
        refine ox_iconst B od_Mo_due_56 oxk_i2 ?_
        refine ox_idiv B od_Mo_due_57 (by decide) ?_
        refine ox_goto B 74 od_Mo_due_58 rfl ?_
        cases h
        exact ox_iret B F od_Mo_due_74 rfl rfl hG
    · rw [if_pos hc] at h
      refine ox_aload_n B 0 od_Mo_due_24 rfl rfl ?_
      refine omg_Mo_139 B F od_Mo_due_25 ?_
      refine ox_aload_n B 0 od_Mo_due_28 rfl rfl ?_
      refine omg_Mo_139 B F od_Mo_due_29 ?_
      refine ox_imul B od_Mo_due_32 ?_
      refine ox_goto B 74 od_Mo_due_33 rfl ?_
      cases h
      exact ox_iret B F od_Mo_due_74 rfl rfl hG
  · rw [if_neg hc] at h
    refine ox_aload_n B 0 od_Mo_due_8 rfl rfl ?_
    refine omg_Mo_139 B F od_Mo_due_9 ?_
    refine ox_goto B 74 od_Mo_due_12 rfl ?_
    cases h
    exact ox_iret B F od_Mo_due_74 rfl rfl hG
abbrev rm_om_Mo_word : Room := { frames := 0, cells := 0, slots := 0, locals := 0 }
set_option maxRecDepth 100000 in
set_option maxHeartbeats 4000000 in
theorem ct_om_Mo_word {l : Launch} {D : va_G} {ad : Nat → Nat} {cI cC cZ : ClassId} {A : Nat → Prop} (hok : ox_ok (om_W D ad cI cC cZ A))  (σ : ox_S) (t : (Int32 × ox_S)) (h : om_Mo_word  σ = some t) : Met l oy_Mo_word (Cond.code oy_Mo_word prog_11_method_6_code 1 (some .boolean) :: ox_ws) rm_om_Mo_word (ox_P (om_W D ad cI cC cZ A) [.ref (ad 0)] σ) (ox_Q (om_W D ad cI cC cZ A) (some (.int t.1)) t.2) 0 0 A := by
  refine ox_met (ω := om_W D ad cI cC cZ A) (by decide) rfl hok (Nat.le_of_ble_eq_true rfl) ?_
  intro p e s m args below meth c B F
  generalize hres : (some (.int t.1) : Option Value) = res
  generalize hσf : t.2 = σf
  have hG : (fun t : (Int32 × ox_S) => res = some (.int t.1) ∧ σf = t.2) t := ⟨hres.symm, hσf.symm⟩
  have t_b46 : ∀  (σ : ox_S) (t : (ox_S ⊕ (Int32 × ox_S))), om_Mo_word_b46  σ = some t → (ox_G (fun t : ox_S => ox_M p l e rm_om_Mo_word s m args below meth c (om_W D ad cI cC cZ A) 1 res σf 46 [some (.ref (ad 0))] [] t) (fun t : (Int32 × ox_S) => res = some (.int t.1) ∧ σf = t.2)) t → ox_M p l e rm_om_Mo_word s m args below meth c (om_W D ad cI cC cZ A) 1 res σf 46 [some (.ref (ad 0))] [] σ := by
    intro  σ t h hG
    unfold om_Mo_word_b46 at h
    refine ox_aload_n B 0 od_Mo_word_46 rfl rfl ?_
    refine omg_Mo_112 B F od_Mo_word_47 ?_
    refine ox_aload_n B 0 od_Mo_word_50 rfl rfl ?_
    refine omg_Mo_115 B F od_Mo_word_51 ?_
    refine ox_icmp_ge B 84 od_Mo_word_54 rfl (fun hc => ?_) (fun hc => ?_)
    · rw [if_pos hc] at h
      refine ox_aload_n B 0 od_Mo_word_84 rfl rfl ?_
      refine omg_Mo_112 B F od_Mo_word_85 ?_
      refine ox_aload_n B 0 od_Mo_word_88 rfl rfl ?_
      refine omg_Mo_118 B F od_Mo_word_89 ?_
      refine ox_icmp_le B 99 od_Mo_word_92 rfl (fun hc => ?_) (fun hc => ?_)
      · rw [if_pos hc] at h
        refine ox_iconst B od_Mo_word_99 oxk_i0 ?_
        cases h
        exact ox_iret B F od_Mo_word_100 rfl (ox_nz (Or.inl rfl)) hG
      · rw [if_neg hc] at h
        refine ox_iconst B od_Mo_word_95 oxk_i1 ?_
        refine ox_goto B 100 od_Mo_word_96 rfl ?_
        cases h
        exact ox_iret B F od_Mo_word_100 rfl (ox_nz (Or.inr rfl)) hG
    · rw [if_neg hc] at h
      refine ox_aload_n B 0 od_Mo_word_57 rfl rfl ?_
      refine omg_Mo_7 B F od_Mo_word_58 ?_
      refine ox_aload_n B 0 od_Mo_word_61 rfl rfl ?_
      refine omg_Mo_112 B F od_Mo_word_62 ?_
      obtain ⟨j2, ej2, hj2, h⟩ := ox_ix_some2 h
      refine omal_0 B F od_Mo_word_65 hj2 ej2 ?_
      refine ox_bipush B od_Mo_word_66 oxk_b32 ?_
      refine ox_icmp_eq B 84 od_Mo_word_68 rfl (fun hc => ?_) (fun hc => ?_)
      · rw [if_pos hc] at h
        refine ox_aload_n B 0 od_Mo_word_84 rfl rfl ?_
        refine omg_Mo_112 B F od_Mo_word_85 ?_
        refine ox_aload_n B 0 od_Mo_word_88 rfl rfl ?_
        refine omg_Mo_118 B F od_Mo_word_89 ?_
        refine ox_icmp_le B 99 od_Mo_word_92 rfl (fun hc => ?_) (fun hc => ?_)
        · rw [if_pos hc] at h
          refine ox_iconst B od_Mo_word_99 oxk_i0 ?_
          cases h
          exact ox_iret B F od_Mo_word_100 rfl (ox_nz (Or.inl rfl)) hG
        · rw [if_neg hc] at h
          refine ox_iconst B od_Mo_word_95 oxk_i1 ?_
          refine ox_goto B 100 od_Mo_word_96 rfl ?_
          cases h
          exact ox_iret B F od_Mo_word_100 rfl (ox_nz (Or.inr rfl)) hG
      · rw [if_neg hc] at h
        refine ox_aload_n B 0 od_Mo_word_71 rfl rfl ?_
        refine ox_dup B od_Mo_word_72 rfl ?_
        refine omg_Mo_112 B F od_Mo_word_73 ?_
        refine ox_iconst B od_Mo_word_76 oxk_i1 ?_
        refine ox_iadd B od_Mo_word_77 ?_
        obtain ⟨s3, es3, h⟩ := ox_let_some h
        refine omp_Mo_112 B F od_Mo_word_78 es3 ?_
        refine ox_goto B 46 od_Mo_word_81 rfl ?_
        cases h
        exact hG
  have t_46 : ∀  (σ : ox_S) (t : (Int32 × ox_S)), om_Mo_word_h46  σ = some t → (fun t : (Int32 × ox_S) => res = some (.int t.1) ∧ σf = t.2) t → ox_M p l e rm_om_Mo_word s m args below meth c (om_W D ad cI cC cZ A) 1 res σf 46 [some (.ref (ad 0))] [] σ := by
    intro  σ t h hG
    exact ox_w_run (fun t : ox_S => ox_M p l e rm_om_Mo_word s m args below meth c (om_W D ad cI cC cZ A) 1 res σf 46 [some (.ref (ad 0))] [] t) (fun t : (Int32 × ox_S) => res = some (.int t.1) ∧ σf = t.2) (fun a t h hG => t_b46  a t h hG) σ t h hG
  have t_b0 : ∀  (σ : ox_S) (t : (ox_S ⊕ (Int32 × ox_S))), om_Mo_word_b0  σ = some t → (ox_G (fun t : ox_S => ox_M p l e rm_om_Mo_word s m args below meth c (om_W D ad cI cC cZ A) 1 res σf 0 [some (.ref (ad 0))] [] t) (fun t : (Int32 × ox_S) => res = some (.int t.1) ∧ σf = t.2)) t → ox_M p l e rm_om_Mo_word s m args below meth c (om_W D ad cI cC cZ A) 1 res σf 0 [some (.ref (ad 0))] [] σ := by
    intro  σ t h hG
    unfold om_Mo_word_b0 at h
    refine ox_aload_n B 0 od_Mo_word_0 rfl rfl ?_
    refine omg_Mo_112 B F od_Mo_word_1 ?_
    refine ox_aload_n B 0 od_Mo_word_4 rfl rfl ?_
    refine omg_Mo_115 B F od_Mo_word_5 ?_
    refine ox_icmp_ge B 38 od_Mo_word_8 rfl (fun hc => ?_) (fun hc => ?_)
    · rw [if_pos hc] at h
      refine ox_aload_n B 0 od_Mo_word_38 rfl rfl ?_
      refine ox_aload_n B 0 od_Mo_word_39 rfl rfl ?_
      refine omg_Mo_112 B F od_Mo_word_40 ?_
      obtain ⟨s1, es1, h⟩ := ox_let_some h
      refine omp_Mo_118 B F od_Mo_word_43 es1 ?_
      obtain ⟨t', h', e'⟩ := ox_map h
      subst e'
      exact (t_46 s1 _ h' hG)
    · rw [if_neg hc] at h
      refine ox_aload_n B 0 od_Mo_word_11 rfl rfl ?_
      refine omg_Mo_7 B F od_Mo_word_12 ?_
      refine ox_aload_n B 0 od_Mo_word_15 rfl rfl ?_
      refine omg_Mo_112 B F od_Mo_word_16 ?_
      obtain ⟨j4, ej4, hj4, h⟩ := ox_ix_some2 h
      refine omal_0 B F od_Mo_word_19 hj4 ej4 ?_
      refine ox_bipush B od_Mo_word_20 oxk_b32 ?_
      refine ox_icmp_ne B 38 od_Mo_word_22 rfl (fun hc => ?_) (fun hc => ?_)
      · rw [if_neg hc] at h
        refine ox_aload_n B 0 od_Mo_word_38 rfl rfl ?_
        refine ox_aload_n B 0 od_Mo_word_39 rfl rfl ?_
        refine omg_Mo_112 B F od_Mo_word_40 ?_
        obtain ⟨s5, es5, h⟩ := ox_let_some h
        refine omp_Mo_118 B F od_Mo_word_43 es5 ?_
        obtain ⟨t', h', e'⟩ := ox_map h
        subst e'
        exact (t_46 s5 _ h' hG)
      · rw [if_pos hc] at h
        refine ox_aload_n B 0 od_Mo_word_25 rfl rfl ?_
        refine ox_dup B od_Mo_word_26 rfl ?_
        refine omg_Mo_112 B F od_Mo_word_27 ?_
        refine ox_iconst B od_Mo_word_30 oxk_i1 ?_
        refine ox_iadd B od_Mo_word_31 ?_
        obtain ⟨s6, es6, h⟩ := ox_let_some h
        refine omp_Mo_112 B F od_Mo_word_32 es6 ?_
        refine ox_goto B 0 od_Mo_word_35 rfl ?_
        cases h
        exact hG
  have t_0 : ∀  (σ : ox_S) (t : (Int32 × ox_S)), om_Mo_word_h0  σ = some t → (fun t : (Int32 × ox_S) => res = some (.int t.1) ∧ σf = t.2) t → ox_M p l e rm_om_Mo_word s m args below meth c (om_W D ad cI cC cZ A) 1 res σf 0 [some (.ref (ad 0))] [] σ := by
    intro  σ t h hG
    exact ox_w_run (fun t : ox_S => ox_M p l e rm_om_Mo_word s m args below meth c (om_W D ad cI cC cZ A) 1 res σf 0 [some (.ref (ad 0))] [] t) (fun t : (Int32 × ox_S) => res = some (.int t.1) ∧ σf = t.2) (fun a t h hG => t_b0  a t h hG) σ t h hG
  change ox_M p l e rm_om_Mo_word s m args below meth c (om_W D ad cI cC cZ A) 1 res σf 0 [some (.ref (ad 0))] [] σ
  unfold om_Mo_word at h
  exact (t_0 σ _ h hG)
abbrev rm_om_Mo_noMore : Room := { frames := 1, cells := 0, slots := 0, locals := 20 }
set_option maxRecDepth 100000 in
set_option maxHeartbeats 4000000 in
theorem ct_om_Mo_noMore {l : Launch} {D : va_G} {ad : Nat → Nat} {cI cC cZ : ClassId} {A : Nat → Prop} (hok : ox_ok (om_W D ad cI cC cZ A))  (σ : ox_S) (t : (Int32 × ox_S)) (h : om_Mo_noMore  σ = some t) : Met l oy_Mo_noMore (Cond.code oy_Mo_noMore prog_11_method_11_code 1 (some .boolean) :: ox_ws) rm_om_Mo_noMore (ox_P (om_W D ad cI cC cZ A) [.ref (ad 0)] σ) (ox_Q (om_W D ad cI cC cZ A) (some (.int t.1)) t.2) 0 0 A := by
  refine ox_met (ω := om_W D ad cI cC cZ A) (by decide) rfl hok (Nat.le_of_ble_eq_true rfl) ?_
  intro p e s m args below meth c B F
  generalize hres : (some (.int t.1) : Option Value) = res
  generalize hσf : t.2 = σf
  have hG : (fun t : (Int32 × ox_S) => res = some (.int t.1) ∧ σf = t.2) t := ⟨hres.symm, hσf.symm⟩
  change ox_M p l e rm_om_Mo_noMore s m args below meth c (om_W D ad cI cC cZ A) 1 res σf 0 [some (.ref (ad 0))] [] σ
  unfold om_Mo_noMore at h
  refine ox_aload_n B 0 od_Mo_noMore_0 rfl rfl ?_
  obtain ⟨r1, s2, hr1, h⟩ := ox_b2_some h
  refine omc_Mo_128 B F od_Mo_noMore_1 (As := []) (rest := []) (st2 := [.int r1]) (ct_om_Mo_word hok σ _ hr1) ⟨rfl, rfl, Nat.le_of_ble_eq_true rfl, Nat.le_of_ble_eq_true rfl⟩ rfl (Nat.le_of_ble_eq_true rfl) rfl rfl ?_
  refine ox_if_ne B 11 od_Mo_noMore_4 rfl (fun hc => ?_) (fun hc => ?_)
  · rw [if_neg hc] at h
    refine ox_iconst B od_Mo_noMore_11 oxk_i0 ?_
    cases h
    exact ox_iret B F od_Mo_noMore_12 rfl (ox_nz (Or.inl rfl)) hG
  · rw [if_pos hc] at h
    refine ox_iconst B od_Mo_noMore_7 oxk_i1 ?_
    refine ox_goto B 12 od_Mo_noMore_8 rfl ?_
    cases h
    exact ox_iret B F od_Mo_noMore_12 rfl (ox_nz (Or.inr rfl)) hG
abbrev rm_om_Mo_isNumber : Room := { frames := 0, cells := 0, slots := 0, locals := 0 }
set_option maxRecDepth 100000 in
set_option maxHeartbeats 4000000 in
theorem ct_om_Mo_isNumber {l : Launch} {D : va_G} {ad : Nat → Nat} {cI cC cZ : ClassId} {A : Nat → Prop} (hok : ox_ok (om_W D ad cI cC cZ A))  (σ : ox_S) (t : Int32) (h : om_Mo_isNumber  σ = some t) : Met l oy_Mo_isNumber (Cond.code oy_Mo_isNumber prog_11_method_9_code 4 (some .boolean) :: ox_ws) rm_om_Mo_isNumber (ox_P (om_W D ad cI cC cZ A) [.ref (ad 0)] σ) (ox_Q (om_W D ad cI cC cZ A) (some (.int t)) σ) 0 0 A := by
  refine ox_met (ω := om_W D ad cI cC cZ A) (by decide) rfl hok (Nat.le_of_ble_eq_true rfl) ?_
  intro p e s m args below meth c B F
  generalize hres : (some (.int t) : Option Value) = res
  have hG : (fun t : Int32 => res = some (.int t) ∧ σ = σ) t := ⟨hres.symm, rfl⟩
  have t_b54 : ∀ (x2 : Int32) (x3 : Int32)  (t : ((Int32 × Int32) ⊕ Int32)), om_Mo_isNumber_b54 x2 x3 σ = some t → (ox_G (fun t : (Int32 × Int32) => ox_M p l e rm_om_Mo_isNumber s m args below meth c (om_W D ad cI cC cZ A) 4 res σ 54 [some (.ref (ad 0)), none, some (.int t.1), some (.int t.2)] [] σ) (fun t : Int32 => res = some (.int t) ∧ σ = σ)) t → ox_M p l e rm_om_Mo_isNumber s m args below meth c (om_W D ad cI cC cZ A) 4 res σ 54 [some (.ref (ad 0)), none, some (.int x2), some (.int x3)] [] σ := by
    intro x2 x3  t h hG
    unfold om_Mo_isNumber_b54 at h
    refine ox_iload_n B 3 od_Mo_isNumber_54 rfl rfl ?_
    refine ox_aload_n B 0 od_Mo_isNumber_55 rfl rfl ?_
    refine omg_Mo_112 B F od_Mo_isNumber_56 ?_
    refine ox_icmp_ge B 100 od_Mo_isNumber_59 rfl (fun hc => ?_) (fun hc => ?_)
    · rw [if_pos hc] at h
      refine ox_iload_n B 2 od_Mo_isNumber_100 rfl rfl ?_
      obtain ⟨hz, h⟩ := ox_z_some h
      cases h
      exact ox_iret B F od_Mo_isNumber_101 rfl (ox_nz hz) hG
    · rw [if_neg hc] at h
      refine ox_iload_n B 2 od_Mo_isNumber_62 rfl rfl ?_
      refine ox_if_eq B 92 od_Mo_isNumber_63 rfl (fun hc => ?_) (fun hc => ?_)
      · rw [if_pos hc] at h
        refine ox_iconst B od_Mo_isNumber_92 oxk_i0 ?_
        refine ox_istore_n B 2 od_Mo_isNumber_93 rfl (by decide) rfl (L2 := [some (.ref (ad 0)), none, some (.int (0 : Int32)), some (.int x3)]) rfl ?_
        obtain ⟨v2, ev2, h⟩ := ox_let_some h
        refine ox_iinc B od_Mo_isNumber_94 rfl ((congrArg (x3 + ·) oxk_i1).trans ev2.symm) (by decide) rfl (L2 := [some (.ref (ad 0)), none, some (.int (0 : Int32)), some (.int v2)]) rfl ?_
        refine ox_goto B 54 od_Mo_isNumber_97 rfl ?_
        cases h
        exact hG
      · rw [if_neg hc] at h
        refine ox_aload_n B 0 od_Mo_isNumber_66 rfl rfl ?_
        refine omg_Mo_7 B F od_Mo_isNumber_67 ?_
        refine ox_iload_n B 3 od_Mo_isNumber_70 rfl rfl ?_
        obtain ⟨j3, ej3, hj3, h⟩ := ox_ix_some2 h
        refine omal_0 B F od_Mo_isNumber_71 hj3 ej3 ?_
        refine ox_bipush B od_Mo_isNumber_72 oxk_b48 ?_
        refine ox_icmp_lt B 92 od_Mo_isNumber_74 rfl (fun hc => ?_) (fun hc => ?_)
        · rw [if_pos hc] at h
          refine ox_iconst B od_Mo_isNumber_92 oxk_i0 ?_
          refine ox_istore_n B 2 od_Mo_isNumber_93 rfl (by decide) rfl (L2 := [some (.ref (ad 0)), none, some (.int (0 : Int32)), some (.int x3)]) rfl ?_
          obtain ⟨v4, ev4, h⟩ := ox_let_some h
          refine ox_iinc B od_Mo_isNumber_94 rfl ((congrArg (x3 + ·) oxk_i1).trans ev4.symm) (by decide) rfl (L2 := [some (.ref (ad 0)), none, some (.int (0 : Int32)), some (.int v4)]) rfl ?_
          refine ox_goto B 54 od_Mo_isNumber_97 rfl ?_
          cases h
          exact hG
        · rw [if_neg hc] at h
          refine ox_aload_n B 0 od_Mo_isNumber_77 rfl rfl ?_
          refine omg_Mo_7 B F od_Mo_isNumber_78 ?_
          refine ox_iload_n B 3 od_Mo_isNumber_81 rfl rfl ?_
          obtain ⟨j5, ej5, hj5, h⟩ := ox_ix_some2 h
          refine omal_0 B F od_Mo_isNumber_82 hj5 ej5 ?_
          refine ox_bipush B od_Mo_isNumber_83 oxk_b57 ?_
          refine ox_icmp_gt B 92 od_Mo_isNumber_85 rfl (fun hc => ?_) (fun hc => ?_)
          · rw [if_pos hc] at h
            refine ox_iconst B od_Mo_isNumber_92 oxk_i0 ?_
            refine ox_istore_n B 2 od_Mo_isNumber_93 rfl (by decide) rfl (L2 := [some (.ref (ad 0)), none, some (.int (0 : Int32)), some (.int x3)]) rfl ?_
            obtain ⟨v6, ev6, h⟩ := ox_let_some h
            refine ox_iinc B od_Mo_isNumber_94 rfl ((congrArg (x3 + ·) oxk_i1).trans ev6.symm) (by decide) rfl (L2 := [some (.ref (ad 0)), none, some (.int (0 : Int32)), some (.int v6)]) rfl ?_
            refine ox_goto B 54 od_Mo_isNumber_97 rfl ?_
            cases h
            exact hG
          · rw [if_neg hc] at h
            refine ox_iconst B od_Mo_isNumber_88 oxk_i1 ?_
            refine ox_goto B 93 od_Mo_isNumber_89 rfl ?_
            refine ox_istore_n B 2 od_Mo_isNumber_93 rfl (by decide) rfl (L2 := [some (.ref (ad 0)), none, some (.int (1 : Int32)), some (.int x3)]) rfl ?_
            obtain ⟨v7, ev7, h⟩ := ox_let_some h
            refine ox_iinc B od_Mo_isNumber_94 rfl ((congrArg (x3 + ·) oxk_i1).trans ev7.symm) (by decide) rfl (L2 := [some (.ref (ad 0)), none, some (.int (1 : Int32)), some (.int v7)]) rfl ?_
            refine ox_goto B 54 od_Mo_isNumber_97 rfl ?_
            cases h
            exact hG
  have t_54 : ∀ (x2 : Int32) (x3 : Int32)  (t : Int32), om_Mo_isNumber_h54 x2 x3 σ = some t → (fun t : Int32 => res = some (.int t) ∧ σ = σ) t → ox_M p l e rm_om_Mo_isNumber s m args below meth c (om_W D ad cI cC cZ A) 4 res σ 54 [some (.ref (ad 0)), none, some (.int x2), some (.int x3)] [] σ := by
    intro x2 x3  t h hG
    exact ox_w_run (fun t : (Int32 × Int32) => ox_M p l e rm_om_Mo_isNumber s m args below meth c (om_W D ad cI cC cZ A) 4 res σ 54 [some (.ref (ad 0)), none, some (.int t.1), some (.int t.2)] [] σ) (fun t : Int32 => res = some (.int t) ∧ σ = σ) (fun a t h hG => t_b54 a.1 a.2  t h hG) (x2, x3) t h hG
  have t_27 : ∀ (y0 : Int32)  (t : Int32), om_Mo_isNumber_j27 y0 σ = some t → (fun t : Int32 => res = some (.int t) ∧ σ = σ) t → ox_M p l e rm_om_Mo_isNumber s m args below meth c (om_W D ad cI cC cZ A) 4 res σ 27 [some (.ref (ad 0)), none, none, none] [.int y0] σ := by
    intro y0  t h hG
    unfold om_Mo_isNumber_j27 at h
    refine ox_istore_n B 1 od_Mo_isNumber_27 rfl (by decide) rfl (L2 := [some (.ref (ad 0)), some (.int y0), none, none]) rfl ?_
    refine ox_aload_n B 0 od_Mo_isNumber_28 rfl rfl ?_
    refine omg_Mo_112 B F od_Mo_isNumber_29 ?_
    refine ox_iload_n B 1 od_Mo_isNumber_32 rfl rfl ?_
    refine ox_icmp_le B 50 od_Mo_isNumber_33 rfl (fun hc => ?_) (fun hc => ?_)
    · rw [if_pos hc] at h
      refine ox_iconst B od_Mo_isNumber_50 oxk_i0 ?_
      refine ox_istore_n B 2 od_Mo_isNumber_51 rfl (by decide) rfl (L2 := [some (.ref (ad 0)), some (.int y0), some (.int (0 : Int32)), none]) rfl ?_
      refine ox_iload_n B 1 od_Mo_isNumber_52 rfl rfl ?_
      refine ox_istore_n B 3 od_Mo_isNumber_53 rfl (by decide) rfl (L2 := [some (.ref (ad 0)), some (.int y0), some (.int (0 : Int32)), some (.int y0)]) rfl ?_
      exact (ox_mask [true, false, true, true] (t_54 (0 : Int32) y0 _ h hG))
    · rw [if_neg hc] at h
      refine ox_aload_n B 0 od_Mo_isNumber_36 rfl rfl ?_
      refine omg_Mo_112 B F od_Mo_isNumber_37 ?_
      refine ox_iload_n B 1 od_Mo_isNumber_40 rfl rfl ?_
      refine ox_isub B od_Mo_isNumber_41 ?_
      refine ox_iconst B od_Mo_isNumber_42 oxk_i4 ?_
      refine ox_icmp_gt B 50 od_Mo_isNumber_43 rfl (fun hc => ?_) (fun hc => ?_)
      · rw [if_pos hc] at h
        refine ox_iconst B od_Mo_isNumber_50 oxk_i0 ?_
        refine ox_istore_n B 2 od_Mo_isNumber_51 rfl (by decide) rfl (L2 := [some (.ref (ad 0)), some (.int y0), some (.int (0 : Int32)), none]) rfl ?_
        refine ox_iload_n B 1 od_Mo_isNumber_52 rfl rfl ?_
        refine ox_istore_n B 3 od_Mo_isNumber_53 rfl (by decide) rfl (L2 := [some (.ref (ad 0)), some (.int y0), some (.int (0 : Int32)), some (.int y0)]) rfl ?_
        exact (ox_mask [true, false, true, true] (t_54 (0 : Int32) y0 _ h hG))
      · rw [if_neg hc] at h
        refine ox_iconst B od_Mo_isNumber_46 oxk_i1 ?_
        refine ox_goto B 51 od_Mo_isNumber_47 rfl ?_
        refine ox_istore_n B 2 od_Mo_isNumber_51 rfl (by decide) rfl (L2 := [some (.ref (ad 0)), some (.int y0), some (.int (1 : Int32)), none]) rfl ?_
        refine ox_iload_n B 1 od_Mo_isNumber_52 rfl rfl ?_
        refine ox_istore_n B 3 od_Mo_isNumber_53 rfl (by decide) rfl (L2 := [some (.ref (ad 0)), some (.int y0), some (.int (1 : Int32)), some (.int y0)]) rfl ?_
        exact (ox_mask [true, false, true, true] (t_54 (1 : Int32) y0 _ h hG))
  change ox_M p l e rm_om_Mo_isNumber s m args below meth c (om_W D ad cI cC cZ A) 4 res σ 0 [some (.ref (ad 0)), none, none, none] [] σ
  unfold om_Mo_isNumber at h
  refine ox_aload_n B 0 od_Mo_isNumber_0 rfl rfl ?_
  refine omg_Mo_7 B F od_Mo_isNumber_1 ?_
  refine ox_aload_n B 0 od_Mo_isNumber_4 rfl rfl ?_
  refine omg_Mo_118 B F od_Mo_isNumber_5 ?_
  obtain ⟨j1, ej1, hj1, h⟩ := ox_ix_some2 h
  refine omal_0 B F od_Mo_isNumber_8 hj1 ej1 ?_
  refine ox_bipush B od_Mo_isNumber_9 oxk_b45 ?_
  refine ox_icmp_ne B 23 od_Mo_isNumber_11 rfl (fun hc => ?_) (fun hc => ?_)
  · rw [if_neg hc] at h
    refine ox_aload_n B 0 od_Mo_isNumber_23 rfl rfl ?_
    refine omg_Mo_118 B F od_Mo_isNumber_24 ?_
    exact (t_27 (σ.1 6) _ h hG)
  · rw [if_pos hc] at h
    refine ox_aload_n B 0 od_Mo_isNumber_14 rfl rfl ?_
    refine omg_Mo_118 B F od_Mo_isNumber_15 ?_
    refine ox_iconst B od_Mo_isNumber_18 oxk_i1 ?_
    refine ox_iadd B od_Mo_isNumber_19 ?_
    refine ox_goto B 27 od_Mo_isNumber_20 rfl ?_
    exact (t_27 ((σ.1 6) + (1 : Int32)) _ h hG)
abbrev rm_om_Mo_number : Room := { frames := 0, cells := 0, slots := 0, locals := 0 }
set_option maxRecDepth 100000 in
set_option maxHeartbeats 4000000 in
theorem ct_om_Mo_number {l : Launch} {D : va_G} {ad : Nat → Nat} {cI cC cZ : ClassId} {A : Nat → Prop} (hok : ox_ok (om_W D ad cI cC cZ A))  (σ : ox_S) (t : Int32) (h : om_Mo_number  σ = some t) : Met l oy_Mo_number (Cond.code oy_Mo_number prog_11_method_10_code 3 (some .int) :: ox_ws) rm_om_Mo_number (ox_P (om_W D ad cI cC cZ A) [.ref (ad 0)] σ) (ox_Q (om_W D ad cI cC cZ A) (some (.int t)) σ) 0 0 A := by
  refine ox_met (ω := om_W D ad cI cC cZ A) (by decide) rfl hok (Nat.le_of_ble_eq_true rfl) ?_
  intro p e s m args below meth c B F
  generalize hres : (some (.int t) : Option Value) = res
  have hG : (fun t : Int32 => res = some (.int t) ∧ σ = σ) t := ⟨hres.symm, rfl⟩
  have t_b7 : ∀ (x1 : Int32) (x2 : Int32)  (t : ((Int32 × Int32) ⊕ Int32)), om_Mo_number_b7 x1 x2 σ = some t → (ox_G (fun t : (Int32 × Int32) => ox_M p l e rm_om_Mo_number s m args below meth c (om_W D ad cI cC cZ A) 3 res σ 7 [some (.ref (ad 0)), some (.int t.1), some (.int t.2)] [] σ) (fun t : Int32 => res = some (.int t) ∧ σ = σ)) t → ox_M p l e rm_om_Mo_number s m args below meth c (om_W D ad cI cC cZ A) 3 res σ 7 [some (.ref (ad 0)), some (.int x1), some (.int x2)] [] σ := by
    intro x1 x2  t h hG
    unfold om_Mo_number_b7 at h
    refine ox_iload_n B 2 od_Mo_number_7 rfl rfl ?_
    refine ox_aload_n B 0 od_Mo_number_8 rfl rfl ?_
    refine omg_Mo_112 B F od_Mo_number_9 ?_
    refine ox_icmp_ge B 51 od_Mo_number_12 rfl (fun hc => ?_) (fun hc => ?_)
    · rw [if_pos hc] at h
      refine ox_aload_n B 0 od_Mo_number_51 rfl rfl ?_
      refine omg_Mo_7 B F od_Mo_number_52 ?_
      refine ox_aload_n B 0 od_Mo_number_55 rfl rfl ?_
      refine omg_Mo_118 B F od_Mo_number_56 ?_
      obtain ⟨j2, ej2, hj2, h⟩ := ox_ix_some2 h
      refine omal_0 B F od_Mo_number_59 hj2 ej2 ?_
      refine ox_bipush B od_Mo_number_60 oxk_b45 ?_
      refine ox_icmp_ne B 70 od_Mo_number_62 rfl (fun hc => ?_) (fun hc => ?_)
      · rw [if_neg hc] at h
        refine ox_iload_n B 1 od_Mo_number_70 rfl rfl ?_
        cases h
        exact ox_iret B F od_Mo_number_71 rfl rfl hG
      · rw [if_pos hc] at h
        refine ox_iload_n B 1 od_Mo_number_65 rfl rfl ?_
        refine ox_ineg B od_Mo_number_66 ?_
        refine ox_goto B 71 od_Mo_number_67 rfl ?_
        cases h
        exact ox_iret B F od_Mo_number_71 rfl rfl hG
    · rw [if_neg hc] at h
      refine ox_aload_n B 0 od_Mo_number_15 rfl rfl ?_
      refine omg_Mo_7 B F od_Mo_number_16 ?_
      refine ox_iload_n B 2 od_Mo_number_19 rfl rfl ?_
      obtain ⟨j3, ej3, hj3, h⟩ := ox_ix_some2 h
      refine omal_0 B F od_Mo_number_20 hj3 ej3 ?_
      refine ox_bipush B od_Mo_number_21 oxk_b45 ?_
      refine ox_icmp_ne B 30 od_Mo_number_23 rfl (fun hc => ?_) (fun hc => ?_)
      · rw [if_neg hc] at h
        refine ox_bipush B od_Mo_number_30 oxk_b10 ?_
        refine ox_iload_n B 1 od_Mo_number_32 rfl rfl ?_
        refine ox_imul B od_Mo_number_33 ?_
        refine ox_aload_n B 0 od_Mo_number_34 rfl rfl ?_
        refine omg_Mo_7 B F od_Mo_number_35 ?_
        refine ox_iload_n B 2 od_Mo_number_38 rfl rfl ?_
        obtain ⟨j4, ej4, hj4, h⟩ := ox_ix_some2 h
        refine omal_0 B F od_Mo_number_39 hj4 ej4 ?_
        refine ox_iadd B od_Mo_number_40 ?_
        refine ox_bipush B od_Mo_number_41 oxk_b48 ?_
        refine ox_isub B od_Mo_number_43 ?_
        obtain ⟨v5, ev5, h⟩ := ox_let_some h
        refine ox_topi ev5 ?_
        refine ox_istore_n B 1 od_Mo_number_44 rfl (by decide) rfl (L2 := [some (.ref (ad 0)), some (.int v5), some (.int x2)]) rfl ?_
        obtain ⟨v6, ev6, h⟩ := ox_let_some h
        refine ox_iinc B od_Mo_number_45 rfl ((congrArg (x2 + ·) oxk_i1).trans ev6.symm) (by decide) rfl (L2 := [some (.ref (ad 0)), some (.int v5), some (.int v6)]) rfl ?_
        refine ox_goto B 7 od_Mo_number_48 rfl ?_
        cases h
        exact hG
      · rw [if_pos hc] at h
        refine ox_iconst B od_Mo_number_26 oxk_i0 ?_
        refine ox_goto B 44 od_Mo_number_27 rfl ?_
        refine ox_istore_n B 1 od_Mo_number_44 rfl (by decide) rfl (L2 := [some (.ref (ad 0)), some (.int (0 : Int32)), some (.int x2)]) rfl ?_
        obtain ⟨v7, ev7, h⟩ := ox_let_some h
        refine ox_iinc B od_Mo_number_45 rfl ((congrArg (x2 + ·) oxk_i1).trans ev7.symm) (by decide) rfl (L2 := [some (.ref (ad 0)), some (.int (0 : Int32)), some (.int v7)]) rfl ?_
        refine ox_goto B 7 od_Mo_number_48 rfl ?_
        cases h
        exact hG
  have t_7 : ∀ (x1 : Int32) (x2 : Int32)  (t : Int32), om_Mo_number_h7 x1 x2 σ = some t → (fun t : Int32 => res = some (.int t) ∧ σ = σ) t → ox_M p l e rm_om_Mo_number s m args below meth c (om_W D ad cI cC cZ A) 3 res σ 7 [some (.ref (ad 0)), some (.int x1), some (.int x2)] [] σ := by
    intro x1 x2  t h hG
    exact ox_w_run (fun t : (Int32 × Int32) => ox_M p l e rm_om_Mo_number s m args below meth c (om_W D ad cI cC cZ A) 3 res σ 7 [some (.ref (ad 0)), some (.int t.1), some (.int t.2)] [] σ) (fun t : Int32 => res = some (.int t) ∧ σ = σ) (fun a t h hG => t_b7 a.1 a.2  t h hG) (x1, x2) t h hG
  change ox_M p l e rm_om_Mo_number s m args below meth c (om_W D ad cI cC cZ A) 3 res σ 0 [some (.ref (ad 0)), none, none] [] σ
  unfold om_Mo_number at h
  refine ox_iconst B od_Mo_number_0 oxk_i0 ?_
  refine ox_istore_n B 1 od_Mo_number_1 rfl (by decide) rfl (L2 := [some (.ref (ad 0)), some (.int (0 : Int32)), none]) rfl ?_
  refine ox_aload_n B 0 od_Mo_number_2 rfl rfl ?_
  refine omg_Mo_118 B F od_Mo_number_3 ?_
  obtain ⟨v1, ev1, h⟩ := ox_let_some h
  refine ox_topi ev1 ?_
  refine ox_istore_n B 2 od_Mo_number_6 rfl (by decide) rfl (L2 := [some (.ref (ad 0)), some (.int (0 : Int32)), some (.int v1)]) rfl ?_
  exact (t_7 (0 : Int32) v1 _ h hG)
abbrev rm_om_Mo_place : Room := { frames := 2, cells := 0, slots := 0, locals := 40 }
set_option maxRecDepth 100000 in
set_option maxHeartbeats 4000000 in
theorem ct_om_Mo_place {l : Launch} {D : va_G} {ad : Nat → Nat} {cI cC cZ : ClassId} {A : Nat → Prop} (hok : ox_ok (om_W D ad cI cC cZ A))  (σ : ox_S) (t : (Int32 × ox_S)) (h : om_Mo_place  σ = some t) : Met l oy_Mo_place (Cond.code oy_Mo_place prog_11_method_18_code 5 (some .boolean) :: ox_ws) rm_om_Mo_place (ox_P (om_W D ad cI cC cZ A) [.ref (ad 0)] σ) (ox_Q (om_W D ad cI cC cZ A) (some (.int t.1)) t.2) 0 0 A := by
  refine ox_met (ω := om_W D ad cI cC cZ A) (by decide) rfl hok (Nat.le_of_ble_eq_true rfl) ?_
  intro p e s m args below meth c B F
  generalize hres : (some (.int t.1) : Option Value) = res
  generalize hσf : t.2 = σf
  have hG : (fun t : (Int32 × ox_S) => res = some (.int t.1) ∧ σf = t.2) t := ⟨hres.symm, hσf.symm⟩
  have t_116 : ∀ (x1 : Int32) (x2 : Int32) (x3 : Int32) (y0 : Int32) (σ : ox_S) (t : (Int32 × ox_S)), om_Mo_place_j116 x1 x2 x3 y0 σ = some t → (fun t : (Int32 × ox_S) => res = some (.int t.1) ∧ σf = t.2) t → ox_M p l e rm_om_Mo_place s m args below meth c (om_W D ad cI cC cZ A) 5 res σf 116 [some (.ref (ad 0)), some (.int x1), some (.int x2), some (.int x3), none] [.int y0] σ := by
    intro x1 x2 x3 y0 σ t h hG
    unfold om_Mo_place_j116 at h
    refine ox_istore B od_Mo_place_116 (by decide) rfl (L2 := [some (.ref (ad 0)), some (.int x1), some (.int x2), some (.int x3), some (.int y0)]) rfl ?_
    refine ox_iload_n B 2 od_Mo_place_118 rfl rfl ?_
    refine ox_if_eq B 152 od_Mo_place_119 rfl (fun hc => ?_) (fun hc => ?_)
    · rw [if_pos hc] at h
      refine ox_iconst B od_Mo_place_152 oxk_i0 ?_
      cases h
      exact ox_iret B F od_Mo_place_153 rfl (ox_nz (Or.inl rfl)) hG
    · rw [if_neg hc] at h
      refine ox_iload_n B 3 od_Mo_place_122 rfl rfl ?_
      refine ox_sipush B od_Mo_place_123 oxk_sm999 ?_
      refine ox_icmp_lt B 152 od_Mo_place_126 rfl (fun hc => ?_) (fun hc => ?_)
      · rw [if_pos hc] at h
        refine ox_iconst B od_Mo_place_152 oxk_i0 ?_
        cases h
        exact ox_iret B F od_Mo_place_153 rfl (ox_nz (Or.inl rfl)) hG
      · rw [if_neg hc] at h
        refine ox_iload_n B 3 od_Mo_place_129 rfl rfl ?_
        refine ox_sipush B od_Mo_place_130 oxk_s999 ?_
        refine ox_icmp_gt B 152 od_Mo_place_133 rfl (fun hc => ?_) (fun hc => ?_)
        · rw [if_pos hc] at h
          refine ox_iconst B od_Mo_place_152 oxk_i0 ?_
          cases h
          exact ox_iret B F od_Mo_place_153 rfl (ox_nz (Or.inl rfl)) hG
        · rw [if_neg hc] at h
          refine ox_iload B od_Mo_place_136 rfl ?_
          refine ox_sipush B od_Mo_place_138 oxk_sm999 ?_
          refine ox_icmp_lt B 152 od_Mo_place_141 rfl (fun hc => ?_) (fun hc => ?_)
          · rw [if_pos hc] at h
            refine ox_iconst B od_Mo_place_152 oxk_i0 ?_
            cases h
            exact ox_iret B F od_Mo_place_153 rfl (ox_nz (Or.inl rfl)) hG
          · rw [if_neg hc] at h
            refine ox_iload B od_Mo_place_144 rfl ?_
            refine ox_sipush B od_Mo_place_146 oxk_s999 ?_
            refine ox_icmp_le B 154 od_Mo_place_149 rfl (fun hc => ?_) (fun hc => ?_)
            · rw [if_pos hc] at h
              refine ox_aload_n B 0 od_Mo_place_154 rfl rfl ?_
              refine omg_Mo_35 B F od_Mo_place_155 ?_
              refine ox_iload_n B 1 od_Mo_place_158 rfl rfl ?_
              refine ox_iload_n B 3 od_Mo_place_159 rfl rfl ?_
              obtain ⟨j2, ej2, hj2, h⟩ := ox_ix_some2 h
              obtain ⟨s3, es3, h⟩ := ox_let_some h
              refine omas_8 B F od_Mo_place_160 hj2 ej2 es3 ?_
              refine ox_aload_n B 0 od_Mo_place_161 rfl rfl ?_
              refine omg_Mo_38 B F od_Mo_place_162 ?_
              refine ox_iload_n B 1 od_Mo_place_165 rfl rfl ?_
              refine ox_iload B od_Mo_place_166 rfl ?_
              obtain ⟨j4, ej4, hj4, h⟩ := ox_ix_some2 h
              obtain ⟨s5, es5, h⟩ := ox_let_some h
              refine omas_9 B F od_Mo_place_168 hj4 ej4 es5 ?_
              refine ox_aload_n B 0 od_Mo_place_169 rfl rfl ?_
              refine ox_dup B od_Mo_place_170 rfl ?_
              refine omg_Mo_162 B F od_Mo_place_171 ?_
              refine ox_iconst B od_Mo_place_174 oxk_i1 ?_
              refine ox_iadd B od_Mo_place_175 ?_
              obtain ⟨s6, es6, h⟩ := ox_let_some h
              refine omp_Mo_162 B F od_Mo_place_176 es6 ?_
              refine ox_aload_n B 0 od_Mo_place_179 rfl rfl ?_
              obtain ⟨r7, s8, hr7, h⟩ := ox_b2_some h
              refine omc_Mo_136 B F od_Mo_place_180 (As := []) (rest := []) (st2 := [.int r7]) (ct_om_Mo_noMore hok s6 _ hr7) ⟨rfl, rfl, Nat.le_of_ble_eq_true rfl, Nat.le_of_ble_eq_true rfl⟩ rfl (Nat.le_of_ble_eq_true rfl) rfl rfl ?_
              obtain ⟨hz, h⟩ := ox_z_some h
              cases h
              exact ox_iret B F od_Mo_place_183 rfl (ox_nz hz) hG
            · rw [if_neg hc] at h
              refine ox_iconst B od_Mo_place_152 oxk_i0 ?_
              cases h
              exact ox_iret B F od_Mo_place_153 rfl (ox_nz (Or.inl rfl)) hG
  have t_79 : ∀ (x1 : Int32) (x2 : Int32) (y0 : Int32) (σ : ox_S) (t : (Int32 × ox_S)), om_Mo_place_j79 x1 x2 y0 σ = some t → (fun t : (Int32 × ox_S) => res = some (.int t.1) ∧ σf = t.2) t → ox_M p l e rm_om_Mo_place s m args below meth c (om_W D ad cI cC cZ A) 5 res σf 79 [some (.ref (ad 0)), some (.int x1), some (.int x2), none, none] [.int y0] σ := by
    intro x1 x2 y0 σ t h hG
    unfold om_Mo_place_j79 at h
    refine ox_istore_n B 3 od_Mo_place_79 rfl (by decide) rfl (L2 := [some (.ref (ad 0)), some (.int x1), some (.int x2), some (.int y0), none]) rfl ?_
    refine ox_iload_n B 2 od_Mo_place_80 rfl rfl ?_
    refine ox_if_eq B 102 od_Mo_place_81 rfl (fun hc => ?_) (fun hc => ?_)
    · rw [if_pos hc] at h
      refine ox_iconst B od_Mo_place_102 oxk_i0 ?_
      refine ox_istore_n B 2 od_Mo_place_103 rfl (by decide) rfl (L2 := [some (.ref (ad 0)), some (.int x1), some (.int (0 : Int32)), some (.int y0), none]) rfl ?_
      refine ox_iload_n B 2 od_Mo_place_104 rfl rfl ?_
      refine ox_if_eq B 115 od_Mo_place_105 rfl (fun _ => ?_) (fun hc => absurd (by decide) hc)
      refine ox_iconst B od_Mo_place_115 oxk_i0 ?_
      exact (t_116 x1 (0 : Int32) y0 (0 : Int32) σ _ h hG)
    · rw [if_neg hc] at h
      refine ox_aload_n B 0 od_Mo_place_84 rfl rfl ?_
      obtain ⟨r9, s10, hr9, h⟩ := ox_b2_some h
      refine omc_Mo_128 B F od_Mo_place_85 (As := []) (rest := []) (st2 := [.int r9]) (ct_om_Mo_word hok σ _ hr9) ⟨rfl, rfl, Nat.le_of_ble_eq_true rfl, Nat.le_of_ble_eq_true rfl⟩ rfl (Nat.le_of_ble_eq_true rfl) rfl rfl ?_
      refine ox_if_eq B 102 od_Mo_place_88 rfl (fun hc => ?_) (fun hc => ?_)
      · rw [if_pos hc] at h
        refine ox_iconst B od_Mo_place_102 oxk_i0 ?_
        refine ox_istore_n B 2 od_Mo_place_103 rfl (by decide) rfl (L2 := [some (.ref (ad 0)), some (.int x1), some (.int (0 : Int32)), some (.int y0), none]) rfl ?_
        refine ox_iload_n B 2 od_Mo_place_104 rfl rfl ?_
        refine ox_if_eq B 115 od_Mo_place_105 rfl (fun _ => ?_) (fun hc => absurd (by decide) hc)
        refine ox_iconst B od_Mo_place_115 oxk_i0 ?_
        exact (t_116 x1 (0 : Int32) y0 (0 : Int32) s10 _ h hG)
      · rw [if_neg hc] at h
        refine ox_aload_n B 0 od_Mo_place_91 rfl rfl ?_
        obtain ⟨r11, hr11, h⟩ := ox_bind h
        refine omc_Mo_142 B F od_Mo_place_92 (As := []) (rest := []) (st2 := [.int r11]) (ct_om_Mo_isNumber hok s10 _ hr11) ⟨rfl, rfl, Nat.le_of_ble_eq_true rfl, Nat.le_of_ble_eq_true rfl⟩ rfl (Nat.le_of_ble_eq_true rfl) rfl rfl ?_
        refine ox_if_eq B 102 od_Mo_place_95 rfl (fun hc => ?_) (fun hc => ?_)
        · rw [if_pos hc] at h
          refine ox_iconst B od_Mo_place_102 oxk_i0 ?_
          refine ox_istore_n B 2 od_Mo_place_103 rfl (by decide) rfl (L2 := [some (.ref (ad 0)), some (.int x1), some (.int (0 : Int32)), some (.int y0), none]) rfl ?_
          refine ox_iload_n B 2 od_Mo_place_104 rfl rfl ?_
          refine ox_if_eq B 115 od_Mo_place_105 rfl (fun _ => ?_) (fun hc => absurd (by decide) hc)
          refine ox_iconst B od_Mo_place_115 oxk_i0 ?_
          exact (t_116 x1 (0 : Int32) y0 (0 : Int32) s10 _ h hG)
        · rw [if_neg hc] at h
          refine ox_iconst B od_Mo_place_98 oxk_i1 ?_
          refine ox_goto B 103 od_Mo_place_99 rfl ?_
          refine ox_istore_n B 2 od_Mo_place_103 rfl (by decide) rfl (L2 := [some (.ref (ad 0)), some (.int x1), some (.int (1 : Int32)), some (.int y0), none]) rfl ?_
          refine ox_iload_n B 2 od_Mo_place_104 rfl rfl ?_
          refine ox_if_eq B 115 od_Mo_place_105 rfl (fun hc => absurd hc (by decide)) (fun _ => ?_)
          refine ox_aload_n B 0 od_Mo_place_108 rfl rfl ?_
          obtain ⟨r12, hr12, h⟩ := ox_bind h
          refine omc_Mo_145 B F od_Mo_place_109 (As := []) (rest := []) (st2 := [.int r12]) (ct_om_Mo_number hok s10 _ hr12) ⟨rfl, rfl, Nat.le_of_ble_eq_true rfl, Nat.le_of_ble_eq_true rfl⟩ rfl (Nat.le_of_ble_eq_true rfl) rfl rfl ?_
          refine ox_goto B 116 od_Mo_place_112 rfl ?_
          exact (t_116 x1 (1 : Int32) y0 r12 s10 _ h hG)
  have t_42 : ∀ (x1 : Int32) (y0 : Int32) (σ : ox_S) (t : (Int32 × ox_S)), om_Mo_place_j42 x1 y0 σ = some t → (fun t : (Int32 × ox_S) => res = some (.int t.1) ∧ σf = t.2) t → ox_M p l e rm_om_Mo_place s m args below meth c (om_W D ad cI cC cZ A) 5 res σf 42 [some (.ref (ad 0)), some (.int x1), none, none, none] [.int y0] σ := by
    intro x1 y0 σ t h hG
    unfold om_Mo_place_j42 at h
    refine ox_istore_n B 2 od_Mo_place_42 rfl (by decide) rfl (L2 := [some (.ref (ad 0)), some (.int x1), some (.int y0), none, none]) rfl ?_
    refine ox_iload_n B 2 od_Mo_place_43 rfl rfl ?_
    refine ox_if_eq B 65 od_Mo_place_44 rfl (fun hc => ?_) (fun hc => ?_)
    · rw [if_pos hc] at h
      refine ox_iconst B od_Mo_place_65 oxk_i0 ?_
      refine ox_istore_n B 2 od_Mo_place_66 rfl (by decide) rfl (L2 := [some (.ref (ad 0)), some (.int x1), some (.int (0 : Int32)), none, none]) rfl ?_
      refine ox_iload_n B 2 od_Mo_place_67 rfl rfl ?_
      refine ox_if_eq B 78 od_Mo_place_68 rfl (fun _ => ?_) (fun hc => absurd (by decide) hc)
      refine ox_iconst B od_Mo_place_78 oxk_i0 ?_
      exact (t_79 x1 (0 : Int32) (0 : Int32) σ _ h hG)
    · rw [if_neg hc] at h
      refine ox_aload_n B 0 od_Mo_place_47 rfl rfl ?_
      obtain ⟨r13, s14, hr13, h⟩ := ox_b2_some h
      refine omc_Mo_128 B F od_Mo_place_48 (As := []) (rest := []) (st2 := [.int r13]) (ct_om_Mo_word hok σ _ hr13) ⟨rfl, rfl, Nat.le_of_ble_eq_true rfl, Nat.le_of_ble_eq_true rfl⟩ rfl (Nat.le_of_ble_eq_true rfl) rfl rfl ?_
      refine ox_if_eq B 65 od_Mo_place_51 rfl (fun hc => ?_) (fun hc => ?_)
      · rw [if_pos hc] at h
        refine ox_iconst B od_Mo_place_65 oxk_i0 ?_
        refine ox_istore_n B 2 od_Mo_place_66 rfl (by decide) rfl (L2 := [some (.ref (ad 0)), some (.int x1), some (.int (0 : Int32)), none, none]) rfl ?_
        refine ox_iload_n B 2 od_Mo_place_67 rfl rfl ?_
        refine ox_if_eq B 78 od_Mo_place_68 rfl (fun _ => ?_) (fun hc => absurd (by decide) hc)
        refine ox_iconst B od_Mo_place_78 oxk_i0 ?_
        exact (t_79 x1 (0 : Int32) (0 : Int32) s14 _ h hG)
      · rw [if_neg hc] at h
        refine ox_aload_n B 0 od_Mo_place_54 rfl rfl ?_
        obtain ⟨r15, hr15, h⟩ := ox_bind h
        refine omc_Mo_142 B F od_Mo_place_55 (As := []) (rest := []) (st2 := [.int r15]) (ct_om_Mo_isNumber hok s14 _ hr15) ⟨rfl, rfl, Nat.le_of_ble_eq_true rfl, Nat.le_of_ble_eq_true rfl⟩ rfl (Nat.le_of_ble_eq_true rfl) rfl rfl ?_
        refine ox_if_eq B 65 od_Mo_place_58 rfl (fun hc => ?_) (fun hc => ?_)
        · rw [if_pos hc] at h
          refine ox_iconst B od_Mo_place_65 oxk_i0 ?_
          refine ox_istore_n B 2 od_Mo_place_66 rfl (by decide) rfl (L2 := [some (.ref (ad 0)), some (.int x1), some (.int (0 : Int32)), none, none]) rfl ?_
          refine ox_iload_n B 2 od_Mo_place_67 rfl rfl ?_
          refine ox_if_eq B 78 od_Mo_place_68 rfl (fun _ => ?_) (fun hc => absurd (by decide) hc)
          refine ox_iconst B od_Mo_place_78 oxk_i0 ?_
          exact (t_79 x1 (0 : Int32) (0 : Int32) s14 _ h hG)
        · rw [if_neg hc] at h
          refine ox_iconst B od_Mo_place_61 oxk_i1 ?_
          refine ox_goto B 66 od_Mo_place_62 rfl ?_
          refine ox_istore_n B 2 od_Mo_place_66 rfl (by decide) rfl (L2 := [some (.ref (ad 0)), some (.int x1), some (.int (1 : Int32)), none, none]) rfl ?_
          refine ox_iload_n B 2 od_Mo_place_67 rfl rfl ?_
          refine ox_if_eq B 78 od_Mo_place_68 rfl (fun hc => absurd hc (by decide)) (fun _ => ?_)
          refine ox_aload_n B 0 od_Mo_place_71 rfl rfl ?_
          obtain ⟨r16, hr16, h⟩ := ox_bind h
          refine omc_Mo_145 B F od_Mo_place_72 (As := []) (rest := []) (st2 := [.int r16]) (ct_om_Mo_number hok s14 _ hr16) ⟨rfl, rfl, Nat.le_of_ble_eq_true rfl, Nat.le_of_ble_eq_true rfl⟩ rfl (Nat.le_of_ble_eq_true rfl) rfl rfl ?_
          refine ox_goto B 79 od_Mo_place_75 rfl ?_
          exact (t_79 x1 (1 : Int32) r16 s14 _ h hG)
  change ox_M p l e rm_om_Mo_place s m args below meth c (om_W D ad cI cC cZ A) 5 res σf 0 [some (.ref (ad 0)), none, none, none, none] [] σ
  unfold om_Mo_place at h
  refine ox_aload_n B 0 od_Mo_place_0 rfl rfl ?_
  refine omg_Mo_162 B F od_Mo_place_1 ?_
  obtain ⟨v1, ev1, h⟩ := ox_let_some h
  refine ox_topi ev1 ?_
  refine ox_istore_n B 1 od_Mo_place_4 rfl (by decide) rfl (L2 := [some (.ref (ad 0)), some (.int v1), none, none, none]) rfl ?_
  refine ox_iload_n B 1 od_Mo_place_5 rfl rfl ?_
  refine ox_aload_n B 0 od_Mo_place_6 rfl rfl ?_
  refine omg_Mo_139 B F od_Mo_place_7 ?_
  refine ox_icmp_ge B 41 od_Mo_place_10 rfl (fun hc => ?_) (fun hc => ?_)
  · rw [if_pos hc] at h
    refine ox_iconst B od_Mo_place_41 oxk_i0 ?_
    exact (t_42 v1 (0 : Int32) σ _ h hG)
  · rw [if_neg hc] at h
    refine ox_aload_n B 0 od_Mo_place_13 rfl rfl ?_
    obtain ⟨r17, s18, hr17, h⟩ := ox_b2_some h
    refine omc_Mo_128 B F od_Mo_place_14 (As := []) (rest := []) (st2 := [.int r17]) (ct_om_Mo_word hok σ _ hr17) ⟨rfl, rfl, Nat.le_of_ble_eq_true rfl, Nat.le_of_ble_eq_true rfl⟩ rfl (Nat.le_of_ble_eq_true rfl) rfl rfl ?_
    refine ox_if_eq B 41 od_Mo_place_17 rfl (fun hc => ?_) (fun hc => ?_)
    · rw [if_pos hc] at h
      refine ox_iconst B od_Mo_place_41 oxk_i0 ?_
      exact (t_42 v1 (0 : Int32) s18 _ h hG)
    · rw [if_neg hc] at h
      refine ox_aload_n B 0 od_Mo_place_20 rfl rfl ?_
      obtain ⟨r19, hr19, h⟩ := ox_bind h
      refine omc_Mo_142 B F od_Mo_place_21 (As := []) (rest := []) (st2 := [.int r19]) (ct_om_Mo_isNumber hok s18 _ hr19) ⟨rfl, rfl, Nat.le_of_ble_eq_true rfl, Nat.le_of_ble_eq_true rfl⟩ rfl (Nat.le_of_ble_eq_true rfl) rfl rfl ?_
      refine ox_if_eq B 41 od_Mo_place_24 rfl (fun hc => ?_) (fun hc => ?_)
      · rw [if_pos hc] at h
        refine ox_iconst B od_Mo_place_41 oxk_i0 ?_
        exact (t_42 v1 (0 : Int32) s18 _ h hG)
      · rw [if_neg hc] at h
        refine ox_aload_n B 0 od_Mo_place_27 rfl rfl ?_
        obtain ⟨r20, hr20, h⟩ := ox_bind h
        refine omc_Mo_145 B F od_Mo_place_28 (As := []) (rest := []) (st2 := [.int r20]) (ct_om_Mo_number hok s18 _ hr20) ⟨rfl, rfl, Nat.le_of_ble_eq_true rfl, Nat.le_of_ble_eq_true rfl⟩ rfl (Nat.le_of_ble_eq_true rfl) rfl rfl ?_
        refine ox_iload_n B 1 od_Mo_place_31 rfl rfl ?_
        refine ox_iconst B od_Mo_place_32 oxk_i1 ?_
        refine ox_iadd B od_Mo_place_33 ?_
        refine ox_icmp_ne B 41 od_Mo_place_34 rfl (fun hc => ?_) (fun hc => ?_)
        · rw [if_neg hc] at h
          refine ox_iconst B od_Mo_place_41 oxk_i0 ?_
          exact (t_42 v1 (0 : Int32) s18 _ h hG)
        · rw [if_pos hc] at h
          refine ox_iconst B od_Mo_place_37 oxk_i1 ?_
          refine ox_goto B 42 od_Mo_place_38 rfl ?_
          exact (t_42 v1 (1 : Int32) s18 _ h hG)
abbrev rm_om_Mo_pair : Room := { frames := 0, cells := 0, slots := 0, locals := 0 }
set_option maxRecDepth 100000 in
set_option maxHeartbeats 4000000 in
theorem ct_om_Mo_pair {l : Launch} {D : va_G} {ad : Nat → Nat} {cI cC cZ : ClassId} {A : Nat → Prop} (hok : ox_ok (om_W D ad cI cC cZ A)) (x1 : Int32) (σ : ox_S) (t : Int32) (h : om_Mo_pair x1 σ = some t) : Met l oy_Mo_pair (Cond.code oy_Mo_pair prog_11_method_14_code 6 (some .int) :: ox_ws) rm_om_Mo_pair (ox_P (om_W D ad cI cC cZ A) [.ref (ad 0), .int x1] σ) (ox_Q (om_W D ad cI cC cZ A) (some (.int t)) σ) 0 0 A := by
  refine ox_met (ω := om_W D ad cI cC cZ A) (by decide) rfl hok (Nat.le_of_ble_eq_true rfl) ?_
  intro p e s m args below meth c B F
  generalize hres : (some (.int t) : Option Value) = res
  have hG : (fun t : Int32 => res = some (.int t) ∧ σ = σ) t := ⟨hres.symm, rfl⟩
  have t_49 : ∀ (x2 : Int32) (x3 : Int32) (x4 : Int32) (y0 : Int32)  (t : ((Int32 × Int32) ⊕ Int32)), om_Mo_pair_j49 x2 x3 x4 y0 σ = some t → (ox_G (fun t : (Int32 × Int32) => ox_M p l e rm_om_Mo_pair s m args below meth c (om_W D ad cI cC cZ A) 6 res σ 4 [some (.ref (ad 0)), none, some (.int t.1), some (.int t.2), none, none] [] σ) (fun t : Int32 => res = some (.int t) ∧ σ = σ)) t → ox_M p l e rm_om_Mo_pair s m args below meth c (om_W D ad cI cC cZ A) 6 res σ 49 [some (.ref (ad 0)), none, some (.int x2), some (.int x3), some (.int x4), none] [.int y0] σ := by
    intro x2 x3 x4 y0  t h hG
    unfold om_Mo_pair_j49 at h
    refine ox_istore B od_Mo_pair_49 (by decide) rfl (L2 := [some (.ref (ad 0)), none, some (.int x2), some (.int x3), some (.int x4), some (.int y0)]) rfl ?_
    refine ox_iload_n B 2 od_Mo_pair_51 rfl rfl ?_
    refine ox_iload B od_Mo_pair_52 rfl ?_
    refine ox_iload B od_Mo_pair_54 rfl ?_
    refine ox_isub B od_Mo_pair_56 ?_
    refine ox_icmp_gt B 70 od_Mo_pair_57 rfl (fun hc => ?_) (fun hc => ?_)
    · rw [if_pos hc] at h
      refine ox_iload_n B 2 od_Mo_pair_70 rfl rfl ?_
      refine ox_iload B od_Mo_pair_71 rfl ?_
      refine ox_iload B od_Mo_pair_73 rfl ?_
      refine ox_isub B od_Mo_pair_75 ?_
      refine ox_iconst B od_Mo_pair_76 oxk_i1 ?_
      refine ox_iadd B od_Mo_pair_77 ?_
      refine ox_isub B od_Mo_pair_78 ?_
      obtain ⟨v1, ev1, h⟩ := ox_let_some h
      refine ox_topi ev1 ?_
      refine ox_istore_n B 2 od_Mo_pair_79 rfl (by decide) rfl (L2 := [some (.ref (ad 0)), none, some (.int v1), some (.int x3), some (.int x4), some (.int y0)]) rfl ?_
      obtain ⟨v2, ev2, h⟩ := ox_let_some h
      refine ox_iinc B od_Mo_pair_80 rfl ((congrArg (x3 + ·) oxk_i1).trans ev2.symm) (by decide) rfl (L2 := [some (.ref (ad 0)), none, some (.int v1), some (.int v2), some (.int x4), some (.int y0)]) rfl ?_
      refine ox_goto B 4 od_Mo_pair_83 rfl ?_
      cases h
      exact (ox_mask [true, false, true, true, false, false] hG)
    · rw [if_neg hc] at h
      refine ox_bipush B od_Mo_pair_60 oxk_b8 ?_
      refine ox_iload_n B 3 od_Mo_pair_62 rfl rfl ?_
      refine ox_imul B od_Mo_pair_63 ?_
      refine ox_iload B od_Mo_pair_64 rfl ?_
      refine ox_iadd B od_Mo_pair_66 ?_
      refine ox_iload_n B 2 od_Mo_pair_67 rfl rfl ?_
      refine ox_iadd B od_Mo_pair_68 ?_
      cases h
      exact ox_iret B F od_Mo_pair_69 rfl rfl hG
  have t_b4 : ∀ (x2 : Int32) (x3 : Int32)  (t : ((Int32 × Int32) ⊕ Int32)), om_Mo_pair_b4 x2 x3 σ = some t → (ox_G (fun t : (Int32 × Int32) => ox_M p l e rm_om_Mo_pair s m args below meth c (om_W D ad cI cC cZ A) 6 res σ 4 [some (.ref (ad 0)), none, some (.int t.1), some (.int t.2), none, none] [] σ) (fun t : Int32 => res = some (.int t) ∧ σ = σ)) t → ox_M p l e rm_om_Mo_pair s m args below meth c (om_W D ad cI cC cZ A) 6 res σ 4 [some (.ref (ad 0)), none, some (.int x2), some (.int x3), none, none] [] σ := by
    intro x2 x3  t h hG
    unfold om_Mo_pair_b4 at h
    refine ox_iload_n B 3 od_Mo_pair_4 rfl rfl ?_
    refine ox_aload_n B 0 od_Mo_pair_5 rfl rfl ?_
    refine omg_Mo_139 B F od_Mo_pair_6 ?_
    refine ox_icmp_ge B 86 od_Mo_pair_9 rfl (fun hc => ?_) (fun hc => ?_)
    · rw [if_pos hc] at h
      refine ox_iconst B od_Mo_pair_86 oxk_im1 ?_
      cases h
      exact ox_iret B F od_Mo_pair_87 rfl rfl hG
    · rw [if_neg hc] at h
      refine ox_aload_n B 0 od_Mo_pair_12 rfl rfl ?_
      refine omg_Mo_155 B F od_Mo_pair_13 ?_
      refine ox_bipush B od_Mo_pair_16 oxk_b9 ?_
      refine ox_icmp_ne B 27 od_Mo_pair_18 rfl (fun hc => ?_) (fun hc => ?_)
      · rw [if_neg hc] at h
        refine ox_iconst B od_Mo_pair_27 oxk_i0 ?_
        refine ox_istore B od_Mo_pair_28 (by decide) rfl (L2 := [some (.ref (ad 0)), none, some (.int x2), some (.int x3), some (.int (0 : Int32)), none]) rfl ?_
        refine ox_aload_n B 0 od_Mo_pair_30 rfl rfl ?_
        refine omg_Mo_155 B F od_Mo_pair_31 ?_
        refine ox_bipush B od_Mo_pair_34 oxk_b10 ?_
        refine ox_icmp_ne B 43 od_Mo_pair_36 rfl (fun hc => ?_) (fun hc => ?_)
        · rw [if_neg hc] at h
          refine ox_aload_n B 0 od_Mo_pair_43 rfl rfl ?_
          refine omg_Mo_139 B F od_Mo_pair_44 ?_
          refine ox_iconst B od_Mo_pair_47 oxk_i1 ?_
          refine ox_isub B od_Mo_pair_48 ?_
          exact (t_49 x2 x3 (0 : Int32) ((σ.1 7) - (1 : Int32)) _ h hG)
        · rw [if_pos hc] at h
          refine ox_iload_n B 3 od_Mo_pair_39 rfl rfl ?_
          refine ox_goto B 49 od_Mo_pair_40 rfl ?_
          exact (t_49 x2 x3 (0 : Int32) x3 _ h hG)
      · rw [if_pos hc] at h
        refine ox_iload_n B 3 od_Mo_pair_21 rfl rfl ?_
        refine ox_iconst B od_Mo_pair_22 oxk_i1 ?_
        refine ox_iadd B od_Mo_pair_23 ?_
        refine ox_goto B 28 od_Mo_pair_24 rfl ?_
        obtain ⟨v3, ev3, h⟩ := ox_let_some h
        refine ox_topi ev3 ?_
        refine ox_istore B od_Mo_pair_28 (by decide) rfl (L2 := [some (.ref (ad 0)), none, some (.int x2), some (.int x3), some (.int v3), none]) rfl ?_
        refine ox_aload_n B 0 od_Mo_pair_30 rfl rfl ?_
        refine omg_Mo_155 B F od_Mo_pair_31 ?_
        refine ox_bipush B od_Mo_pair_34 oxk_b10 ?_
        refine ox_icmp_ne B 43 od_Mo_pair_36 rfl (fun hc => ?_) (fun hc => ?_)
        · rw [if_neg hc] at h
          refine ox_aload_n B 0 od_Mo_pair_43 rfl rfl ?_
          refine omg_Mo_139 B F od_Mo_pair_44 ?_
          refine ox_iconst B od_Mo_pair_47 oxk_i1 ?_
          refine ox_isub B od_Mo_pair_48 ?_
          exact (t_49 x2 x3 v3 ((σ.1 7) - (1 : Int32)) _ h hG)
        · rw [if_pos hc] at h
          refine ox_iload_n B 3 od_Mo_pair_39 rfl rfl ?_
          refine ox_goto B 49 od_Mo_pair_40 rfl ?_
          exact (t_49 x2 x3 v3 x3 _ h hG)
  have t_4 : ∀ (x2 : Int32) (x3 : Int32)  (t : Int32), om_Mo_pair_h4 x2 x3 σ = some t → (fun t : Int32 => res = some (.int t) ∧ σ = σ) t → ox_M p l e rm_om_Mo_pair s m args below meth c (om_W D ad cI cC cZ A) 6 res σ 4 [some (.ref (ad 0)), none, some (.int x2), some (.int x3), none, none] [] σ := by
    intro x2 x3  t h hG
    exact ox_w_run (fun t : (Int32 × Int32) => ox_M p l e rm_om_Mo_pair s m args below meth c (om_W D ad cI cC cZ A) 6 res σ 4 [some (.ref (ad 0)), none, some (.int t.1), some (.int t.2), none, none] [] σ) (fun t : Int32 => res = some (.int t) ∧ σ = σ) (fun a t h hG => t_b4 a.1 a.2  t h hG) (x2, x3) t h hG
  change ox_M p l e rm_om_Mo_pair s m args below meth c (om_W D ad cI cC cZ A) 6 res σ 0 [some (.ref (ad 0)), some (.int x1), none, none, none, none] [] σ
  unfold om_Mo_pair at h
  refine ox_iload_n B 1 od_Mo_pair_0 rfl rfl ?_
  refine ox_istore_n B 2 od_Mo_pair_1 rfl (by decide) rfl (L2 := [some (.ref (ad 0)), some (.int x1), some (.int x1), none, none, none]) rfl ?_
  refine ox_iconst B od_Mo_pair_2 oxk_i0 ?_
  refine ox_istore_n B 3 od_Mo_pair_3 rfl (by decide) rfl (L2 := [some (.ref (ad 0)), some (.int x1), some (.int x1), some (.int (0 : Int32)), none, none]) rfl ?_
  exact (ox_mask [true, false, true, true, false, false] (t_4 x1 (0 : Int32) _ h hG))
abbrev rm_om_Mo_take : Room := { frames := 1, cells := 0, slots := 0, locals := 25 }
set_option maxRecDepth 100000 in
set_option maxHeartbeats 4000000 in
theorem ct_om_Mo_take {l : Launch} {D : va_G} {ad : Nat → Nat} {cI cC cZ : ClassId} {A : Nat → Prop} (hok : ox_ok (om_W D ad cI cC cZ A)) (x1 : Int32) (σ : ox_S) (t : (Int32 × ox_S)) (h : om_Mo_take x1 σ = some t) : Met l oy_Mo_take (Cond.code oy_Mo_take prog_11_method_16_code 6 (some .boolean) :: ox_ws) rm_om_Mo_take (ox_P (om_W D ad cI cC cZ A) [.ref (ad 0), .int x1] σ) (ox_Q (om_W D ad cI cC cZ A) (some (.int t.1)) t.2) 0 0 A := by
  refine ox_met (ω := om_W D ad cI cC cZ A) (by decide) rfl hok (Nat.le_of_ble_eq_true rfl) ?_
  intro p e s m args below meth c B F
  generalize hres : (some (.int t.1) : Option Value) = res
  generalize hσf : t.2 = σf
  have hG : (fun t : (Int32 × ox_S) => res = some (.int t.1) ∧ σf = t.2) t := ⟨hres.symm, hσf.symm⟩
  have t_99 : ∀ (x1 : Int32) (x3 : Int32) (x4 : Int32) (y0 : Int32) (σ : ox_S) (t : (Int32 × ox_S)), om_Mo_take_j99 x1 x3 x4 y0 σ = some t → (fun t : (Int32 × ox_S) => res = some (.int t.1) ∧ σf = t.2) t → ox_M p l e rm_om_Mo_take s m args below meth c (om_W D ad cI cC cZ A) 6 res σf 99 [some (.ref (ad 0)), some (.int x1), none, some (.int x3), some (.int x4), none] [.int y0] σ := by
    intro x1 x3 x4 y0 σ t h hG
    unfold om_Mo_take_j99 at h
    refine ox_istore B od_Mo_take_99 (by decide) rfl (L2 := [some (.ref (ad 0)), some (.int x1), none, some (.int x3), some (.int x4), some (.int y0)]) rfl ?_
    refine ox_aload_n B 0 od_Mo_take_101 rfl rfl ?_
    refine omg_Mo_32 B F od_Mo_take_102 ?_
    refine ox_bipush B od_Mo_take_105 oxk_b8 ?_
    refine ox_iload_n B 3 od_Mo_take_107 rfl rfl ?_
    refine ox_imul B od_Mo_take_108 ?_
    refine ox_iload B od_Mo_take_109 rfl ?_
    refine ox_iadd B od_Mo_take_111 ?_
    refine ox_iload_n B 1 od_Mo_take_112 rfl rfl ?_
    obtain ⟨j4, ej4, hj4, h⟩ := ox_ix_some2 h
    obtain ⟨s5, es5, h⟩ := ox_let_some h
    refine omas_7 B F od_Mo_take_113 hj4 ej4 es5 ?_
    refine ox_aload_n B 0 od_Mo_take_114 rfl rfl ?_
    refine omg_Mo_32 B F od_Mo_take_115 ?_
    refine ox_bipush B od_Mo_take_118 oxk_b8 ?_
    refine ox_iload B od_Mo_take_120 rfl ?_
    refine ox_imul B od_Mo_take_122 ?_
    refine ox_iload_n B 3 od_Mo_take_123 rfl rfl ?_
    refine ox_iadd B od_Mo_take_124 ?_
    refine ox_iload_n B 1 od_Mo_take_125 rfl rfl ?_
    obtain ⟨j6, ej6, hj6, h⟩ := ox_ix_some2 h
    obtain ⟨s7, es7, h⟩ := ox_let_some h
    refine omas_7 B F od_Mo_take_126 hj6 ej6 es7 ?_
    refine ox_aload_n B 0 od_Mo_take_127 rfl rfl ?_
    refine ox_dup B od_Mo_take_128 rfl ?_
    refine omg_Mo_162 B F od_Mo_take_129 ?_
    refine ox_iconst B od_Mo_take_132 oxk_i1 ?_
    refine ox_iadd B od_Mo_take_133 ?_
    obtain ⟨s8, es8, h⟩ := ox_let_some h
    refine omp_Mo_162 B F od_Mo_take_134 es8 ?_
    refine ox_iload B od_Mo_take_137 rfl ?_
    obtain ⟨hz, h⟩ := ox_z_some h
    cases h
    exact ox_iret B F od_Mo_take_139 rfl (ox_nz hz) hG
  have t_23 : ∀ (x1 : Int32) (y0 : Int32) (σ : ox_S) (t : (Int32 × ox_S)), om_Mo_take_j23 x1 y0 σ = some t → (fun t : (Int32 × ox_S) => res = some (.int t.1) ∧ σf = t.2) t → ox_M p l e rm_om_Mo_take s m args below meth c (om_W D ad cI cC cZ A) 6 res σf 23 [some (.ref (ad 0)), some (.int x1), none, none, none, none] [.int y0] σ := by
    intro x1 y0 σ t h hG
    unfold om_Mo_take_j23 at h
    refine ox_istore_n B 2 od_Mo_take_23 rfl (by decide) rfl (L2 := [some (.ref (ad 0)), some (.int x1), some (.int y0), none, none, none]) rfl ?_
    refine ox_iload_n B 2 od_Mo_take_24 rfl rfl ?_
    refine ox_if_lt B 32 od_Mo_take_25 rfl (fun hc => ?_) (fun hc => ?_)
    · rw [if_pos hc] at h
      refine ox_iconst B od_Mo_take_32 oxk_i0 ?_
      cases h
      exact ox_iret B F od_Mo_take_33 rfl (ox_nz (Or.inl rfl)) hG
    · rw [if_neg hc] at h
      refine ox_iload_n B 1 od_Mo_take_28 rfl rfl ?_
      refine ox_if_ge B 34 od_Mo_take_29 rfl (fun hc => ?_) (fun hc => ?_)
      · rw [if_pos hc] at h
        refine ox_iload_n B 2 od_Mo_take_34 rfl rfl ?_
        refine ox_bipush B od_Mo_take_35 oxk_b8 ?_
        refine ox_idiv B od_Mo_take_37 (by decide) ?_
        obtain ⟨v2, ev2, h⟩ := ox_let_some h
        refine ox_topi ev2 ?_
        refine ox_istore_n B 3 od_Mo_take_38 rfl (by decide) rfl (L2 := [some (.ref (ad 0)), some (.int x1), some (.int y0), some (.int v2), none, none]) rfl ?_
        refine ox_iload_n B 2 od_Mo_take_39 rfl rfl ?_
        refine ox_bipush B od_Mo_take_40 oxk_b8 ?_
        refine ox_irem B od_Mo_take_42 (by decide) ?_
        obtain ⟨v3, ev3, h⟩ := ox_let_some h
        refine ox_topi ev3 ?_
        refine ox_istore B od_Mo_take_43 (by decide) rfl (L2 := [some (.ref (ad 0)), some (.int x1), some (.int y0), some (.int v2), some (.int v3), none]) rfl ?_
        refine ox_iload_n B 3 od_Mo_take_45 rfl rfl ?_
        refine ox_iload B od_Mo_take_46 rfl ?_
        refine ox_icmp_ne B 63 od_Mo_take_48 rfl (fun hc => ?_) (fun hc => ?_)
        · rw [if_neg hc] at h
          refine ox_aload_n B 0 od_Mo_take_63 rfl rfl ?_
          refine omg_Mo_155 B F od_Mo_take_64 ?_
          refine ox_bipush B od_Mo_take_67 oxk_b8 ?_
          refine ox_icmp_ne B 94 od_Mo_take_69 rfl (fun hc => ?_) (fun hc => ?_)
          · rw [if_neg hc] at h
            refine ox_iconst B od_Mo_take_94 oxk_i1 ?_
            refine ox_goto B 99 od_Mo_take_95 rfl ?_
            exact (ox_mask [true, true, false, true, true, false] (t_99 x1 v2 v3 (1 : Int32) σ _ h hG))
          · rw [if_pos hc] at h
            refine ox_iload_n B 3 od_Mo_take_72 rfl rfl ?_
            refine ox_iload B od_Mo_take_73 rfl ?_
            refine ox_icmp_lt B 94 od_Mo_take_75 rfl (fun hc => ?_) (fun hc => ?_)
            · rw [if_pos hc] at h
              refine ox_iconst B od_Mo_take_94 oxk_i1 ?_
              refine ox_goto B 99 od_Mo_take_95 rfl ?_
              exact (ox_mask [true, true, false, true, true, false] (t_99 x1 v2 v3 (1 : Int32) σ _ h hG))
            · rw [if_neg hc] at h
              refine ox_iload_n B 1 od_Mo_take_78 rfl rfl ?_
              refine ox_aload_n B 0 od_Mo_take_79 rfl rfl ?_
              refine omg_Mo_32 B F od_Mo_take_80 ?_
              refine ox_bipush B od_Mo_take_83 oxk_b8 ?_
              refine ox_iload B od_Mo_take_85 rfl ?_
              refine ox_imul B od_Mo_take_87 ?_
              refine ox_iload_n B 3 od_Mo_take_88 rfl rfl ?_
              refine ox_iadd B od_Mo_take_89 ?_
              obtain ⟨j9, ej9, hj9, h⟩ := ox_ix_some2 h
              refine omal_7 B F od_Mo_take_90 hj9 ej9 ?_
              refine ox_icmp_ne B 98 od_Mo_take_91 rfl (fun hc => ?_) (fun hc => ?_)
              · rw [if_neg hc] at h
                refine ox_iconst B od_Mo_take_98 oxk_i0 ?_
                exact (ox_mask [true, true, false, true, true, false] (t_99 x1 v2 v3 (0 : Int32) σ _ h hG))
              · rw [if_pos hc] at h
                refine ox_iconst B od_Mo_take_94 oxk_i1 ?_
                refine ox_goto B 99 od_Mo_take_95 rfl ?_
                exact (ox_mask [true, true, false, true, true, false] (t_99 x1 v2 v3 (1 : Int32) σ _ h hG))
        · rw [if_pos hc] at h
          refine ox_iload_n B 1 od_Mo_take_51 rfl rfl ?_
          refine ox_if_ne B 59 od_Mo_take_52 rfl (fun hc => ?_) (fun hc => ?_)
          · rw [if_neg hc] at h
            refine ox_iconst B od_Mo_take_59 oxk_i0 ?_
            refine ox_goto B 99 od_Mo_take_60 rfl ?_
            exact (ox_mask [true, true, false, true, true, false] (t_99 x1 v2 v3 (0 : Int32) σ _ h hG))
          · rw [if_pos hc] at h
            refine ox_iconst B od_Mo_take_55 oxk_i1 ?_
            refine ox_goto B 99 od_Mo_take_56 rfl ?_
            exact (ox_mask [true, true, false, true, true, false] (t_99 x1 v2 v3 (1 : Int32) σ _ h hG))
      · rw [if_neg hc] at h
        refine ox_iconst B od_Mo_take_32 oxk_i0 ?_
        cases h
        exact ox_iret B F od_Mo_take_33 rfl (ox_nz (Or.inl rfl)) hG
  change ox_M p l e rm_om_Mo_take s m args below meth c (om_W D ad cI cC cZ A) 6 res σf 0 [some (.ref (ad 0)), some (.int x1), none, none, none, none] [] σ
  unfold om_Mo_take at h
  refine ox_aload_n B 0 od_Mo_take_0 rfl rfl ?_
  refine omg_Mo_162 B F od_Mo_take_1 ?_
  refine ox_aload_n B 0 od_Mo_take_4 rfl rfl ?_
  obtain ⟨r1, hr1, h⟩ := ox_bind h
  refine omc_Mo_165 B F od_Mo_take_5 (As := []) (rest := [.int (σ.1 12)]) (st2 := [.int r1, .int (σ.1 12)]) (ct_om_Mo_due hok σ _ hr1) ⟨rfl, rfl, Nat.le_of_ble_eq_true rfl, Nat.le_of_ble_eq_true rfl⟩ rfl (Nat.le_of_ble_eq_true rfl) rfl rfl ?_
  refine ox_icmp_ge B 22 od_Mo_take_8 rfl (fun hc => ?_) (fun hc => ?_)
  · rw [if_pos hc] at h
    refine ox_iconst B od_Mo_take_22 oxk_im1 ?_
    exact (t_23 x1 (-1 : Int32) σ _ h hG)
  · rw [if_neg hc] at h
    refine ox_aload_n B 0 od_Mo_take_11 rfl rfl ?_
    refine ox_aload_n B 0 od_Mo_take_12 rfl rfl ?_
    refine omg_Mo_162 B F od_Mo_take_13 ?_
    obtain ⟨r10, hr10, h⟩ := ox_bind h
    refine omc_Mo_168 B F od_Mo_take_16 (As := [.int (σ.1 12)]) (rest := []) (st2 := [.int r10]) (ct_om_Mo_pair hok (σ.1 12) σ _ hr10) ⟨rfl, rfl, Nat.le_of_ble_eq_true rfl, Nat.le_of_ble_eq_true rfl⟩ rfl (Nat.le_of_ble_eq_true rfl) rfl rfl ?_
    refine ox_goto B 23 od_Mo_take_19 rfl ?_
    exact (t_23 x1 r10 σ _ h hG)
