abbrev rm_oc_Round_measure : Room := { frames := 1, cells := 0, slots := 0, locals := 22 }
set_option maxRecDepth 100000 in
set_option maxHeartbeats 4000000 in
theorem ct_oc_Round_measure {l : Launch} {D : va_G} {ad : Nat → Nat} {cI cC : ClassId} {A : Nat → Prop} {adK adV : Nat → Nat} (hok : ox_ok (oc_W D ad cI cC A adK adV))  (σ : ox_S) (t : Int32) (h : oc_Round_measure  σ = some t) : Met l oy_Round_measure (Cond.code oy_Round_measure prog_7_method_9_code 4 (some .int) :: ox_ws) rm_oc_Round_measure (ox_P (oc_W D ad cI cC A adK adV) [.ref (ad 7)] σ) (ox_Q (oc_W D ad cI cC A adK adV) (some (.int t)) σ) 0 0 A := by
  refine ox_met (ω := oc_W D ad cI cC A adK adV) (by decide) rfl hok (Nat.le_of_ble_eq_true rfl) ?_
  intro p e s m args below meth c B F
  generalize hres : (some (.int t) : Option Value) = res
  have hG : (fun t : Int32 => res = some (.int t) ∧ σ = σ) t := ⟨hres.symm, rfl⟩
  have t_45 : ∀ (x1 : Int32) (x2 : Int32) (y0 : Int32)  (t : ((Int32 × Int32) ⊕ Int32)), oc_Round_measure_j45 x1 x2 y0 σ = some t → (ox_G (fun t : (Int32 × Int32) => ox_M p l e rm_oc_Round_measure s m args below meth c (oc_W D ad cI cC A adK adV) 4 res σ 4 [some (.ref (ad 7)), some (.int t.1), some (.int t.2), none] [] σ) (fun t : Int32 => res = some (.int t) ∧ σ = σ)) t → ox_M p l e rm_oc_Round_measure s m args below meth c (oc_W D ad cI cC A adK adV) 4 res σ 45 [some (.ref (ad 7)), some (.int x1), some (.int x2), none] [.int y0] σ := by
    intro x1 x2 y0  t h hG
    unfold oc_Round_measure_j45 at h
    refine ox_istore_n B 3 od_Round_measure_45 rfl (by decide) rfl (L2 := [some (.ref (ad 7)), some (.int x1), some (.int x2), some (.int y0)]) rfl ?_
    refine ox_iload_n B 1 od_Round_measure_46 rfl rfl ?_
    refine ox_aload_n B 0 od_Round_measure_47 rfl rfl ?_
    refine ocg_Round_19 B F od_Round_measure_48 ?_
    refine ox_aload_n B 0 od_Round_measure_51 rfl rfl ?_
    refine ocg_Round_9 B F od_Round_measure_52 ?_
    refine ox_iload_n B 2 od_Round_measure_55 rfl rfl ?_
    obtain ⟨j2, ej2, hj2, h⟩ := ox_ix_some2 h
    refine ocal_16 B F od_Round_measure_56 hj2 ej2 ?_
    refine ox_iload_n B 3 od_Round_measure_57 rfl rfl ?_
    obtain ⟨r3, hr3, h⟩ := ox_bind h
    refine occ_Round_36 B F od_Round_measure_58 (As := [.int (σ.2 16 j2), .int y0]) (rest := [.int x1]) (st2 := [.int r3, .int x1]) (ct_oc_Land_between hok (σ.2 16 j2) y0 σ _ hr3) ⟨rfl, rfl, Nat.le_of_ble_eq_true rfl, Nat.le_of_ble_eq_true rfl⟩ rfl (Nat.le_of_ble_eq_true rfl) rfl rfl ?_
    refine ox_iadd B od_Round_measure_61 ?_
    obtain ⟨v4, ev4, h⟩ := ox_let_some h
    refine ox_topi ev4 ?_
    refine ox_istore_n B 1 od_Round_measure_62 rfl (by decide) rfl (L2 := [some (.ref (ad 7)), some (.int v4), some (.int x2), some (.int y0)]) rfl ?_
    obtain ⟨v5, ev5, h⟩ := ox_let_some h
    refine ox_iinc B od_Round_measure_63 rfl ((congrArg (x2 + ·) oxk_i1).trans ev5.symm) (by decide) rfl (L2 := [some (.ref (ad 7)), some (.int v4), some (.int v5), some (.int y0)]) rfl ?_
    refine ox_goto B 4 od_Round_measure_66 rfl ?_
    cases h
    exact (ox_mask [true, true, true, false] hG)
  have t_b4 : ∀ (x1 : Int32) (x2 : Int32)  (t : ((Int32 × Int32) ⊕ Int32)), oc_Round_measure_b4 x1 x2 σ = some t → (ox_G (fun t : (Int32 × Int32) => ox_M p l e rm_oc_Round_measure s m args below meth c (oc_W D ad cI cC A adK adV) 4 res σ 4 [some (.ref (ad 7)), some (.int t.1), some (.int t.2), none] [] σ) (fun t : Int32 => res = some (.int t) ∧ σ = σ)) t → ox_M p l e rm_oc_Round_measure s m args below meth c (oc_W D ad cI cC A adK adV) 4 res σ 4 [some (.ref (ad 7)), some (.int x1), some (.int x2), none] [] σ := by
    intro x1 x2  t h hG
    unfold oc_Round_measure_b4 at h
    refine ox_iload_n B 2 od_Round_measure_4 rfl rfl ?_
    refine ox_aload_n B 0 od_Round_measure_5 rfl rfl ?_
    refine ocg_Round_19 B F od_Round_measure_6 ?_
    refine ocg_Round_23 B F od_Round_measure_9 ?_
    refine ox_icmp_ge B 69 od_Round_measure_12 rfl (fun hc => ?_) (fun hc => ?_)
    · rw [if_pos hc] at h
      refine ox_iload_n B 1 od_Round_measure_69 rfl rfl ?_
      cases h
      exact ox_iret B F od_Round_measure_70 rfl rfl hG
    · rw [if_neg hc] at h
      refine ox_iload_n B 2 od_Round_measure_15 rfl rfl ?_
      refine ox_iconst B od_Round_measure_16 oxk_i1 ?_
      refine ox_iadd B od_Round_measure_17 ?_
      refine ox_aload_n B 0 od_Round_measure_18 rfl rfl ?_
      refine ocg_Round_19 B F od_Round_measure_19 ?_
      refine ocg_Round_23 B F od_Round_measure_22 ?_
      refine ox_icmp_ge B 39 od_Round_measure_25 rfl (fun hc => ?_) (fun hc => ?_)
      · rw [if_pos hc] at h
        refine ox_aload_n B 0 od_Round_measure_39 rfl rfl ?_
        refine ocg_Round_9 B F od_Round_measure_40 ?_
        refine ox_iconst B od_Round_measure_43 oxk_i0 ?_
        obtain ⟨j1, ej1, hj1, h⟩ := ox_ix_some2 h
        refine ocal_16 B F od_Round_measure_44 hj1 ej1 ?_
        exact (t_45 x1 x2 (σ.2 16 j1) _ h hG)
      · rw [if_neg hc] at h
        refine ox_aload_n B 0 od_Round_measure_28 rfl rfl ?_
        refine ocg_Round_9 B F od_Round_measure_29 ?_
        refine ox_iload_n B 2 od_Round_measure_32 rfl rfl ?_
        refine ox_iconst B od_Round_measure_33 oxk_i1 ?_
        refine ox_iadd B od_Round_measure_34 ?_
        obtain ⟨j6, ej6, hj6, h⟩ := ox_ix_some2 h
        refine ocal_16 B F od_Round_measure_35 hj6 ej6 ?_
        refine ox_goto B 45 od_Round_measure_36 rfl ?_
        exact (t_45 x1 x2 (σ.2 16 j6) _ h hG)
  have t_4 : ∀ (x1 : Int32) (x2 : Int32)  (t : Int32), oc_Round_measure_h4 x1 x2 σ = some t → (fun t : Int32 => res = some (.int t) ∧ σ = σ) t → ox_M p l e rm_oc_Round_measure s m args below meth c (oc_W D ad cI cC A adK adV) 4 res σ 4 [some (.ref (ad 7)), some (.int x1), some (.int x2), none] [] σ := by
    intro x1 x2  t h hG
    exact ox_w_run (fun t : (Int32 × Int32) => ox_M p l e rm_oc_Round_measure s m args below meth c (oc_W D ad cI cC A adK adV) 4 res σ 4 [some (.ref (ad 7)), some (.int t.1), some (.int t.2), none] [] σ) (fun t : Int32 => res = some (.int t) ∧ σ = σ) (fun a t h hG => t_b4 a.1 a.2  t h hG) (x1, x2) t h hG
  change ox_M p l e rm_oc_Round_measure s m args below meth c (oc_W D ad cI cC A adK adV) 4 res σ 0 [some (.ref (ad 7)), none, none, none] [] σ
  unfold oc_Round_measure at h
  refine ox_iconst B od_Round_measure_0 oxk_i0 ?_
  refine ox_istore_n B 1 od_Round_measure_1 rfl (by decide) rfl (L2 := [some (.ref (ad 7)), some (.int (0 : Int32)), none, none]) rfl ?_
  refine ox_iconst B od_Round_measure_2 oxk_i0 ?_
  refine ox_istore_n B 2 od_Round_measure_3 rfl (by decide) rfl (L2 := [some (.ref (ad 7)), some (.int (0 : Int32)), some (.int (0 : Int32)), none]) rfl ?_
  exact (t_4 (0 : Int32) (0 : Int32) _ h hG)
abbrev rm_oc_T_improve : Room := { frames := 4, cells := 0, slots := 0, locals := 92 }
set_option maxRecDepth 100000 in
set_option maxHeartbeats 4000000 in
theorem ct_oc_T_improve {l : Launch} {D : va_G} {ad : Nat → Nat} {cI cC : ClassId} {A : Nat → Prop} {adK adV : Nat → Nat} (hok : ox_ok (oc_W D ad cI cC A adK adV))  (σ : ox_S) (t : (Int32 × ox_S)) (h : oc_T_improve  σ = some t) : Met l oy_T_improve (Cond.code oy_T_improve prog_1_method_15_code 1 (some .int) :: ox_ws) rm_oc_T_improve (ox_P (oc_W D ad cI cC A adK adV) [.ref (ad 0)] σ) (ox_Q (oc_W D ad cI cC A adK adV) (some (.int t.1)) t.2) 0 0 A := by
  refine ox_met (ω := oc_W D ad cI cC A adK adV) (by decide) rfl hok (Nat.le_of_ble_eq_true rfl) ?_
  intro p e s m args below meth c B F
  generalize hres : (some (.int t.1) : Option Value) = res
  generalize hσf : t.2 = σf
  have hG : (fun t : (Int32 × ox_S) => res = some (.int t.1) ∧ σf = t.2) t := ⟨hres.symm, hσf.symm⟩
  change ox_M p l e rm_oc_T_improve s m args below meth c (oc_W D ad cI cC A adK adV) 1 res σf 0 [some (.ref (ad 0))] [] σ
  unfold oc_T_improve at h
  refine ox_aload_n B 0 od_T_improve_0 rfl rfl ?_
  refine ocg_T_28 B F od_T_improve_1 ?_
  refine ocg_T_95 B F od_T_improve_4 ?_
  refine ox_if_ne B 13 od_T_improve_7 rfl (fun hc => ?_) (fun hc => ?_)
  · rw [if_neg hc] at h
    refine ox_aload_n B 0 od_T_improve_13 rfl rfl ?_
    refine ocg_T_51 B F od_T_improve_14 ?_
    obtain ⟨s1, hs1, h⟩ := ox_bind h
    refine occ_T_158 B F od_T_improve_17 (As := []) (rest := []) (st2 := []) (ct_oc_Round_goToNearest hok σ _ hs1) ⟨rfl, rfl, Nat.le_of_ble_eq_true rfl, Nat.le_of_ble_eq_true rfl⟩ rfl (Nat.le_of_ble_eq_true rfl) rfl rfl ?_
    refine ox_aload_n B 0 od_T_improve_20 rfl rfl ?_
    refine ocg_T_51 B F od_T_improve_21 ?_
    obtain ⟨s2, hs2, h⟩ := ox_bind h
    refine occ_T_161 B F od_T_improve_24 (As := []) (rest := []) (st2 := []) (ct_oc_Round_shorten hok s1 _ hs2) ⟨rfl, rfl, Nat.le_of_ble_eq_true rfl, Nat.le_of_ble_eq_true rfl⟩ rfl (Nat.le_of_ble_eq_true rfl) rfl rfl ?_
    refine ox_aload_n B 0 od_T_improve_27 rfl rfl ?_
    refine ocg_T_51 B F od_T_improve_28 ?_
    obtain ⟨s3, hs3, h⟩ := ox_bind h
    refine occ_T_164 B F od_T_improve_31 (As := []) (rest := []) (st2 := []) (ct_oc_Round_turnToOrder hok s2 _ hs3) ⟨rfl, rfl, Nat.le_of_ble_eq_true rfl, Nat.le_of_ble_eq_true rfl⟩ rfl (Nat.le_of_ble_eq_true rfl) rfl rfl ?_
    refine ox_aload_n B 0 od_T_improve_34 rfl rfl ?_
    refine ocg_T_51 B F od_T_improve_35 ?_
    obtain ⟨r4, hr4, h⟩ := ox_bind h
    refine occ_T_167 B F od_T_improve_38 (As := []) (rest := []) (st2 := [.int r4]) (ct_oc_Round_measure hok s3 _ hr4) ⟨rfl, rfl, Nat.le_of_ble_eq_true rfl, Nat.le_of_ble_eq_true rfl⟩ rfl (Nat.le_of_ble_eq_true rfl) rfl rfl ?_
    cases h
    exact ox_iret B F od_T_improve_41 rfl rfl hG
  · rw [if_pos hc] at h
    refine ox_ldc B od_T_improve_10 ock_T_144 ?_
    cases h
    exact ox_iret B F od_T_improve_12 rfl rfl hG
abbrev rm_oc_T_tour : Room := { frames := 1, cells := 0, slots := 0, locals := 21 }
set_option maxRecDepth 100000 in
set_option maxHeartbeats 4000000 in
theorem ct_oc_T_tour {l : Launch} {D : va_G} {ad : Nat → Nat} {cI cC : ClassId} {A : Nat → Prop} {adK adV : Nat → Nat} (hok : ox_ok (oc_W D ad cI cC A adK adV)) (x1 : Int32) (σ : ox_S) (t : Int32) (h : oc_T_tour x1 σ = some t) : Met l oy_T_tour (Cond.code oy_T_tour prog_1_method_16_code 2 (some .int) :: ox_ws) rm_oc_T_tour (ox_P (oc_W D ad cI cC A adK adV) [.ref (ad 0), .int x1] σ) (ox_Q (oc_W D ad cI cC A adK adV) (some (.int t)) σ) 0 0 A := by
  refine ox_met (ω := oc_W D ad cI cC A adK adV) (by decide) rfl hok (Nat.le_of_ble_eq_true rfl) ?_
  intro p e s m args below meth c B F
  generalize hres : (some (.int t) : Option Value) = res
  have hG : (fun t : Int32 => res = some (.int t) ∧ σ = σ) t := ⟨hres.symm, rfl⟩
  change ox_M p l e rm_oc_T_tour s m args below meth c (oc_W D ad cI cC A adK adV) 2 res σ 0 [some (.ref (ad 0)), some (.int x1)] [] σ
  unfold oc_T_tour at h
  refine ox_aload_n B 0 od_T_tour_0 rfl rfl ?_
  refine ocg_T_51 B F od_T_tour_1 ?_
  refine ocg_T_88 B F od_T_tour_4 ?_
  refine ox_if_eq B 33 od_T_tour_7 rfl (fun hc => ?_) (fun hc => ?_)
  · rw [if_pos hc] at h
    refine ox_iconst B od_T_tour_33 oxk_im1 ?_
    cases h
    exact ox_iret B F od_T_tour_34 rfl rfl hG
  · rw [if_neg hc] at h
    refine ox_aload_n B 0 od_T_tour_10 rfl rfl ?_
    refine ocg_T_28 B F od_T_tour_11 ?_
    refine ox_iload_n B 1 od_T_tour_14 rfl rfl ?_
    obtain ⟨r1, hr1, h⟩ := ox_bind h
    refine occ_T_98 B F od_T_tour_15 (As := [.int x1]) (rest := []) (st2 := [.int r1]) (ct_oc_Land_isCity hok x1 σ _ hr1) ⟨rfl, rfl, Nat.le_of_ble_eq_true rfl, Nat.le_of_ble_eq_true rfl⟩ rfl (Nat.le_of_ble_eq_true rfl) rfl rfl ?_
    refine ox_if_eq B 33 od_T_tour_18 rfl (fun hc => ?_) (fun hc => ?_)
    · rw [if_pos hc] at h
      refine ox_iconst B od_T_tour_33 oxk_im1 ?_
      cases h
      exact ox_iret B F od_T_tour_34 rfl rfl hG
    · rw [if_neg hc] at h
      refine ox_aload_n B 0 od_T_tour_21 rfl rfl ?_
      refine ocg_T_51 B F od_T_tour_22 ?_
      refine ocg_T_170 B F od_T_tour_25 ?_
      refine ox_iload_n B 1 od_T_tour_28 rfl rfl ?_
      obtain ⟨j2, ej2, hj2, h⟩ := ox_ix_some2 h
      refine ocal_16 B F od_T_tour_29 hj2 ej2 ?_
      refine ox_goto B 34 od_T_tour_30 rfl ?_
      cases h
      exact ox_iret B F od_T_tour_34 rfl rfl hG
abbrev rm_oc_Land_areEdges : Room := { frames := 0, cells := 0, slots := 0, locals := 0 }
set_option maxRecDepth 100000 in
set_option maxHeartbeats 4000000 in
theorem ct_oc_Land_areEdges {l : Launch} {D : va_G} {ad : Nat → Nat} {cI cC : ClassId} {A : Nat → Prop} {adK adV : Nat → Nat} (hok : ox_ok (oc_W D ad cI cC A adK adV)) (x1 : Int32) (σ : ox_S) (t : Int32) (h : oc_Land_areEdges x1 σ = some t) : Met l oy_Land_areEdges (Cond.code oy_Land_areEdges prog_3_method_5_code 2 (some .boolean) :: ox_ws) rm_oc_Land_areEdges (ox_P (oc_W D ad cI cC A adK adV) [.ref (ad 4), .int x1] σ) (ox_Q (oc_W D ad cI cC A adK adV) (some (.int t)) σ) 0 0 A := by
  refine ox_met (ω := oc_W D ad cI cC A adK adV) (by decide) rfl hok (Nat.le_of_ble_eq_true rfl) ?_
  intro p e s m args below meth c B F
  generalize hres : (some (.int t) : Option Value) = res
  have hG : (fun t : Int32 => res = some (.int t) ∧ σ = σ) t := ⟨hres.symm, rfl⟩
  change ox_M p l e rm_oc_Land_areEdges s m args below meth c (oc_W D ad cI cC A adK adV) 2 res σ 0 [some (.ref (ad 4)), some (.int x1)] [] σ
  unfold oc_Land_areEdges at h
  refine ox_iload_n B 1 od_Land_areEdges_0 rfl rfl ?_
  refine ox_aload_n B 0 od_Land_areEdges_1 rfl rfl ?_
  refine ocg_Land_31 B F od_Land_areEdges_2 ?_
  refine ox_iushr B od_Land_areEdges_5 ?_
  refine ox_if_ne B 13 od_Land_areEdges_6 rfl (fun hc => ?_) (fun hc => ?_)
  · rw [if_neg hc] at h
    refine ox_iconst B od_Land_areEdges_13 oxk_i0 ?_
    cases h
    exact ox_iret B F od_Land_areEdges_14 rfl (ox_nz (Or.inl rfl)) hG
  · rw [if_pos hc] at h
    refine ox_iconst B od_Land_areEdges_9 oxk_i1 ?_
    refine ox_goto B 14 od_Land_areEdges_10 rfl ?_
    cases h
    exact ox_iret B F od_Land_areEdges_14 rfl (ox_nz (Or.inr rfl)) hG
abbrev rm_oc_Cases_append : Room := { frames := 0, cells := 0, slots := 0, locals := 0 }
set_option maxRecDepth 100000 in
set_option maxHeartbeats 4000000 in
theorem ct_oc_Cases_append {l : Launch} {D : va_G} {ad : Nat → Nat} {cI cC : ClassId} {A : Nat → Prop} {adK adV : Nat → Nat} (hok : ox_ok (oc_W D ad cI cC A adK adV)) (x1 : Int32) (x2 : Int32) (σ : ox_S) (t : (Int32 × ox_S)) (h : oc_Cases_append x1 x2 σ = some t) : Met l oy_Cases_append (Cond.code oy_Cases_append prog_2_method_2_code 3 (some .boolean) :: ox_ws) rm_oc_Cases_append (ox_P (oc_W D ad cI cC A adK adV) [.ref (ad 8), .int x1, .int x2] σ) (ox_Q (oc_W D ad cI cC A adK adV) (some (.int t.1)) t.2) 0 0 A := by
  refine ox_met (ω := oc_W D ad cI cC A adK adV) (by decide) rfl hok (Nat.le_of_ble_eq_true rfl) ?_
  intro p e s m args below meth c B F
  generalize hres : (some (.int t.1) : Option Value) = res
  generalize hσf : t.2 = σf
  have hG : (fun t : (Int32 × ox_S) => res = some (.int t.1) ∧ σf = t.2) t := ⟨hres.symm, hσf.symm⟩
  change ox_M p l e rm_oc_Cases_append s m args below meth c (oc_W D ad cI cC A adK adV) 3 res σf 0 [some (.ref (ad 8)), some (.int x1), some (.int x2)] [] σ
  unfold oc_Cases_append at h
  refine ox_aload_n B 0 od_Cases_append_0 rfl rfl ?_
  refine ocg_Cases_18 B F od_Cases_append_1 ?_
  refine ox_bipush B od_Cases_append_4 oxk_b10 ?_
  refine ox_icmp_lt B 11 od_Cases_append_6 rfl (fun hc => ?_) (fun hc => ?_)
  · rw [if_pos hc] at h
    refine ox_aload_n B 0 od_Cases_append_11 rfl rfl ?_
    refine ocg_Cases_9 B F od_Cases_append_12 ?_
    refine ox_aload_n B 0 od_Cases_append_15 rfl rfl ?_
    refine ocg_Cases_18 B F od_Cases_append_16 ?_
    refine ox_iload_n B 1 od_Cases_append_19 rfl rfl ?_
    obtain ⟨j1, ej1, hj1, h⟩ := ox_ix_some2 h
    obtain ⟨s2, es2, h⟩ := ox_let_some h
    refine ocas_17 B F od_Cases_append_20 hj1 ej1 es2 ?_
    refine ox_aload_n B 0 od_Cases_append_21 rfl rfl ?_
    refine ocg_Cases_15 B F od_Cases_append_22 ?_
    refine ox_aload_n B 0 od_Cases_append_25 rfl rfl ?_
    refine ocg_Cases_18 B F od_Cases_append_26 ?_
    refine ox_iload_n B 2 od_Cases_append_29 rfl rfl ?_
    obtain ⟨j3, ej3, hj3, h⟩ := ox_ix_some2 h
    obtain ⟨s4, es4, h⟩ := ox_let_some h
    refine ocas_18 B F od_Cases_append_30 hj3 ej3 es4 ?_
    refine ox_aload_n B 0 od_Cases_append_31 rfl rfl ?_
    refine ox_dup B od_Cases_append_32 rfl ?_
    refine ocg_Cases_18 B F od_Cases_append_33 ?_
    refine ox_iconst B od_Cases_append_36 oxk_i1 ?_
    refine ox_iadd B od_Cases_append_37 ?_
    obtain ⟨s5, es5, h⟩ := ox_let_some h
    refine ocp_Cases_18 B F od_Cases_append_38 es5 ?_
    refine ox_iconst B od_Cases_append_41 oxk_i1 ?_
    cases h
    exact ox_iret B F od_Cases_append_42 rfl (ox_nz (Or.inr rfl)) hG
  · rw [if_neg hc] at h
    refine ox_iconst B od_Cases_append_9 oxk_i0 ?_
    cases h
    exact ox_iret B F od_Cases_append_10 rfl (ox_nz (Or.inl rfl)) hG
abbrev rm_oc_T_add : Room := { frames := 1, cells := 0, slots := 0, locals := 22 }
set_option maxRecDepth 100000 in
set_option maxHeartbeats 4000000 in
theorem ct_oc_T_add {l : Launch} {D : va_G} {ad : Nat → Nat} {cI cC : ClassId} {A : Nat → Prop} {adK adV : Nat → Nat} (hok : ox_ok (oc_W D ad cI cC A adK adV)) (x1 : Int32) (x2 : Int32) (σ : ox_S) (t : (Int32 × ox_S)) (h : oc_T_add x1 x2 σ = some t) : Met l oy_T_add (Cond.code oy_T_add prog_1_method_17_code 3 (some .int) :: ox_ws) rm_oc_T_add (ox_P (oc_W D ad cI cC A adK adV) [.ref (ad 0), .int x1, .int x2] σ) (ox_Q (oc_W D ad cI cC A adK adV) (some (.int t.1)) t.2) 0 0 A := by
  refine ox_met (ω := oc_W D ad cI cC A adK adV) (by decide) rfl hok (Nat.le_of_ble_eq_true rfl) ?_
  intro p e s m args below meth c B F
  generalize hres : (some (.int t.1) : Option Value) = res
  generalize hσf : t.2 = σf
  have hG : (fun t : (Int32 × ox_S) => res = some (.int t.1) ∧ σf = t.2) t := ⟨hres.symm, hσf.symm⟩
  change ox_M p l e rm_oc_T_add s m args below meth c (oc_W D ad cI cC A adK adV) 3 res σf 0 [some (.ref (ad 0)), some (.int x1), some (.int x2)] [] σ
  unfold oc_T_add at h
  refine ox_aload_n B 0 od_T_add_0 rfl rfl ?_
  refine ocg_T_28 B F od_T_add_1 ?_
  refine ocg_T_95 B F od_T_add_4 ?_
  refine ox_if_eq B 29 od_T_add_7 rfl (fun hc => ?_) (fun hc => ?_)
  · rw [if_pos hc] at h
    refine ox_iconst B od_T_add_29 oxk_im1 ?_
    cases h
    exact ox_iret B F od_T_add_30 rfl rfl hG
  · rw [if_neg hc] at h
    refine ox_aload_n B 0 od_T_add_10 rfl rfl ?_
    refine ocg_T_28 B F od_T_add_11 ?_
    refine ox_iload_n B 1 od_T_add_14 rfl rfl ?_
    refine ox_iload_n B 2 od_T_add_15 rfl rfl ?_
    refine ox_ior B od_T_add_16 ?_
    obtain ⟨r1, hr1, h⟩ := ox_bind h
    refine occ_T_173 B F od_T_add_17 (As := [.int (x1 ||| x2)]) (rest := []) (st2 := [.int r1]) (ct_oc_Land_areEdges hok (x1 ||| x2) σ _ hr1) ⟨rfl, rfl, Nat.le_of_ble_eq_true rfl, Nat.le_of_ble_eq_true rfl⟩ rfl (Nat.le_of_ble_eq_true rfl) rfl rfl ?_
    refine ox_if_eq B 29 od_T_add_20 rfl (fun hc => ?_) (fun hc => ?_)
    · rw [if_pos hc] at h
      refine ox_iconst B od_T_add_29 oxk_im1 ?_
      cases h
      exact ox_iret B F od_T_add_30 rfl rfl hG
    · rw [if_neg hc] at h
      refine ox_iload_n B 1 od_T_add_23 rfl rfl ?_
      refine ox_iload_n B 2 od_T_add_24 rfl rfl ?_
      refine ox_iand B od_T_add_25 ?_
      refine ox_if_eq B 31 od_T_add_26 rfl (fun hc => ?_) (fun hc => ?_)
      · rw [if_pos hc] at h
        refine ox_aload_n B 0 od_T_add_31 rfl rfl ?_
        refine ocg_T_58 B F od_T_add_32 ?_
        refine ox_iload_n B 1 od_T_add_35 rfl rfl ?_
        refine ox_iload_n B 2 od_T_add_36 rfl rfl ?_
        obtain ⟨r2, s3, hr2, h⟩ := ox_b2_some h
        refine occ_T_176 B F od_T_add_37 (As := [.int x1, .int x2]) (rest := []) (st2 := [.int r2]) (ct_oc_Cases_append hok x1 x2 σ _ hr2) ⟨rfl, rfl, Nat.le_of_ble_eq_true rfl, Nat.le_of_ble_eq_true rfl⟩ rfl (Nat.le_of_ble_eq_true rfl) rfl rfl ?_
        refine ox_if_eq B 53 od_T_add_40 rfl (fun hc => ?_) (fun hc => ?_)
        · rw [if_pos hc] at h
          refine ox_ldc B od_T_add_53 ock_T_144 ?_
          cases h
          exact ox_iret B F od_T_add_55 rfl rfl hG
        · rw [if_neg hc] at h
          refine ox_aload_n B 0 od_T_add_43 rfl rfl ?_
          refine ocg_T_58 B F od_T_add_44 ?_
          refine ocg_T_92 B F od_T_add_47 ?_
          refine ox_goto B 55 od_T_add_50 rfl ?_
          cases h
          exact ox_iret B F od_T_add_55 rfl rfl hG
      · rw [if_neg hc] at h
        refine ox_iconst B od_T_add_29 oxk_im1 ?_
        cases h
        exact ox_iret B F od_T_add_30 rfl rfl hG
abbrev rm_oc_T_drop : Room := { frames := 0, cells := 0, slots := 0, locals := 0 }
set_option maxRecDepth 100000 in
set_option maxHeartbeats 4000000 in
theorem ct_oc_T_drop {l : Launch} {D : va_G} {ad : Nat → Nat} {cI cC : ClassId} {A : Nat → Prop} {adK adV : Nat → Nat} (hok : ox_ok (oc_W D ad cI cC A adK adV))  (σ : ox_S) (t : ox_S) (h : oc_T_drop  σ = some t) : Met l oy_T_drop (Cond.code oy_T_drop prog_1_method_18_code 1 none :: ox_ws) rm_oc_T_drop (ox_P (oc_W D ad cI cC A adK adV) [.ref (ad 0)] σ) (ox_Q (oc_W D ad cI cC A adK adV) none t) 0 0 A := by
  refine ox_met (ω := oc_W D ad cI cC A adK adV) (by decide) rfl hok (Nat.le_of_ble_eq_true rfl) ?_
  intro p e s m args below meth c B F
  generalize hres : (none : Option Value) = res
  have hG : res = none ∧ t = t := ⟨hres.symm, rfl⟩
  obtain ⟨σf, hσf⟩ : ∃ z, z = t := ⟨_, rfl⟩
  have hG : (fun t : ox_S => res = none ∧ σf = t) t := ⟨hres.symm, hσf⟩
  rw [show ox_M p l e rm_oc_T_drop s m args below meth c (oc_W D ad cI cC A adK adV) 1 res t 0 (ox_l0 [.ref (ad 0)] 1) [] σ = ox_M p l e rm_oc_T_drop s m args below meth c (oc_W D ad cI cC A adK adV) 1 res σf 0 (ox_l0 [.ref (ad 0)] 1) [] σ by rw [hσf]]
  change ox_M p l e rm_oc_T_drop s m args below meth c (oc_W D ad cI cC A adK adV) 1 res σf 0 [some (.ref (ad 0))] [] σ
  unfold oc_T_drop at h
  refine ox_aload_n B 0 od_T_drop_0 rfl rfl ?_
  refine ocg_T_58 B F od_T_drop_1 ?_
  refine ox_iconst B od_T_drop_4 oxk_i0 ?_
  obtain ⟨s1, es1, h⟩ := ox_let_some h
  refine ocp_T_92 B F od_T_drop_5 es1 ?_
  cases h
  exact ox_vret B F od_T_drop_8 rfl hG
abbrev rm_oc_Cases_anyHolds : Room := { frames := 1, cells := 0, slots := 0, locals := 22 }
set_option maxRecDepth 100000 in
set_option maxHeartbeats 4000000 in
theorem ct_oc_Cases_anyHolds {l : Launch} {D : va_G} {ad : Nat → Nat} {cI cC : ClassId} {A : Nat → Prop} {adK adV : Nat → Nat} (hok : ox_ok (oc_W D ad cI cC A adK adV)) (x1 : Int32) (σ : ox_S) (t : Int32) (h : oc_Cases_anyHolds x1 σ = some t) : Met l oy_Cases_anyHolds (Cond.code oy_Cases_anyHolds prog_2_method_3_code 3 (some .boolean) :: ox_ws) rm_oc_Cases_anyHolds (ox_P (oc_W D ad cI cC A adK adV) [.ref (ad 8), .int x1] σ) (ox_Q (oc_W D ad cI cC A adK adV) (some (.int t)) σ) 0 0 A := by
  refine ox_met (ω := oc_W D ad cI cC A adK adV) (by decide) rfl hok (Nat.le_of_ble_eq_true rfl) ?_
  intro p e s m args below meth c B F
  generalize hres : (some (.int t) : Option Value) = res
  have hG : (fun t : Int32 => res = some (.int t) ∧ σ = σ) t := ⟨hres.symm, rfl⟩
  have t_b2 : ∀ (x1 : Int32) (x2 : Int32)  (t : (Int32 ⊕ Int32)), oc_Cases_anyHolds_b2 x1 x2 σ = some t → (ox_G (fun t : Int32 => ox_M p l e rm_oc_Cases_anyHolds s m args below meth c (oc_W D ad cI cC A adK adV) 3 res σ 2 [some (.ref (ad 8)), some (.int x1), some (.int t)] [] σ) (fun t : Int32 => res = some (.int t) ∧ σ = σ)) t → ox_M p l e rm_oc_Cases_anyHolds s m args below meth c (oc_W D ad cI cC A adK adV) 3 res σ 2 [some (.ref (ad 8)), some (.int x1), some (.int x2)] [] σ := by
    intro x1 x2  t h hG
    unfold oc_Cases_anyHolds_b2 at h
    refine ox_iload_n B 2 od_Cases_anyHolds_2 rfl rfl ?_
    refine ox_aload_n B 0 od_Cases_anyHolds_3 rfl rfl ?_
    refine ocg_Cases_18 B F od_Cases_anyHolds_4 ?_
    refine ox_icmp_ge B 37 od_Cases_anyHolds_7 rfl (fun hc => ?_) (fun hc => ?_)
    · rw [if_pos hc] at h
      refine ox_iconst B od_Cases_anyHolds_37 oxk_i0 ?_
      cases h
      exact ox_iret B F od_Cases_anyHolds_38 rfl (ox_nz (Or.inl rfl)) hG
    · rw [if_neg hc] at h
      refine ox_iload_n B 1 od_Cases_anyHolds_10 rfl rfl ?_
      refine ox_aload_n B 0 od_Cases_anyHolds_11 rfl rfl ?_
      refine ocg_Cases_9 B F od_Cases_anyHolds_12 ?_
      refine ox_iload_n B 2 od_Cases_anyHolds_15 rfl rfl ?_
      obtain ⟨j1, ej1, hj1, h⟩ := ox_ix_some2 h
      refine ocal_17 B F od_Cases_anyHolds_16 hj1 ej1 ?_
      refine ox_aload_n B 0 od_Cases_anyHolds_17 rfl rfl ?_
      refine ocg_Cases_15 B F od_Cases_anyHolds_18 ?_
      refine ox_iload_n B 2 od_Cases_anyHolds_21 rfl rfl ?_
      obtain ⟨j2, ej2, hj2, h⟩ := ox_ix_some2 h
      refine ocal_18 B F od_Cases_anyHolds_22 hj2 ej2 ?_
      obtain ⟨r3, hr3, h⟩ := ox_bind h
      refine occ_Cases_22 B F od_Cases_anyHolds_23 (As := [.int x1, .int (σ.2 17 j1), .int (σ.2 18 j2)]) (rest := []) (st2 := [.int r3]) (ct_oc_T_keepsTo hok x1 (σ.2 17 j1) (σ.2 18 j2) σ _ hr3) ⟨rfl, rfl, Nat.le_of_ble_eq_true rfl, Nat.le_of_ble_eq_true rfl⟩ rfl (Nat.le_of_ble_eq_true rfl) rfl rfl ?_
      refine ox_if_eq B 31 od_Cases_anyHolds_26 rfl (fun hc => ?_) (fun hc => ?_)
      · rw [if_pos hc] at h
        obtain ⟨v4, ev4, h⟩ := ox_let_some h
        refine ox_iinc B od_Cases_anyHolds_31 rfl ((congrArg (x2 + ·) oxk_i1).trans ev4.symm) (by decide) rfl (L2 := [some (.ref (ad 8)), some (.int x1), some (.int v4)]) rfl ?_
        refine ox_goto B 2 od_Cases_anyHolds_34 rfl ?_
        cases h
        exact hG
      · rw [if_neg hc] at h
        refine ox_iconst B od_Cases_anyHolds_29 oxk_i1 ?_
        cases h
        exact ox_iret B F od_Cases_anyHolds_30 rfl (ox_nz (Or.inr rfl)) hG
  have t_2 : ∀ (x1 : Int32) (x2 : Int32)  (t : Int32), oc_Cases_anyHolds_h2 x1 x2 σ = some t → (fun t : Int32 => res = some (.int t) ∧ σ = σ) t → ox_M p l e rm_oc_Cases_anyHolds s m args below meth c (oc_W D ad cI cC A adK adV) 3 res σ 2 [some (.ref (ad 8)), some (.int x1), some (.int x2)] [] σ := by
    intro x1 x2  t h hG
    exact ox_w_run (fun t : Int32 => ox_M p l e rm_oc_Cases_anyHolds s m args below meth c (oc_W D ad cI cC A adK adV) 3 res σ 2 [some (.ref (ad 8)), some (.int x1), some (.int t)] [] σ) (fun t : Int32 => res = some (.int t) ∧ σ = σ) (fun a t h hG => t_b2 x1 a  t h hG) x2 t h hG
  change ox_M p l e rm_oc_Cases_anyHolds s m args below meth c (oc_W D ad cI cC A adK adV) 3 res σ 0 [some (.ref (ad 8)), some (.int x1), none] [] σ
  unfold oc_Cases_anyHolds at h
  refine ox_iconst B od_Cases_anyHolds_0 oxk_i0 ?_
  refine ox_istore_n B 2 od_Cases_anyHolds_1 rfl (by decide) rfl (L2 := [some (.ref (ad 8)), some (.int x1), some (.int (0 : Int32))]) rfl ?_
  exact (t_2 x1 (0 : Int32) _ h hG)
abbrev rm_oc_T_covers : Room := { frames := 2, cells := 0, slots := 0, locals := 44 }
set_option maxRecDepth 100000 in
set_option maxHeartbeats 4000000 in
theorem ct_oc_T_covers {l : Launch} {D : va_G} {ad : Nat → Nat} {cI cC : ClassId} {A : Nat → Prop} {adK adV : Nat → Nat} (hok : ox_ok (oc_W D ad cI cC A adK adV))  (σ : ox_S) (t : Int32) (h : oc_T_covers  σ = some t) : Met l oy_T_covers (Cond.code oy_T_covers prog_1_method_19_code 2 (some .boolean) :: ox_ws) rm_oc_T_covers (ox_P (oc_W D ad cI cC A adK adV) [.ref (ad 0)] σ) (ox_Q (oc_W D ad cI cC A adK adV) (some (.int t)) σ) 0 0 A := by
  refine ox_met (ω := oc_W D ad cI cC A adK adV) (by decide) rfl hok (Nat.le_of_ble_eq_true rfl) ?_
  intro p e s m args below meth c B F
  generalize hres : (some (.int t) : Option Value) = res
  have hG : (fun t : Int32 => res = some (.int t) ∧ σ = σ) t := ⟨hres.symm, rfl⟩
  have t_b14 : ∀ (x1 : Int32)  (t : (Int32 ⊕ Int32)), oc_T_covers_b14 x1 σ = some t → (ox_G (fun t : Int32 => ox_M p l e rm_oc_T_covers s m args below meth c (oc_W D ad cI cC A adK adV) 2 res σ 14 [some (.ref (ad 0)), some (.int t)] [] σ) (fun t : Int32 => res = some (.int t) ∧ σ = σ)) t → ox_M p l e rm_oc_T_covers s m args below meth c (oc_W D ad cI cC A adK adV) 2 res σ 14 [some (.ref (ad 0)), some (.int x1)] [] σ := by
    intro x1  t h hG
    unfold oc_T_covers_b14 at h
    refine ox_iload_n B 1 od_T_covers_14 rfl rfl ?_
    refine ox_aload_n B 0 od_T_covers_15 rfl rfl ?_
    refine ocg_T_44 B F od_T_covers_16 ?_
    refine ocg_T_178 B F od_T_covers_19 ?_
    refine ox_icmp_ge B 63 od_T_covers_22 rfl (fun hc => ?_) (fun hc => ?_)
    · rw [if_pos hc] at h
      refine ox_iconst B od_T_covers_63 oxk_i1 ?_
      cases h
      exact ox_iret B F od_T_covers_64 rfl (ox_nz (Or.inr rfl)) hG
    · rw [if_neg hc] at h
      refine ox_aload_n B 0 od_T_covers_25 rfl rfl ?_
      refine ocg_T_44 B F od_T_covers_26 ?_
      refine ox_iload_n B 1 od_T_covers_29 rfl rfl ?_
      obtain ⟨r1, hr1, h⟩ := ox_bind h
      refine occ_T_179 B F od_T_covers_30 (As := [.int x1]) (rest := []) (st2 := [.int r1]) (ct_oc_TourList_isAllowed hok x1 σ _ hr1) ⟨rfl, rfl, Nat.le_of_ble_eq_true rfl, Nat.le_of_ble_eq_true rfl⟩ rfl (Nat.le_of_ble_eq_true rfl) rfl rfl ?_
      refine ox_if_eq B 57 od_T_covers_33 rfl (fun hc => ?_) (fun hc => ?_)
      · rw [if_pos hc] at h
        obtain ⟨v2, ev2, h⟩ := ox_let_some h
        refine ox_iinc B od_T_covers_57 rfl ((congrArg (x1 + ·) oxk_i1).trans ev2.symm) (by decide) rfl (L2 := [some (.ref (ad 0)), some (.int v2)]) rfl ?_
        refine ox_goto B 14 od_T_covers_60 rfl ?_
        cases h
        exact hG
      · rw [if_neg hc] at h
        refine ox_aload_n B 0 od_T_covers_36 rfl rfl ?_
        refine ocg_T_58 B F od_T_covers_37 ?_
        refine ox_aload_n B 0 od_T_covers_40 rfl rfl ?_
        refine ocg_T_44 B F od_T_covers_41 ?_
        refine ocg_T_145 B F od_T_covers_44 ?_
        refine ox_iload_n B 1 od_T_covers_47 rfl rfl ?_
        obtain ⟨j3, ej3, hj3, h⟩ := ox_ix_some2 h
        refine ocal_14 B F od_T_covers_48 hj3 ej3 ?_
        obtain ⟨r4, hr4, h⟩ := ox_bind h
        refine occ_T_182 B F od_T_covers_49 (As := [.int (σ.2 14 j3)]) (rest := []) (st2 := [.int r4]) (ct_oc_Cases_anyHolds hok (σ.2 14 j3) σ _ hr4) ⟨rfl, rfl, Nat.le_of_ble_eq_true rfl, Nat.le_of_ble_eq_true rfl⟩ rfl (Nat.le_of_ble_eq_true rfl) rfl rfl ?_
        refine ox_if_ne B 57 od_T_covers_52 rfl (fun hc => ?_) (fun hc => ?_)
        · rw [if_neg hc] at h
          obtain ⟨v5, ev5, h⟩ := ox_let_some h
          refine ox_iinc B od_T_covers_57 rfl ((congrArg (x1 + ·) oxk_i1).trans ev5.symm) (by decide) rfl (L2 := [some (.ref (ad 0)), some (.int v5)]) rfl ?_
          refine ox_goto B 14 od_T_covers_60 rfl ?_
          cases h
          exact hG
        · rw [if_pos hc] at h
          refine ox_iconst B od_T_covers_55 oxk_i0 ?_
          cases h
          exact ox_iret B F od_T_covers_56 rfl (ox_nz (Or.inl rfl)) hG
  have t_14 : ∀ (x1 : Int32)  (t : Int32), oc_T_covers_h14 x1 σ = some t → (fun t : Int32 => res = some (.int t) ∧ σ = σ) t → ox_M p l e rm_oc_T_covers s m args below meth c (oc_W D ad cI cC A adK adV) 2 res σ 14 [some (.ref (ad 0)), some (.int x1)] [] σ := by
    intro x1  t h hG
    exact ox_w_run (fun t : Int32 => ox_M p l e rm_oc_T_covers s m args below meth c (oc_W D ad cI cC A adK adV) 2 res σ 14 [some (.ref (ad 0)), some (.int t)] [] σ) (fun t : Int32 => res = some (.int t) ∧ σ = σ) (fun a t h hG => t_b14 a  t h hG) x1 t h hG
  change ox_M p l e rm_oc_T_covers s m args below meth c (oc_W D ad cI cC A adK adV) 2 res σ 0 [some (.ref (ad 0)), none] [] σ
  unfold oc_T_covers at h
  refine ox_aload_n B 0 od_T_covers_0 rfl rfl ?_
  refine ocg_T_28 B F od_T_covers_1 ?_
  refine ocg_T_95 B F od_T_covers_4 ?_
  refine ox_if_ne B 12 od_T_covers_7 rfl (fun hc => ?_) (fun hc => ?_)
  · rw [if_neg hc] at h
    refine ox_iconst B od_T_covers_12 oxk_i0 ?_
    refine ox_istore_n B 1 od_T_covers_13 rfl (by decide) rfl (L2 := [some (.ref (ad 0)), some (.int (0 : Int32))]) rfl ?_
    exact (t_14 (0 : Int32) _ h hG)
  · rw [if_pos hc] at h
    refine ox_iconst B od_T_covers_10 oxk_i0 ?_
    cases h
    exact ox_iret B F od_T_covers_11 rfl (ox_nz (Or.inl rfl)) hG
abbrev rm_oc_T_caseBound : Room := { frames := 5, cells := 0, slots := 0, locals := 116 }
set_option maxRecDepth 100000 in
set_option maxHeartbeats 4000000 in
theorem ct_oc_T_caseBound {l : Launch} {D : va_G} {ad : Nat → Nat} {cI cC : ClassId} {A : Nat → Prop} {adK adV : Nat → Nat} (hok : ox_ok (oc_W D ad cI cC A adK adV)) (x1 : Int32) (σ : ox_S) (t : (Int32 × ox_S)) (h : oc_T_caseBound x1 σ = some t) : Met l oy_T_caseBound (Cond.code oy_T_caseBound prog_1_method_20_code 2 (some .int) :: ox_ws) rm_oc_T_caseBound (ox_P (oc_W D ad cI cC A adK adV) [.ref (ad 0), .int x1] σ) (ox_Q (oc_W D ad cI cC A adK adV) (some (.int t.1)) t.2) 0 0 A := by
  refine ox_met (ω := oc_W D ad cI cC A adK adV) (by decide) rfl hok (Nat.le_of_ble_eq_true rfl) ?_
  intro p e s m args below meth c B F
  generalize hres : (some (.int t.1) : Option Value) = res
  generalize hσf : t.2 = σf
  have hG : (fun t : (Int32 × ox_S) => res = some (.int t.1) ∧ σf = t.2) t := ⟨hres.symm, hσf.symm⟩
  change ox_M p l e rm_oc_T_caseBound s m args below meth c (oc_W D ad cI cC A adK adV) 2 res σf 0 [some (.ref (ad 0)), some (.int x1)] [] σ
  unfold oc_T_caseBound at h
  refine ox_iload_n B 1 od_T_caseBound_0 rfl rfl ?_
  refine ox_if_lt B 15 od_T_caseBound_1 rfl (fun hc => ?_) (fun hc => ?_)
  · rw [if_pos hc] at h
    refine ox_iconst B od_T_caseBound_15 oxk_im1 ?_
    cases h
    exact ox_iret B F od_T_caseBound_16 rfl rfl hG
  · rw [if_neg hc] at h
    refine ox_iload_n B 1 od_T_caseBound_4 rfl rfl ?_
    refine ox_aload_n B 0 od_T_caseBound_5 rfl rfl ?_
    refine ocg_T_58 B F od_T_caseBound_6 ?_
    refine ocg_T_92 B F od_T_caseBound_9 ?_
    refine ox_icmp_lt B 17 od_T_caseBound_12 rfl (fun hc => ?_) (fun hc => ?_)
    · rw [if_pos hc] at h
      refine ox_aload_n B 0 od_T_caseBound_17 rfl rfl ?_
      refine ocg_T_37 B F od_T_caseBound_18 ?_
      refine ox_aload_n B 0 od_T_caseBound_21 rfl rfl ?_
      refine ocg_T_58 B F od_T_caseBound_22 ?_
      refine ocg_T_185 B F od_T_caseBound_25 ?_
      refine ox_iload_n B 1 od_T_caseBound_28 rfl rfl ?_
      obtain ⟨j1, ej1, hj1, h⟩ := ox_ix_some2 h
      refine ocal_17 B F od_T_caseBound_29 hj1 ej1 ?_
      refine ox_aload_n B 0 od_T_caseBound_30 rfl rfl ?_
      refine ocg_T_58 B F od_T_caseBound_31 ?_
      refine ocg_T_188 B F od_T_caseBound_34 ?_
      refine ox_iload_n B 1 od_T_caseBound_37 rfl rfl ?_
      obtain ⟨j2, ej2, hj2, h⟩ := ox_ix_some2 h
      refine ocal_18 B F od_T_caseBound_38 hj2 ej2 ?_
      obtain ⟨r3, s4, hr3, h⟩ := ox_b2_some h
      refine occ_T_125 B F od_T_caseBound_39 (As := [.int (σ.2 17 j1), .int (σ.2 18 j2)]) (rest := []) (st2 := [.int r3]) (ct_oc_OneTree_boundUnder hok (σ.2 17 j1) (σ.2 18 j2) σ _ hr3) ⟨rfl, rfl, Nat.le_of_ble_eq_true rfl, Nat.le_of_ble_eq_true rfl⟩ rfl (Nat.le_of_ble_eq_true rfl) rfl rfl ?_
      cases h
      exact ox_iret B F od_T_caseBound_42 rfl rfl hG
    · rw [if_neg hc] at h
      refine ox_iconst B od_T_caseBound_15 oxk_im1 ?_
      cases h
      exact ox_iret B F od_T_caseBound_16 rfl rfl hG
abbrev rm_oc_T_proves : Room := { frames := 6, cells := 0, slots := 0, locals := 137 }
set_option maxRecDepth 100000 in
set_option maxHeartbeats 4000000 in
theorem ct_oc_T_proves {l : Launch} {D : va_G} {ad : Nat → Nat} {cI cC : ClassId} {A : Nat → Prop} {adK adV : Nat → Nat} (hok : ox_ok (oc_W D ad cI cC A adK adV)) (x1 : Int32) (σ : ox_S) (t : (Int32 × ox_S)) (h : oc_T_proves x1 σ = some t) : Met l oy_T_proves (Cond.code oy_T_proves prog_1_method_21_code 4 (some .boolean) :: ox_ws) rm_oc_T_proves (ox_P (oc_W D ad cI cC A adK adV) [.ref (ad 0), .int x1] σ) (ox_Q (oc_W D ad cI cC A adK adV) (some (.int t.1)) t.2) 0 0 A := by
  refine ox_met (ω := oc_W D ad cI cC A adK adV) (by decide) rfl hok (Nat.le_of_ble_eq_true rfl) ?_
  intro p e s m args below meth c B F
  generalize hres : (some (.int t.1) : Option Value) = res
  generalize hσf : t.2 = σf
  have hG : (fun t : (Int32 × ox_S) => res = some (.int t.1) ∧ σf = t.2) t := ⟨hres.symm, hσf.symm⟩
  have t_b11 : ∀ (x1 : Int32) (x2 : Int32) (σ : ox_S) (t : ((Int32 × ox_S) ⊕ (Int32 × ox_S))), oc_T_proves_b11 x1 x2 σ = some t → (ox_G (fun t : (Int32 × ox_S) => ox_M p l e rm_oc_T_proves s m args below meth c (oc_W D ad cI cC A adK adV) 4 res σf 11 [some (.ref (ad 0)), some (.int x1), some (.int t.1), none] [] t.2) (fun t : (Int32 × ox_S) => res = some (.int t.1) ∧ σf = t.2)) t → ox_M p l e rm_oc_T_proves s m args below meth c (oc_W D ad cI cC A adK adV) 4 res σf 11 [some (.ref (ad 0)), some (.int x1), some (.int x2), none] [] σ := by
    intro x1 x2 σ t h hG
    unfold oc_T_proves_b11 at h
    refine ox_iload_n B 2 od_T_proves_11 rfl rfl ?_
    refine ox_aload_n B 0 od_T_proves_12 rfl rfl ?_
    refine ocg_T_58 B F od_T_proves_13 ?_
    refine ocg_T_92 B F od_T_proves_16 ?_
    refine ox_icmp_ge B 47 od_T_proves_19 rfl (fun hc => ?_) (fun hc => ?_)
    · rw [if_pos hc] at h
      refine ox_iconst B od_T_proves_47 oxk_i1 ?_
      cases h
      exact ox_iret B F od_T_proves_48 rfl (ox_nz (Or.inr rfl)) hG
    · rw [if_neg hc] at h
      refine ox_aload_n B 0 od_T_proves_22 rfl rfl ?_
      refine ox_iload_n B 2 od_T_proves_23 rfl rfl ?_
      obtain ⟨r2, s3, hr2, h⟩ := ox_b2_some h
      refine occ_T_195 B F od_T_proves_24 (As := [.int x2]) (rest := []) (st2 := [.int r2]) (ct_oc_T_caseBound hok x2 σ _ hr2) ⟨rfl, rfl, Nat.le_of_ble_eq_true rfl, Nat.le_of_ble_eq_true rfl⟩ rfl (Nat.le_of_ble_eq_true rfl) rfl rfl ?_
      refine ox_istore_n B 3 od_T_proves_27 rfl (by decide) rfl (L2 := [some (.ref (ad 0)), some (.int x1), some (.int x2), some (.int r2)]) rfl ?_
      refine ox_iload_n B 3 od_T_proves_28 rfl rfl ?_
      refine ox_ldc B od_T_proves_29 ock_T_144 ?_
      refine ox_icmp_eq B 41 od_T_proves_31 rfl (fun hc => ?_) (fun hc => ?_)
      · rw [if_pos hc] at h
        obtain ⟨v4, ev4, h⟩ := ox_let_some h
        refine ox_iinc B od_T_proves_41 rfl ((congrArg (x2 + ·) oxk_i1).trans ev4.symm) (by decide) rfl (L2 := [some (.ref (ad 0)), some (.int x1), some (.int v4), some (.int r2)]) rfl ?_
        refine ox_goto B 11 od_T_proves_44 rfl ?_
        cases h
        exact (ox_mask [true, true, true, false] hG)
      · rw [if_neg hc] at h
        refine ox_iload_n B 3 od_T_proves_34 rfl rfl ?_
        refine ox_iload_n B 1 od_T_proves_35 rfl rfl ?_
        refine ox_icmp_ge B 41 od_T_proves_36 rfl (fun hc => ?_) (fun hc => ?_)
        · rw [if_pos hc] at h
          obtain ⟨v5, ev5, h⟩ := ox_let_some h
          refine ox_iinc B od_T_proves_41 rfl ((congrArg (x2 + ·) oxk_i1).trans ev5.symm) (by decide) rfl (L2 := [some (.ref (ad 0)), some (.int x1), some (.int v5), some (.int r2)]) rfl ?_
          refine ox_goto B 11 od_T_proves_44 rfl ?_
          cases h
          exact (ox_mask [true, true, true, false] hG)
        · rw [if_neg hc] at h
          refine ox_iconst B od_T_proves_39 oxk_i0 ?_
          cases h
          exact ox_iret B F od_T_proves_40 rfl (ox_nz (Or.inl rfl)) hG
  have t_11 : ∀ (x1 : Int32) (x2 : Int32) (σ : ox_S) (t : (Int32 × ox_S)), oc_T_proves_h11 x1 x2 σ = some t → (fun t : (Int32 × ox_S) => res = some (.int t.1) ∧ σf = t.2) t → ox_M p l e rm_oc_T_proves s m args below meth c (oc_W D ad cI cC A adK adV) 4 res σf 11 [some (.ref (ad 0)), some (.int x1), some (.int x2), none] [] σ := by
    intro x1 x2 σ t h hG
    exact ox_w_run (fun t : (Int32 × ox_S) => ox_M p l e rm_oc_T_proves s m args below meth c (oc_W D ad cI cC A adK adV) 4 res σf 11 [some (.ref (ad 0)), some (.int x1), some (.int t.1), none] [] t.2) (fun t : (Int32 × ox_S) => res = some (.int t.1) ∧ σf = t.2) (fun a t h hG => t_b11 x1 a.1 a.2 t h hG) (x2, σ) t h hG
  change ox_M p l e rm_oc_T_proves s m args below meth c (oc_W D ad cI cC A adK adV) 4 res σf 0 [some (.ref (ad 0)), some (.int x1), none, none] [] σ
  unfold oc_T_proves at h
  refine ox_aload_n B 0 od_T_proves_0 rfl rfl ?_
  obtain ⟨r1, hr1, h⟩ := ox_bind h
  refine occ_T_191 B F od_T_proves_1 (As := []) (rest := []) (st2 := [.int r1]) (ct_oc_T_covers hok σ _ hr1) ⟨rfl, rfl, Nat.le_of_ble_eq_true rfl, Nat.le_of_ble_eq_true rfl⟩ rfl (Nat.le_of_ble_eq_true rfl) rfl rfl ?_
  refine ox_if_ne B 9 od_T_proves_4 rfl (fun hc => ?_) (fun hc => ?_)
  · rw [if_neg hc] at h
    refine ox_iconst B od_T_proves_9 oxk_i0 ?_
    refine ox_istore_n B 2 od_T_proves_10 rfl (by decide) rfl (L2 := [some (.ref (ad 0)), some (.int x1), some (.int (0 : Int32)), none]) rfl ?_
    exact (t_11 x1 (0 : Int32) σ _ h hG)
  · rw [if_pos hc] at h
    refine ox_iconst B od_T_proves_7 oxk_i0 ?_
    cases h
    exact ox_iret B F od_T_proves_8 rfl (ox_nz (Or.inl rfl)) hG
