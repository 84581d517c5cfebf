abbrev rm_om_Mo_numbers : Room := { frames := 2, cells := 0, slots := 0, locals := 50 }
set_option maxRecDepth 100000 in
set_option maxHeartbeats 4000000 in
theorem ct_om_Mo_numbers {l : Launch} {D : va_G} {ad : Nat → Nat} {cI cC cZ : ClassId} {A : Nat → Prop} (hok : ox_ok (om_W D ad cI cC cZ A))  (σ : ox_S) (t : (Int32 × ox_S)) (h : om_Mo_numbers  σ = some t) : Met l oy_Mo_numbers (Cond.code oy_Mo_numbers prog_11_method_17_code 2 (some .boolean) :: ox_ws) rm_om_Mo_numbers (ox_P (om_W D ad cI cC cZ A) [.ref (ad 0)] σ) (ox_Q (om_W D ad cI cC cZ A) (some (.int t.1)) t.2) 0 0 A := by
  refine ox_met (ω := om_W D ad cI cC cZ A) (by decide) rfl hok (Nat.le_of_ble_eq_true rfl) ?_
  intro p e s m args below meth c B F
  generalize hres : (some (.int t.1) : Option Value) = res
  generalize hσf : t.2 = σf
  have hG : (fun t : (Int32 × ox_S) => res = some (.int t.1) ∧ σf = t.2) t := ⟨hres.symm, hσf.symm⟩
  have t_b2 : ∀ (x1 : Int32) (σ : ox_S) (t : ((Int32 × ox_S) ⊕ (Int32 × ox_S))), om_Mo_numbers_b2 x1 σ = some t → (ox_G (fun t : (Int32 × ox_S) => ox_M p l e rm_om_Mo_numbers s m args below meth c (om_W D ad cI cC cZ A) 2 res σf 2 [some (.ref (ad 0)), some (.int t.1)] [] t.2) (fun t : (Int32 × ox_S) => res = some (.int t.1) ∧ σf = t.2)) t → ox_M p l e rm_om_Mo_numbers s m args below meth c (om_W D ad cI cC cZ A) 2 res σf 2 [some (.ref (ad 0)), some (.int x1)] [] σ := by
    intro x1 σ t h hG
    unfold om_Mo_numbers_b2 at h
    refine ox_iload_n B 1 od_Mo_numbers_2 rfl rfl ?_
    refine ox_if_eq B 54 od_Mo_numbers_3 rfl (fun hc => ?_) (fun hc => ?_)
    · rw [if_pos hc] at h
      refine ox_iload_n B 1 od_Mo_numbers_54 rfl rfl ?_
      obtain ⟨hz, h⟩ := ox_z_some h
      cases h
      exact ox_iret B F od_Mo_numbers_55 rfl (ox_nz hz) hG
    · rw [if_neg hc] at h
      refine ox_aload_n B 0 od_Mo_numbers_6 rfl rfl ?_
      obtain ⟨r1, s2, hr1, h⟩ := ox_b2_some h
      refine omc_Mo_128 B F od_Mo_numbers_7 (As := []) (rest := []) (st2 := [.int r1]) (ct_om_Mo_word hok σ _ hr1) ⟨rfl, rfl, Nat.le_of_ble_eq_true rfl, Nat.le_of_ble_eq_true rfl⟩ rfl (Nat.le_of_ble_eq_true rfl) rfl rfl ?_
      refine ox_if_eq B 54 od_Mo_numbers_10 rfl (fun hc => ?_) (fun hc => ?_)
      · rw [if_pos hc] at h
        refine ox_iload_n B 1 od_Mo_numbers_54 rfl rfl ?_
        obtain ⟨hz, h⟩ := ox_z_some h
        cases h
        exact ox_iret B F od_Mo_numbers_55 rfl (ox_nz hz) hG
      · rw [if_neg hc] at h
        refine ox_aload_n B 0 od_Mo_numbers_13 rfl rfl ?_
        obtain ⟨r3, hr3, h⟩ := ox_bind h
        refine omc_Mo_142 B F od_Mo_numbers_14 (As := []) (rest := []) (st2 := [.int r3]) (ct_om_Mo_isNumber hok s2 _ hr3) ⟨rfl, rfl, Nat.le_of_ble_eq_true rfl, Nat.le_of_ble_eq_true rfl⟩ rfl (Nat.le_of_ble_eq_true rfl) rfl rfl ?_
        refine ox_if_eq B 49 od_Mo_numbers_17 rfl (fun hc => ?_) (fun hc => ?_)
        · rw [if_pos hc] at h
          refine ox_iconst B od_Mo_numbers_49 oxk_i0 ?_
          refine ox_istore_n B 1 od_Mo_numbers_50 rfl (by decide) rfl (L2 := [some (.ref (ad 0)), some (.int (0 : Int32))]) rfl ?_
          refine ox_goto B 2 od_Mo_numbers_51 rfl ?_
          cases h
          exact hG
        · rw [if_neg hc] at h
          refine ox_aload_n B 0 od_Mo_numbers_20 rfl rfl ?_
          refine omg_Mo_7 B F od_Mo_numbers_21 ?_
          refine ox_aload_n B 0 od_Mo_numbers_24 rfl rfl ?_
          refine omg_Mo_118 B F od_Mo_numbers_25 ?_
          obtain ⟨j4, ej4, hj4, h⟩ := ox_ix_some2 h
          refine omal_0 B F od_Mo_numbers_28 hj4 ej4 ?_
          refine ox_bipush B od_Mo_numbers_29 oxk_b45 ?_
          refine ox_icmp_eq B 49 od_Mo_numbers_31 rfl (fun hc => ?_) (fun hc => ?_)
          · rw [if_pos hc] at h
            refine ox_iconst B od_Mo_numbers_49 oxk_i0 ?_
            refine ox_istore_n B 1 od_Mo_numbers_50 rfl (by decide) rfl (L2 := [some (.ref (ad 0)), some (.int (0 : Int32))]) rfl ?_
            refine ox_goto B 2 od_Mo_numbers_51 rfl ?_
            cases h
            exact hG
          · rw [if_neg hc] at h
            refine ox_aload_n B 0 od_Mo_numbers_34 rfl rfl ?_
            refine ox_aload_n B 0 od_Mo_numbers_35 rfl rfl ?_
            obtain ⟨r5, hr5, h⟩ := ox_bind h
            refine omc_Mo_145 B F od_Mo_numbers_36 (As := []) (rest := [.ref (ad 0)]) (st2 := [.int r5, .ref (ad 0)]) (ct_om_Mo_number hok s2 _ hr5) ⟨rfl, rfl, Nat.le_of_ble_eq_true rfl, Nat.le_of_ble_eq_true rfl⟩ rfl (Nat.le_of_ble_eq_true rfl) rfl rfl ?_
            obtain ⟨r6, s7, hr6, h⟩ := ox_b2_some h
            refine omc_Mo_172 B F od_Mo_numbers_39 (As := [.int r5]) (rest := []) (st2 := [.int r6]) (ct_om_Mo_take hok r5 s2 _ hr6) ⟨rfl, rfl, Nat.le_of_ble_eq_true rfl, Nat.le_of_ble_eq_true rfl⟩ rfl (Nat.le_of_ble_eq_true rfl) rfl rfl ?_
            refine ox_if_eq B 49 od_Mo_numbers_42 rfl (fun hc => ?_) (fun hc => ?_)
            · rw [if_pos hc] at h
              refine ox_iconst B od_Mo_numbers_49 oxk_i0 ?_
              refine ox_istore_n B 1 od_Mo_numbers_50 rfl (by decide) rfl (L2 := [some (.ref (ad 0)), some (.int (0 : Int32))]) rfl ?_
              refine ox_goto B 2 od_Mo_numbers_51 rfl ?_
              cases h
              exact hG
            · rw [if_neg hc] at h
              refine ox_iconst B od_Mo_numbers_45 oxk_i1 ?_
              refine ox_goto B 50 od_Mo_numbers_46 rfl ?_
              refine ox_istore_n B 1 od_Mo_numbers_50 rfl (by decide) rfl (L2 := [some (.ref (ad 0)), some (.int (1 : Int32))]) rfl ?_
              refine ox_goto B 2 od_Mo_numbers_51 rfl ?_
              cases h
              exact hG
  have t_2 : ∀ (x1 : Int32) (σ : ox_S) (t : (Int32 × ox_S)), om_Mo_numbers_h2 x1 σ = some t → (fun t : (Int32 × ox_S) => res = some (.int t.1) ∧ σf = t.2) t → ox_M p l e rm_om_Mo_numbers s m args below meth c (om_W D ad cI cC cZ A) 2 res σf 2 [some (.ref (ad 0)), some (.int x1)] [] σ := by
    intro x1 σ t h hG
    exact ox_w_run (fun t : (Int32 × ox_S) => ox_M p l e rm_om_Mo_numbers s m args below meth c (om_W D ad cI cC cZ A) 2 res σf 2 [some (.ref (ad 0)), some (.int t.1)] [] t.2) (fun t : (Int32 × ox_S) => res = some (.int t.1) ∧ σf = t.2) (fun a t h hG => t_b2 a.1 a.2 t h hG) (x1, σ) t h hG
  change ox_M p l e rm_om_Mo_numbers s m args below meth c (om_W D ad cI cC cZ A) 2 res σf 0 [some (.ref (ad 0)), none] [] σ
  unfold om_Mo_numbers at h
  refine ox_iconst B od_Mo_numbers_0 oxk_i1 ?_
  refine ox_istore_n B 1 od_Mo_numbers_1 rfl (by decide) rfl (L2 := [some (.ref (ad 0)), some (.int (1 : Int32))]) rfl ?_
  exact (t_2 (1 : Int32) σ _ h hG)
abbrev rm_om_Mo_part : Room := { frames := 0, cells := 0, slots := 0, locals := 0 }
set_option maxRecDepth 100000 in
set_option maxHeartbeats 4000000 in
theorem ct_om_Mo_part {l : Launch} {D : va_G} {ad : Nat → Nat} {cI cC cZ : ClassId} {A : Nat → Prop} (hok : ox_ok (om_W D ad cI cC cZ A)) (x0 : Int32) (x1 : Int32) (σ : ox_S) (t : Int64) (h : om_Mo_part x0 x1 σ = some t) : Met l oy_Mo_part (Cond.code oy_Mo_part prog_11_method_4_code 2 (some .long) :: ox_ws) rm_om_Mo_part (ox_P (om_W D ad cI cC cZ A) [.int x0, .int x1] σ) (ox_Q (om_W D ad cI cC cZ A) (some (.long t)) σ) 0 0 A := by
  refine ox_met (ω := om_W D ad cI cC cZ A) (by decide) rfl hok (Nat.le_of_ble_eq_true rfl) ?_
  intro p e s m args below meth c B F
  generalize hres : (some (.long t) : Option Value) = res
  have hG : (fun t : Int64 => res = some (.long t) ∧ σ = σ) t := ⟨hres.symm, rfl⟩
  change ox_M p l e rm_om_Mo_part s m args below meth c (om_W D ad cI cC cZ A) 2 res σ 0 [some (.int x0), some (.int x1)] [] σ
  unfold om_Mo_part at h
  refine ox_iload_n B 0 od_Mo_part_0 rfl rfl ?_
  by_cases hc : x0 = (0 : Int32)
  · rw [if_pos hc] at h
    refine ox_tblI (off := 71) B 72 od_Mo_part_1 hc (by decide) (by decide) (by decide) rfl ?_
    refine ox_iload_n B 1 od_Mo_part_72 rfl rfl ?_
    refine ox_if_ne B 82 od_Mo_part_73 rfl (fun hc => ?_) (fun hc => ?_)
    · rw [if_neg hc] at h
      refine ox_iload_n B 1 od_Mo_part_82 rfl rfl ?_
      refine ox_iconst B od_Mo_part_83 oxk_i1 ?_
      refine ox_icmp_ne B 91 od_Mo_part_84 rfl (fun hc => ?_) (fun hc => ?_)
      · rw [if_neg hc] at h
        refine ox_lconst (v := (0 : Int64)) B od_Mo_part_91 (by decide) ?_
        cases h
        exact ox_lret B F od_Mo_part_92 rfl hG
      · rw [if_pos hc] at h
        refine ox_lconst (v := (0 : Int64)) B od_Mo_part_87 (by decide) ?_
        refine ox_goto B 92 od_Mo_part_88 rfl ?_
        cases h
        exact ox_lret B F od_Mo_part_92 rfl hG
    · rw [if_pos hc] at h
      refine ox_ldc2 B od_Mo_part_76 omk_Mo_60 ?_
      refine ox_goto B 92 od_Mo_part_79 rfl ?_
      cases h
      exact ox_lret B F od_Mo_part_92 rfl hG
  rw [if_neg hc] at h
  have n0 := hc
  by_cases hc : x0 = (1 : Int32)
  · rw [if_pos hc] at h
    refine ox_tblI (off := 92) B 93 od_Mo_part_1 hc (by decide) (by decide) (by decide) rfl ?_
    refine ox_iload_n B 1 od_Mo_part_93 rfl rfl ?_
    refine ox_if_ne B 103 od_Mo_part_94 rfl (fun hc => ?_) (fun hc => ?_)
    · rw [if_neg hc] at h
      refine ox_iload_n B 1 od_Mo_part_103 rfl rfl ?_
      refine ox_iconst B od_Mo_part_104 oxk_i1 ?_
      refine ox_icmp_ne B 114 od_Mo_part_105 rfl (fun hc => ?_) (fun hc => ?_)
      · rw [if_neg hc] at h
        refine ox_lconst (v := (0 : Int64)) B od_Mo_part_114 (by decide) ?_
        cases h
        exact ox_lret B F od_Mo_part_115 rfl hG
      · rw [if_pos hc] at h
        refine ox_ldc2 B od_Mo_part_108 omk_Mo_64 ?_
        refine ox_goto B 115 od_Mo_part_111 rfl ?_
        cases h
        exact ox_lret B F od_Mo_part_115 rfl hG
    · rw [if_pos hc] at h
      refine ox_ldc2 B od_Mo_part_97 omk_Mo_62 ?_
      refine ox_goto B 115 od_Mo_part_100 rfl ?_
      cases h
      exact ox_lret B F od_Mo_part_115 rfl hG
  rw [if_neg hc] at h
  have n1 := hc
  by_cases hc : x0 = (2 : Int32)
  · rw [if_pos hc] at h
    refine ox_tblI (off := 115) B 116 od_Mo_part_1 hc (by decide) (by decide) (by decide) rfl ?_
    refine ox_iload_n B 1 od_Mo_part_116 rfl rfl ?_
    refine ox_if_ne B 126 od_Mo_part_117 rfl (fun hc => ?_) (fun hc => ?_)
    · rw [if_neg hc] at h
      refine ox_iload_n B 1 od_Mo_part_126 rfl rfl ?_
      refine ox_iconst B od_Mo_part_127 oxk_i1 ?_
      refine ox_icmp_ne B 137 od_Mo_part_128 rfl (fun hc => ?_) (fun hc => ?_)
      · rw [if_neg hc] at h
        refine ox_ldc2 B od_Mo_part_137 omk_Mo_70 ?_
        cases h
        exact ox_lret B F od_Mo_part_140 rfl hG
      · rw [if_pos hc] at h
        refine ox_ldc2 B od_Mo_part_131 omk_Mo_68 ?_
        refine ox_goto B 140 od_Mo_part_134 rfl ?_
        cases h
        exact ox_lret B F od_Mo_part_140 rfl hG
    · rw [if_pos hc] at h
      refine ox_ldc2 B od_Mo_part_120 omk_Mo_66 ?_
      refine ox_goto B 140 od_Mo_part_123 rfl ?_
      cases h
      exact ox_lret B F od_Mo_part_140 rfl hG
  rw [if_neg hc] at h
  have n2 := hc
  by_cases hc : x0 = (3 : Int32)
  · rw [if_pos hc] at h
    refine ox_tblI (off := 140) B 141 od_Mo_part_1 hc (by decide) (by decide) (by decide) rfl ?_
    refine ox_iload_n B 1 od_Mo_part_141 rfl rfl ?_
    refine ox_if_ne B 151 od_Mo_part_142 rfl (fun hc => ?_) (fun hc => ?_)
    · rw [if_neg hc] at h
      refine ox_iload_n B 1 od_Mo_part_151 rfl rfl ?_
      refine ox_iconst B od_Mo_part_152 oxk_i1 ?_
      refine ox_icmp_ne B 162 od_Mo_part_153 rfl (fun hc => ?_) (fun hc => ?_)
      · rw [if_neg hc] at h
        refine ox_ldc2 B od_Mo_part_162 omk_Mo_74 ?_
        cases h
        exact ox_lret B F od_Mo_part_165 rfl hG
      · rw [if_pos hc] at h
        refine ox_ldc2 B od_Mo_part_156 omk_Mo_72 ?_
        refine ox_goto B 165 od_Mo_part_159 rfl ?_
        cases h
        exact ox_lret B F od_Mo_part_165 rfl hG
    · rw [if_pos hc] at h
      refine ox_ldc2 B od_Mo_part_145 omk_Mo_66 ?_
      refine ox_goto B 165 od_Mo_part_148 rfl ?_
      cases h
      exact ox_lret B F od_Mo_part_165 rfl hG
  rw [if_neg hc] at h
  have n3 := hc
  by_cases hc : x0 = (4 : Int32)
  · rw [if_pos hc] at h
    refine ox_tblI (off := 165) B 166 od_Mo_part_1 hc (by decide) (by decide) (by decide) rfl ?_
    refine ox_iload_n B 1 od_Mo_part_166 rfl rfl ?_
    refine ox_if_ne B 176 od_Mo_part_167 rfl (fun hc => ?_) (fun hc => ?_)
    · rw [if_neg hc] at h
      refine ox_iload_n B 1 od_Mo_part_176 rfl rfl ?_
      refine ox_iconst B od_Mo_part_177 oxk_i1 ?_
      refine ox_icmp_ne B 185 od_Mo_part_178 rfl (fun hc => ?_) (fun hc => ?_)
      · rw [if_neg hc] at h
        refine ox_lconst (v := (0 : Int64)) B od_Mo_part_185 (by decide) ?_
        cases h
        exact ox_lret B F od_Mo_part_186 rfl hG
      · rw [if_pos hc] at h
        refine ox_lconst (v := (0 : Int64)) B od_Mo_part_181 (by decide) ?_
        refine ox_goto B 186 od_Mo_part_182 rfl ?_
        cases h
        exact ox_lret B F od_Mo_part_186 rfl hG
    · rw [if_pos hc] at h
      refine ox_ldc2 B od_Mo_part_170 omk_Mo_76 ?_
      refine ox_goto B 186 od_Mo_part_173 rfl ?_
      cases h
      exact ox_lret B F od_Mo_part_186 rfl hG
  rw [if_neg hc] at h
  have n4 := hc
  by_cases hc : x0 = (5 : Int32)
  · rw [if_pos hc] at h
    refine ox_tblI (off := 186) B 187 od_Mo_part_1 hc (by decide) (by decide) (by decide) rfl ?_
    refine ox_iload_n B 1 od_Mo_part_187 rfl rfl ?_
    refine ox_if_ne B 197 od_Mo_part_188 rfl (fun hc => ?_) (fun hc => ?_)
    · rw [if_neg hc] at h
      refine ox_iload_n B 1 od_Mo_part_197 rfl rfl ?_
      refine ox_iconst B od_Mo_part_198 oxk_i1 ?_
      refine ox_icmp_ne B 206 od_Mo_part_199 rfl (fun hc => ?_) (fun hc => ?_)
      · rw [if_neg hc] at h
        refine ox_lconst (v := (0 : Int64)) B od_Mo_part_206 (by decide) ?_
        cases h
        exact ox_lret B F od_Mo_part_207 rfl hG
      · rw [if_pos hc] at h
        refine ox_lconst (v := (0 : Int64)) B od_Mo_part_202 (by decide) ?_
        refine ox_goto B 207 od_Mo_part_203 rfl ?_
        cases h
        exact ox_lret B F od_Mo_part_207 rfl hG
    · rw [if_pos hc] at h
      refine ox_ldc2 B od_Mo_part_191 omk_Mo_78 ?_
      refine ox_goto B 207 od_Mo_part_194 rfl ?_
      cases h
      exact ox_lret B F od_Mo_part_207 rfl hG
  rw [if_neg hc] at h
  have n5 := hc
  by_cases hc : x0 = (6 : Int32)
  · rw [if_pos hc] at h
    refine ox_tblI (off := 207) B 208 od_Mo_part_1 hc (by decide) (by decide) (by decide) rfl ?_
    refine ox_iload_n B 1 od_Mo_part_208 rfl rfl ?_
    refine ox_if_ne B 218 od_Mo_part_209 rfl (fun hc => ?_) (fun hc => ?_)
    · rw [if_neg hc] at h
      refine ox_iload_n B 1 od_Mo_part_218 rfl rfl ?_
      refine ox_iconst B od_Mo_part_219 oxk_i1 ?_
      refine ox_icmp_ne B 227 od_Mo_part_220 rfl (fun hc => ?_) (fun hc => ?_)
      · rw [if_neg hc] at h
        refine ox_lconst (v := (0 : Int64)) B od_Mo_part_227 (by decide) ?_
        cases h
        exact ox_lret B F od_Mo_part_228 rfl hG
      · rw [if_pos hc] at h
        refine ox_lconst (v := (0 : Int64)) B od_Mo_part_223 (by decide) ?_
        refine ox_goto B 228 od_Mo_part_224 rfl ?_
        cases h
        exact ox_lret B F od_Mo_part_228 rfl hG
    · rw [if_pos hc] at h
      refine ox_ldc2 B od_Mo_part_212 omk_Mo_80 ?_
      refine ox_goto B 228 od_Mo_part_215 rfl ?_
      cases h
      exact ox_lret B F od_Mo_part_228 rfl hG
  rw [if_neg hc] at h
  have n6 := hc
  by_cases hc : x0 = (7 : Int32)
  · rw [if_pos hc] at h
    refine ox_tblI (off := 228) B 229 od_Mo_part_1 hc (by decide) (by decide) (by decide) rfl ?_
    refine ox_iload_n B 1 od_Mo_part_229 rfl rfl ?_
    refine ox_if_ne B 239 od_Mo_part_230 rfl (fun hc => ?_) (fun hc => ?_)
    · rw [if_neg hc] at h
      refine ox_iload_n B 1 od_Mo_part_239 rfl rfl ?_
      refine ox_iconst B od_Mo_part_240 oxk_i1 ?_
      refine ox_icmp_ne B 248 od_Mo_part_241 rfl (fun hc => ?_) (fun hc => ?_)
      · rw [if_neg hc] at h
        refine ox_lconst (v := (0 : Int64)) B od_Mo_part_248 (by decide) ?_
        cases h
        exact ox_lret B F od_Mo_part_249 rfl hG
      · rw [if_pos hc] at h
        refine ox_lconst (v := (0 : Int64)) B od_Mo_part_244 (by decide) ?_
        refine ox_goto B 249 od_Mo_part_245 rfl ?_
        cases h
        exact ox_lret B F od_Mo_part_249 rfl hG
    · rw [if_pos hc] at h
      refine ox_ldc2 B od_Mo_part_233 omk_Mo_82 ?_
      refine ox_goto B 249 od_Mo_part_236 rfl ?_
      cases h
      exact ox_lret B F od_Mo_part_249 rfl hG
  rw [if_neg hc] at h
  have n7 := hc
  by_cases hc : x0 = (8 : Int32)
  · rw [if_pos hc] at h
    refine ox_tblI (off := 249) B 250 od_Mo_part_1 hc (by decide) (by decide) (by decide) rfl ?_
    refine ox_iload_n B 1 od_Mo_part_250 rfl rfl ?_
    refine ox_if_ne B 260 od_Mo_part_251 rfl (fun hc => ?_) (fun hc => ?_)
    · rw [if_neg hc] at h
      refine ox_iload_n B 1 od_Mo_part_260 rfl rfl ?_
      refine ox_iconst B od_Mo_part_261 oxk_i1 ?_
      refine ox_icmp_ne B 271 od_Mo_part_262 rfl (fun hc => ?_) (fun hc => ?_)
      · rw [if_neg hc] at h
        refine ox_lconst (v := (0 : Int64)) B od_Mo_part_271 (by decide) ?_
        cases h
        exact ox_lret B F od_Mo_part_272 rfl hG
      · rw [if_pos hc] at h
        refine ox_ldc2 B od_Mo_part_265 omk_Mo_86 ?_
        refine ox_goto B 272 od_Mo_part_268 rfl ?_
        cases h
        exact ox_lret B F od_Mo_part_272 rfl hG
    · rw [if_pos hc] at h
      refine ox_ldc2 B od_Mo_part_254 omk_Mo_84 ?_
      refine ox_goto B 272 od_Mo_part_257 rfl ?_
      cases h
      exact ox_lret B F od_Mo_part_272 rfl hG
  rw [if_neg hc] at h
  have n8 := hc
  by_cases hc : x0 = (9 : Int32)
  · rw [if_pos hc] at h
    refine ox_tblI (off := 272) B 273 od_Mo_part_1 hc (by decide) (by decide) (by decide) rfl ?_
    refine ox_iload_n B 1 od_Mo_part_273 rfl rfl ?_
    refine ox_if_ne B 283 od_Mo_part_274 rfl (fun hc => ?_) (fun hc => ?_)
    · rw [if_neg hc] at h
      refine ox_iload_n B 1 od_Mo_part_283 rfl rfl ?_
      refine ox_iconst B od_Mo_part_284 oxk_i1 ?_
      refine ox_icmp_ne B 294 od_Mo_part_285 rfl (fun hc => ?_) (fun hc => ?_)
      · rw [if_neg hc] at h
        refine ox_lconst (v := (0 : Int64)) B od_Mo_part_294 (by decide) ?_
        cases h
        exact ox_lret B F od_Mo_part_295 rfl hG
      · rw [if_pos hc] at h
        refine ox_ldc2 B od_Mo_part_288 omk_Mo_90 ?_
        refine ox_goto B 295 od_Mo_part_291 rfl ?_
        cases h
        exact ox_lret B F od_Mo_part_295 rfl hG
    · rw [if_pos hc] at h
      refine ox_ldc2 B od_Mo_part_277 omk_Mo_88 ?_
      refine ox_goto B 295 od_Mo_part_280 rfl ?_
      cases h
      exact ox_lret B F od_Mo_part_295 rfl hG
  rw [if_neg hc] at h
  have n9 := hc
  by_cases hc : x0 = (10 : Int32)
  · rw [if_pos hc] at h
    refine ox_tblI (off := 295) B 296 od_Mo_part_1 hc (by decide) (by decide) (by decide) rfl ?_
    refine ox_iload_n B 1 od_Mo_part_296 rfl rfl ?_
    refine ox_if_ne B 306 od_Mo_part_297 rfl (fun hc => ?_) (fun hc => ?_)
    · rw [if_neg hc] at h
      refine ox_iload_n B 1 od_Mo_part_306 rfl rfl ?_
      refine ox_iconst B od_Mo_part_307 oxk_i1 ?_
      refine ox_icmp_ne B 317 od_Mo_part_308 rfl (fun hc => ?_) (fun hc => ?_)
      · rw [if_neg hc] at h
        refine ox_lconst (v := (0 : Int64)) B od_Mo_part_317 (by decide) ?_
        cases h
        exact ox_lret B F od_Mo_part_318 rfl hG
      · rw [if_pos hc] at h
        refine ox_ldc2 B od_Mo_part_311 omk_Mo_94 ?_
        refine ox_goto B 318 od_Mo_part_314 rfl ?_
        cases h
        exact ox_lret B F od_Mo_part_318 rfl hG
    · rw [if_pos hc] at h
      refine ox_ldc2 B od_Mo_part_300 omk_Mo_92 ?_
      refine ox_goto B 318 od_Mo_part_303 rfl ?_
      cases h
      exact ox_lret B F od_Mo_part_318 rfl hG
  rw [if_neg hc] at h
  have n10 := hc
  by_cases hc : x0 = (11 : Int32)
  · rw [if_pos hc] at h
    refine ox_tblI (off := 318) B 319 od_Mo_part_1 hc (by decide) (by decide) (by decide) rfl ?_
    refine ox_iload_n B 1 od_Mo_part_319 rfl rfl ?_
    refine ox_if_ne B 329 od_Mo_part_320 rfl (fun hc => ?_) (fun hc => ?_)
    · rw [if_neg hc] at h
      refine ox_iload_n B 1 od_Mo_part_329 rfl rfl ?_
      refine ox_iconst B od_Mo_part_330 oxk_i1 ?_
      refine ox_icmp_ne B 340 od_Mo_part_331 rfl (fun hc => ?_) (fun hc => ?_)
      · rw [if_neg hc] at h
        refine ox_ldc2 B od_Mo_part_340 omk_Mo_98 ?_
        cases h
        exact ox_lret B F od_Mo_part_343 rfl hG
      · rw [if_pos hc] at h
        refine ox_ldc2 B od_Mo_part_334 omk_Mo_96 ?_
        refine ox_goto B 343 od_Mo_part_337 rfl ?_
        cases h
        exact ox_lret B F od_Mo_part_343 rfl hG
    · rw [if_pos hc] at h
      refine ox_ldc2 B od_Mo_part_323 omk_Mo_66 ?_
      refine ox_goto B 343 od_Mo_part_326 rfl ?_
      cases h
      exact ox_lret B F od_Mo_part_343 rfl hG
  rw [if_neg hc] at h
  have n11 := hc
  by_cases hc : x0 = (12 : Int32)
  · rw [if_pos hc] at h
    refine ox_tblI (off := 343) B 344 od_Mo_part_1 hc (by decide) (by decide) (by decide) rfl ?_
    refine ox_iload_n B 1 od_Mo_part_344 rfl rfl ?_
    refine ox_if_ne B 354 od_Mo_part_345 rfl (fun hc => ?_) (fun hc => ?_)
    · rw [if_neg hc] at h
      refine ox_iload_n B 1 od_Mo_part_354 rfl rfl ?_
      refine ox_iconst B od_Mo_part_355 oxk_i1 ?_
      refine ox_icmp_ne B 365 od_Mo_part_356 rfl (fun hc => ?_) (fun hc => ?_)
      · rw [if_neg hc] at h
        refine ox_ldc2 B od_Mo_part_365 omk_Mo_104 ?_
        cases h
        exact ox_lret B F od_Mo_part_368 rfl hG
      · rw [if_pos hc] at h
        refine ox_ldc2 B od_Mo_part_359 omk_Mo_102 ?_
        refine ox_goto B 368 od_Mo_part_362 rfl ?_
        cases h
        exact ox_lret B F od_Mo_part_368 rfl hG
    · rw [if_pos hc] at h
      refine ox_ldc2 B od_Mo_part_348 omk_Mo_100 ?_
      refine ox_goto B 368 od_Mo_part_351 rfl ?_
      cases h
      exact ox_lret B F od_Mo_part_368 rfl hG
  rw [if_neg hc] at h
  have n12 := hc
  by_cases hc : x0 = (13 : Int32)
  · rw [if_pos hc] at h
    refine ox_tblI (off := 368) B 369 od_Mo_part_1 hc (by decide) (by decide) (by decide) rfl ?_
    refine ox_iload_n B 1 od_Mo_part_369 rfl rfl ?_
    refine ox_if_ne B 379 od_Mo_part_370 rfl (fun hc => ?_) (fun hc => ?_)
    · rw [if_neg hc] at h
      refine ox_iload_n B 1 od_Mo_part_379 rfl rfl ?_
      refine ox_iconst B od_Mo_part_380 oxk_i1 ?_
      refine ox_icmp_ne B 388 od_Mo_part_381 rfl (fun hc => ?_) (fun hc => ?_)
      · rw [if_neg hc] at h
        refine ox_lconst (v := (0 : Int64)) B od_Mo_part_388 (by decide) ?_
        cases h
        exact ox_lret B F od_Mo_part_389 rfl hG
      · rw [if_pos hc] at h
        refine ox_lconst (v := (0 : Int64)) B od_Mo_part_384 (by decide) ?_
        refine ox_goto B 389 od_Mo_part_385 rfl ?_
        cases h
        exact ox_lret B F od_Mo_part_389 rfl hG
    · rw [if_pos hc] at h
      refine ox_ldc2 B od_Mo_part_373 omk_Mo_106 ?_
      refine ox_goto B 389 od_Mo_part_376 rfl ?_
      cases h
      exact ox_lret B F od_Mo_part_389 rfl hG
  rw [if_neg hc] at h
  have n13 := hc
  refine ox_tblO B 390 od_Mo_part_1 (ox_out14 n0 n1 n2 n3 n4 n5 n6 n7 n8 n9 n10 n11 n12 n13) rfl ?_
  refine ox_lconst (v := (0 : Int64)) B od_Mo_part_390 (by decide) ?_
  cases h
  exact ox_lret B F od_Mo_part_391 rfl hG
abbrev rm_om_Mo_letter : Room := { frames := 1, cells := 0, slots := 0, locals := 21 }
set_option maxRecDepth 100000 in
set_option maxHeartbeats 4000000 in
theorem ct_om_Mo_letter {l : Launch} {D : va_G} {ad : Nat → Nat} {cI cC cZ : ClassId} {A : Nat → Prop} (hok : ox_ok (om_W D ad cI cC cZ A)) (x0 : Int32) (x1 : Int32) (σ : ox_S) (t : Int32) (h : om_Mo_letter x0 x1 σ = some t) : Met l oy_Mo_letter (Cond.code oy_Mo_letter prog_11_method_5_code 2 (some .int) :: ox_ws) rm_om_Mo_letter (ox_P (om_W D ad cI cC cZ A) [.int x0, .int x1] σ) (ox_Q (om_W D ad cI cC cZ A) (some (.int t)) σ) 0 0 A := by
  refine ox_met (ω := om_W D ad cI cC cZ A) (by decide) rfl hok (Nat.le_of_ble_eq_true rfl) ?_
  intro p e s m args below meth c B F
  generalize hres : (some (.int t) : Option Value) = res
  have hG : (fun t : Int32 => res = some (.int t) ∧ σ = σ) t := ⟨hres.symm, rfl⟩
  change ox_M p l e rm_om_Mo_letter s m args below meth c (om_W D ad cI cC cZ A) 2 res σ 0 [some (.int x0), some (.int x1)] [] σ
  unfold om_Mo_letter at h
  refine ox_iload_n B 1 od_Mo_letter_0 rfl rfl ?_
  refine ox_bipush B od_Mo_letter_1 oxk_b23 ?_
  refine ox_icmp_le B 10 od_Mo_letter_3 rfl (fun hc => ?_) (fun hc => ?_)
  · rw [if_pos hc] at h
    refine ox_iload_n B 0 od_Mo_letter_10 rfl rfl ?_
    refine ox_iload_n B 1 od_Mo_letter_11 rfl rfl ?_
    refine ox_bipush B od_Mo_letter_12 oxk_b8 ?_
    refine ox_idiv B od_Mo_letter_14 (by decide) ?_
    obtain ⟨r1, hr1, h⟩ := ox_bind h
    refine omc_Mo_108 B F od_Mo_letter_15 (As := [.int x0, .int (x1 / (8 : Int32))]) (rest := []) (st2 := [.long r1]) (ct_om_Mo_part hok x0 (x1 / (8 : Int32)) σ _ hr1) ⟨rfl, rfl, Nat.le_of_ble_eq_true rfl, Nat.le_of_ble_eq_true rfl⟩ rfl (Nat.le_of_ble_eq_true rfl) rfl rfl ?_
    refine ox_bipush B od_Mo_letter_18 oxk_b8 ?_
    refine ox_iload_n B 1 od_Mo_letter_20 rfl rfl ?_
    refine ox_bipush B od_Mo_letter_21 oxk_b8 ?_
    refine ox_irem B od_Mo_letter_23 (by decide) ?_
    refine ox_imul B od_Mo_letter_24 ?_
    refine ox_lshr B od_Mo_letter_25 ?_
    refine ox_ldc2 B od_Mo_letter_26 omk_Mo_54 ?_
    refine ox_land B od_Mo_letter_29 ?_
    refine ox_l2i B od_Mo_letter_30 ?_
    cases h
    exact ox_iret B F od_Mo_letter_31 rfl rfl hG
  · rw [if_neg hc] at h
    refine ox_iconst B od_Mo_letter_6 oxk_i0 ?_
    refine ox_goto B 31 od_Mo_letter_7 rfl ?_
    cases h
    exact ox_iret B F od_Mo_letter_31 rfl rfl hG
abbrev rm_om_Mo_begins : Room := { frames := 2, cells := 0, slots := 0, locals := 42 }
set_option maxRecDepth 100000 in
set_option maxHeartbeats 4000000 in
theorem ct_om_Mo_begins {l : Launch} {D : va_G} {ad : Nat → Nat} {cI cC cZ : ClassId} {A : Nat → Prop} (hok : ox_ok (om_W D ad cI cC cZ A)) (x1 : Int32) (x2 : Int32) (σ : ox_S) (t : Int32) (h : om_Mo_begins x1 x2 σ = some t) : Met l oy_Mo_begins (Cond.code oy_Mo_begins prog_11_method_7_code 4 (some .int) :: ox_ws) rm_om_Mo_begins (ox_P (om_W D ad cI cC cZ A) [.ref (ad 0), .int x1, .int x2] σ) (ox_Q (om_W D ad cI cC cZ A) (some (.int t)) σ) 0 0 A := by
  refine ox_met (ω := om_W D ad cI cC cZ A) (by decide) rfl hok (Nat.le_of_ble_eq_true rfl) ?_
  intro p e s m args below meth c B F
  generalize hres : (some (.int t) : Option Value) = res
  have hG : (fun t : Int32 => res = some (.int t) ∧ σ = σ) t := ⟨hres.symm, rfl⟩
  have t_b2 : ∀ (x1 : Int32) (x2 : Int32) (x3 : Int32)  (t : (Int32 ⊕ Int32)), om_Mo_begins_b2 x1 x2 x3 σ = some t → (ox_G (fun t : Int32 => ox_M p l e rm_om_Mo_begins s m args below meth c (om_W D ad cI cC cZ A) 4 res σ 2 [some (.ref (ad 0)), some (.int x1), some (.int x2), some (.int t)] [] σ) (fun t : Int32 => res = some (.int t) ∧ σ = σ)) t → ox_M p l e rm_om_Mo_begins s m args below meth c (om_W D ad cI cC cZ A) 4 res σ 2 [some (.ref (ad 0)), some (.int x1), some (.int x2), some (.int x3)] [] σ := by
    intro x1 x2 x3  t h hG
    unfold om_Mo_begins_b2 at h
    refine ox_iload_n B 1 od_Mo_begins_2 rfl rfl ?_
    refine ox_iload_n B 3 od_Mo_begins_3 rfl rfl ?_
    obtain ⟨r1, hr1, h⟩ := ox_bind h
    refine omc_Mo_121 B F od_Mo_begins_4 (As := [.int x1, .int x3]) (rest := []) (st2 := [.int r1]) (ct_om_Mo_letter hok x1 x3 σ _ hr1) ⟨rfl, rfl, Nat.le_of_ble_eq_true rfl, Nat.le_of_ble_eq_true rfl⟩ rfl (Nat.le_of_ble_eq_true rfl) rfl rfl ?_
    refine ox_if_eq B 44 od_Mo_begins_7 rfl (fun hc => ?_) (fun hc => ?_)
    · rw [if_pos hc] at h
      refine ox_iload_n B 3 od_Mo_begins_44 rfl rfl ?_
      cases h
      exact ox_iret B F od_Mo_begins_45 rfl rfl hG
    · rw [if_neg hc] at h
      refine ox_iload_n B 2 od_Mo_begins_10 rfl rfl ?_
      refine ox_iload_n B 3 od_Mo_begins_11 rfl rfl ?_
      refine ox_iadd B od_Mo_begins_12 ?_
      refine ox_aload_n B 0 od_Mo_begins_13 rfl rfl ?_
      refine omg_Mo_115 B F od_Mo_begins_14 ?_
      refine ox_icmp_ge B 36 od_Mo_begins_17 rfl (fun hc => ?_) (fun hc => ?_)
      · rw [if_pos hc] at h
        refine ox_iconst B od_Mo_begins_36 oxk_i0 ?_
        cases h
        exact ox_iret B F od_Mo_begins_37 rfl rfl hG
      · rw [if_neg hc] at h
        refine ox_aload_n B 0 od_Mo_begins_20 rfl rfl ?_
        refine omg_Mo_7 B F od_Mo_begins_21 ?_
        refine ox_iload_n B 2 od_Mo_begins_24 rfl rfl ?_
        refine ox_iload_n B 3 od_Mo_begins_25 rfl rfl ?_
        refine ox_iadd B od_Mo_begins_26 ?_
        obtain ⟨j2, ej2, hj2, h⟩ := ox_ix_some2 h
        refine omal_0 B F od_Mo_begins_27 hj2 ej2 ?_
        refine ox_iload_n B 1 od_Mo_begins_28 rfl rfl ?_
        refine ox_iload_n B 3 od_Mo_begins_29 rfl rfl ?_
        obtain ⟨r3, hr3, h⟩ := ox_bind h
        refine omc_Mo_121 B F od_Mo_begins_30 (As := [.int x1, .int x3]) (rest := [.int (σ.2 0 j2)]) (st2 := [.int r3, .int (σ.2 0 j2)]) (ct_om_Mo_letter hok x1 x3 σ _ hr3) ⟨rfl, rfl, Nat.le_of_ble_eq_true rfl, Nat.le_of_ble_eq_true rfl⟩ rfl (Nat.le_of_ble_eq_true rfl) rfl rfl ?_
        refine ox_icmp_eq B 38 od_Mo_begins_33 rfl (fun hc => ?_) (fun hc => ?_)
        · rw [if_pos hc] at h
          obtain ⟨v4, ev4, h⟩ := ox_let_some h
          refine ox_iinc B od_Mo_begins_38 rfl ((congrArg (x3 + ·) oxk_i1).trans ev4.symm) (by decide) rfl (L2 := [some (.ref (ad 0)), some (.int x1), some (.int x2), some (.int v4)]) rfl ?_
          refine ox_goto B 2 od_Mo_begins_41 rfl ?_
          cases h
          exact hG
        · rw [if_neg hc] at h
          refine ox_iconst B od_Mo_begins_36 oxk_i0 ?_
          cases h
          exact ox_iret B F od_Mo_begins_37 rfl rfl hG
  have t_2 : ∀ (x1 : Int32) (x2 : Int32) (x3 : Int32)  (t : Int32), om_Mo_begins_h2 x1 x2 x3 σ = some t → (fun t : Int32 => res = some (.int t) ∧ σ = σ) t → ox_M p l e rm_om_Mo_begins s m args below meth c (om_W D ad cI cC cZ A) 4 res σ 2 [some (.ref (ad 0)), some (.int x1), some (.int x2), some (.int x3)] [] σ := by
    intro x1 x2 x3  t h hG
    exact ox_w_run (fun t : Int32 => ox_M p l e rm_om_Mo_begins s m args below meth c (om_W D ad cI cC cZ A) 4 res σ 2 [some (.ref (ad 0)), some (.int x1), some (.int x2), some (.int t)] [] σ) (fun t : Int32 => res = some (.int t) ∧ σ = σ) (fun a t h hG => t_b2 x1 x2 a  t h hG) x3 t h hG
  change ox_M p l e rm_om_Mo_begins s m args below meth c (om_W D ad cI cC cZ A) 4 res σ 0 [some (.ref (ad 0)), some (.int x1), some (.int x2), none] [] σ
  unfold om_Mo_begins at h
  refine ox_iconst B od_Mo_begins_0 oxk_i0 ?_
  refine ox_istore_n B 3 od_Mo_begins_1 rfl (by decide) rfl (L2 := [some (.ref (ad 0)), some (.int x1), some (.int x2), some (.int (0 : Int32))]) rfl ?_
  exact (t_2 x1 x2 (0 : Int32) _ h hG)
abbrev rm_om_Mo_is : Room := { frames := 3, cells := 0, slots := 0, locals := 65 }
set_option maxRecDepth 100000 in
set_option maxHeartbeats 4000000 in
theorem ct_om_Mo_is {l : Launch} {D : va_G} {ad : Nat → Nat} {cI cC cZ : ClassId} {A : Nat → Prop} (hok : ox_ok (om_W D ad cI cC cZ A)) (x1 : Int32) (σ : ox_S) (t : Int32) (h : om_Mo_is x1 σ = some t) : Met l oy_Mo_is (Cond.code oy_Mo_is prog_11_method_8_code 2 (some .boolean) :: ox_ws) rm_om_Mo_is (ox_P (om_W D ad cI cC cZ A) [.ref (ad 0), .int x1] σ) (ox_Q (om_W D ad cI cC cZ A) (some (.int t)) σ) 0 0 A := by
  refine ox_met (ω := om_W D ad cI cC cZ A) (by decide) rfl hok (Nat.le_of_ble_eq_true rfl) ?_
  intro p e s m args below meth c B F
  generalize hres : (some (.int t) : Option Value) = res
  have hG : (fun t : Int32 => res = some (.int t) ∧ σ = σ) t := ⟨hres.symm, rfl⟩
  change ox_M p l e rm_om_Mo_is s m args below meth c (om_W D ad cI cC cZ A) 2 res σ 0 [some (.ref (ad 0)), some (.int x1)] [] σ
  unfold om_Mo_is at h
  refine ox_aload_n B 0 od_Mo_is_0 rfl rfl ?_
  refine omg_Mo_112 B F od_Mo_is_1 ?_
  refine ox_aload_n B 0 od_Mo_is_4 rfl rfl ?_
  refine omg_Mo_118 B F od_Mo_is_5 ?_
  refine ox_icmp_le B 36 od_Mo_is_8 rfl (fun hc => ?_) (fun hc => ?_)
  · rw [if_pos hc] at h
    refine ox_iconst B od_Mo_is_36 oxk_i0 ?_
    cases h
    exact ox_iret B F od_Mo_is_37 rfl (ox_nz (Or.inl rfl)) hG
  · rw [if_neg hc] at h
    refine ox_aload_n B 0 od_Mo_is_11 rfl rfl ?_
    refine ox_iload_n B 1 od_Mo_is_12 rfl rfl ?_
    refine ox_aload_n B 0 od_Mo_is_13 rfl rfl ?_
    refine omg_Mo_118 B F od_Mo_is_14 ?_
    obtain ⟨r1, hr1, h⟩ := ox_bind h
    refine omc_Mo_125 B F od_Mo_is_17 (As := [.int x1, .int (σ.1 6)]) (rest := []) (st2 := [.int r1]) (ct_om_Mo_begins hok x1 (σ.1 6) σ _ hr1) ⟨rfl, rfl, Nat.le_of_ble_eq_true rfl, Nat.le_of_ble_eq_true rfl⟩ rfl (Nat.le_of_ble_eq_true rfl) rfl rfl ?_
    refine ox_aload_n B 0 od_Mo_is_20 rfl rfl ?_
    refine omg_Mo_112 B F od_Mo_is_21 ?_
    refine ox_aload_n B 0 od_Mo_is_24 rfl rfl ?_
    refine omg_Mo_118 B F od_Mo_is_25 ?_
    refine ox_isub B od_Mo_is_28 ?_
    refine ox_icmp_ne B 36 od_Mo_is_29 rfl (fun hc => ?_) (fun hc => ?_)
    · rw [if_neg hc] at h
      refine ox_iconst B od_Mo_is_36 oxk_i0 ?_
      cases h
      exact ox_iret B F od_Mo_is_37 rfl (ox_nz (Or.inl rfl)) hG
    · rw [if_pos hc] at h
      refine ox_iconst B od_Mo_is_32 oxk_i1 ?_
      refine ox_goto B 37 od_Mo_is_33 rfl ?_
      cases h
      exact ox_iret B F od_Mo_is_37 rfl (ox_nz (Or.inr rfl)) hG
abbrev rm_om_Mo_choice : Room := { frames := 4, cells := 0, slots := 0, locals := 86 }
set_option maxRecDepth 100000 in
set_option maxHeartbeats 4000000 in
theorem ct_om_Mo_choice {l : Launch} {D : va_G} {ad : Nat → Nat} {cI cC cZ : ClassId} {A : Nat → Prop} (hok : ox_ok (om_W D ad cI cC cZ A)) (x1 : Int32) (x2 : Int32) (σ : ox_S) (t : (Int32 × ox_S)) (h : om_Mo_choice x1 x2 σ = some t) : Met l oy_Mo_choice (Cond.code oy_Mo_choice prog_11_method_12_code 6 (some .int) :: ox_ws) rm_om_Mo_choice (ox_P (om_W D ad cI cC cZ A) [.ref (ad 0), .int x1, .int x2] σ) (ox_Q (om_W D ad cI cC cZ A) (some (.int t.1)) t.2) 0 0 A := by
  refine ox_met (ω := om_W D ad cI cC cZ A) (by decide) rfl hok (Nat.le_of_ble_eq_true rfl) ?_
  intro p e s m args below meth c B F
  generalize hres : (some (.int t.1) : Option Value) = res
  generalize hσf : t.2 = σf
  have hG : (fun t : (Int32 × ox_S) => res = some (.int t.1) ∧ σf = t.2) t := ⟨hres.symm, hσf.symm⟩
  have t_b11 : ∀ (x2 : Int32) (x3 : Int32) (x4 : Int32) (x5 : Int32) (σ : ox_S) (t : ((Int32 × Int32) ⊕ (Int32 × ox_S))), om_Mo_choice_b11 x2 x3 x4 x5 σ = some t → (ox_G (fun t : (Int32 × Int32) => ox_M p l e rm_om_Mo_choice s m args below meth c (om_W D ad cI cC cZ A) 6 res σf 11 [some (.ref (ad 0)), none, some (.int x2), some (.int x3), some (.int t.1), some (.int t.2)] [] σ) (fun t : (Int32 × ox_S) => res = some (.int t.1) ∧ σf = t.2)) t → ox_M p l e rm_om_Mo_choice s m args below meth c (om_W D ad cI cC cZ A) 6 res σf 11 [some (.ref (ad 0)), none, some (.int x2), some (.int x3), some (.int x4), some (.int x5)] [] σ := by
    intro x2 x3 x4 x5 σ t h hG
    unfold om_Mo_choice_b11 at h
    refine ox_iload B od_Mo_choice_11 rfl ?_
    refine ox_iload_n B 2 od_Mo_choice_13 rfl rfl ?_
    refine ox_icmp_gt B 45 od_Mo_choice_14 rfl (fun hc => ?_) (fun hc => ?_)
    · rw [if_pos hc] at h
      refine ox_aload_n B 0 od_Mo_choice_45 rfl rfl ?_
      obtain ⟨r3, s4, hr3, h⟩ := ox_b2_some h
      refine omc_Mo_136 B F od_Mo_choice_46 (As := []) (rest := []) (st2 := [.int r3]) (ct_om_Mo_noMore hok σ _ hr3) ⟨rfl, rfl, Nat.le_of_ble_eq_true rfl, Nat.le_of_ble_eq_true rfl⟩ rfl (Nat.le_of_ble_eq_true rfl) rfl rfl ?_
      refine ox_if_eq B 57 od_Mo_choice_49 rfl (fun hc => ?_) (fun hc => ?_)
      · rw [if_pos hc] at h
        refine ox_iconst B od_Mo_choice_57 oxk_im1 ?_
        cases h
        exact ox_iret B F od_Mo_choice_58 rfl rfl hG
      · rw [if_neg hc] at h
        refine ox_iload B od_Mo_choice_52 rfl ?_
        refine ox_goto B 58 od_Mo_choice_54 rfl ?_
        cases h
        exact ox_iret B F od_Mo_choice_58 rfl rfl hG
    · rw [if_neg hc] at h
      refine ox_iload_n B 3 od_Mo_choice_17 rfl rfl ?_
      refine ox_if_eq B 45 od_Mo_choice_18 rfl (fun hc => ?_) (fun hc => ?_)
      · rw [if_pos hc] at h
        refine ox_aload_n B 0 od_Mo_choice_45 rfl rfl ?_
        obtain ⟨r5, s6, hr5, h⟩ := ox_b2_some h
        refine omc_Mo_136 B F od_Mo_choice_46 (As := []) (rest := []) (st2 := [.int r5]) (ct_om_Mo_noMore hok σ _ hr5) ⟨rfl, rfl, Nat.le_of_ble_eq_true rfl, Nat.le_of_ble_eq_true rfl⟩ rfl (Nat.le_of_ble_eq_true rfl) rfl rfl ?_
        refine ox_if_eq B 57 od_Mo_choice_49 rfl (fun hc => ?_) (fun hc => ?_)
        · rw [if_pos hc] at h
          refine ox_iconst B od_Mo_choice_57 oxk_im1 ?_
          cases h
          exact ox_iret B F od_Mo_choice_58 rfl rfl hG
        · rw [if_neg hc] at h
          refine ox_iload B od_Mo_choice_52 rfl ?_
          refine ox_goto B 58 od_Mo_choice_54 rfl ?_
          cases h
          exact ox_iret B F od_Mo_choice_58 rfl rfl hG
      · rw [if_neg hc] at h
        refine ox_aload_n B 0 od_Mo_choice_21 rfl rfl ?_
        refine ox_iload B od_Mo_choice_22 rfl ?_
        obtain ⟨r7, hr7, h⟩ := ox_bind h
        refine omc_Mo_132 B F od_Mo_choice_24 (As := [.int x5]) (rest := []) (st2 := [.int r7]) (ct_om_Mo_is hok x5 σ _ hr7) ⟨rfl, rfl, Nat.le_of_ble_eq_true rfl, Nat.le_of_ble_eq_true rfl⟩ rfl (Nat.le_of_ble_eq_true rfl) rfl rfl ?_
        refine ox_if_eq B 35 od_Mo_choice_27 rfl (fun hc => ?_) (fun hc => ?_)
        · rw [if_pos hc] at h
          refine ox_iload B od_Mo_choice_35 rfl ?_
          refine ox_istore B od_Mo_choice_37 (by decide) rfl (L2 := [some (.ref (ad 0)), none, some (.int x2), some (.int x3), some (.int x4), some (.int x5)]) rfl ?_
          obtain ⟨v8, ev8, h⟩ := ox_let_some h
          refine ox_iinc B od_Mo_choice_39 rfl ((congrArg (x5 + ·) oxk_i1).trans ev8.symm) (by decide) rfl (L2 := [some (.ref (ad 0)), none, some (.int x2), some (.int x3), some (.int x4), some (.int v8)]) rfl ?_
          refine ox_goto B 11 od_Mo_choice_42 rfl ?_
          cases h
          exact hG
        · rw [if_neg hc] at h
          refine ox_iload B od_Mo_choice_30 rfl ?_
          refine ox_goto B 37 od_Mo_choice_32 rfl ?_
          refine ox_istore B od_Mo_choice_37 (by decide) rfl (L2 := [some (.ref (ad 0)), none, some (.int x2), some (.int x3), some (.int x5), some (.int x5)]) rfl ?_
          obtain ⟨v9, ev9, h⟩ := ox_let_some h
          refine ox_iinc B od_Mo_choice_39 rfl ((congrArg (x5 + ·) oxk_i1).trans ev9.symm) (by decide) rfl (L2 := [some (.ref (ad 0)), none, some (.int x2), some (.int x3), some (.int x5), some (.int v9)]) rfl ?_
          refine ox_goto B 11 od_Mo_choice_42 rfl ?_
          cases h
          exact hG
  have t_11 : ∀ (x2 : Int32) (x3 : Int32) (x4 : Int32) (x5 : Int32) (σ : ox_S) (t : (Int32 × ox_S)), om_Mo_choice_h11 x2 x3 x4 x5 σ = some t → (fun t : (Int32 × ox_S) => res = some (.int t.1) ∧ σf = t.2) t → ox_M p l e rm_om_Mo_choice s m args below meth c (om_W D ad cI cC cZ A) 6 res σf 11 [some (.ref (ad 0)), none, some (.int x2), some (.int x3), some (.int x4), some (.int x5)] [] σ := by
    intro x2 x3 x4 x5 σ t h hG
    exact ox_w_run (fun t : (Int32 × Int32) => ox_M p l e rm_om_Mo_choice s m args below meth c (om_W D ad cI cC cZ A) 6 res σf 11 [some (.ref (ad 0)), none, some (.int x2), some (.int x3), some (.int t.1), some (.int t.2)] [] σ) (fun t : (Int32 × ox_S) => res = some (.int t.1) ∧ σf = t.2) (fun a t h hG => t_b11 x2 x3 a.1 a.2 σ t h hG) (x4, x5) t h hG
  change ox_M p l e rm_om_Mo_choice s m args below meth c (om_W D ad cI cC cZ A) 6 res σf 0 [some (.ref (ad 0)), some (.int x1), some (.int x2), none, none, none] [] σ
  unfold om_Mo_choice at h
  refine ox_aload_n B 0 od_Mo_choice_0 rfl rfl ?_
  obtain ⟨r1, s2, hr1, h⟩ := ox_b2_some h
  refine omc_Mo_128 B F od_Mo_choice_1 (As := []) (rest := []) (st2 := [.int r1]) (ct_om_Mo_word hok σ _ hr1) ⟨rfl, rfl, Nat.le_of_ble_eq_true rfl, Nat.le_of_ble_eq_true rfl⟩ rfl (Nat.le_of_ble_eq_true rfl) rfl rfl ?_
  refine ox_istore_n B 3 od_Mo_choice_4 rfl (by decide) rfl (L2 := [some (.ref (ad 0)), some (.int x1), some (.int x2), some (.int r1), none, none]) rfl ?_
  refine ox_iconst B od_Mo_choice_5 oxk_im1 ?_
  refine ox_istore B od_Mo_choice_6 (by decide) rfl (L2 := [some (.ref (ad 0)), some (.int x1), some (.int x2), some (.int r1), some (.int (-1 : Int32)), none]) rfl ?_
  refine ox_iload_n B 1 od_Mo_choice_8 rfl rfl ?_
  refine ox_istore B od_Mo_choice_9 (by decide) rfl (L2 := [some (.ref (ad 0)), some (.int x1), some (.int x2), some (.int r1), some (.int (-1 : Int32)), some (.int x1)]) rfl ?_
  exact (ox_mask [true, false, true, true, true, true] (t_11 x2 r1 (-1 : Int32) x1 s2 _ h hG))
abbrev rm_om_Mo_header : Room := { frames := 5, cells := 0, slots := 0, locals := 111 }
set_option maxRecDepth 100000 in
set_option maxHeartbeats 4000000 in
theorem ct_om_Mo_header {l : Launch} {D : va_G} {ad : Nat → Nat} {cI cC cZ : ClassId} {A : Nat → Prop} (hok : ox_ok (om_W D ad cI cC cZ A))  (σ : ox_S) (t : (Int32 × ox_S)) (h : om_Mo_header  σ = some t) : Met l oy_Mo_header (Cond.code oy_Mo_header prog_11_method_13_code 3 (some .boolean) :: ox_ws) rm_om_Mo_header (ox_P (om_W D ad cI cC cZ A) [.ref (ad 0)] σ) (ox_Q (om_W D ad cI cC cZ A) (some (.int t.1)) t.2) 0 0 A := by
  refine ox_met (ω := om_W D ad cI cC cZ A) (by decide) rfl hok (Nat.le_of_ble_eq_true rfl) ?_
  intro p e s m args below meth c B F
  generalize hres : (some (.int t.1) : Option Value) = res
  generalize hσf : t.2 = σf
  have hG : (fun t : (Int32 × ox_S) => res = some (.int t.1) ∧ σf = t.2) t := ⟨hres.symm, hσf.symm⟩
  have t_278 : ∀ (y0 : Int32) (σ : ox_S) (t : (Int32 × ox_S)), om_Mo_header_j278 y0 σ = some t → (fun t : (Int32 × ox_S) => res = some (.int t.1) ∧ σf = t.2) t → ox_M p l e rm_om_Mo_header s m args below meth c (om_W D ad cI cC cZ A) 3 res σf 278 [some (.ref (ad 0)), none, none] [.int y0, .ref (ad 0), .ref (ad 0)] σ := by
    intro y0 σ t h hG
    unfold om_Mo_header_j278 at h
    obtain ⟨r8, hr8, h⟩ := ox_bind h
    refine omc_Mo_132 B F od_Mo_header_278 (As := [.int y0]) (rest := [.ref (ad 0)]) (st2 := [.int r8, .ref (ad 0)]) (ct_om_Mo_is hok y0 σ _ hr8) ⟨rfl, rfl, Nat.le_of_ble_eq_true rfl, Nat.le_of_ble_eq_true rfl⟩ rfl (Nat.le_of_ble_eq_true rfl) rfl rfl ?_
    refine ox_if_eq B 295 od_Mo_header_281 rfl (fun hc => ?_) (fun hc => ?_)
    · rw [if_pos hc] at h
      refine ox_iconst B od_Mo_header_295 oxk_i0 ?_
      obtain ⟨s9, es9, h⟩ := ox_let_some h
      refine omp_Mo_158 B F od_Mo_header_296 (Or.inl rfl) es9 ?_
      refine ox_aload_n B 0 od_Mo_header_299 rfl rfl ?_
      refine omg_Mo_158 B F od_Mo_header_300 ?_
      obtain ⟨hz, h⟩ := ox_z_some h
      cases h
      exact ox_iret B F od_Mo_header_303 rfl (ox_nz hz) hG
    · rw [if_neg hc] at h
      refine ox_aload_n B 0 od_Mo_header_284 rfl rfl ?_
      obtain ⟨r10, s11, hr10, h⟩ := ox_b2_some h
      refine omc_Mo_136 B F od_Mo_header_285 (As := []) (rest := [.ref (ad 0)]) (st2 := [.int r10, .ref (ad 0)]) (ct_om_Mo_noMore hok σ _ hr10) ⟨rfl, rfl, Nat.le_of_ble_eq_true rfl, Nat.le_of_ble_eq_true rfl⟩ rfl (Nat.le_of_ble_eq_true rfl) rfl rfl ?_
      refine ox_if_eq B 295 od_Mo_header_288 rfl (fun hc => ?_) (fun hc => ?_)
      · rw [if_pos hc] at h
        refine ox_iconst B od_Mo_header_295 oxk_i0 ?_
        obtain ⟨s12, es12, h⟩ := ox_let_some h
        refine omp_Mo_158 B F od_Mo_header_296 (Or.inl rfl) es12 ?_
        refine ox_aload_n B 0 od_Mo_header_299 rfl rfl ?_
        refine omg_Mo_158 B F od_Mo_header_300 ?_
        obtain ⟨hz, h⟩ := ox_z_some h
        cases h
        exact ox_iret B F od_Mo_header_303 rfl (ox_nz hz) hG
      · rw [if_neg hc] at h
        refine ox_iconst B od_Mo_header_291 oxk_i1 ?_
        refine ox_goto B 296 od_Mo_header_292 rfl ?_
        obtain ⟨s13, es13, h⟩ := ox_let_some h
        refine omp_Mo_158 B F od_Mo_header_296 (Or.inr rfl) es13 ?_
        refine ox_aload_n B 0 od_Mo_header_299 rfl rfl ?_
        refine omg_Mo_158 B F od_Mo_header_300 ?_
        obtain ⟨hz, h⟩ := ox_z_some h
        cases h
        exact ox_iret B F od_Mo_header_303 rfl (ox_nz hz) hG
  have t_256 : ∀ (y0 : Int32) (σ : ox_S) (t : (Int32 × ox_S)), om_Mo_header_j256 y0 σ = some t → (fun t : (Int32 × ox_S) => res = some (.int t.1) ∧ σf = t.2) t → ox_M p l e rm_om_Mo_header s m args below meth c (om_W D ad cI cC cZ A) 3 res σf 256 [some (.ref (ad 0)), none, none] [.int y0] σ := by
    intro y0 σ t h hG
    unfold om_Mo_header_j256 at h
    refine ox_istore_n B 1 od_Mo_header_256 rfl (by decide) rfl (L2 := [some (.ref (ad 0)), some (.int y0), none]) rfl ?_
    refine ox_aload_n B 0 od_Mo_header_257 rfl rfl ?_
    refine ox_iload_n B 1 od_Mo_header_258 rfl rfl ?_
    refine ox_if_eq B 295 od_Mo_header_259 rfl (fun hc => ?_) (fun hc => ?_)
    · rw [if_pos hc] at h
      refine ox_iconst B od_Mo_header_295 oxk_i0 ?_
      obtain ⟨s7, es7, h⟩ := ox_let_some h
      refine omp_Mo_158 B F od_Mo_header_296 (Or.inl rfl) es7 ?_
      refine ox_aload_n B 0 od_Mo_header_299 rfl rfl ?_
      refine omg_Mo_158 B F od_Mo_header_300 ?_
      obtain ⟨hz, h⟩ := ox_z_some h
      cases h
      exact ox_iret B F od_Mo_header_303 rfl (ox_nz hz) hG
    · rw [if_neg hc] at h
      refine ox_aload_n B 0 od_Mo_header_262 rfl rfl ?_
      refine ox_aload_n B 0 od_Mo_header_263 rfl rfl ?_
      refine omg_Mo_149 B F od_Mo_header_264 ?_
      refine ox_iconst B od_Mo_header_267 oxk_i4 ?_
      refine ox_icmp_ne B 276 od_Mo_header_268 rfl (fun hc => ?_) (fun hc => ?_)
      · rw [if_neg hc] at h
        refine ox_bipush B od_Mo_header_276 oxk_b12 ?_
        exact (ox_mask [true, false, false] (t_278 (12 : Int32) σ _ h hG))
      · rw [if_pos hc] at h
        refine ox_bipush B od_Mo_header_271 oxk_b11 ?_
        refine ox_goto B 278 od_Mo_header_273 rfl ?_
        exact (ox_mask [true, false, false] (t_278 (11 : Int32) σ _ h hG))
  have t_192 : ∀ (y0 : Int32) (σ : ox_S) (t : (Int32 × ox_S)), om_Mo_header_j192 y0 σ = some t → (fun t : (Int32 × ox_S) => res = some (.int t.1) ∧ σf = t.2) t → ox_M p l e rm_om_Mo_header s m args below meth c (om_W D ad cI cC cZ A) 3 res σf 192 [some (.ref (ad 0)), none, none] [.int y0] σ := by
    intro y0 σ t h hG
    unfold om_Mo_header_j192 at h
    refine ox_istore_n B 1 od_Mo_header_192 rfl (by decide) rfl (L2 := [some (.ref (ad 0)), some (.int y0), none]) rfl ?_
    refine ox_aload_n B 0 od_Mo_header_193 rfl rfl ?_
    refine ox_aload_n B 0 od_Mo_header_194 rfl rfl ?_
    refine ox_bipush B od_Mo_header_195 oxk_b8 ?_
    refine ox_bipush B od_Mo_header_197 oxk_b10 ?_
    obtain ⟨r14, s15, hr14, h⟩ := ox_b2_some h
    refine omc_Mo_152 B F od_Mo_header_199 (As := [.int (8 : Int32), .int (10 : Int32)]) (rest := [.ref (ad 0)]) (st2 := [.int r14, .ref (ad 0)]) (ct_om_Mo_choice hok (8 : Int32) (10 : Int32) σ _ hr14) ⟨rfl, rfl, Nat.le_of_ble_eq_true rfl, Nat.le_of_ble_eq_true rfl⟩ rfl (Nat.le_of_ble_eq_true rfl) rfl rfl ?_
    obtain ⟨s16, es16, h⟩ := ox_let_some h
    refine omp_Mo_155 B F od_Mo_header_202 es16 ?_
    refine ox_iload_n B 1 od_Mo_header_205 rfl rfl ?_
    refine ox_if_eq B 220 od_Mo_header_206 rfl (fun hc => ?_) (fun hc => ?_)
    · rw [if_pos hc] at h
      refine ox_iconst B od_Mo_header_220 oxk_i0 ?_
      cases h
      exact ox_iret B F od_Mo_header_221 rfl (ox_nz (Or.inl rfl)) hG
    · rw [if_neg hc] at h
      refine ox_aload_n B 0 od_Mo_header_209 rfl rfl ?_
      refine omg_Mo_155 B F od_Mo_header_210 ?_
      refine ox_if_lt B 220 od_Mo_header_213 rfl (fun hc => ?_) (fun hc => ?_)
      · rw [if_pos hc] at h
        refine ox_iconst B od_Mo_header_220 oxk_i0 ?_
        cases h
        exact ox_iret B F od_Mo_header_221 rfl (ox_nz (Or.inl rfl)) hG
      · rw [if_neg hc] at h
        refine ox_iconst B od_Mo_header_216 oxk_i1 ?_
        refine ox_goto B 221 od_Mo_header_217 rfl ?_
        cases h
        exact ox_iret B F od_Mo_header_221 rfl (ox_nz (Or.inr rfl)) hG
  have t_135 : ∀ (y0 : Int32) (σ : ox_S) (t : (Int32 × ox_S)), om_Mo_header_j135 y0 σ = some t → (fun t : (Int32 × ox_S) => res = some (.int t.1) ∧ σf = t.2) t → ox_M p l e rm_om_Mo_header s m args below meth c (om_W D ad cI cC cZ A) 3 res σf 135 [some (.ref (ad 0)), none, none] [.int y0] σ := by
    intro y0 σ t h hG
    unfold om_Mo_header_j135 at h
    refine ox_istore_n B 1 od_Mo_header_135 rfl (by decide) rfl (L2 := [some (.ref (ad 0)), some (.int y0), none]) rfl ?_
    refine ox_aload_n B 0 od_Mo_header_136 rfl rfl ?_
    refine ox_aload_n B 0 od_Mo_header_137 rfl rfl ?_
    refine ox_iconst B od_Mo_header_138 oxk_i4 ?_
    refine ox_bipush B od_Mo_header_139 oxk_b7 ?_
    obtain ⟨r17, s18, hr17, h⟩ := ox_b2_some h
    refine omc_Mo_152 B F od_Mo_header_141 (As := [.int (4 : Int32), .int (7 : Int32)]) (rest := [.ref (ad 0)]) (st2 := [.int r17, .ref (ad 0)]) (ct_om_Mo_choice hok (4 : Int32) (7 : Int32) σ _ hr17) ⟨rfl, rfl, Nat.le_of_ble_eq_true rfl, Nat.le_of_ble_eq_true rfl⟩ rfl (Nat.le_of_ble_eq_true rfl) rfl rfl ?_
    obtain ⟨s19, es19, h⟩ := ox_let_some h
    refine omp_Mo_149 B F od_Mo_header_144 es19 ?_
    refine ox_iload_n B 1 od_Mo_header_147 rfl rfl ?_
    refine ox_if_eq B 162 od_Mo_header_148 rfl (fun hc => ?_) (fun hc => ?_)
    · rw [if_pos hc] at h
      refine ox_iconst B od_Mo_header_162 oxk_i0 ?_
      cases h
      exact ox_iret B F od_Mo_header_163 rfl (ox_nz (Or.inl rfl)) hG
    · rw [if_neg hc] at h
      refine ox_aload_n B 0 od_Mo_header_151 rfl rfl ?_
      refine omg_Mo_149 B F od_Mo_header_152 ?_
      refine ox_if_lt B 162 od_Mo_header_155 rfl (fun hc => ?_) (fun hc => ?_)
      · rw [if_pos hc] at h
        refine ox_iconst B od_Mo_header_162 oxk_i0 ?_
        cases h
        exact ox_iret B F od_Mo_header_163 rfl (ox_nz (Or.inl rfl)) hG
      · rw [if_neg hc] at h
        refine ox_iconst B od_Mo_header_158 oxk_i1 ?_
        refine ox_goto B 163 od_Mo_header_159 rfl ?_
        cases h
        exact ox_iret B F od_Mo_header_163 rfl (ox_nz (Or.inr rfl)) hG
  have t_84 : ∀ (x1 : Int32) (x2 : Int32) (y0 : Int32) (σ : ox_S) (t : (Int32 × ox_S)), om_Mo_header_j84 x1 x2 y0 σ = some t → (fun t : (Int32 × ox_S) => res = some (.int t.1) ∧ σf = t.2) t → ox_M p l e rm_om_Mo_header s m args below meth c (om_W D ad cI cC cZ A) 3 res σf 84 [some (.ref (ad 0)), some (.int x1), some (.int x2)] [.int y0, .ref (ad 0)] σ := by
    intro x1 x2 y0 σ t h hG
    unfold om_Mo_header_j84 at h
    obtain ⟨s20, es20, h⟩ := ox_let_some h
    refine omp_Mo_139 B F od_Mo_header_84 es20 ?_
    refine ox_iload_n B 1 od_Mo_header_87 rfl rfl ?_
    refine ox_if_eq B 113 od_Mo_header_88 rfl (fun hc => ?_) (fun hc => ?_)
    · rw [if_pos hc] at h
      refine ox_iconst B od_Mo_header_113 oxk_i0 ?_
      cases h
      exact ox_iret B F od_Mo_header_114 rfl (ox_nz (Or.inl rfl)) hG
    · rw [if_neg hc] at h
      refine ox_iload_n B 2 od_Mo_header_91 rfl rfl ?_
      refine ox_iconst B od_Mo_header_92 oxk_i3 ?_
      refine ox_icmp_lt B 113 od_Mo_header_93 rfl (fun hc => ?_) (fun hc => ?_)
      · rw [if_pos hc] at h
        refine ox_iconst B od_Mo_header_113 oxk_i0 ?_
        cases h
        exact ox_iret B F od_Mo_header_114 rfl (ox_nz (Or.inl rfl)) hG
      · rw [if_neg hc] at h
        refine ox_iload_n B 2 od_Mo_header_96 rfl rfl ?_
        refine ox_bipush B od_Mo_header_97 oxk_b8 ?_
        refine ox_icmp_gt B 113 od_Mo_header_99 rfl (fun hc => ?_) (fun hc => ?_)
        · rw [if_pos hc] at h
          refine ox_iconst B od_Mo_header_113 oxk_i0 ?_
          cases h
          exact ox_iret B F od_Mo_header_114 rfl (ox_nz (Or.inl rfl)) hG
        · rw [if_neg hc] at h
          refine ox_aload_n B 0 od_Mo_header_102 rfl rfl ?_
          obtain ⟨r21, s22, hr21, h⟩ := ox_b2_some h
          refine omc_Mo_136 B F od_Mo_header_103 (As := []) (rest := []) (st2 := [.int r21]) (ct_om_Mo_noMore hok s20 _ hr21) ⟨rfl, rfl, Nat.le_of_ble_eq_true rfl, Nat.le_of_ble_eq_true rfl⟩ rfl (Nat.le_of_ble_eq_true rfl) rfl rfl ?_
          refine ox_if_eq B 113 od_Mo_header_106 rfl (fun hc => ?_) (fun hc => ?_)
          · rw [if_pos hc] at h
            refine ox_iconst B od_Mo_header_113 oxk_i0 ?_
            cases h
            exact ox_iret B F od_Mo_header_114 rfl (ox_nz (Or.inl rfl)) hG
          · rw [if_neg hc] at h
            refine ox_iconst B od_Mo_header_109 oxk_i1 ?_
            refine ox_goto B 114 od_Mo_header_110 rfl ?_
            cases h
            exact ox_iret B F od_Mo_header_114 rfl (ox_nz (Or.inr rfl)) hG
  have t_57 : ∀ (y0 : Int32) (σ : ox_S) (t : (Int32 × ox_S)), om_Mo_header_j57 y0 σ = some t → (fun t : (Int32 × ox_S) => res = some (.int t.1) ∧ σf = t.2) t → ox_M p l e rm_om_Mo_header s m args below meth c (om_W D ad cI cC cZ A) 3 res σf 57 [some (.ref (ad 0)), none, none] [.int y0] σ := by
    intro y0 σ t h hG
    unfold om_Mo_header_j57 at h
    refine ox_istore_n B 1 od_Mo_header_57 rfl (by decide) rfl (L2 := [some (.ref (ad 0)), some (.int y0), none]) rfl ?_
    refine ox_iload_n B 1 od_Mo_header_58 rfl rfl ?_
    refine ox_if_eq B 69 od_Mo_header_59 rfl (fun hc => ?_) (fun hc => ?_)
    · rw [if_pos hc] at h
      refine ox_iconst B od_Mo_header_69 oxk_i0 ?_
      refine ox_istore_n B 2 od_Mo_header_70 rfl (by decide) rfl (L2 := [some (.ref (ad 0)), some (.int y0), some (.int (0 : Int32))]) rfl ?_
      refine ox_aload_n B 0 od_Mo_header_71 rfl rfl ?_
      refine ox_iload_n B 1 od_Mo_header_72 rfl rfl ?_
      refine ox_if_eq B 80 od_Mo_header_73 rfl (fun hc => ?_) (fun hc => ?_)
      · rw [if_pos hc] at h
        refine ox_aload_n B 0 od_Mo_header_80 rfl rfl ?_
        refine omg_Mo_139 B F od_Mo_header_81 ?_
        exact (t_84 y0 (0 : Int32) (σ.1 7) σ _ h hG)
      · rw [if_neg hc] at h
        refine ox_iload_n B 2 od_Mo_header_76 rfl rfl ?_
        refine ox_goto B 84 od_Mo_header_77 rfl ?_
        exact (t_84 y0 (0 : Int32) (0 : Int32) σ _ h hG)
    · rw [if_neg hc] at h
      refine ox_aload_n B 0 od_Mo_header_62 rfl rfl ?_
      obtain ⟨r23, hr23, h⟩ := ox_bind h
      refine omc_Mo_145 B F od_Mo_header_63 (As := []) (rest := []) (st2 := [.int r23]) (ct_om_Mo_number hok σ _ hr23) ⟨rfl, rfl, Nat.le_of_ble_eq_true rfl, Nat.le_of_ble_eq_true rfl⟩ rfl (Nat.le_of_ble_eq_true rfl) rfl rfl ?_
      refine ox_goto B 70 od_Mo_header_66 rfl ?_
      refine ox_istore_n B 2 od_Mo_header_70 rfl (by decide) rfl (L2 := [some (.ref (ad 0)), some (.int y0), some (.int r23)]) rfl ?_
      refine ox_aload_n B 0 od_Mo_header_71 rfl rfl ?_
      refine ox_iload_n B 1 od_Mo_header_72 rfl rfl ?_
      refine ox_if_eq B 80 od_Mo_header_73 rfl (fun hc => ?_) (fun hc => ?_)
      · rw [if_pos hc] at h
        refine ox_aload_n B 0 od_Mo_header_80 rfl rfl ?_
        refine omg_Mo_139 B F od_Mo_header_81 ?_
        exact (t_84 y0 r23 (σ.1 7) σ _ h hG)
      · rw [if_neg hc] at h
        refine ox_iload_n B 2 od_Mo_header_76 rfl rfl ?_
        refine ox_goto B 84 od_Mo_header_77 rfl ?_
        exact (t_84 y0 r23 r23 σ _ h hG)
  change ox_M p l e rm_om_Mo_header s m args below meth c (om_W D ad cI cC cZ A) 3 res σf 0 [some (.ref (ad 0)), none, none] [] σ
  unfold om_Mo_header at h
  refine ox_aload_n B 0 od_Mo_header_0 rfl rfl ?_
  refine ox_iconst B od_Mo_header_1 oxk_i0 ?_
  refine ox_aload_n B 0 od_Mo_header_2 rfl rfl ?_
  refine omg_Mo_112 B F od_Mo_header_3 ?_
  obtain ⟨r1, hr1, h⟩ := ox_bind h
  refine omc_Mo_125 B F od_Mo_header_6 (As := [.int (0 : Int32), .int (σ.1 4)]) (rest := []) (st2 := [.int r1]) (ct_om_Mo_begins hok (0 : Int32) (σ.1 4) σ _ hr1) ⟨rfl, rfl, Nat.le_of_ble_eq_true rfl, Nat.le_of_ble_eq_true rfl⟩ rfl (Nat.le_of_ble_eq_true rfl) rfl rfl ?_
  refine ox_if_le B 14 od_Mo_header_9 rfl (fun hc => ?_) (fun hc => ?_)
  · rw [if_pos hc] at h
    refine ox_aload_n B 0 od_Mo_header_14 rfl rfl ?_
    obtain ⟨r2, s3, hr2, h⟩ := ox_b2_some h
    refine omc_Mo_128 B F od_Mo_header_15 (As := []) (rest := []) (st2 := [.int r2]) (ct_om_Mo_word hok σ _ hr2) ⟨rfl, rfl, Nat.le_of_ble_eq_true rfl, Nat.le_of_ble_eq_true rfl⟩ rfl (Nat.le_of_ble_eq_true rfl) rfl rfl ?_
    refine ox_if_ne B 23 od_Mo_header_18 rfl (fun hc => ?_) (fun hc => ?_)
    · rw [if_neg hc] at h
      refine ox_aload_n B 0 od_Mo_header_23 rfl rfl ?_
      refine ox_iconst B od_Mo_header_24 oxk_i1 ?_
      obtain ⟨r4, hr4, h⟩ := ox_bind h
      refine omc_Mo_132 B F od_Mo_header_25 (As := [.int (1 : Int32)]) (rest := []) (st2 := [.int r4]) (ct_om_Mo_is hok (1 : Int32) s3 _ hr4) ⟨rfl, rfl, Nat.le_of_ble_eq_true rfl, Nat.le_of_ble_eq_true rfl⟩ rfl (Nat.le_of_ble_eq_true rfl) rfl rfl ?_
      refine ox_if_eq B 115 od_Mo_header_28 rfl (fun hc => ?_) (fun hc => ?_)
      · rw [if_pos hc] at h
        refine ox_aload_n B 0 od_Mo_header_115 rfl rfl ?_
        refine ox_iconst B od_Mo_header_116 oxk_i2 ?_
        obtain ⟨r5, hr5, h⟩ := ox_bind h
        refine omc_Mo_132 B F od_Mo_header_117 (As := [.int (2 : Int32)]) (rest := []) (st2 := [.int r5]) (ct_om_Mo_is hok (2 : Int32) s3 _ hr5) ⟨rfl, rfl, Nat.le_of_ble_eq_true rfl, Nat.le_of_ble_eq_true rfl⟩ rfl (Nat.le_of_ble_eq_true rfl) rfl rfl ?_
        refine ox_if_eq B 164 od_Mo_header_120 rfl (fun hc => ?_) (fun hc => ?_)
        · rw [if_pos hc] at h
          refine ox_aload_n B 0 od_Mo_header_164 rfl rfl ?_
          refine ox_iconst B od_Mo_header_165 oxk_i3 ?_
          obtain ⟨r6, hr6, h⟩ := ox_bind h
          refine omc_Mo_132 B F od_Mo_header_166 (As := [.int (3 : Int32)]) (rest := []) (st2 := [.int r6]) (ct_om_Mo_is hok (3 : Int32) s3 _ hr6) ⟨rfl, rfl, Nat.le_of_ble_eq_true rfl, Nat.le_of_ble_eq_true rfl⟩ rfl (Nat.le_of_ble_eq_true rfl) rfl rfl ?_
          refine ox_if_eq B 222 od_Mo_header_169 rfl (fun hc => ?_) (fun hc => ?_)
          · rw [if_pos hc] at h
            refine ox_aload_n B 0 od_Mo_header_222 rfl rfl ?_
            refine omg_Mo_139 B F od_Mo_header_223 ?_
            refine ox_if_le B 255 od_Mo_header_226 rfl (fun hc => ?_) (fun hc => ?_)
            · rw [if_pos hc] at h
              refine ox_iconst B od_Mo_header_255 oxk_i0 ?_
              exact (t_256 (0 : Int32) s3 _ h hG)
            · rw [if_neg hc] at h
              refine ox_aload_n B 0 od_Mo_header_229 rfl rfl ?_
              refine omg_Mo_149 B F od_Mo_header_230 ?_
              refine ox_if_lt B 255 od_Mo_header_233 rfl (fun hc => ?_) (fun hc => ?_)
              · rw [if_pos hc] at h
                refine ox_iconst B od_Mo_header_255 oxk_i0 ?_
                exact (t_256 (0 : Int32) s3 _ h hG)
              · rw [if_neg hc] at h
                refine ox_aload_n B 0 od_Mo_header_236 rfl rfl ?_
                refine omg_Mo_149 B F od_Mo_header_237 ?_
                refine ox_iconst B od_Mo_header_240 oxk_i4 ?_
                refine ox_icmp_gt B 251 od_Mo_header_241 rfl (fun hc => ?_) (fun hc => ?_)
                · rw [if_pos hc] at h
                  refine ox_iconst B od_Mo_header_251 oxk_i1 ?_
                  refine ox_goto B 256 od_Mo_header_252 rfl ?_
                  exact (t_256 (1 : Int32) s3 _ h hG)
                · rw [if_neg hc] at h
                  refine ox_aload_n B 0 od_Mo_header_244 rfl rfl ?_
                  refine omg_Mo_155 B F od_Mo_header_245 ?_
                  refine ox_if_lt B 255 od_Mo_header_248 rfl (fun hc => ?_) (fun hc => ?_)
                  · rw [if_pos hc] at h
                    refine ox_iconst B od_Mo_header_255 oxk_i0 ?_
                    exact (t_256 (0 : Int32) s3 _ h hG)
                  · rw [if_neg hc] at h
                    refine ox_iconst B od_Mo_header_251 oxk_i1 ?_
                    refine ox_goto B 256 od_Mo_header_252 rfl ?_
                    exact (t_256 (1 : Int32) s3 _ h hG)
          · rw [if_neg hc] at h
            refine ox_aload_n B 0 od_Mo_header_172 rfl rfl ?_
            refine omg_Mo_155 B F od_Mo_header_173 ?_
            refine ox_if_ge B 191 od_Mo_header_176 rfl (fun hc => ?_) (fun hc => ?_)
            · rw [if_pos hc] at h
              refine ox_iconst B od_Mo_header_191 oxk_i0 ?_
              exact (t_192 (0 : Int32) s3 _ h hG)
            · rw [if_neg hc] at h
              refine ox_aload_n B 0 od_Mo_header_179 rfl rfl ?_
              refine omg_Mo_149 B F od_Mo_header_180 ?_
              refine ox_iconst B od_Mo_header_183 oxk_i4 ?_
              refine ox_icmp_ne B 191 od_Mo_header_184 rfl (fun hc => ?_) (fun hc => ?_)
              · rw [if_neg hc] at h
                refine ox_iconst B od_Mo_header_191 oxk_i0 ?_
                exact (t_192 (0 : Int32) s3 _ h hG)
              · rw [if_pos hc] at h
                refine ox_iconst B od_Mo_header_187 oxk_i1 ?_
                refine ox_goto B 192 od_Mo_header_188 rfl ?_
                exact (t_192 (1 : Int32) s3 _ h hG)
        · rw [if_neg hc] at h
          refine ox_aload_n B 0 od_Mo_header_123 rfl rfl ?_
          refine omg_Mo_149 B F od_Mo_header_124 ?_
          refine ox_if_ge B 134 od_Mo_header_127 rfl (fun hc => ?_) (fun hc => ?_)
          · rw [if_pos hc] at h
            refine ox_iconst B od_Mo_header_134 oxk_i0 ?_
            exact (t_135 (0 : Int32) s3 _ h hG)
          · rw [if_neg hc] at h
            refine ox_iconst B od_Mo_header_130 oxk_i1 ?_
            refine ox_goto B 135 od_Mo_header_131 rfl ?_
            exact (t_135 (1 : Int32) s3 _ h hG)
      · rw [if_neg hc] at h
        refine ox_aload_n B 0 od_Mo_header_31 rfl rfl ?_
        refine omg_Mo_139 B F od_Mo_header_32 ?_
        refine ox_if_ne B 56 od_Mo_header_35 rfl (fun hc => ?_) (fun hc => ?_)
        · rw [if_neg hc] at h
          refine ox_iconst B od_Mo_header_56 oxk_i0 ?_
          exact (t_57 (0 : Int32) s3 _ h hG)
        · rw [if_pos hc] at h
          refine ox_aload_n B 0 od_Mo_header_38 rfl rfl ?_
          obtain ⟨r24, s25, hr24, h⟩ := ox_b2_some h
          refine omc_Mo_128 B F od_Mo_header_39 (As := []) (rest := []) (st2 := [.int r24]) (ct_om_Mo_word hok s3 _ hr24) ⟨rfl, rfl, Nat.le_of_ble_eq_true rfl, Nat.le_of_ble_eq_true rfl⟩ rfl (Nat.le_of_ble_eq_true rfl) rfl rfl ?_
          refine ox_if_eq B 56 od_Mo_header_42 rfl (fun hc => ?_) (fun hc => ?_)
          · rw [if_pos hc] at h
            refine ox_iconst B od_Mo_header_56 oxk_i0 ?_
            exact (t_57 (0 : Int32) s25 _ h hG)
          · rw [if_neg hc] at h
            refine ox_aload_n B 0 od_Mo_header_45 rfl rfl ?_
            obtain ⟨r26, hr26, h⟩ := ox_bind h
            refine omc_Mo_142 B F od_Mo_header_46 (As := []) (rest := []) (st2 := [.int r26]) (ct_om_Mo_isNumber hok s25 _ hr26) ⟨rfl, rfl, Nat.le_of_ble_eq_true rfl, Nat.le_of_ble_eq_true rfl⟩ rfl (Nat.le_of_ble_eq_true rfl) rfl rfl ?_
            refine ox_if_eq B 56 od_Mo_header_49 rfl (fun hc => ?_) (fun hc => ?_)
            · rw [if_pos hc] at h
              refine ox_iconst B od_Mo_header_56 oxk_i0 ?_
              exact (t_57 (0 : Int32) s25 _ h hG)
            · rw [if_neg hc] at h
              refine ox_iconst B od_Mo_header_52 oxk_i1 ?_
              refine ox_goto B 57 od_Mo_header_53 rfl ?_
              exact (t_57 (1 : Int32) s25 _ h hG)
    · rw [if_pos hc] at h
      refine ox_iconst B od_Mo_header_21 oxk_i0 ?_
      cases h
      exact ox_iret B F od_Mo_header_22 rfl (ox_nz (Or.inl rfl)) hG
  · rw [if_neg hc] at h
    refine ox_iconst B od_Mo_header_12 oxk_i1 ?_
    cases h
    exact ox_iret B F od_Mo_header_13 rfl (ox_nz (Or.inr rfl)) hG
abbrev rm_om_Mo_line : Room := { frames := 6, cells := 0, slots := 0, locals := 133 }
set_option maxRecDepth 100000 in
set_option maxHeartbeats 4000000 in
theorem ct_om_Mo_line {l : Launch} {D : va_G} {ad : Nat → Nat} {cI cC cZ : ClassId} {A : Nat → Prop} (hok : ox_ok (om_W D ad cI cC cZ A)) (x1 : Int32) (σ : ox_S) (t : (Int32 × ox_S)) (h : om_Mo_line x1 σ = some t) : Met l oy_Mo_line (Cond.code oy_Mo_line prog_11_method_19_code 3 (some .boolean) :: ox_ws) rm_om_Mo_line (ox_P (om_W D ad cI cC cZ A) [.ref (ad 0), .int x1] σ) (ox_Q (om_W D ad cI cC cZ A) (some (.int t.1)) t.2) 0 0 A := by
  refine ox_met (ω := om_W D ad cI cC cZ A) (by decide) rfl hok (Nat.le_of_ble_eq_true rfl) ?_
  intro p e s m args below meth c B F
  generalize hres : (some (.int t.1) : Option Value) = res
  generalize hσf : t.2 = σf
  have hG : (fun t : (Int32 × ox_S) => res = some (.int t.1) ∧ σf = t.2) t := ⟨hres.symm, hσf.symm⟩
  have t_65 : ∀ (x1 : Int32) (y0 : Int32) (σ : ox_S) (t : (Int32 × ox_S)), om_Mo_line_j65 x1 y0 σ = some t → (fun t : (Int32 × ox_S) => res = some (.int t.1) ∧ σf = t.2) t → ox_M p l e rm_om_Mo_line s m args below meth c (om_W D ad cI cC cZ A) 3 res σf 65 [some (.ref (ad 0)), some (.int x1), none] [.int y0] σ := by
    intro x1 y0 σ t h hG
    unfold om_Mo_line_j65 at h
    refine ox_istore_n B 2 od_Mo_line_65 rfl (by decide) rfl (L2 := [some (.ref (ad 0)), some (.int x1), some (.int y0)]) rfl ?_
    refine ox_aload_n B 0 od_Mo_line_66 rfl rfl ?_
    refine ox_iload_n B 2 od_Mo_line_67 rfl rfl ?_
    obtain ⟨hz, h⟩ := ox_z_some h
    obtain ⟨s9, es9, h⟩ := ox_let_some h
    refine omp_Mo_175 B F od_Mo_line_68 hz es9 ?_
    refine ox_aload_n B 0 od_Mo_line_71 rfl rfl ?_
    refine ox_iload_n B 1 od_Mo_line_72 rfl rfl ?_
    obtain ⟨s10, es10, h⟩ := ox_let_some h
    refine omp_Mo_112 B F od_Mo_line_73 es10 ?_
    refine ox_iload_n B 2 od_Mo_line_76 rfl rfl ?_
    refine ox_if_ne B 95 od_Mo_line_77 rfl (fun hc => ?_) (fun hc => ?_)
    · rw [if_neg hc] at h
      refine ox_iconst B od_Mo_line_95 oxk_i1 ?_
      refine ox_goto B 100 od_Mo_line_96 rfl ?_
      cases h
      exact ox_iret B F od_Mo_line_100 rfl (ox_nz (Or.inr rfl)) hG
    · rw [if_pos hc] at h
      refine ox_aload_n B 0 od_Mo_line_80 rfl rfl ?_
      refine omg_Mo_149 B F od_Mo_line_81 ?_
      refine ox_iconst B od_Mo_line_84 oxk_i4 ?_
      refine ox_icmp_ne B 99 od_Mo_line_85 rfl (fun hc => ?_) (fun hc => ?_)
      · rw [if_neg hc] at h
        refine ox_iconst B od_Mo_line_99 oxk_i0 ?_
        cases h
        exact ox_iret B F od_Mo_line_100 rfl (ox_nz (Or.inl rfl)) hG
      · rw [if_pos hc] at h
        refine ox_aload_n B 0 od_Mo_line_88 rfl rfl ?_
        obtain ⟨r11, s12, hr11, h⟩ := ox_b2_some h
        refine omc_Mo_136 B F od_Mo_line_89 (As := []) (rest := []) (st2 := [.int r11]) (ct_om_Mo_noMore hok s10 _ hr11) ⟨rfl, rfl, Nat.le_of_ble_eq_true rfl, Nat.le_of_ble_eq_true rfl⟩ rfl (Nat.le_of_ble_eq_true rfl) rfl rfl ?_
        refine ox_if_eq B 99 od_Mo_line_92 rfl (fun hc => ?_) (fun hc => ?_)
        · rw [if_pos hc] at h
          refine ox_iconst B od_Mo_line_99 oxk_i0 ?_
          cases h
          exact ox_iret B F od_Mo_line_100 rfl (ox_nz (Or.inl rfl)) hG
        · rw [if_neg hc] at h
          refine ox_iconst B od_Mo_line_95 oxk_i1 ?_
          refine ox_goto B 100 od_Mo_line_96 rfl ?_
          cases h
          exact ox_iret B F od_Mo_line_100 rfl (ox_nz (Or.inr rfl)) hG
  change ox_M p l e rm_om_Mo_line s m args below meth c (om_W D ad cI cC cZ A) 3 res σf 0 [some (.ref (ad 0)), some (.int x1), none] [] σ
  unfold om_Mo_line at h
  refine ox_aload_n B 0 od_Mo_line_0 rfl rfl ?_
  refine ox_iload_n B 1 od_Mo_line_1 rfl rfl ?_
  obtain ⟨s1, es1, h⟩ := ox_let_some h
  refine omp_Mo_112 B F od_Mo_line_2 es1 ?_
  refine ox_aload_n B 0 od_Mo_line_5 rfl rfl ?_
  refine omg_Mo_175 B F od_Mo_line_6 ?_
  refine ox_if_eq B 14 od_Mo_line_9 rfl (fun hc => ?_) (fun hc => ?_)
  · rw [if_pos hc] at h
    refine ox_aload_n B 0 od_Mo_line_14 rfl rfl ?_
    refine omg_Mo_158 B F od_Mo_line_15 ?_
    refine ox_if_ne B 26 od_Mo_line_18 rfl (fun hc => ?_) (fun hc => ?_)
    · rw [if_neg hc] at h
      refine ox_aload_n B 0 od_Mo_line_26 rfl rfl ?_
      refine omg_Mo_162 B F od_Mo_line_27 ?_
      refine ox_aload_n B 0 od_Mo_line_30 rfl rfl ?_
      obtain ⟨r2, hr2, h⟩ := ox_bind h
      refine omc_Mo_165 B F od_Mo_line_31 (As := []) (rest := [.int (s1.1 12)]) (st2 := [.int r2, .int (s1.1 12)]) (ct_om_Mo_due hok s1 _ hr2) ⟨rfl, rfl, Nat.le_of_ble_eq_true rfl, Nat.le_of_ble_eq_true rfl⟩ rfl (Nat.le_of_ble_eq_true rfl) rfl rfl ?_
      refine ox_icmp_ne B 101 od_Mo_line_34 rfl (fun hc => ?_) (fun hc => ?_)
      · rw [if_neg hc] at h
        refine ox_aload_n B 0 od_Mo_line_101 rfl rfl ?_
        refine omg_Mo_149 B F od_Mo_line_102 ?_
        refine ox_iconst B od_Mo_line_105 oxk_i4 ?_
        refine ox_icmp_ne B 116 od_Mo_line_106 rfl (fun hc => ?_) (fun hc => ?_)
        · rw [if_neg hc] at h
          refine ox_aload_n B 0 od_Mo_line_116 rfl rfl ?_
          obtain ⟨r3, s4, hr3, h⟩ := ox_b2_some h
          refine omc_Mo_184 B F od_Mo_line_117 (As := []) (rest := []) (st2 := [.int r3]) (ct_om_Mo_place hok s1 _ hr3) ⟨rfl, rfl, Nat.le_of_ble_eq_true rfl, Nat.le_of_ble_eq_true rfl⟩ rfl (Nat.le_of_ble_eq_true rfl) rfl rfl ?_
          obtain ⟨hz, h⟩ := ox_z_some h
          cases h
          exact ox_iret B F od_Mo_line_120 rfl (ox_nz hz) hG
        · rw [if_pos hc] at h
          refine ox_aload_n B 0 od_Mo_line_109 rfl rfl ?_
          obtain ⟨r5, s6, hr5, h⟩ := ox_b2_some h
          refine omc_Mo_181 B F od_Mo_line_110 (As := []) (rest := []) (st2 := [.int r5]) (ct_om_Mo_numbers hok s1 _ hr5) ⟨rfl, rfl, Nat.le_of_ble_eq_true rfl, Nat.le_of_ble_eq_true rfl⟩ rfl (Nat.le_of_ble_eq_true rfl) rfl rfl ?_
          refine ox_goto B 120 od_Mo_line_113 rfl ?_
          obtain ⟨hz, h⟩ := ox_z_some h
          cases h
          exact ox_iret B F od_Mo_line_120 rfl (ox_nz hz) hG
      · rw [if_pos hc] at h
        refine ox_aload_n B 0 od_Mo_line_37 rfl rfl ?_
        obtain ⟨r7, s8, hr7, h⟩ := ox_b2_some h
        refine omc_Mo_128 B F od_Mo_line_38 (As := []) (rest := []) (st2 := [.int r7]) (ct_om_Mo_word hok s1 _ hr7) ⟨rfl, rfl, Nat.le_of_ble_eq_true rfl, Nat.le_of_ble_eq_true rfl⟩ rfl (Nat.le_of_ble_eq_true rfl) rfl rfl ?_
        refine ox_if_eq B 64 od_Mo_line_41 rfl (fun hc => ?_) (fun hc => ?_)
        · rw [if_pos hc] at h
          refine ox_iconst B od_Mo_line_64 oxk_i0 ?_
          exact (t_65 x1 (0 : Int32) s8 _ h hG)
        · rw [if_neg hc] at h
          refine ox_aload_n B 0 od_Mo_line_44 rfl rfl ?_
          refine ox_bipush B od_Mo_line_45 oxk_b13 ?_
          obtain ⟨r13, hr13, h⟩ := ox_bind h
          refine omc_Mo_132 B F od_Mo_line_47 (As := [.int (13 : Int32)]) (rest := []) (st2 := [.int r13]) (ct_om_Mo_is hok (13 : Int32) s8 _ hr13) ⟨rfl, rfl, Nat.le_of_ble_eq_true rfl, Nat.le_of_ble_eq_true rfl⟩ rfl (Nat.le_of_ble_eq_true rfl) rfl rfl ?_
          refine ox_if_eq B 64 od_Mo_line_50 rfl (fun hc => ?_) (fun hc => ?_)
          · rw [if_pos hc] at h
            refine ox_iconst B od_Mo_line_64 oxk_i0 ?_
            exact (t_65 x1 (0 : Int32) s8 _ h hG)
          · rw [if_neg hc] at h
            refine ox_aload_n B 0 od_Mo_line_53 rfl rfl ?_
            obtain ⟨r14, s15, hr14, h⟩ := ox_b2_some h
            refine omc_Mo_136 B F od_Mo_line_54 (As := []) (rest := []) (st2 := [.int r14]) (ct_om_Mo_noMore hok s8 _ hr14) ⟨rfl, rfl, Nat.le_of_ble_eq_true rfl, Nat.le_of_ble_eq_true rfl⟩ rfl (Nat.le_of_ble_eq_true rfl) rfl rfl ?_
            refine ox_if_eq B 64 od_Mo_line_57 rfl (fun hc => ?_) (fun hc => ?_)
            · rw [if_pos hc] at h
              refine ox_iconst B od_Mo_line_64 oxk_i0 ?_
              exact (t_65 x1 (0 : Int32) s15 _ h hG)
            · rw [if_neg hc] at h
              refine ox_iconst B od_Mo_line_60 oxk_i1 ?_
              refine ox_goto B 65 od_Mo_line_61 rfl ?_
              exact (t_65 x1 (1 : Int32) s15 _ h hG)
    · rw [if_pos hc] at h
      refine ox_aload_n B 0 od_Mo_line_21 rfl rfl ?_
      obtain ⟨r16, s17, hr16, h⟩ := ox_b2_some h
      refine omc_Mo_178 B F od_Mo_line_22 (As := []) (rest := []) (st2 := [.int r16]) (ct_om_Mo_header hok s1 _ hr16) ⟨rfl, rfl, Nat.le_of_ble_eq_true rfl, Nat.le_of_ble_eq_true rfl⟩ rfl (Nat.le_of_ble_eq_true rfl) rfl rfl ?_
      obtain ⟨hz, h⟩ := ox_z_some h
      cases h
      exact ox_iret B F od_Mo_line_25 rfl (ox_nz hz) hG
  · rw [if_neg hc] at h
    refine ox_iconst B od_Mo_line_12 oxk_i0 ?_
    cases h
    exact ox_iret B F od_Mo_line_13 rfl (ox_nz (Or.inl rfl)) hG
abbrev rm_om_Mo_load : Room := { frames := 7, cells := 0, slots := 0, locals := 155 }
set_option maxRecDepth 100000 in
set_option maxHeartbeats 4000000 in
theorem ct_om_Mo_load {l : Launch} {D : va_G} {ad : Nat → Nat} {cI cC cZ : ClassId} {A : Nat → Prop} (hok : ox_ok (om_W D ad cI cC cZ A))  (σ : ox_S) (t : (Int32 × ox_S)) (h : om_Mo_load  σ = some t) : Met l oy_Mo_load (Cond.code oy_Mo_load prog_11_method_22_code 3 (some .int) :: ox_ws) rm_om_Mo_load (ox_P (om_W D ad cI cC cZ A) [.ref (ad 0)] σ) (ox_Q (om_W D ad cI cC cZ A) (some (.int t.1)) t.2) 0 0 A := by
  refine ox_met (ω := om_W D ad cI cC cZ A) (by decide) rfl hok (Nat.le_of_ble_eq_true rfl) ?_
  intro p e s m args below meth c B F
  generalize hres : (some (.int t.1) : Option Value) = res
  generalize hσf : t.2 = σf
  have hG : (fun t : (Int32 × ox_S) => res = some (.int t.1) ∧ σf = t.2) t := ⟨hres.symm, hσf.symm⟩
  have t_85 : ∀ (x1 : Int32) (x2 : Int32) (σ : ox_S) (t : ((Int32 × Int32 × ox_S) ⊕ (Int32 × ox_S))), om_Mo_load_j85 x1 x2 σ = some t → (ox_G (fun t : (Int32 × Int32 × ox_S) => ox_M p l e rm_om_Mo_load s m args below meth c (om_W D ad cI cC cZ A) 3 res σf 34 [some (.ref (ad 0)), some (.int t.1), some (.int t.2.1)] [] t.2.2) (fun t : (Int32 × ox_S) => res = some (.int t.1) ∧ σf = t.2)) t → ox_M p l e rm_om_Mo_load s m args below meth c (om_W D ad cI cC cZ A) 3 res σf 85 [some (.ref (ad 0)), some (.int x1), some (.int x2)] [] σ := by
    intro x1 x2 σ t h hG
    unfold om_Mo_load_j85 at h
    refine ox_aload_n B 0 od_Mo_load_85 rfl rfl ?_
    refine omg_Mo_115 B F od_Mo_load_86 ?_
    refine ox_aload_n B 0 od_Mo_load_89 rfl rfl ?_
    refine omg_Mo_56 B F od_Mo_load_90 ?_
    refine ox_icmp_eq B 104 od_Mo_load_93 rfl (fun hc => ?_) (fun hc => ?_)
    · rw [if_pos hc] at h
      refine ox_iload_n B 1 od_Mo_load_104 rfl rfl ?_
      refine ox_ineg B od_Mo_load_105 ?_
      cases h
      exact ox_iret B F od_Mo_load_106 rfl rfl hG
    · rw [if_neg hc] at h
      refine ox_aload_n B 0 od_Mo_load_96 rfl rfl ?_
      refine ox_iload_n B 2 od_Mo_load_97 rfl rfl ?_
      obtain ⟨r9, s10, hr9, h⟩ := ox_b2_some h
      refine omc_Mo_199 B F od_Mo_load_98 (As := [.int x2]) (rest := []) (st2 := [.int r9]) (ct_om_Mo_line hok x2 σ _ hr9) ⟨rfl, rfl, Nat.le_of_ble_eq_true rfl, Nat.le_of_ble_eq_true rfl⟩ rfl (Nat.le_of_ble_eq_true rfl) rfl rfl ?_
      refine ox_if_ne B 107 od_Mo_load_101 rfl (fun hc => ?_) (fun hc => ?_)
      · rw [if_neg hc] at h
        refine ox_aload_n B 0 od_Mo_load_107 rfl rfl ?_
        refine omg_Mo_115 B F od_Mo_load_108 ?_
        refine ox_iconst B od_Mo_load_111 oxk_i1 ?_
        refine ox_iadd B od_Mo_load_112 ?_
        obtain ⟨v11, ev11, h⟩ := ox_let_some h
        refine ox_topi ev11 ?_
        refine ox_istore_n B 2 od_Mo_load_113 rfl (by decide) rfl (L2 := [some (.ref (ad 0)), some (.int x1), some (.int v11)]) rfl ?_
        obtain ⟨v12, ev12, h⟩ := ox_let_some h
        refine ox_iinc B od_Mo_load_114 rfl ((congrArg (x1 + ·) oxk_i1).trans ev12.symm) (by decide) rfl (L2 := [some (.ref (ad 0)), some (.int v12), some (.int v11)]) rfl ?_
        refine ox_goto B 34 od_Mo_load_117 rfl ?_
        cases h
        exact hG
      · rw [if_pos hc] at h
        refine ox_iload_n B 1 od_Mo_load_104 rfl rfl ?_
        refine ox_ineg B od_Mo_load_105 ?_
        cases h
        exact ox_iret B F od_Mo_load_106 rfl rfl hG
  have t_b47 : ∀ (x1 : Int32) (x2 : Int32) (σ : ox_S) (t : (ox_S ⊕ ((Int32 × Int32 × ox_S) ⊕ (Int32 × ox_S)))), om_Mo_load_b47 x1 x2 σ = some t → (ox_G (fun t : ox_S => ox_M p l e rm_om_Mo_load s m args below meth c (om_W D ad cI cC cZ A) 3 res σf 47 [some (.ref (ad 0)), some (.int x1), some (.int x2)] [] t) (ox_G (fun t : (Int32 × Int32 × ox_S) => ox_M p l e rm_om_Mo_load s m args below meth c (om_W D ad cI cC cZ A) 3 res σf 34 [some (.ref (ad 0)), some (.int t.1), some (.int t.2.1)] [] t.2.2) (fun t : (Int32 × ox_S) => res = some (.int t.1) ∧ σf = t.2))) t → ox_M p l e rm_om_Mo_load s m args below meth c (om_W D ad cI cC cZ A) 3 res σf 47 [some (.ref (ad 0)), some (.int x1), some (.int x2)] [] σ := by
    intro x1 x2 σ t h hG
    unfold om_Mo_load_b47 at h
    refine ox_aload_n B 0 od_Mo_load_47 rfl rfl ?_
    refine omg_Mo_115 B F od_Mo_load_48 ?_
    refine ox_aload_n B 0 od_Mo_load_51 rfl rfl ?_
    refine omg_Mo_56 B F od_Mo_load_52 ?_
    refine ox_icmp_ge B 85 od_Mo_load_55 rfl (fun hc => ?_) (fun hc => ?_)
    · rw [if_pos hc] at h
      obtain ⟨t', h', e'⟩ := ox_map h
      subst e'
      exact (t_85 x1 x2 σ _ h' hG)
    · rw [if_neg hc] at h
      refine ox_aload_n B 0 od_Mo_load_58 rfl rfl ?_
      refine omg_Mo_7 B F od_Mo_load_59 ?_
      refine ox_aload_n B 0 od_Mo_load_62 rfl rfl ?_
      refine omg_Mo_115 B F od_Mo_load_63 ?_
      obtain ⟨j13, ej13, hj13, h⟩ := ox_ix_some2 h
      refine omal_0 B F od_Mo_load_66 hj13 ej13 ?_
      refine ox_bipush B od_Mo_load_67 oxk_b10 ?_
      refine ox_icmp_eq B 85 od_Mo_load_69 rfl (fun hc => ?_) (fun hc => ?_)
      · rw [if_pos hc] at h
        obtain ⟨t', h', e'⟩ := ox_map h
        subst e'
        exact (t_85 x1 x2 σ _ h' hG)
      · rw [if_neg hc] at h
        refine ox_aload_n B 0 od_Mo_load_72 rfl rfl ?_
        refine ox_dup B od_Mo_load_73 rfl ?_
        refine omg_Mo_115 B F od_Mo_load_74 ?_
        refine ox_iconst B od_Mo_load_77 oxk_i1 ?_
        refine ox_iadd B od_Mo_load_78 ?_
        obtain ⟨s14, es14, h⟩ := ox_let_some h
        refine omp_Mo_115 B F od_Mo_load_79 es14 ?_
        refine ox_goto B 47 od_Mo_load_82 rfl ?_
        cases h
        exact hG
  have t_47 : ∀ (x1 : Int32) (x2 : Int32) (σ : ox_S) (t : ((Int32 × Int32 × ox_S) ⊕ (Int32 × ox_S))), om_Mo_load_h47 x1 x2 σ = some t → (ox_G (fun t : (Int32 × Int32 × ox_S) => ox_M p l e rm_om_Mo_load s m args below meth c (om_W D ad cI cC cZ A) 3 res σf 34 [some (.ref (ad 0)), some (.int t.1), some (.int t.2.1)] [] t.2.2) (fun t : (Int32 × ox_S) => res = some (.int t.1) ∧ σf = t.2)) t → ox_M p l e rm_om_Mo_load s m args below meth c (om_W D ad cI cC cZ A) 3 res σf 47 [some (.ref (ad 0)), some (.int x1), some (.int x2)] [] σ := by
    intro x1 x2 σ t h hG
    exact ox_w_run (fun t : ox_S => ox_M p l e rm_om_Mo_load s m args below meth c (om_W D ad cI cC cZ A) 3 res σf 47 [some (.ref (ad 0)), some (.int x1), some (.int x2)] [] t) (ox_G (fun t : (Int32 × Int32 × ox_S) => ox_M p l e rm_om_Mo_load s m args below meth c (om_W D ad cI cC cZ A) 3 res σf 34 [some (.ref (ad 0)), some (.int t.1), some (.int t.2.1)] [] t.2.2) (fun t : (Int32 × ox_S) => res = some (.int t.1) ∧ σf = t.2)) (fun a t h hG => t_b47 x1 x2 a t h hG) σ t h hG
  have t_b34 : ∀ (x1 : Int32) (x2 : Int32) (σ : ox_S) (t : ((Int32 × Int32 × ox_S) ⊕ (Int32 × ox_S))), om_Mo_load_b34 x1 x2 σ = some t → (ox_G (fun t : (Int32 × Int32 × ox_S) => ox_M p l e rm_om_Mo_load s m args below meth c (om_W D ad cI cC cZ A) 3 res σf 34 [some (.ref (ad 0)), some (.int t.1), some (.int t.2.1)] [] t.2.2) (fun t : (Int32 × ox_S) => res = some (.int t.1) ∧ σf = t.2)) t → ox_M p l e rm_om_Mo_load s m args below meth c (om_W D ad cI cC cZ A) 3 res σf 34 [some (.ref (ad 0)), some (.int x1), some (.int x2)] [] σ := by
    intro x1 x2 σ t h hG
    unfold om_Mo_load_b34 at h
    refine ox_iload_n B 2 od_Mo_load_34 rfl rfl ?_
    refine ox_aload_n B 0 od_Mo_load_35 rfl rfl ?_
    refine omg_Mo_56 B F od_Mo_load_36 ?_
    refine ox_icmp_ge B 120 od_Mo_load_39 rfl (fun hc => ?_) (fun hc => ?_)
    · rw [if_pos hc] at h
      refine ox_aload_n B 0 od_Mo_load_120 rfl rfl ?_
      refine omg_Mo_175 B F od_Mo_load_121 ?_
      refine ox_if_ne B 130 od_Mo_load_124 rfl (fun hc => ?_) (fun hc => ?_)
      · rw [if_neg hc] at h
        refine ox_aload_n B 0 od_Mo_load_130 rfl rfl ?_
        obtain ⟨s7, hs7, h⟩ := ox_bind h
        refine omc_Mo_202 B F od_Mo_load_131 (As := []) (rest := []) (st2 := []) (ct_om_Mo_adopt hok σ _ hs7) ⟨rfl, rfl, Nat.le_of_ble_eq_true rfl, Nat.le_of_ble_eq_true rfl⟩ rfl (Nat.le_of_ble_eq_true rfl) rfl rfl ?_
        refine ox_iconst B od_Mo_load_134 oxk_i0 ?_
        cases h
        exact ox_iret B F od_Mo_load_135 rfl rfl hG
      · rw [if_pos hc] at h
        refine ox_iload_n B 1 od_Mo_load_127 rfl rfl ?_
        refine ox_ineg B od_Mo_load_128 ?_
        cases h
        exact ox_iret B F od_Mo_load_129 rfl rfl hG
    · rw [if_neg hc] at h
      refine ox_aload_n B 0 od_Mo_load_42 rfl rfl ?_
      refine ox_iload_n B 2 od_Mo_load_43 rfl rfl ?_
      obtain ⟨s8, es8, h⟩ := ox_let_some h
      refine omp_Mo_115 B F od_Mo_load_44 es8 ?_
      exact (t_47 x1 x2 s8 _ h hG)
  have t_34 : ∀ (x1 : Int32) (x2 : Int32) (σ : ox_S) (t : (Int32 × ox_S)), om_Mo_load_h34 x1 x2 σ = some t → (fun t : (Int32 × ox_S) => res = some (.int t.1) ∧ σf = t.2) t → ox_M p l e rm_om_Mo_load s m args below meth c (om_W D ad cI cC cZ A) 3 res σf 34 [some (.ref (ad 0)), some (.int x1), some (.int x2)] [] σ := by
    intro x1 x2 σ t h hG
    exact ox_w_run (fun t : (Int32 × Int32 × ox_S) => ox_M p l e rm_om_Mo_load s m args below meth c (om_W D ad cI cC cZ A) 3 res σf 34 [some (.ref (ad 0)), some (.int t.1), some (.int t.2.1)] [] t.2.2) (fun t : (Int32 × ox_S) => res = some (.int t.1) ∧ σf = t.2) (fun a t h hG => t_b34 a.1 a.2.1 a.2.2 t h hG) (x1, x2, σ) t h hG
  change ox_M p l e rm_om_Mo_load s m args below meth c (om_W D ad cI cC cZ A) 3 res σf 0 [some (.ref (ad 0)), none, none] [] σ
  unfold om_Mo_load at h
  refine ox_aload_n B 0 od_Mo_load_0 rfl rfl ?_
  refine ox_iconst B od_Mo_load_1 oxk_i0 ?_
  obtain ⟨s1, es1, h⟩ := ox_let_some h
  refine omp_Mo_139 B F od_Mo_load_2 es1 ?_
  refine ox_aload_n B 0 od_Mo_load_5 rfl rfl ?_
  refine ox_iconst B od_Mo_load_6 oxk_im1 ?_
  obtain ⟨s2, es2, h⟩ := ox_let_some h
  refine omp_Mo_149 B F od_Mo_load_7 es2 ?_
  refine ox_aload_n B 0 od_Mo_load_10 rfl rfl ?_
  refine ox_iconst B od_Mo_load_11 oxk_im1 ?_
  obtain ⟨s3, es3, h⟩ := ox_let_some h
  refine omp_Mo_155 B F od_Mo_load_12 es3 ?_
  refine ox_aload_n B 0 od_Mo_load_15 rfl rfl ?_
  refine ox_iconst B od_Mo_load_16 oxk_i0 ?_
  obtain ⟨s4, es4, h⟩ := ox_let_some h
  refine omp_Mo_158 B F od_Mo_load_17 (Or.inl rfl) es4 ?_
  refine ox_aload_n B 0 od_Mo_load_20 rfl rfl ?_
  refine ox_iconst B od_Mo_load_21 oxk_i0 ?_
  obtain ⟨s5, es5, h⟩ := ox_let_some h
  refine omp_Mo_175 B F od_Mo_load_22 (Or.inl rfl) es5 ?_
  refine ox_aload_n B 0 od_Mo_load_25 rfl rfl ?_
  refine ox_iconst B od_Mo_load_26 oxk_i0 ?_
  obtain ⟨s6, es6, h⟩ := ox_let_some h
  refine omp_Mo_162 B F od_Mo_load_27 es6 ?_
  refine ox_iconst B od_Mo_load_30 oxk_i1 ?_
  refine ox_istore_n B 1 od_Mo_load_31 rfl (by decide) rfl (L2 := [some (.ref (ad 0)), some (.int (1 : Int32)), none]) rfl ?_
  refine ox_iconst B od_Mo_load_32 oxk_i0 ?_
  refine ox_istore_n B 2 od_Mo_load_33 rfl (by decide) rfl (L2 := [some (.ref (ad 0)), some (.int (1 : Int32)), some (.int (0 : Int32))]) rfl ?_
  exact (t_34 (1 : Int32) (0 : Int32) s6 _ h hG)
abbrev rm_om_Mo_size : Room := { frames := 0, cells := 0, slots := 0, locals := 0 }
set_option maxRecDepth 100000 in
set_option maxHeartbeats 4000000 in
theorem ct_om_Mo_size {l : Launch} {D : va_G} {ad : Nat → Nat} {cI cC cZ : ClassId} {A : Nat → Prop} (hok : ox_ok (om_W D ad cI cC cZ A))  (σ : ox_S) (t : Int32) (h : om_Mo_size  σ = some t) : Met l oy_Mo_size (Cond.code oy_Mo_size prog_11_method_23_code 1 (some .int) :: ox_ws) rm_om_Mo_size (ox_P (om_W D ad cI cC cZ A) [.ref (ad 0)] σ) (ox_Q (om_W D ad cI cC cZ A) (some (.int t)) σ) 0 0 A := by
  refine ox_met (ω := om_W D ad cI cC cZ A) (by decide) rfl hok (Nat.le_of_ble_eq_true rfl) ?_
  intro p e s m args below meth c B F
  generalize hres : (some (.int t) : Option Value) = res
  have hG : (fun t : Int32 => res = some (.int t) ∧ σ = σ) t := ⟨hres.symm, rfl⟩
  change ox_M p l e rm_om_Mo_size s m args below meth c (om_W D ad cI cC cZ A) 1 res σ 0 [some (.ref (ad 0))] [] σ
  unfold om_Mo_size at h
  refine ox_aload_n B 0 od_Mo_size_0 rfl rfl ?_
  refine omg_Mo_187 B F od_Mo_size_1 ?_
  cases h
  exact ox_iret B F od_Mo_size_4 rfl rfl hG
abbrev rm_om_Mo_city : Room := { frames := 0, cells := 0, slots := 0, locals := 0 }
set_option maxRecDepth 100000 in
set_option maxHeartbeats 4000000 in
theorem ct_om_Mo_city {l : Launch} {D : va_G} {ad : Nat → Nat} {cI cC cZ : ClassId} {A : Nat → Prop} (hok : ox_ok (om_W D ad cI cC cZ A)) (x1 : Int32) (σ : ox_S) (t : Int32) (h : om_Mo_city x1 σ = some t) : Met l oy_Mo_city (Cond.code oy_Mo_city prog_11_method_24_code 2 (some .boolean) :: ox_ws) rm_om_Mo_city (ox_P (om_W D ad cI cC cZ A) [.ref (ad 0), .int x1] σ) (ox_Q (om_W D ad cI cC cZ A) (some (.int t)) σ) 0 0 A := by
  refine ox_met (ω := om_W D ad cI cC cZ A) (by decide) rfl hok (Nat.le_of_ble_eq_true rfl) ?_
  intro p e s m args below meth c B F
  generalize hres : (some (.int t) : Option Value) = res
  have hG : (fun t : Int32 => res = some (.int t) ∧ σ = σ) t := ⟨hres.symm, rfl⟩
  change ox_M p l e rm_om_Mo_city s m args below meth c (om_W D ad cI cC cZ A) 2 res σ 0 [some (.ref (ad 0)), some (.int x1)] [] σ
  unfold om_Mo_city at h
  refine ox_iload_n B 1 od_Mo_city_0 rfl rfl ?_
  refine ox_if_lt B 16 od_Mo_city_1 rfl (fun hc => ?_) (fun hc => ?_)
  · rw [if_pos hc] at h
    refine ox_iconst B od_Mo_city_16 oxk_i0 ?_
    cases h
    exact ox_iret B F od_Mo_city_17 rfl (ox_nz (Or.inl rfl)) hG
  · rw [if_neg hc] at h
    refine ox_iload_n B 1 od_Mo_city_4 rfl rfl ?_
    refine ox_aload_n B 0 od_Mo_city_5 rfl rfl ?_
    refine omg_Mo_187 B F od_Mo_city_6 ?_
    refine ox_icmp_ge B 16 od_Mo_city_9 rfl (fun hc => ?_) (fun hc => ?_)
    · rw [if_pos hc] at h
      refine ox_iconst B od_Mo_city_16 oxk_i0 ?_
      cases h
      exact ox_iret B F od_Mo_city_17 rfl (ox_nz (Or.inl rfl)) hG
    · rw [if_neg hc] at h
      refine ox_iconst B od_Mo_city_12 oxk_i1 ?_
      refine ox_goto B 17 od_Mo_city_13 rfl ?_
      cases h
      exact ox_iret B F od_Mo_city_17 rfl (ox_nz (Or.inr rfl)) hG
abbrev rm_om_Mo_distance : Room := { frames := 1, cells := 0, slots := 0, locals := 21 }
set_option maxRecDepth 100000 in
set_option maxHeartbeats 4000000 in
theorem ct_om_Mo_distance {l : Launch} {D : va_G} {ad : Nat → Nat} {cI cC cZ : ClassId} {A : Nat → Prop} (hok : ox_ok (om_W D ad cI cC cZ A)) (x1 : Int32) (x2 : Int32) (σ : ox_S) (t : Int32) (h : om_Mo_distance x1 x2 σ = some t) : Met l oy_Mo_distance (Cond.code oy_Mo_distance prog_11_method_25_code 3 (some .int) :: ox_ws) rm_om_Mo_distance (ox_P (om_W D ad cI cC cZ A) [.ref (ad 0), .int x1, .int x2] σ) (ox_Q (om_W D ad cI cC cZ A) (some (.int t)) σ) 0 0 A := by
  refine ox_met (ω := om_W D ad cI cC cZ A) (by decide) rfl hok (Nat.le_of_ble_eq_true rfl) ?_
  intro p e s m args below meth c B F
  generalize hres : (some (.int t) : Option Value) = res
  have hG : (fun t : Int32 => res = some (.int t) ∧ σ = σ) t := ⟨hres.symm, rfl⟩
  change ox_M p l e rm_om_Mo_distance s m args below meth c (om_W D ad cI cC cZ A) 3 res σ 0 [some (.ref (ad 0)), some (.int x1), some (.int x2)] [] σ
  unfold om_Mo_distance at h
  refine ox_aload_n B 0 od_Mo_distance_0 rfl rfl ?_
  refine ox_iload_n B 1 od_Mo_distance_1 rfl rfl ?_
  obtain ⟨r1, hr1, h⟩ := ox_bind h
  refine omc_Mo_205 B F od_Mo_distance_2 (As := [.int x1]) (rest := []) (st2 := [.int r1]) (ct_om_Mo_city hok x1 σ _ hr1) ⟨rfl, rfl, Nat.le_of_ble_eq_true rfl, Nat.le_of_ble_eq_true rfl⟩ rfl (Nat.le_of_ble_eq_true rfl) rfl rfl ?_
  refine ox_if_eq B 30 od_Mo_distance_5 rfl (fun hc => ?_) (fun hc => ?_)
  · rw [if_pos hc] at h
    refine ox_iconst B od_Mo_distance_30 oxk_im1 ?_
    cases h
    exact ox_iret B F od_Mo_distance_31 rfl rfl hG
  · rw [if_neg hc] at h
    refine ox_aload_n B 0 od_Mo_distance_8 rfl rfl ?_
    refine ox_iload_n B 2 od_Mo_distance_9 rfl rfl ?_
    obtain ⟨r2, hr2, h⟩ := ox_bind h
    refine omc_Mo_205 B F od_Mo_distance_10 (As := [.int x2]) (rest := []) (st2 := [.int r2]) (ct_om_Mo_city hok x2 σ _ hr2) ⟨rfl, rfl, Nat.le_of_ble_eq_true rfl, Nat.le_of_ble_eq_true rfl⟩ rfl (Nat.le_of_ble_eq_true rfl) rfl rfl ?_
    refine ox_if_eq B 30 od_Mo_distance_13 rfl (fun hc => ?_) (fun hc => ?_)
    · rw [if_pos hc] at h
      refine ox_iconst B od_Mo_distance_30 oxk_im1 ?_
      cases h
      exact ox_iret B F od_Mo_distance_31 rfl rfl hG
    · rw [if_neg hc] at h
      refine ox_aload_n B 0 od_Mo_distance_16 rfl rfl ?_
      refine omg_Mo_13 B F od_Mo_distance_17 ?_
      refine ox_bipush B od_Mo_distance_20 oxk_b8 ?_
      refine ox_iload_n B 1 od_Mo_distance_22 rfl rfl ?_
      refine ox_imul B od_Mo_distance_23 ?_
      refine ox_iload_n B 2 od_Mo_distance_24 rfl rfl ?_
      refine ox_iadd B od_Mo_distance_25 ?_
      obtain ⟨j3, ej3, hj3, h⟩ := ox_ix_some2 h
      refine omal_1 B F od_Mo_distance_26 hj3 ej3 ?_
      refine ox_goto B 31 od_Mo_distance_27 rfl ?_
      cases h
      exact ox_iret B F od_Mo_distance_31 rfl rfl hG
