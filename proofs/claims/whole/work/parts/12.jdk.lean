theorem oc_slen_some {i : Nat} {r : Int32} (h : oc_slen i = some r) : i < oc_nS ∧ nI (oc_sl.getD i 0) = r := by
  unfold oc_slen at h
  by_cases hi : i < oc_nS
  · rw [if_pos hi] at h; exact ⟨hi, Option.some.inj h⟩
  · rw [if_neg hi] at h; cases h
theorem oc_schar_some {i : Nat} {x r : Int32} (h : oc_schar i x = some r) : i < oc_nS ∧ vp_in x (oc_sl.getD i 0) ∧ ((((oc_sb.getD i []).getD x.toNatClampNeg 0) &&& 255).toUInt32 % 65536).toInt32 = r := by
  unfold oc_schar at h
  by_cases hi : i < oc_nS
  · rw [if_pos hi] at h
    obtain ⟨h1, h2⟩ := ox_ix_some h
    exact ⟨hi, h1, Option.some.inj h2⟩
  · rw [if_neg hi] at h; cases h
theorem oc_sl_lt : ∀ i, i < oc_nS → oc_sl.getD i 0 < 100 := by decide
theorem ocj_in {i : Nat} (hi : i < oc_nS) {x : Int32} (hin : vp_in x (oc_sl.getD i 0)) : ¬ x < 0 ∧ x < nI (oc_sl.getD i 0) := by
  have h1 := oc_sl_lt i hi
  obtain ⟨j, hj, rfl⟩ := vp_in_of hin (by omega)
  exact ⟨nI_pos (by omega), nI_lt hj (by omega)⟩
/-! the JDK's methods -/
def oy_j_length : MethodName := ⟨"java/lang/String", "length", "()I"⟩
theorem od_j_length_0 : decode prog_13_method_54_code 0 = .ok (.aload_n 0, 1) := by decide +kernel
theorem od_j_length_1 : decode prog_13_method_54_code 1 = .ok (.getfield 9, 3) := by decide +kernel
theorem od_j_length_4 : decode prog_13_method_54_code 4 = .ok (.arraylength, 1) := by decide +kernel
theorem od_j_length_5 : decode prog_13_method_54_code 5 = .ok (.aload_n 0, 1) := by decide +kernel
theorem od_j_length_6 : decode prog_13_method_54_code 6 = .ok (.invokevirtual 335, 3) := by decide +kernel
theorem od_j_length_9 : decode prog_13_method_54_code 9 = .ok (.ishr, 1) := by decide +kernel
theorem od_j_length_10 : decode prog_13_method_54_code 10 = .ok (.ireturn, 1) := by decide +kernel
def oy_j_coder : MethodName := ⟨"java/lang/String", "coder", "()B"⟩
theorem od_j_coder_0 : decode prog_13_method_152_code 0 = .ok (.getstatic 38, 3) := by decide +kernel
theorem od_j_coder_3 : decode prog_13_method_152_code 3 = .ok (.ifCond .eq 10, 3) := by decide +kernel
theorem od_j_coder_6 : decode prog_13_method_152_code 6 = .ok (.aload_n 0, 1) := by decide +kernel
theorem od_j_coder_7 : decode prog_13_method_152_code 7 = .ok (.getfield 15, 3) := by decide +kernel
theorem od_j_coder_10 : decode prog_13_method_152_code 10 = .ok (.goto 4, 3) := by decide +kernel
theorem od_j_coder_14 : decode prog_13_method_152_code 14 = .ok (.ireturn, 1) := by decide +kernel
def oy_j_charAt : MethodName := ⟨"java/lang/String", "charAt", "(I)C"⟩
theorem od_j_charAt_0 : decode prog_13_method_56_code 0 = .ok (.aload_n 0, 1) := by decide +kernel
theorem od_j_charAt_1 : decode prog_13_method_56_code 1 = .ok (.invokevirtual 492, 3) := by decide +kernel
theorem od_j_charAt_4 : decode prog_13_method_56_code 4 = .ok (.ifCond .eq 12, 3) := by decide +kernel
theorem od_j_charAt_7 : decode prog_13_method_56_code 7 = .ok (.aload_n 0, 1) := by decide +kernel
theorem od_j_charAt_8 : decode prog_13_method_56_code 8 = .ok (.getfield 9, 3) := by decide +kernel
theorem od_j_charAt_11 : decode prog_13_method_56_code 11 = .ok (.iload_n 1, 1) := by decide +kernel
theorem od_j_charAt_12 : decode prog_13_method_56_code 12 = .ok (.invokestatic 495, 3) := by decide +kernel
theorem od_j_charAt_15 : decode prog_13_method_56_code 15 = .ok (.ireturn, 1) := by decide +kernel
def oy_j_isLatin1 : MethodName := ⟨"java/lang/String", "isLatin1", "()Z"⟩
theorem od_j_isLatin1_0 : decode prog_13_method_154_code 0 = .ok (.getstatic 38, 3) := by decide +kernel
theorem od_j_isLatin1_3 : decode prog_13_method_154_code 3 = .ok (.ifCond .eq 14, 3) := by decide +kernel
theorem od_j_isLatin1_6 : decode prog_13_method_154_code 6 = .ok (.aload_n 0, 1) := by decide +kernel
theorem od_j_isLatin1_7 : decode prog_13_method_154_code 7 = .ok (.getfield 15, 3) := by decide +kernel
theorem od_j_isLatin1_10 : decode prog_13_method_154_code 10 = .ok (.ifCond .ne 7, 3) := by decide +kernel
theorem od_j_isLatin1_13 : decode prog_13_method_154_code 13 = .ok (.iconst 1, 1) := by decide +kernel
theorem od_j_isLatin1_14 : decode prog_13_method_154_code 14 = .ok (.goto 4, 3) := by decide +kernel
theorem od_j_isLatin1_18 : decode prog_13_method_154_code 18 = .ok (.ireturn, 1) := by decide +kernel
def oy_j_check : MethodName := ⟨"java/lang/String", "checkIndex", "(II)V"⟩
theorem od_j_check_0 : decode prog_13_method_155_code 0 = .ok (.iload_n 0, 1) := by decide +kernel
theorem od_j_check_1 : decode prog_13_method_155_code 1 = .ok (.iload_n 1, 1) := by decide +kernel
theorem od_j_check_2 : decode prog_13_method_155_code 2 = .ok (.getstatic 1053, 3) := by decide +kernel
theorem od_j_check_5 : decode prog_13_method_155_code 5 = .ok (.invokestatic 1059, 3) := by decide +kernel
theorem od_j_check_8 : decode prog_13_method_155_code 8 = .ok (.pop, 1) := by decide +kernel
theorem od_j_check_9 : decode prog_13_method_155_code 9 = .ok (.return_, 1) := by decide +kernel
def oy_j_l1 : MethodName := ⟨"java/lang/StringLatin1", "charAt", "([BI)C"⟩
theorem od_j_l1_0 : decode prog_14_method_2_code 0 = .ok (.iload_n 1, 1) := by decide +kernel
theorem od_j_l1_1 : decode prog_14_method_2_code 1 = .ok (.aload_n 0, 1) := by decide +kernel
theorem od_j_l1_2 : decode prog_14_method_2_code 2 = .ok (.arraylength, 1) := by decide +kernel
theorem od_j_l1_3 : decode prog_14_method_2_code 3 = .ok (.invokestatic 9, 3) := by decide +kernel
theorem od_j_l1_6 : decode prog_14_method_2_code 6 = .ok (.aload_n 0, 1) := by decide +kernel
theorem od_j_l1_7 : decode prog_14_method_2_code 7 = .ok (.iload_n 1, 1) := by decide +kernel
theorem od_j_l1_8 : decode prog_14_method_2_code 8 = .ok (.baload, 1) := by decide +kernel
theorem od_j_l1_9 : decode prog_14_method_2_code 9 = .ok (.sipush 255, 3) := by decide +kernel
theorem od_j_l1_12 : decode prog_14_method_2_code 12 = .ok (.iand, 1) := by decide +kernel
theorem od_j_l1_13 : decode prog_14_method_2_code 13 = .ok (.i2c, 1) := by decide +kernel
theorem od_j_l1_14 : decode prog_14_method_2_code 14 = .ok (.ireturn, 1) := by decide +kernel
def oy_j_pre : MethodName := ⟨"jdk/internal/util/Preconditions", "checkIndex", "(IILjava/util/function/BiFunction;)I"⟩
theorem od_j_pre_0 : decode prog_18_method_11_code 0 = .ok (.iload_n 0, 1) := by decide +kernel
theorem od_j_pre_1 : decode prog_18_method_11_code 1 = .ok (.ifCond .lt 8, 3) := by decide +kernel
theorem od_j_pre_4 : decode prog_18_method_11_code 4 = .ok (.iload_n 0, 1) := by decide +kernel
theorem od_j_pre_5 : decode prog_18_method_11_code 5 = .ok (.iload_n 1, 1) := by decide +kernel
theorem od_j_pre_6 : decode prog_18_method_11_code 6 = .ok (.if_icmp .lt 10, 3) := by decide +kernel
theorem od_j_pre_16 : decode prog_18_method_11_code 16 = .ok (.iload_n 0, 1) := by decide +kernel
theorem od_j_pre_17 : decode prog_18_method_11_code 17 = .ok (.ireturn, 1) := by decide +kernel
def oy_j_fill : MethodName := ⟨"java/util/Arrays", "fill", "([II)V"⟩
theorem od_j_fill_0 : decode prog_17_method_103_code 0 = .ok (.iconst 0, 1) := by decide +kernel
theorem od_j_fill_1 : decode prog_17_method_103_code 1 = .ok (.istore_n 2, 1) := by decide +kernel
theorem od_j_fill_2 : decode prog_17_method_103_code 2 = .ok (.aload_n 0, 1) := by decide +kernel
theorem od_j_fill_3 : decode prog_17_method_103_code 3 = .ok (.arraylength, 1) := by decide +kernel
theorem od_j_fill_4 : decode prog_17_method_103_code 4 = .ok (.istore_n 3, 1) := by decide +kernel
theorem od_j_fill_5 : decode prog_17_method_103_code 5 = .ok (.iload_n 2, 1) := by decide +kernel
theorem od_j_fill_6 : decode prog_17_method_103_code 6 = .ok (.iload_n 3, 1) := by decide +kernel
theorem od_j_fill_7 : decode prog_17_method_103_code 7 = .ok (.if_icmp .ge 13, 3) := by decide +kernel
theorem od_j_fill_10 : decode prog_17_method_103_code 10 = .ok (.aload_n 0, 1) := by decide +kernel
theorem od_j_fill_11 : decode prog_17_method_103_code 11 = .ok (.iload_n 2, 1) := by decide +kernel
theorem od_j_fill_12 : decode prog_17_method_103_code 12 = .ok (.iload_n 1, 1) := by decide +kernel
theorem od_j_fill_13 : decode prog_17_method_103_code 13 = .ok (.iastore, 1) := by decide +kernel
theorem od_j_fill_14 : decode prog_17_method_103_code 14 = .ok (.iinc 2 1, 3) := by decide +kernel
theorem od_j_fill_17 : decode prog_17_method_103_code 17 = .ok (.goto (-12), 3) := by decide +kernel
theorem od_j_fill_20 : decode prog_17_method_103_code 20 = .ok (.return_, 1) := by decide +kernel
theorem ocj_val {p : Program} {l : Launch} {e : Env} {R : Room} {s : State} {m : MethodId} {args : Array Value} {below : List Frame} {meth : Method} {c : Code} {nL : Nat} {res : Option Value} {σf : ox_S} {cc : ByteArray} {ret : Option FieldType} {pc : Nat} {L : List (Option Value)} {st : List Value} {σ : ox_S} {D : va_G} {ad : Nat → Nat} {cI cC : ClassId} {A : Nat → Prop} {adK adV : Nat → Nat} (B : ox_B p s m args c nL cc "java/lang/String" ox_ws) (F : ox_F s meth (oc_W D ad cI cC A adK adV) ret) {i : Nat} (hi : i < oc_nS) (d : decode cc pc = .ok (.getfield 9, 3)) (k : ox_M p l e R s m args below meth c (oc_W D ad cI cC A adK adV) nL res σf (pc + 3) L (.ref (adV i) :: st) σ) : ox_M p l e R s m args below meth c (oc_W D ad cI cC A adK adV) nL res σf (pc) L (.ref (adK i) :: st) σ := fun ls H locs hl hP hS => vk_getf (o := "java/lang/String") B.hx B.hb ((F.hex.2.1.1 i hi).2.2.1) hS B.hown (B.hts _ (ox_t5 91 rfl rfl)) (fun _ h => h) d (k ls H locs hl hP hS)
theorem ocj_cod {p : Program} {l : Launch} {e : Env} {R : Room} {s : State} {m : MethodId} {args : Array Value} {below : List Frame} {meth : Method} {c : Code} {nL : Nat} {res : Option Value} {σf : ox_S} {cc : ByteArray} {ret : Option FieldType} {pc : Nat} {L : List (Option Value)} {st : List Value} {σ : ox_S} {D : va_G} {ad : Nat → Nat} {cI cC : ClassId} {A : Nat → Prop} {adK adV : Nat → Nat} (B : ox_B p s m args c nL cc "java/lang/String" ox_ws) (F : ox_F s meth (oc_W D ad cI cC A adK adV) ret) {i : Nat} (hi : i < oc_nS) (d : decode cc pc = .ok (.getfield 15, 3)) (k : ox_M p l e R s m args below meth c (oc_W D ad cI cC A adK adV) nL res σf (pc + 3) L (.int 0 :: st) σ) : ox_M p l e R s m args below meth c (oc_W D ad cI cC A adK adV) nL res σf (pc) L (.ref (adK i) :: st) σ := fun ls H locs hl hP hS => vk_getf (o := "java/lang/String") B.hx B.hb ((F.hex.2.1.1 i hi).2.1) hS B.hown (B.hts _ (ox_t5 92 rfl rfl)) (fun _ h => h) d (k ls H locs hl hP hS)
theorem ocj_cs {p : Program} {l : Launch} {e : Env} {R : Room} {s : State} {m : MethodId} {args : Array Value} {below : List Frame} {meth : Method} {c : Code} {nL : Nat} {res : Option Value} {σf : ox_S} {cc : ByteArray} {ret : Option FieldType} {pc : Nat} {L : List (Option Value)} {st : List Value} {σ : ox_S} {D : va_G} {ad : Nat → Nat} {cI cC : ClassId} {A : Nat → Prop} {adK adV : Nat → Nat} (B : ox_B p s m args c nL cc "java/lang/String" ox_ws) (F : ox_F s meth (oc_W D ad cI cC A adK adV) ret) (d : decode cc pc = .ok (.getstatic 38, 3)) (k : ox_M p l e R s m args below meth c (oc_W D ad cI cC A adK adV) nL res σf (pc + 3) L (.int 1 :: st) σ) : ox_M p l e R s m args below meth c (oc_W D ad cI cC A adK adV) nL res σf (pc) L (st) σ := fun ls H locs hl hP hS => va_gets B.hx B.hb F.hex.2.2.2.1 hS B.hown (B.hts _ (ox_t2 88 rfl rfl)) (fun _ h => h) d (k ls H locs hl hP hS)
theorem ocj_len {p : Program} {l : Launch} {e : Env} {R : Room} {s : State} {m : MethodId} {args : Array Value} {below : List Frame} {meth : Method} {c : Code} {nL : Nat} {res : Option Value} {σf : ox_S} {cc : ByteArray} {ret : Option FieldType} {pc : Nat} {L : List (Option Value)} {st : List Value} {σ : ox_S} {D : va_G} {ad : Nat → Nat} {cI cC : ClassId} {A : Nat → Prop} {adK adV : Nat → Nat} {own : String} (B : ox_B p s m args c nL cc own ox_ws) (F : ox_F s meth (oc_W D ad cI cC A adK adV) ret) {i : Nat} (hi : i < oc_nS) (d : decode cc pc = .ok (.arraylength, 1)) (k : ox_M p l e R s m args below meth c (oc_W D ad cI cC A adK adV) nL res σf (pc + 1) L (.int (nI (oc_sl.getD i 0)) :: st) σ) : ox_M p l e R s m args below meth c (oc_W D ad cI cC A adK adV) nL res σf (pc) L (.ref (adV i) :: st) σ := fun ls H locs hl hP hS => va_tlen B.hx B.hb ((F.hex.2.1.1 i hi).2.2.2) hS rfl d (k ls H locs hl hP hS)
theorem ocj_ald {p : Program} {l : Launch} {e : Env} {R : Room} {s : State} {m : MethodId} {args : Array Value} {below : List Frame} {meth : Method} {c : Code} {nL : Nat} {res : Option Value} {σf : ox_S} {cc : ByteArray} {ret : Option FieldType} {pc : Nat} {L : List (Option Value)} {st : List Value} {σ : ox_S} {D : va_G} {ad : Nat → Nat} {cI cC : ClassId} {A : Nat → Prop} {adK adV : Nat → Nat} {own : String} (B : ox_B p s m args c nL cc own ox_ws) (F : ox_F s meth (oc_W D ad cI cC A adK adV) ret) {i : Nat} (hi : i < oc_nS) {x : Int32} (hin : vp_in x (oc_sl.getD i 0)) (d : decode cc pc = .ok (.baload, 1)) (k : ox_M p l e R s m args below meth c (oc_W D ad cI cC A adK adV) nL res σf (pc + 1) L (.int ((oc_sb.getD i []).getD x.toNatClampNeg 0) :: st) σ) : ox_M p l e R s m args below meth c (oc_W D ad cI cC A adK adV) nL res σf (pc) L (.int x :: .ref (adV i) :: st) σ := fun ls H locs hl hP hS => va_tb B.hx B.hb ((F.hex.2.1.1 i hi).2.2.2) hS hin rfl d (k ls H locs hl hP hS)
theorem ocj_fm {p : Program} {l : Launch} {e : Env} {R : Room} {s : State} {m : MethodId} {args : Array Value} {below : List Frame} {meth : Method} {c : Code} {nL : Nat} {res : Option Value} {σf : ox_S} {cc : ByteArray} {ret : Option FieldType} {pc : Nat} {L : List (Option Value)} {st : List Value} {σ : ox_S} {D : va_G} {ad : Nat → Nat} {cI cC : ClassId} {A : Nat → Prop} {adK adV : Nat → Nat} (B : ox_B p s m args c nL cc "java/lang/String" ox_ws) (F : ox_F s meth (oc_W D ad cI cC A adK adV) ret) (d : decode cc pc = .ok (.getstatic 1053, 3)) (k : ∀ v : Value, (v = .null ∨ ∃ t, v = .ref t) → ox_M p l e R s m args below meth c (oc_W D ad cI cC A adK adV) nL res σf (pc + 3) L (v :: st) σ) : ox_M p l e R s m args below meth c (oc_W D ad cI cC A adK adV) nL res σf (pc) L (st) σ := fun ls H locs hl hP hS => by
  rcases F.hex.2.2.2.2 with h | ⟨t, h⟩
  · exact va_gets B.hx B.hb h hS B.hown (B.hts _ (ox_t2 108 rfl rfl)) (fun _ h => h) d (k .null (Or.inl rfl) ls H locs hl hP hS)
  · exact va_gets B.hx B.hb h hS B.hown (B.hts _ (ox_t2 108 rfl rfl)) (fun _ h => h) d (k (.ref t) (Or.inr ⟨t, rfl⟩) ls H locs hl hP hS)
theorem ocj_callV {p : Program} {l : Launch} {e : Env} {R : Room} {s : State} {m : MethodId} {args : Array Value} {below : List Frame} {meth : Method} {c : Code} {nL : Nat} {res : Option Value} {σf : ox_S} {cc : ByteArray} {ret : Option FieldType} {pc : Nat} {L : List (Option Value)} {st : List Value} {σ : ox_S} {D : va_G} {ad : Nat → Nat} {cI cC : ClassId} {A : Nat → Prop} {adK adV : Nat → Nat} {own : String} (B : ox_B p s m args c nL cc own ox_ws) (F : ox_F s meth (oc_W D ad cI cC A adK adV) ret) {y : MethodName} {bytes : ByteArray} {maxL n index : Nat} {rt : Option FieldType} {ws : List Cond} {rm : Room} {As rest : List Value} {r2 : Option Value} {σ2 : ox_S} {i : Nat} (hi : i < oc_nS) (d : decode cc pc = .ok (.invokevirtual index, 3)) (cw : CallW R s args own "java/lang/String" index y bytes maxL rt ws rm 0 0 n) (hM : Met l y ws rm (ox_P (oc_W D ad cI cC A adK adV) (.ref (adK i) :: As) σ) (ox_Q (oc_W D ad cI cC A adK adV) r2 σ2) 0 0 A) (hn : As.length = n) (hroom : (rest.map fun v => v.category).sum ≤ 8) (hst : st = As.reverse ++ .ref (adK i) :: rest) {st2 : List Value} (hst2 : r2.toList ++ rest = st2) (k : ox_M p l e R s m args below meth c (oc_W D ad cI cC A adK adV) nL res σf (pc + 3) L (st2) σ2) : ox_M p l e R s m args below meth c (oc_W D ad cI cC A adK adV) nL res σf (pc) L (st) σ := by
  refine ox_go (a := (Value.ref (adK i) :: As).toArray) (rest := rest) (fun ls H locs hl hP hS => ?_) (hst2 ▸ k)
  exact va_runV ⟨B.hx, B.hb, B.hml, B.hown, B.hts⟩ hM cw ⟨(ox_pre B F hP hS (.ref (adK i) :: As)).1, vk_recv F.hex.2.1 hi hS, (ox_pre B F hP hS (.ref (adK i) :: As)).2⟩ rfl hn hl.1 hst (lv_room hroom) d ⟨Nat.zero_le _, Nat.zero_le _⟩
abbrev rm_j_coder : Room := { frames := 0, cells := 0, slots := 0, locals := 0 }
abbrev rm_j_isLatin1 : Room := { frames := 0, cells := 0, slots := 0, locals := 0 }
abbrev rm_j_pre : Room := { frames := 0, cells := 0, slots := 0, locals := 0 }
abbrev rm_j_check : Room := { frames := 1, cells := 0, slots := 0, locals := 22 }
abbrev rm_j_l1 : Room := { frames := 2, cells := 0, slots := 0, locals := 43 }
abbrev rm_j_length : Room := { frames := 1, cells := 0, slots := 0, locals := 20 }
abbrev rm_j_charAt : Room := { frames := 3, cells := 0, slots := 0, locals := 64 }
abbrev rm_j_fill : Room := { frames := 0, cells := 0, slots := 0, locals := 0 }
set_option maxRecDepth 100000 in
set_option maxHeartbeats 4000000 in
theorem ct_j_coder {l : Launch} {D : va_G} {ad : Nat → Nat} {cI cC : ClassId} {A : Nat → Prop} {adK adV : Nat → Nat} (hok : ox_ok (oc_W D ad cI cC A adK adV)) {i : Nat} (hi : i < oc_nS) (σ : ox_S) : Met l oy_j_coder (Cond.code oy_j_coder prog_13_method_152_code 1 (some .byte) :: ox_ws) rm_j_coder (ox_P (oc_W D ad cI cC A adK adV) [.ref (adK i)] σ) (ox_Q (oc_W D ad cI cC A adK adV) (some (.int 0)) σ) 0 0 A := by
  refine ox_met (ω := oc_W D ad cI cC A adK adV) (by decide) rfl hok (Nat.le_of_ble_eq_true rfl) ?_
  intro p e s m args below meth c B F
  change ox_M p l e rm_j_coder s m args below meth c (oc_W D ad cI cC A adK adV) 1 (some (.int 0)) σ 0 [some (.ref (adK i))] [] σ
  refine ocj_cs B F od_j_coder_0 ?_
  refine ox_if_eq B 13 od_j_coder_3 rfl (fun h => absurd h (by decide)) (fun _ => ?_)
  refine ox_aload_n B 0 od_j_coder_6 rfl rfl ?_
  refine ocj_cod B F hi od_j_coder_7 ?_
  refine ox_goto B 14 od_j_coder_10 rfl ?_
  exact ox_iret B F od_j_coder_14 rfl rfl ⟨rfl, rfl⟩
set_option maxRecDepth 100000 in
set_option maxHeartbeats 4000000 in
theorem ct_j_isLatin1 {l : Launch} {D : va_G} {ad : Nat → Nat} {cI cC : ClassId} {A : Nat → Prop} {adK adV : Nat → Nat} (hok : ox_ok (oc_W D ad cI cC A adK adV)) {i : Nat} (hi : i < oc_nS) (σ : ox_S) : Met l oy_j_isLatin1 (Cond.code oy_j_isLatin1 prog_13_method_154_code 1 (some .boolean) :: ox_ws) rm_j_isLatin1 (ox_P (oc_W D ad cI cC A adK adV) [.ref (adK i)] σ) (ox_Q (oc_W D ad cI cC A adK adV) (some (.int 1)) σ) 0 0 A := by
  refine ox_met (ω := oc_W D ad cI cC A adK adV) (by decide) rfl hok (Nat.le_of_ble_eq_true rfl) ?_
  intro p e s m args below meth c B F
  change ox_M p l e rm_j_isLatin1 s m args below meth c (oc_W D ad cI cC A adK adV) 1 (some (.int 1)) σ 0 [some (.ref (adK i))] [] σ
  refine ocj_cs B F od_j_isLatin1_0 ?_
  refine ox_if_eq B 17 od_j_isLatin1_3 rfl (fun h => absurd h (by decide)) (fun _ => ?_)
  refine ox_aload_n B 0 od_j_isLatin1_6 rfl rfl ?_
  refine ocj_cod B F hi od_j_isLatin1_7 ?_
  refine ox_if_ne B 17 od_j_isLatin1_10 rfl (fun h => absurd rfl h) (fun _ => ?_)
  refine ox_iconst (v := (1 : Int32)) B od_j_isLatin1_13 (by decide) ?_
  refine ox_goto B 18 od_j_isLatin1_14 rfl ?_
  exact ox_iret B F od_j_isLatin1_18 rfl rfl ⟨rfl, rfl⟩
set_option maxRecDepth 100000 in
set_option maxHeartbeats 4000000 in
theorem ct_j_length {l : Launch} {D : va_G} {ad : Nat → Nat} {cI cC : ClassId} {A : Nat → Prop} {adK adV : Nat → Nat} (hok : ox_ok (oc_W D ad cI cC A adK adV)) {i : Nat} (hi : i < oc_nS) (σ : ox_S) : Met l oy_j_length (Cond.code oy_j_length prog_13_method_54_code 1 (some .int) :: ox_ws) rm_j_length (ox_P (oc_W D ad cI cC A adK adV) [.ref (adK i)] σ) (ox_Q (oc_W D ad cI cC A adK adV) (some (.int (nI (oc_sl.getD i 0)))) σ) 0 0 A := by
  refine ox_met (ω := oc_W D ad cI cC A adK adV) (by decide) rfl hok (Nat.le_of_ble_eq_true rfl) ?_
  intro p e s m args below meth c B F
  change ox_M p l e rm_j_length s m args below meth c (oc_W D ad cI cC A adK adV) 1 (some (.int (nI (oc_sl.getD i 0)))) σ 0 [some (.ref (adK i))] [] σ
  refine ox_aload_n B 0 od_j_length_0 rfl rfl ?_
  refine ocj_val B F hi od_j_length_1 ?_
  refine ocj_len B F hi od_j_length_4 ?_
  refine ox_aload_n B 0 od_j_length_5 rfl rfl ?_
  refine ocj_callV B F hi od_j_length_6 (ox_cwV 0 B.hts (ox_t2 87 rfl rfl) (ox_t1 12 rfl rfl) (ox_t2 84 rfl rfl) (ox_t2 85 rfl rfl) (ox_t2 86 rfl rfl) ⟨by decide, by decide, by decide +kernel⟩ ⟨rfl, rfl, Nat.le_of_ble_eq_true rfl, Nat.le_of_ble_eq_true rfl⟩) (ct_j_coder hok hi σ) rfl (rest := [.int (nI (oc_sl.getD i 0))]) (Nat.le_of_ble_eq_true rfl) rfl (st2 := [.int 0, .int (nI (oc_sl.getD i 0))]) rfl ?_
  refine ox_ishr B od_j_length_9 ?_
  refine ox_topi (sb_shr0 _).symm ?_
  exact ox_iret B F od_j_length_10 rfl rfl ⟨rfl, rfl⟩
set_option maxRecDepth 100000 in
set_option maxHeartbeats 4000000 in
theorem ct_j_pre {l : Launch} {D : va_G} {ad : Nat → Nat} {cI cC : ClassId} {A : Nat → Prop} {adK adV : Nat → Nat} (hok : ox_ok (oc_W D ad cI cC A adK adV)) {x n : Int32} {v : Value} (hv : v = .null ∨ ∃ t, v = .ref t) (h0 : ¬ x < 0) (h1 : x < n) (σ : ox_S) : Met l oy_j_pre (Cond.code oy_j_pre prog_18_method_11_code 3 (some .int) :: ox_ws) rm_j_pre (ox_P (oc_W D ad cI cC A adK adV) [.int x, .int n, v] σ) (ox_Q (oc_W D ad cI cC A adK adV) (some (.int x)) σ) 0 0 A := by
  have hc : v.category = 1 := by rcases hv with rfl | ⟨t, rfl⟩ <;> rfl
  have hsl : lg_sl [.int x, .int n, v] = [.val (.int x), .val (.int n), .val v] := by rcases hv with rfl | ⟨t, rfl⟩ <;> rfl
  refine ox_met (ω := oc_W D ad cI cC A adK adV) (by decide) rfl hok (by rw [hsl]; exact Nat.le_of_ble_eq_true rfl) ?_
  intro p e s m args below meth c B F
  have hl0 : ox_l0 [.int x, .int n, v] 3 = [some (.int x), some (.int n), some v] := by unfold ox_l0; rw [hsl]; rfl
  rw [hl0]
  refine ox_iload_n B 0 od_j_pre_0 rfl rfl ?_
  refine ox_if_lt B 9 od_j_pre_1 rfl (fun h => absurd h h0) (fun _ => ?_)
  refine ox_iload_n B 0 od_j_pre_4 rfl rfl ?_
  refine ox_iload_n B 1 od_j_pre_5 rfl rfl ?_
  refine ox_icmp_lt B 16 od_j_pre_6 rfl (fun _ => ?_) (fun h => absurd h1 h)
  refine ox_iload_n B 0 od_j_pre_16 rfl rfl ?_
  exact ox_iret B F od_j_pre_17 rfl rfl ⟨rfl, rfl⟩
set_option maxRecDepth 100000 in
set_option maxHeartbeats 4000000 in
theorem ct_j_check {l : Launch} {D : va_G} {ad : Nat → Nat} {cI cC : ClassId} {A : Nat → Prop} {adK adV : Nat → Nat} (hok : ox_ok (oc_W D ad cI cC A adK adV)) {x n : Int32} (h0 : ¬ x < 0) (h1 : x < n) (σ : ox_S) : Met l oy_j_check (Cond.code oy_j_check prog_13_method_155_code 2 none :: ox_ws) rm_j_check (ox_P (oc_W D ad cI cC A adK adV) [.int x, .int n] σ) (ox_Q (oc_W D ad cI cC A adK adV) none σ) 0 0 A := by
  refine ox_met (ω := oc_W D ad cI cC A adK adV) (by decide) rfl hok (Nat.le_of_ble_eq_true rfl) ?_
  intro p e s m args below meth c B F
  change ox_M p l e rm_j_check s m args below meth c (oc_W D ad cI cC A adK adV) 2 none σ 0 [some (.int x), some (.int n)] [] σ
  refine ox_iload_n B 0 od_j_check_0 rfl rfl ?_
  refine ox_iload_n B 1 od_j_check_1 rfl rfl ?_
  refine ocj_fm B F od_j_check_2 (fun v hv => ?_)
  refine ox_callS B F od_j_check_5 (ox_cwS 3 B.hts (ox_t2 112 rfl rfl) (ox_t1 14 rfl rfl) (ox_t2 110 rfl rfl) (ox_t2 111 rfl rfl) ⟨by decide, by decide, by decide +kernel⟩ ⟨rfl, rfl, Nat.le_of_ble_eq_true rfl, Nat.le_of_ble_eq_true rfl⟩) (ct_j_pre hok hv h0 h1 σ) rfl (rest := []) (Nat.le_of_ble_eq_true rfl) rfl (st2 := [.int x]) rfl ?_
  refine ox_pop B od_j_check_8 rfl ?_
  exact ox_vret B F od_j_check_9 rfl ⟨rfl, rfl⟩
set_option maxRecDepth 100000 in
set_option maxHeartbeats 4000000 in
theorem ct_j_l1 {l : Launch} {D : va_G} {ad : Nat → Nat} {cI cC : ClassId} {A : Nat → Prop} {adK adV : Nat → Nat} (hok : ox_ok (oc_W D ad cI cC A adK adV)) {i : Nat} (hi : i < oc_nS) {x : Int32} (hin : vp_in x (oc_sl.getD i 0)) (σ : ox_S) : Met l oy_j_l1 (Cond.code oy_j_l1 prog_14_method_2_code 2 (some .char) :: ox_ws) rm_j_l1 (ox_P (oc_W D ad cI cC A adK adV) [.ref (adV i), .int x] σ) (ox_Q (oc_W D ad cI cC A adK adV) (some (.int ((((oc_sb.getD i []).getD x.toNatClampNeg 0) &&& 255).toUInt32 % 65536).toInt32)) σ) 0 0 A := by
  refine ox_met (ω := oc_W D ad cI cC A adK adV) (by decide) rfl hok (Nat.le_of_ble_eq_true rfl) ?_
  intro p e s m args below meth c B F
  change ox_M p l e rm_j_l1 s m args below meth c (oc_W D ad cI cC A adK adV) 2 (some (.int ((((oc_sb.getD i []).getD x.toNatClampNeg 0) &&& 255).toUInt32 % 65536).toInt32)) σ 0 [some (.ref (adV i)), some (.int x)] [] σ
  obtain ⟨h0, h1⟩ := ocj_in hi hin
  refine ox_iload_n B 1 od_j_l1_0 rfl rfl ?_
  refine ox_aload_n B 0 od_j_l1_1 rfl rfl ?_
  refine ocj_len B F hi od_j_l1_2 ?_
  refine ox_callS B F od_j_l1_3 (ox_cwS 2 B.hts (ox_t2 107 rfl rfl) (ox_t1 12 rfl rfl) (ox_t2 105 rfl rfl) (ox_t2 106 rfl rfl) ⟨by decide, by decide, by decide +kernel⟩ ⟨rfl, rfl, Nat.le_of_ble_eq_true rfl, Nat.le_of_ble_eq_true rfl⟩) (ct_j_check hok h0 h1 σ) rfl (rest := []) (Nat.le_of_ble_eq_true rfl) rfl (st2 := []) rfl ?_
  refine ox_aload_n B 0 od_j_l1_6 rfl rfl ?_
  refine ox_iload_n B 1 od_j_l1_7 rfl rfl ?_
  refine ocj_ald B F hi hin od_j_l1_8 ?_
  refine ox_sipush (v := (255 : Int32)) B od_j_l1_9 (by decide) ?_
  refine ox_iand B od_j_l1_12 ?_
  refine ox_i2c B od_j_l1_13 ?_
  exact ox_iret B F od_j_l1_14 rfl (pk_nc _) ⟨rfl, rfl⟩
set_option maxRecDepth 100000 in
set_option maxHeartbeats 4000000 in
theorem ct_j_charAt {l : Launch} {D : va_G} {ad : Nat → Nat} {cI cC : ClassId} {A : Nat → Prop} {adK adV : Nat → Nat} (hok : ox_ok (oc_W D ad cI cC A adK adV)) {i : Nat} (hi : i < oc_nS) {x : Int32} (hin : vp_in x (oc_sl.getD i 0)) (σ : ox_S) : Met l oy_j_charAt (Cond.code oy_j_charAt prog_13_method_56_code 2 (some .char) :: ox_ws) rm_j_charAt (ox_P (oc_W D ad cI cC A adK adV) [.ref (adK i), .int x] σ) (ox_Q (oc_W D ad cI cC A adK adV) (some (.int ((((oc_sb.getD i []).getD x.toNatClampNeg 0) &&& 255).toUInt32 % 65536).toInt32)) σ) 0 0 A := by
  refine ox_met (ω := oc_W D ad cI cC A adK adV) (by decide) rfl hok (Nat.le_of_ble_eq_true rfl) ?_
  intro p e s m args below meth c B F
  change ox_M p l e rm_j_charAt s m args below meth c (oc_W D ad cI cC A adK adV) 2 (some (.int ((((oc_sb.getD i []).getD x.toNatClampNeg 0) &&& 255).toUInt32 % 65536).toInt32)) σ 0 [some (.ref (adK i)), some (.int x)] [] σ
  refine ox_aload_n B 0 od_j_charAt_0 rfl rfl ?_
  refine ocj_callV B F hi od_j_charAt_1 (ox_cwV 0 B.hts (ox_t2 101 rfl rfl) (ox_t1 12 rfl rfl) (ox_t2 98 rfl rfl) (ox_t2 99 rfl rfl) (ox_t2 100 rfl rfl) ⟨by decide, by decide, by decide +kernel⟩ ⟨rfl, rfl, Nat.le_of_ble_eq_true rfl, Nat.le_of_ble_eq_true rfl⟩) (ct_j_isLatin1 hok hi σ) rfl (rest := []) (Nat.le_of_ble_eq_true rfl) rfl (st2 := [.int 1]) rfl ?_
  refine ox_if_eq B 16 od_j_charAt_4 rfl (fun h => absurd h (by decide)) (fun _ => ?_)
  refine ox_aload_n B 0 od_j_charAt_7 rfl rfl ?_
  refine ocj_val B F hi od_j_charAt_8 ?_
  refine ox_iload_n B 1 od_j_charAt_11 rfl rfl ?_
  refine ox_callS B F od_j_charAt_12 (ox_cwS 2 B.hts (ox_t2 104 rfl rfl) (ox_t1 13 rfl rfl) (ox_t2 102 rfl rfl) (ox_t2 103 rfl rfl) ⟨by decide, by decide, by decide +kernel⟩ ⟨rfl, rfl, Nat.le_of_ble_eq_true rfl, Nat.le_of_ble_eq_true rfl⟩) (ct_j_l1 hok hi hin σ) rfl (rest := []) (Nat.le_of_ble_eq_true rfl) rfl (st2 := [.int ((((oc_sb.getD i []).getD x.toNatClampNeg 0) &&& 255).toUInt32 % 65536).toInt32]) rfl ?_
  exact ox_iret B F od_j_charAt_15 rfl (pk_nc _) ⟨rfl, rfl⟩
theorem oc_copy_Land_40 {p : Program} {l : Launch} {e : Env} {R : Room} {s : State} {m : MethodId} {args : Array Value} {below : List Frame} {meth : Method} {c : Code} {nL : Nat} {res : Option Value} {σf : ox_S} {cc : ByteArray} {ret : Option FieldType} {pc : Nat} {L : List (Option Value)} {st : List Value} {σ : ox_S} {D : va_G} {ad : Nat → Nat} {cI cC : ClassId} {A : Nat → Prop} {adK adV : Nat → Nat} (B : ox_B p s m args c nL cc oR_Land ox_ws) (F : ox_F s meth (oc_W D ad cI cC A adK adV) ret) (d : decode cc pc = .ok (.invokestatic 40, 3)) (h1 : 1 ≤ R.frames) (h2 : (st.map fun v => v.category).sum + (nativeFrameWords "java/lang/System" "arraycopy" 5 + 11) ≤ R.locals) {σ2 : ox_S} (he : σ2 = ox_sA σ 6 (va_cpy (σ.2 5) (σ.2 6) 0 0 64)) (k : ox_M p l e R s m args below meth c (oc_W D ad cI cC A adK adV) nL res σf (pc + 3) L (st) σ2) : ox_M p l e R s m args below meth c (oc_W D ad cI cC A adK adV) nL res σf (pc) L (.int 64 :: .int 0 :: .ref (ad 15) :: .int 0 :: .ref (ad 14) :: st) σ := fun ls H locs hl hP hS => by
  subst he
  exact va_copyi (ty := .int) B.hx B.hb (B.hml.trans hl.1.symm) B.hown (B.hts _ (ox_t2 226 rfl rfl)) (B.hts _ (ox_t2 228 rfl rfl)) (B.hts _ (ox_t2 227 rfl rfl)) (B.hts _ (ox_t1 17 rfl rfl)) F.hK hP (F.hok.1 σ) hS 14 15 0 0 rfl rfl rfl rfl rfl (by decide) (by decide) (by decide) (by decide) (by decide) (fun _ _ => rfl) h1 h2 d (fun H1 locs1 hP1 _ hS1 => k ls H1 locs1 hl (show va_P _ _ _ _ from hP1) hS1)
theorem occ_Line_35 {p : Program} {l : Launch} {e : Env} {R : Room} {s : State} {m : MethodId} {args : Array Value} {below : List Frame} {meth : Method} {c : Code} {nL : Nat} {res : Option Value} {σf : ox_S} {cc : ByteArray} {ret : Option FieldType} {pc : Nat} {L : List (Option Value)} {σ : ox_S} {D : va_G} {ad : Nat → Nat} {cI cC : ClassId} {A : Nat → Prop} {adK adV : Nat → Nat} (B : ox_B p s m args c nL cc oR_Line ox_ws) (F : ox_F s meth (oc_W D ad cI cC A adK adV) ret) (d : decode cc pc = .ok (.invokevirtual 35, 3)) {i : Nat} {r : Int32} {rest st2 : List Value} (hR : rm_j_length.frames + 1 ≤ R.frames ∧ 8 + (1 + 11) + rm_j_length.locals ≤ R.locals) (hr : oc_slen i = some r) (hroom : (rest.map fun v => v.category).sum ≤ 8) (hst2 : .int r :: rest = st2) (k : ox_M p l e R s m args below meth c (oc_W D ad cI cC A adK adV) nL res σf (pc + 3) L (st2) σ) : ox_M p l e R s m args below meth c (oc_W D ad cI cC A adK adV) nL res σf (pc) L (.ref (adK i) :: rest) σ := by
  obtain ⟨hi, e⟩ := oc_slen_some hr
  subst e
  exact ocj_callV B F hi d (ox_cwV 0 B.hts (ox_t2 83 rfl rfl) (ox_t1 12 rfl rfl) (ox_t2 80 rfl rfl) (ox_t2 81 rfl rfl) (ox_t2 82 rfl rfl) ⟨by decide, by decide, by decide +kernel⟩ ⟨rfl, rfl, hR.1, hR.2⟩) (ct_j_length F.hok hi σ) rfl (As := []) (rest := rest) hroom rfl hst2 k
theorem occ_Line_49 {p : Program} {l : Launch} {e : Env} {R : Room} {s : State} {m : MethodId} {args : Array Value} {below : List Frame} {meth : Method} {c : Code} {nL : Nat} {res : Option Value} {σf : ox_S} {cc : ByteArray} {ret : Option FieldType} {pc : Nat} {L : List (Option Value)} {σ : ox_S} {D : va_G} {ad : Nat → Nat} {cI cC : ClassId} {A : Nat → Prop} {adK adV : Nat → Nat} (B : ox_B p s m args c nL cc oR_Line ox_ws) (F : ox_F s meth (oc_W D ad cI cC A adK adV) ret) (d : decode cc pc = .ok (.invokevirtual 49, 3)) {i : Nat} {x r : Int32} {rest st2 : List Value} (hR : rm_j_charAt.frames + 1 ≤ R.frames ∧ 8 + (2 + 11) + rm_j_charAt.locals ≤ R.locals) (hr : oc_schar i x = some r) (hroom : (rest.map fun v => v.category).sum ≤ 8) (hst2 : .int r :: rest = st2) (k : ox_M p l e R s m args below meth c (oc_W D ad cI cC A adK adV) nL res σf (pc + 3) L (st2) σ) : ox_M p l e R s m args below meth c (oc_W D ad cI cC A adK adV) nL res σf (pc) L (.int x :: .ref (adK i) :: rest) σ := by
  obtain ⟨hi, hin, e⟩ := oc_schar_some hr
  subst e
  exact ocj_callV B F hi d (ox_cwV 1 B.hts (ox_t2 97 rfl rfl) (ox_t1 12 rfl rfl) (ox_t2 94 rfl rfl) (ox_t2 95 rfl rfl) (ox_t2 96 rfl rfl) ⟨by decide, by decide, by decide +kernel⟩ ⟨rfl, rfl, hR.1, hR.2⟩) (ct_j_charAt F.hok hi hin σ) rfl (As := [.int x]) (rest := rest) hroom rfl hst2 k
theorem oc_abs_Reader_169 {p : Program} {l : Launch} {e : Env} {R : Room} {s : State} {m : MethodId} {args : Array Value} {below : List Frame} {meth : Method} {c : Code} {nL : Nat} {res : Option Value} {σf : ox_S} {cc : ByteArray} {ret : Option FieldType} {pc : Nat} {L : List (Option Value)} {st : List Value} {σ : ox_S} {D : va_G} {ad : Nat → Nat} {cI cC : ClassId} {A : Nat → Prop} {adK adV : Nat → Nat} (B : ox_B p s m args c nL cc oR_Reader ox_ws) (F : ox_F s meth (oc_W D ad cI cC A adK adV) ret) (d : decode cc pc = .ok (.invokestatic 169, 3)) {x : Int32} (h1 : 1 ≤ R.frames) (h2 : (st.map fun v => v.category).sum + 13 ≤ R.locals) (k : ox_M p l e R s m args below meth c (oc_W D ad cI cC A adK adV) nL res σf (pc + 3) L (.int (if 0 ≤ x then x else 0 - x) :: st) σ) : ox_M p l e R s m args below meth c (oc_W D ad cI cC A adK adV) nL res σf (pc) L (.int x :: st) σ := fun ls H locs hl hP hS => va_mabs B.hx B.hb (B.hml.trans hl.1.symm) B.hown (B.hts _ (ox_t2 212 rfl rfl)) (B.hts _ (ox_t2 213 rfl rfl)) (B.hts _ (ox_t1 16 rfl rfl)) (B.hts _ (ox_t2 214 rfl rfl)) h1 h2 (Nat.zero_le _) (Nat.zero_le _) d (k ls H locs hl hP hS)
theorem ocs_Reader_88 {p : Program} {l : Launch} {e : Env} {R : Room} {s : State} {m : MethodId} {args : Array Value} {below : List Frame} {meth : Method} {c : Code} {nL : Nat} {res : Option Value} {σf : ox_S} {cc : ByteArray} {ret : Option FieldType} {pc : Nat} {L : List (Option Value)} {st : List Value} {σ : ox_S} {D : va_G} {ad : Nat → Nat} {cI cC : ClassId} {A : Nat → Prop} {adK adV : Nat → Nat} (B : ox_B p s m args c nL cc oR_Reader ox_ws) (F : ox_F s meth (oc_W D ad cI cC A adK adV) ret) (d : decode cc pc = .ok (.ldc 88, 2)) (k : ox_M p l e R s m args below meth c (oc_W D ad cI cC A adK adV) nL res σf (pc + 2) L (.ref (adK 1) :: st) σ) : ox_M p l e R s m args below meth c (oc_W D ad cI cC A adK adV) nL res σf (pc) L (st) σ := fun ls H locs hl hP hS => va_ldcS B.hx B.hb B.hown (F.hex.2.2.1 1 (by decide)) d (k ls H locs hl hP hS)
theorem ocs_Reader_100 {p : Program} {l : Launch} {e : Env} {R : Room} {s : State} {m : MethodId} {args : Array Value} {below : List Frame} {meth : Method} {c : Code} {nL : Nat} {res : Option Value} {σf : ox_S} {cc : ByteArray} {ret : Option FieldType} {pc : Nat} {L : List (Option Value)} {st : List Value} {σ : ox_S} {D : va_G} {ad : Nat → Nat} {cI cC : ClassId} {A : Nat → Prop} {adK adV : Nat → Nat} (B : ox_B p s m args c nL cc oR_Reader ox_ws) (F : ox_F s meth (oc_W D ad cI cC A adK adV) ret) (d : decode cc pc = .ok (.ldc 100, 2)) (k : ox_M p l e R s m args below meth c (oc_W D ad cI cC A adK adV) nL res σf (pc + 2) L (.ref (adK 2) :: st) σ) : ox_M p l e R s m args below meth c (oc_W D ad cI cC A adK adV) nL res σf (pc) L (st) σ := fun ls H locs hl hP hS => va_ldcS B.hx B.hb B.hown (F.hex.2.2.1 2 (by decide)) d (k ls H locs hl hP hS)
theorem ocs_Reader_109 {p : Program} {l : Launch} {e : Env} {R : Room} {s : State} {m : MethodId} {args : Array Value} {below : List Frame} {meth : Method} {c : Code} {nL : Nat} {res : Option Value} {σf : ox_S} {cc : ByteArray} {ret : Option FieldType} {pc : Nat} {L : List (Option Value)} {st : List Value} {σ : ox_S} {D : va_G} {ad : Nat → Nat} {cI cC : ClassId} {A : Nat → Prop} {adK adV : Nat → Nat} (B : ox_B p s m args c nL cc oR_Reader ox_ws) (F : ox_F s meth (oc_W D ad cI cC A adK adV) ret) (d : decode cc pc = .ok (.ldc 109, 2)) (k : ox_M p l e R s m args below meth c (oc_W D ad cI cC A adK adV) nL res σf (pc + 2) L (.ref (adK 3) :: st) σ) : ox_M p l e R s m args below meth c (oc_W D ad cI cC A adK adV) nL res σf (pc) L (st) σ := fun ls H locs hl hP hS => va_ldcS B.hx B.hb B.hown (F.hex.2.2.1 3 (by decide)) d (k ls H locs hl hP hS)
theorem ocs_Reader_114 {p : Program} {l : Launch} {e : Env} {R : Room} {s : State} {m : MethodId} {args : Array Value} {below : List Frame} {meth : Method} {c : Code} {nL : Nat} {res : Option Value} {σf : ox_S} {cc : ByteArray} {ret : Option FieldType} {pc : Nat} {L : List (Option Value)} {st : List Value} {σ : ox_S} {D : va_G} {ad : Nat → Nat} {cI cC : ClassId} {A : Nat → Prop} {adK adV : Nat → Nat} (B : ox_B p s m args c nL cc oR_Reader ox_ws) (F : ox_F s meth (oc_W D ad cI cC A adK adV) ret) (d : decode cc pc = .ok (.ldc 114, 2)) (k : ox_M p l e R s m args below meth c (oc_W D ad cI cC A adK adV) nL res σf (pc + 2) L (.ref (adK 4) :: st) σ) : ox_M p l e R s m args below meth c (oc_W D ad cI cC A adK adV) nL res σf (pc) L (st) σ := fun ls H locs hl hP hS => va_ldcS B.hx B.hb B.hown (F.hex.2.2.1 4 (by decide)) d (k ls H locs hl hP hS)
theorem ocs_Reader_123 {p : Program} {l : Launch} {e : Env} {R : Room} {s : State} {m : MethodId} {args : Array Value} {below : List Frame} {meth : Method} {c : Code} {nL : Nat} {res : Option Value} {σf : ox_S} {cc : ByteArray} {ret : Option FieldType} {pc : Nat} {L : List (Option Value)} {st : List Value} {σ : ox_S} {D : va_G} {ad : Nat → Nat} {cI cC : ClassId} {A : Nat → Prop} {adK adV : Nat → Nat} (B : ox_B p s m args c nL cc oR_Reader ox_ws) (F : ox_F s meth (oc_W D ad cI cC A adK adV) ret) (d : decode cc pc = .ok (.ldc 123, 2)) (k : ox_M p l e R s m args below meth c (oc_W D ad cI cC A adK adV) nL res σf (pc + 2) L (.ref (adK 8) :: st) σ) : ox_M p l e R s m args below meth c (oc_W D ad cI cC A adK adV) nL res σf (pc) L (st) σ := fun ls H locs hl hP hS => va_ldcS B.hx B.hb B.hown (F.hex.2.2.1 8 (by decide)) d (k ls H locs hl hP hS)
theorem ocs_Reader_125 {p : Program} {l : Launch} {e : Env} {R : Room} {s : State} {m : MethodId} {args : Array Value} {below : List Frame} {meth : Method} {c : Code} {nL : Nat} {res : Option Value} {σf : ox_S} {cc : ByteArray} {ret : Option FieldType} {pc : Nat} {L : List (Option Value)} {st : List Value} {σ : ox_S} {D : va_G} {ad : Nat → Nat} {cI cC : ClassId} {A : Nat → Prop} {adK adV : Nat → Nat} (B : ox_B p s m args c nL cc oR_Reader ox_ws) (F : ox_F s meth (oc_W D ad cI cC A adK adV) ret) (d : decode cc pc = .ok (.ldc 125, 2)) (k : ox_M p l e R s m args below meth c (oc_W D ad cI cC A adK adV) nL res σf (pc + 2) L (.ref (adK 9) :: st) σ) : ox_M p l e R s m args below meth c (oc_W D ad cI cC A adK adV) nL res σf (pc) L (st) σ := fun ls H locs hl hP hS => va_ldcS B.hx B.hb B.hown (F.hex.2.2.1 9 (by decide)) d (k ls H locs hl hP hS)
theorem ocs_Reader_127 {p : Program} {l : Launch} {e : Env} {R : Room} {s : State} {m : MethodId} {args : Array Value} {below : List Frame} {meth : Method} {c : Code} {nL : Nat} {res : Option Value} {σf : ox_S} {cc : ByteArray} {ret : Option FieldType} {pc : Nat} {L : List (Option Value)} {st : List Value} {σ : ox_S} {D : va_G} {ad : Nat → Nat} {cI cC : ClassId} {A : Nat → Prop} {adK adV : Nat → Nat} (B : ox_B p s m args c nL cc oR_Reader ox_ws) (F : ox_F s meth (oc_W D ad cI cC A adK adV) ret) (d : decode cc pc = .ok (.ldc 127, 2)) (k : ox_M p l e R s m args below meth c (oc_W D ad cI cC A adK adV) nL res σf (pc + 2) L (.ref (adK 10) :: st) σ) : ox_M p l e R s m args below meth c (oc_W D ad cI cC A adK adV) nL res σf (pc) L (st) σ := fun ls H locs hl hP hS => va_ldcS B.hx B.hb B.hown (F.hex.2.2.1 10 (by decide)) d (k ls H locs hl hP hS)
theorem ocs_Reader_129 {p : Program} {l : Launch} {e : Env} {R : Room} {s : State} {m : MethodId} {args : Array Value} {below : List Frame} {meth : Method} {c : Code} {nL : Nat} {res : Option Value} {σf : ox_S} {cc : ByteArray} {ret : Option FieldType} {pc : Nat} {L : List (Option Value)} {st : List Value} {σ : ox_S} {D : va_G} {ad : Nat → Nat} {cI cC : ClassId} {A : Nat → Prop} {adK adV : Nat → Nat} (B : ox_B p s m args c nL cc oR_Reader ox_ws) (F : ox_F s meth (oc_W D ad cI cC A adK adV) ret) (d : decode cc pc = .ok (.ldc 129, 2)) (k : ox_M p l e R s m args below meth c (oc_W D ad cI cC A adK adV) nL res σf (pc + 2) L (.ref (adK 11) :: st) σ) : ox_M p l e R s m args below meth c (oc_W D ad cI cC A adK adV) nL res σf (pc) L (st) σ := fun ls H locs hl hP hS => va_ldcS B.hx B.hb B.hown (F.hex.2.2.1 11 (by decide)) d (k ls H locs hl hP hS)
theorem ocs_Reader_131 {p : Program} {l : Launch} {e : Env} {R : Room} {s : State} {m : MethodId} {args : Array Value} {below : List Frame} {meth : Method} {c : Code} {nL : Nat} {res : Option Value} {σf : ox_S} {cc : ByteArray} {ret : Option FieldType} {pc : Nat} {L : List (Option Value)} {st : List Value} {σ : ox_S} {D : va_G} {ad : Nat → Nat} {cI cC : ClassId} {A : Nat → Prop} {adK adV : Nat → Nat} (B : ox_B p s m args c nL cc oR_Reader ox_ws) (F : ox_F s meth (oc_W D ad cI cC A adK adV) ret) (d : decode cc pc = .ok (.ldc 131, 2)) (k : ox_M p l e R s m args below meth c (oc_W D ad cI cC A adK adV) nL res σf (pc + 2) L (.ref (adK 5) :: st) σ) : ox_M p l e R s m args below meth c (oc_W D ad cI cC A adK adV) nL res σf (pc) L (st) σ := fun ls H locs hl hP hS => va_ldcS B.hx B.hb B.hown (F.hex.2.2.1 5 (by decide)) d (k ls H locs hl hP hS)
theorem ocs_Reader_133 {p : Program} {l : Launch} {e : Env} {R : Room} {s : State} {m : MethodId} {args : Array Value} {below : List Frame} {meth : Method} {c : Code} {nL : Nat} {res : Option Value} {σf : ox_S} {cc : ByteArray} {ret : Option FieldType} {pc : Nat} {L : List (Option Value)} {st : List Value} {σ : ox_S} {D : va_G} {ad : Nat → Nat} {cI cC : ClassId} {A : Nat → Prop} {adK adV : Nat → Nat} (B : ox_B p s m args c nL cc oR_Reader ox_ws) (F : ox_F s meth (oc_W D ad cI cC A adK adV) ret) (d : decode cc pc = .ok (.ldc 133, 2)) (k : ox_M p l e R s m args below meth c (oc_W D ad cI cC A adK adV) nL res σf (pc + 2) L (.ref (adK 6) :: st) σ) : ox_M p l e R s m args below meth c (oc_W D ad cI cC A adK adV) nL res σf (pc) L (st) σ := fun ls H locs hl hP hS => va_ldcS B.hx B.hb B.hown (F.hex.2.2.1 6 (by decide)) d (k ls H locs hl hP hS)
theorem ocs_Reader_135 {p : Program} {l : Launch} {e : Env} {R : Room} {s : State} {m : MethodId} {args : Array Value} {below : List Frame} {meth : Method} {c : Code} {nL : Nat} {res : Option Value} {σf : ox_S} {cc : ByteArray} {ret : Option FieldType} {pc : Nat} {L : List (Option Value)} {st : List Value} {σ : ox_S} {D : va_G} {ad : Nat → Nat} {cI cC : ClassId} {A : Nat → Prop} {adK adV : Nat → Nat} (B : ox_B p s m args c nL cc oR_Reader ox_ws) (F : ox_F s meth (oc_W D ad cI cC A adK adV) ret) (d : decode cc pc = .ok (.ldc 135, 2)) (k : ox_M p l e R s m args below meth c (oc_W D ad cI cC A adK adV) nL res σf (pc + 2) L (.ref (adK 7) :: st) σ) : ox_M p l e R s m args below meth c (oc_W D ad cI cC A adK adV) nL res σf (pc) L (st) σ := fun ls H locs hl hP hS => va_ldcS B.hx B.hb B.hown (F.hex.2.2.1 7 (by decide)) d (k ls H locs hl hP hS)
theorem ocs_Reader_137 {p : Program} {l : Launch} {e : Env} {R : Room} {s : State} {m : MethodId} {args : Array Value} {below : List Frame} {meth : Method} {c : Code} {nL : Nat} {res : Option Value} {σf : ox_S} {cc : ByteArray} {ret : Option FieldType} {pc : Nat} {L : List (Option Value)} {st : List Value} {σ : ox_S} {D : va_G} {ad : Nat → Nat} {cI cC : ClassId} {A : Nat → Prop} {adK adV : Nat → Nat} (B : ox_B p s m args c nL cc oR_Reader ox_ws) (F : ox_F s meth (oc_W D ad cI cC A adK adV) ret) (d : decode cc pc = .ok (.ldc 137, 2)) (k : ox_M p l e R s m args below meth c (oc_W D ad cI cC A adK adV) nL res σf (pc + 2) L (.ref (adK 13) :: st) σ) : ox_M p l e R s m args below meth c (oc_W D ad cI cC A adK adV) nL res σf (pc) L (st) σ := fun ls H locs hl hP hS => va_ldcS B.hx B.hb B.hown (F.hex.2.2.1 13 (by decide)) d (k ls H locs hl hP hS)
theorem ocs_Reader_139 {p : Program} {l : Launch} {e : Env} {R : Room} {s : State} {m : MethodId} {args : Array Value} {below : List Frame} {meth : Method} {c : Code} {nL : Nat} {res : Option Value} {σf : ox_S} {cc : ByteArray} {ret : Option FieldType} {pc : Nat} {L : List (Option Value)} {st : List Value} {σ : ox_S} {D : va_G} {ad : Nat → Nat} {cI cC : ClassId} {A : Nat → Prop} {adK adV : Nat → Nat} (B : ox_B p s m args c nL cc oR_Reader ox_ws) (F : ox_F s meth (oc_W D ad cI cC A adK adV) ret) (d : decode cc pc = .ok (.ldc 139, 2)) (k : ox_M p l e R s m args below meth c (oc_W D ad cI cC A adK adV) nL res σf (pc + 2) L (.ref (adK 12) :: st) σ) : ox_M p l e R s m args below meth c (oc_W D ad cI cC A adK adV) nL res σf (pc) L (st) σ := fun ls H locs hl hP hS => va_ldcS B.hx B.hb B.hown (F.hex.2.2.1 12 (by decide)) d (k ls H locs hl hP hS)
theorem ocs_Reader_145 {p : Program} {l : Launch} {e : Env} {R : Room} {s : State} {m : MethodId} {args : Array Value} {below : List Frame} {meth : Method} {c : Code} {nL : Nat} {res : Option Value} {σf : ox_S} {cc : ByteArray} {ret : Option FieldType} {pc : Nat} {L : List (Option Value)} {st : List Value} {σ : ox_S} {D : va_G} {ad : Nat → Nat} {cI cC : ClassId} {A : Nat → Prop} {adK adV : Nat → Nat} (B : ox_B p s m args c nL cc oR_Reader ox_ws) (F : ox_F s meth (oc_W D ad cI cC A adK adV) ret) (d : decode cc pc = .ok (.ldc 145, 2)) (k : ox_M p l e R s m args below meth c (oc_W D ad cI cC A adK adV) nL res σf (pc + 2) L (.ref (adK 0) :: st) σ) : ox_M p l e R s m args below meth c (oc_W D ad cI cC A adK adV) nL res σf (pc) L (st) σ := fun ls H locs hl hP hS => va_ldcS B.hx B.hb B.hown (F.hex.2.2.1 0 (by decide)) d (k ls H locs hl hP hS)
set_option maxRecDepth 100000 in
set_option maxHeartbeats 4000000 in
theorem ct_j_fill_5 {l : Launch} {D : va_G} {ad : Nat → Nat} {cI cC : ClassId} {A : Nat → Prop} {adK adV : Nat → Nat} (hok : ox_ok (oc_W D ad cI cC A adK adV)) (v : Int32) (σ : ox_S) : Met l oy_j_fill (Cond.code oy_j_fill prog_17_method_103_code 4 none :: ox_ws) rm_j_fill (ox_P (oc_W D ad cI cC A adK adV) [.ref (ad 14), .int v] σ) (ox_Q (oc_W D ad cI cC A adK adV) none (ox_sA σ 5 (fun j => if j < 64 then v else σ.2 5 j))) 0 0 A := by
  refine ox_met (ω := oc_W D ad cI cC A adK adV) (by decide) rfl hok (Nat.le_of_ble_eq_true rfl) ?_
  intro p e s m args below meth c B F
  generalize hσf : ox_sA σ 5 (fun j => if j < 64 then v else σ.2 5 j) = σf
  have key : ∀ (k : Nat), k ≤ 64 → ∀ σ1 : ox_S, σ1 = ox_sA σ 5 (fun j => if j < 64 - k then v else σ.2 5 j) → ox_M p l e rm_j_fill s m args below meth c (oc_W D ad cI cC A adK adV) 4 none σf 5 [some (.ref (ad 14)), some (.int v), some (.int (nI (64 - k))), some (.int (64 : Int32))] [] σ1 := by
    intro k
    induction k with
    | zero =>
      intro _ σ1 h1
      refine ox_iload_n B 2 od_j_fill_5 rfl rfl ?_
      refine ox_iload_n B 3 od_j_fill_6 rfl rfl ?_
      refine ox_icmp_ge B 20 od_j_fill_7 rfl (fun _ => ?_) (fun h => absurd (show (64 : Int32) ≤ nI (64 - 0) by decide) h)
      exact ox_vret B F od_j_fill_20 rfl ⟨rfl, by rw [h1, ← hσf]⟩
    | succ k ih =>
      intro hk σ1 h1
      refine ox_iload_n B 2 od_j_fill_5 rfl rfl ?_
      refine ox_iload_n B 3 od_j_fill_6 rfl rfl ?_
      refine ox_icmp_ge B 20 od_j_fill_7 rfl (fun h => absurd h (show ¬ nI 64 ≤ nI (64 - (k + 1)) from nI_ge (by omega) (by omega))) (fun _ => ?_)
      refine ox_aload_n B 0 od_j_fill_10 rfl rfl ?_
      refine ox_iload_n B 2 od_j_fill_11 rfl rfl ?_
      refine ox_iload_n B 1 od_j_fill_12 rfl rfl ?_
      refine ocas_5 B F od_j_fill_13 (j := 64 - (k + 1)) (vp_in_nI (by omega) (by omega)) (nI_clamp (by omega)).symm rfl ?_
      refine ox_iinc B od_j_fill_14 rfl (v := nI (64 - k)) (by rw [show 64 - k = 64 - (k + 1) + 1 by omega]; exact (nI_succ _).symm) (by decide) rfl (L2 := [some (.ref (ad 14)), some (.int v), some (.int (nI (64 - k))), some (.int (64 : Int32))]) rfl ?_
      refine ox_goto B 5 od_j_fill_17 rfl ?_
      refine ih (by omega) _ ?_
      rw [h1]
      unfold ox_s2 ox_sA
      refine Prod.ext rfl (funext fun b => ?_)
      simp only
      by_cases hb : b = 5
      · subst hb
        simp only [if_true]
        funext j
        simp only [upd]
        by_cases h2 : j = 64 - (k + 1)
        · rw [if_pos h2, if_pos (by omega)]
        · rw [if_neg h2]
          by_cases h3 : j < 64 - (k + 1)
          · rw [if_pos h3, if_pos (by omega)]
          · rw [if_neg h3, if_neg (by omega)]
      · simp only [if_neg hb]
  change ox_M p l e rm_j_fill s m args below meth c (oc_W D ad cI cC A adK adV) 4 none σf 0 [some (.ref (ad 14)), some (.int v), none, none] [] σ
  refine ox_iconst (v := (0 : Int32)) B od_j_fill_0 (by decide) ?_
  refine ox_istore_n B 2 od_j_fill_1 rfl (by decide) rfl (L2 := [some (.ref (ad 14)), some (.int v), some (.int 0), none]) rfl ?_
  refine ox_aload_n B 0 od_j_fill_2 rfl rfl ?_
  refine oclen_5 B F od_j_fill_3 ?_
  refine ox_istore_n B 3 od_j_fill_4 rfl (by decide) rfl (L2 := [some (.ref (ad 14)), some (.int v), some (.int 0), some (.int (64 : Int32))]) rfl ?_
  refine key 64 (Nat.le_refl _) σ ?_
  unfold ox_sA
  refine Prod.ext rfl (funext fun b => ?_)
  by_cases hb : b = 5
  · subst hb
    simp
  · simp [hb]
set_option maxRecDepth 100000 in
set_option maxHeartbeats 4000000 in
theorem ct_j_fill_10 {l : Launch} {D : va_G} {ad : Nat → Nat} {cI cC : ClassId} {A : Nat → Prop} {adK adV : Nat → Nat} (hok : ox_ok (oc_W D ad cI cC A adK adV)) (v : Int32) (σ : ox_S) : Met l oy_j_fill (Cond.code oy_j_fill prog_17_method_103_code 4 none :: ox_ws) rm_j_fill (ox_P (oc_W D ad cI cC A adK adV) [.ref (ad 19), .int v] σ) (ox_Q (oc_W D ad cI cC A adK adV) none (ox_sA σ 10 (fun j => if j < 8 then v else σ.2 10 j))) 0 0 A := by
  refine ox_met (ω := oc_W D ad cI cC A adK adV) (by decide) rfl hok (Nat.le_of_ble_eq_true rfl) ?_
  intro p e s m args below meth c B F
  generalize hσf : ox_sA σ 10 (fun j => if j < 8 then v else σ.2 10 j) = σf
  have key : ∀ (k : Nat), k ≤ 8 → ∀ σ1 : ox_S, σ1 = ox_sA σ 10 (fun j => if j < 8 - k then v else σ.2 10 j) → ox_M p l e rm_j_fill s m args below meth c (oc_W D ad cI cC A adK adV) 4 none σf 5 [some (.ref (ad 19)), some (.int v), some (.int (nI (8 - k))), some (.int (8 : Int32))] [] σ1 := by
    intro k
    induction k with
    | zero =>
      intro _ σ1 h1
      refine ox_iload_n B 2 od_j_fill_5 rfl rfl ?_
      refine ox_iload_n B 3 od_j_fill_6 rfl rfl ?_
      refine ox_icmp_ge B 20 od_j_fill_7 rfl (fun _ => ?_) (fun h => absurd (show (8 : Int32) ≤ nI (8 - 0) by decide) h)
      exact ox_vret B F od_j_fill_20 rfl ⟨rfl, by rw [h1, ← hσf]⟩
    | succ k ih =>
      intro hk σ1 h1
      refine ox_iload_n B 2 od_j_fill_5 rfl rfl ?_
      refine ox_iload_n B 3 od_j_fill_6 rfl rfl ?_
      refine ox_icmp_ge B 20 od_j_fill_7 rfl (fun h => absurd h (show ¬ nI 8 ≤ nI (8 - (k + 1)) from nI_ge (by omega) (by omega))) (fun _ => ?_)
      refine ox_aload_n B 0 od_j_fill_10 rfl rfl ?_
      refine ox_iload_n B 2 od_j_fill_11 rfl rfl ?_
      refine ox_iload_n B 1 od_j_fill_12 rfl rfl ?_
      refine ocas_10 B F od_j_fill_13 (j := 8 - (k + 1)) (vp_in_nI (by omega) (by omega)) (nI_clamp (by omega)).symm rfl ?_
      refine ox_iinc B od_j_fill_14 rfl (v := nI (8 - k)) (by rw [show 8 - k = 8 - (k + 1) + 1 by omega]; exact (nI_succ _).symm) (by decide) rfl (L2 := [some (.ref (ad 19)), some (.int v), some (.int (nI (8 - k))), some (.int (8 : Int32))]) rfl ?_
      refine ox_goto B 5 od_j_fill_17 rfl ?_
      refine ih (by omega) _ ?_
      rw [h1]
      unfold ox_s2 ox_sA
      refine Prod.ext rfl (funext fun b => ?_)
      simp only
      by_cases hb : b = 10
      · subst hb
        simp only [if_true]
        funext j
        simp only [upd]
        by_cases h2 : j = 8 - (k + 1)
        · rw [if_pos h2, if_pos (by omega)]
        · rw [if_neg h2]
          by_cases h3 : j < 8 - (k + 1)
          · rw [if_pos h3, if_pos (by omega)]
          · rw [if_neg h3, if_neg (by omega)]
      · simp only [if_neg hb]
  change ox_M p l e rm_j_fill s m args below meth c (oc_W D ad cI cC A adK adV) 4 none σf 0 [some (.ref (ad 19)), some (.int v), none, none] [] σ
  refine ox_iconst (v := (0 : Int32)) B od_j_fill_0 (by decide) ?_
  refine ox_istore_n B 2 od_j_fill_1 rfl (by decide) rfl (L2 := [some (.ref (ad 19)), some (.int v), some (.int 0), none]) rfl ?_
  refine ox_aload_n B 0 od_j_fill_2 rfl rfl ?_
  refine oclen_10 B F od_j_fill_3 ?_
  refine ox_istore_n B 3 od_j_fill_4 rfl (by decide) rfl (L2 := [some (.ref (ad 19)), some (.int v), some (.int 0), some (.int (8 : Int32))]) rfl ?_
  refine key 8 (Nat.le_refl _) σ ?_
  unfold ox_sA
  refine Prod.ext rfl (funext fun b => ?_)
  by_cases hb : b = 10
  · subst hb
    simp
  · simp [hb]
theorem oc_fill_Land_46_10 {p : Program} {l : Launch} {e : Env} {R : Room} {s : State} {m : MethodId} {args : Array Value} {below : List Frame} {meth : Method} {c : Code} {nL : Nat} {res : Option Value} {σf : ox_S} {cc : ByteArray} {ret : Option FieldType} {pc : Nat} {L : List (Option Value)} {σ : ox_S} {D : va_G} {ad : Nat → Nat} {cI cC : ClassId} {A : Nat → Prop} {adK adV : Nat → Nat} (B : ox_B p s m args c nL cc oR_Land ox_ws) (F : ox_F s meth (oc_W D ad cI cC A adK adV) ret) (d : decode cc pc = .ok (.invokestatic 46, 3)) {v : Int32} (h1 : rm_j_fill.frames + 1 ≤ R.frames) (h2 : 8 + (4 + 11) + rm_j_fill.locals ≤ R.locals) {rest : List Value} (hroom : (rest.map fun v => v.category).sum ≤ 8) {σ2 : ox_S} (he : σ2 = ox_sA σ 10 (fun j => if j < 8 then v else σ.2 10 j)) (k : ox_M p l e R s m args below meth c (oc_W D ad cI cC A adK adV) nL res σf (pc + 3) L (rest) σ2) : ox_M p l e R s m args below meth c (oc_W D ad cI cC A adK adV) nL res σf (pc) L (.int v :: .ref (ad 19) :: rest) σ := by
  subst he
  exact ox_callS B F d (ox_cwS 2 B.hts (ox_t2 62 rfl rfl) (ox_t1 11 rfl rfl) (ox_t2 229 rfl rfl) (ox_t2 61 rfl rfl) ⟨by decide, by decide, by decide +kernel⟩ ⟨rfl, rfl, h1, h2⟩) (ct_j_fill_10 F.hok v σ) rfl (As := [.ref (ad 19), .int v]) (rest := rest) hroom rfl rfl k
theorem oc_fill_Reader_73_5 {p : Program} {l : Launch} {e : Env} {R : Room} {s : State} {m : MethodId} {args : Array Value} {below : List Frame} {meth : Method} {c : Code} {nL : Nat} {res : Option Value} {σf : ox_S} {cc : ByteArray} {ret : Option FieldType} {pc : Nat} {L : List (Option Value)} {σ : ox_S} {D : va_G} {ad : Nat → Nat} {cI cC : ClassId} {A : Nat → Prop} {adK adV : Nat → Nat} (B : ox_B p s m args c nL cc oR_Reader ox_ws) (F : ox_F s meth (oc_W D ad cI cC A adK adV) ret) (d : decode cc pc = .ok (.invokestatic 73, 3)) {v : Int32} (h1 : rm_j_fill.frames + 1 ≤ R.frames) (h2 : 8 + (4 + 11) + rm_j_fill.locals ≤ R.locals) {rest : List Value} (hroom : (rest.map fun v => v.category).sum ≤ 8) {σ2 : ox_S} (he : σ2 = ox_sA σ 5 (fun j => if j < 64 then v else σ.2 5 j)) (k : ox_M p l e R s m args below meth c (oc_W D ad cI cC A adK adV) nL res σf (pc + 3) L (rest) σ2) : ox_M p l e R s m args below meth c (oc_W D ad cI cC A adK adV) nL res σf (pc) L (.int v :: .ref (ad 14) :: rest) σ := by
  subst he
  exact ox_callS B F d (ox_cwS 2 B.hts (ox_t2 62 rfl rfl) (ox_t1 11 rfl rfl) (ox_t2 60 rfl rfl) (ox_t2 61 rfl rfl) ⟨by decide, by decide, by decide +kernel⟩ ⟨rfl, rfl, h1, h2⟩) (ct_j_fill_5 F.hok v σ) rfl (As := [.ref (ad 14), .int v]) (rest := rest) hroom rfl rfl k
