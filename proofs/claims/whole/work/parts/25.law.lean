/-! the law's own rows: two systems side by side -/
abbrev ol_c (D : va_G) (adc : Nat → Nat) (cI cC : ClassId) (adK adV : Nat → Nat) : ox_E := oc_W D adc cI cC (fun q => ∃ k, k < 28 ∧ q = adc k) adK adV
abbrev ol_m (D : va_G) (adm : Nat → Nat) (cI cC cZ : ClassId) : ox_E := om_W D adm cI cC cZ (fun q => ∃ k, k < 15 ∧ q = adm k)
abbrev ol_hp (ωc ωm : ox_E) (t : ox_S × ox_S) (H : Heap) : Prop := ox_hp ωc t.1 H ∧ ox_hp ωm t.2 H
theorem ol_pre {s : State} {ω : ox_E} {σ : ox_S} {H : Heap} (hK : va_K (ox_D ω) (ox_cl ω) (ox_ty ω) s) (hok : ox_ok ω) (hx : ox_x ω s s.heap) (hP : ox_hp ω σ H) (hH : ∀ q : Nat, q < s.heap.size → ¬ ox_A ω q → H[q]? = s.heap[q]?) (av : List Value) : PreS s H (ox_P ω av σ) av := by
  refine ⟨fun a U g mk q => ?_, fun U hU hW => ?_⟩
  · obtain ⟨q0, qP, qK, qx⟩ := q
    exact ⟨q0, qP, va_K.moved (u := U) (U := U.calling g mk a) (Vm.Alike.refl U.vm) qK, hok.2.2.1 U _ _ rfl qx⟩
  · refine ⟨rfl, by rw [hU]; exact hP, va_K.moved hW.alike hK, ?_⟩
    rw [hU]
    exact hok.2.1 s U H hW (hok.2.2.2 s s.heap H hH hx)
section OL
variable {p : Program} {l : Launch} {e : Env} {R : Room} {s : State} {m : MethodId} {args : Array Value} {below : List Frame} {meth : Method} {c : Code} {ωc ωm : ox_E} {nL cells slots : Nat} {Q : State → Prop} {cc : ByteArray} {own : String} {pc : Nat} {L : List (Option Value)} {st : List Value} {σc σm : ox_S}
theorem ol_kept {ω ω' : ox_E} {σ' : ox_S} {H H1 : Heap} (hok' : ox_ok ω') (hdis : ∀ q, ox_A ω' q → ¬ ox_A ω q) (hP : ox_hp ω' σ' H) (hk : ∀ q : Nat, q < H.size → ¬ ox_A ω q → H1[q]? = H[q]?) : ox_hp ω' σ' H1 :=
  va_P.kept hP (fun k q hq => hk q.1 (hP k q hq).lt (hdis q.1 ((hok'.1 σ').2 k q hq)))
theorem ol_goC {rest : List Value} {σ2 : ox_S} {r2 : Option Value} {a : Array Value} (okm : ox_ok ωm) (hA : ∀ q, ox_A ωc q → s.heap.size ≤ q) (hdis : ∀ q, ox_A ωm q → ¬ ox_A ωc q) (hr : ∀ (ls : Array Slot) (H : Heap) (locs : List Loc), ox_L ls nL L → ox_hp ωc σc H → ox_hp ωm σm H → va_S (fun q => s.heap.size ≤ q) s.heap H locs → va_Run p l e R s m args below meth c H locs cells slots 0 0 (F0 m pc ls st) rest (ox_Q ωc r2 σ2 a) (ox_A ωc)) {st2 : List Value} (hst2 : r2.toList ++ rest = st2) (k : ox_X p l e R s m args below meth c (ol_hp ωc ωm) (fun q => s.heap.size ≤ q) nL cells slots Q (pc + 3) L st2 (σ2, σm)) : ox_X p l e R s m args below meth c (ol_hp ωc ωm) (fun q => s.heap.size ≤ q) nL cells slots Q pc L st (σc, σm) := by
  intro ls H locs hl hP hS T hT Xst
  obtain ⟨v, st₀, t, T', Lc, h0, X', hL, e1, e2, ⟨hv, hP1, hz, hk⟩, st⟩ := hr ls H locs hl hP.1 hP.2 hS T hT Xst
  cases hv
  subst hst2
  rw [h0] at hz hk
  obtain ⟨t2, a1, b1⟩ := k ls T'.heap (locs ++ Lc) hl ⟨by rw [e1]; exact hP1, ol_kept (ω := ωc) okm hdis hP.2 (fun q h1 h2 => by rw [e1]; exact hk q h1 h2)⟩ ⟨Nat.le_trans hS.1 (by rw [e1]; exact hz), fun q h1 h2 => by rw [e1, hk q (Nat.lt_of_lt_of_le h1 hS.1) (fun z => h2 (hA q z))]; exact hS.2.1 q h1 h2, fun q hq => by
    rcases List.mem_append.mp hq with h | h
    · exact hS.2.2 q h
    · exact hA _ (hL q h)⟩ T' rfl X'
  exact ⟨t2, st t2 a1, b1⟩
theorem ol_goM {rest : List Value} {σ2 : ox_S} {r2 : Option Value} {a : Array Value} (okc : ox_ok ωc) (hA : ∀ q, ox_A ωm q → s.heap.size ≤ q) (hdis : ∀ q, ox_A ωc q → ¬ ox_A ωm q) (hr : ∀ (ls : Array Slot) (H : Heap) (locs : List Loc), ox_L ls nL L → ox_hp ωc σc H → ox_hp ωm σm H → va_S (fun q => s.heap.size ≤ q) s.heap H locs → va_Run p l e R s m args below meth c H locs cells slots 0 0 (F0 m pc ls st) rest (ox_Q ωm r2 σ2 a) (ox_A ωm)) {st2 : List Value} (hst2 : r2.toList ++ rest = st2) (k : ox_X p l e R s m args below meth c (ol_hp ωc ωm) (fun q => s.heap.size ≤ q) nL cells slots Q (pc + 3) L st2 (σc, σ2)) : ox_X p l e R s m args below meth c (ol_hp ωc ωm) (fun q => s.heap.size ≤ q) nL cells slots Q pc L st (σc, σm) := by
  intro ls H locs hl hP hS T hT Xst
  obtain ⟨v, st₀, t, T', Lc, h0, X', hL, e1, e2, ⟨hv, hP1, hz, hk⟩, st⟩ := hr ls H locs hl hP.1 hP.2 hS T hT Xst
  cases hv
  subst hst2
  rw [h0] at hz hk
  obtain ⟨t2, a1, b1⟩ := k ls T'.heap (locs ++ Lc) hl ⟨ol_kept (ω := ωm) okc hdis hP.1 (fun q h1 h2 => by rw [e1]; exact hk q h1 h2), by rw [e1]; exact hP1⟩ ⟨Nat.le_trans hS.1 (by rw [e1]; exact hz), fun q h1 h2 => by rw [e1, hk q (Nat.lt_of_lt_of_le h1 hS.1) (fun z => h2 (hA q z))]; exact hS.2.1 q h1 h2, fun q hq => by
    rcases List.mem_append.mp hq with h | h
    · exact hS.2.2 q h
    · exact hA _ (hL q h)⟩ T' rfl X'
  exact ⟨t2, st t2 a1, b1⟩
theorem ol_ld (B : ox_B p s m args c nL cc own ox_ws) {b Ln : Nat} {xs : Nat → Int32} (hX : va_X b Ln xs s s.heap) (hbl : b < s.heap.size) {σ : ox_S × ox_S} {i : Int32} (hin : vp_in i Ln) (d : decode cc pc = .ok (.iaload, 1)) (k : ox_X p l e R s m args below meth c (ol_hp ωc ωm) (fun q => s.heap.size ≤ q) nL cells slots Q (pc + 1) L (.int (xs i.toNatClampNeg) :: st) σ) : ox_X p l e R s m args below meth c (ol_hp ωc ωm) (fun q => s.heap.size ≤ q) nL cells slots Q pc L (.int i :: .ref b :: st) σ :=
  fun ls H locs hl hP hS => va_sld B.hx B.hb hX hbl (by show ¬ s.heap.size ≤ b; omega) hS hin d (k ls H locs hl hP hS)
theorem ol_len (B : ox_B p s m args c nL cc own ox_ws) {b Ln : Nat} {xs : Nat → Int32} (hX : va_X b Ln xs s s.heap) (hbl : b < s.heap.size) {σ : ox_S × ox_S} (d : decode cc pc = .ok (.arraylength, 1)) (k : ox_X p l e R s m args below meth c (ol_hp ωc ωm) (fun q => s.heap.size ≤ q) nL cells slots Q (pc + 1) L (.int (nI Ln) :: st) σ) : ox_X p l e R s m args below meth c (ol_hp ωc ωm) (fun q => s.heap.size ≤ q) nL cells slots Q pc L (.ref b :: st) σ :=
  fun ls H locs hl hP hS => va_slen B.hx B.hb hX hbl (by show ¬ s.heap.size ≤ b; omega) hS d (k ls H locs hl hP hS)
end OL
theorem ol_in {k j Ln : Nat} (h : 4 * k + j < Ln) (hL : Ln ≤ 2048) : vp_in (nI (4 * k) + nI j) Ln := by
  rw [nI_add]
  exact vp_in_nI h (by omega)
theorem ol_in0 {k Ln : Nat} (h : 4 * k < Ln) (hL : Ln ≤ 2048) : vp_in (nI (4 * k)) Ln := vp_in_nI h (by omega)
theorem ol_out {x : Int32} (n0 : ¬ x = (0 : Int32)) (n1 : ¬ x = (1 : Int32)) (n2 : ¬ x = (2 : Int32)) (n3 : ¬ x = (3 : Int32)) (n4 : ¬ x = (4 : Int32)) (n5 : ¬ x = (5 : Int32)) (n6 : ¬ x = (6 : Int32)) (n7 : ¬ x = (7 : Int32)) (n8 : ¬ x = (8 : Int32)) (n9 : ¬ x = (9 : Int32)) (n10 : ¬ x = (10 : Int32)) (n11 : ¬ x = (11 : Int32)) (n12 : ¬ x = (12 : Int32)) (n13 : ¬ x = (13 : Int32)) (n14 : ¬ x = (14 : Int32)) (n15 : ¬ x = (15 : Int32)) (n16 : ¬ x = (16 : Int32)) (n17 : ¬ x = (17 : Int32)) (n18 : ¬ x = (18 : Int32)) (n19 : ¬ x = (19 : Int32)) : x.toInt < 0 ∨ 19 < x.toInt := by
  apply Classical.byContradiction
  intro hc
  have h1 : 0 ≤ x.toInt ∧ x.toInt ≤ 19 := by omega
  have m0 : x.toInt ≠ 0 := fun h => n0 (Int32.toInt_inj.mp (h.trans (by decide)))
  have m1 : x.toInt ≠ 1 := fun h => n1 (Int32.toInt_inj.mp (h.trans (by decide)))
  have m2 : x.toInt ≠ 2 := fun h => n2 (Int32.toInt_inj.mp (h.trans (by decide)))
  have m3 : x.toInt ≠ 3 := fun h => n3 (Int32.toInt_inj.mp (h.trans (by decide)))
  have m4 : x.toInt ≠ 4 := fun h => n4 (Int32.toInt_inj.mp (h.trans (by decide)))
  have m5 : x.toInt ≠ 5 := fun h => n5 (Int32.toInt_inj.mp (h.trans (by decide)))
  have m6 : x.toInt ≠ 6 := fun h => n6 (Int32.toInt_inj.mp (h.trans (by decide)))
  have m7 : x.toInt ≠ 7 := fun h => n7 (Int32.toInt_inj.mp (h.trans (by decide)))
  have m8 : x.toInt ≠ 8 := fun h => n8 (Int32.toInt_inj.mp (h.trans (by decide)))
  have m9 : x.toInt ≠ 9 := fun h => n9 (Int32.toInt_inj.mp (h.trans (by decide)))
  have m10 : x.toInt ≠ 10 := fun h => n10 (Int32.toInt_inj.mp (h.trans (by decide)))
  have m11 : x.toInt ≠ 11 := fun h => n11 (Int32.toInt_inj.mp (h.trans (by decide)))
  have m12 : x.toInt ≠ 12 := fun h => n12 (Int32.toInt_inj.mp (h.trans (by decide)))
  have m13 : x.toInt ≠ 13 := fun h => n13 (Int32.toInt_inj.mp (h.trans (by decide)))
  have m14 : x.toInt ≠ 14 := fun h => n14 (Int32.toInt_inj.mp (h.trans (by decide)))
  have m15 : x.toInt ≠ 15 := fun h => n15 (Int32.toInt_inj.mp (h.trans (by decide)))
  have m16 : x.toInt ≠ 16 := fun h => n16 (Int32.toInt_inj.mp (h.trans (by decide)))
  have m17 : x.toInt ≠ 17 := fun h => n17 (Int32.toInt_inj.mp (h.trans (by decide)))
  have m18 : x.toInt ≠ 18 := fun h => n18 (Int32.toInt_inj.mp (h.trans (by decide)))
  have m19 : x.toInt ≠ 19 := fun h => n19 (Int32.toInt_inj.mp (h.trans (by decide)))
  omega

theorem od_law_0 : decode code 0 = .ok (.new 7, 3) := by decide +kernel
theorem od_law_3 : decode code 3 = .ok (.dup, 1) := by decide +kernel
theorem od_law_4 : decode code 4 = .ok (.invokespecial 9, 3) := by decide +kernel
theorem od_law_7 : decode code 7 = .ok (.astore_n 1, 1) := by decide +kernel
theorem od_law_8 : decode code 8 = .ok (.new 10, 3) := by decide +kernel
theorem od_law_11 : decode code 11 = .ok (.dup, 1) := by decide +kernel
theorem od_law_12 : decode code 12 = .ok (.invokespecial 12, 3) := by decide +kernel
theorem od_law_15 : decode code 15 = .ok (.astore_n 2, 1) := by decide +kernel
theorem od_law_16 : decode code 16 = .ok (.iconst 0, 1) := by decide +kernel
theorem od_law_17 : decode code 17 = .ok (.istore_n 3, 1) := by decide +kernel
theorem od_law_18 : decode code 18 = .ok (.iload_n 3, 1) := by decide +kernel
theorem od_law_19 : decode code 19 = .ok (.aload_n 0, 1) := by decide +kernel
theorem od_law_20 : decode code 20 = .ok (.arraylength, 1) := by decide +kernel
theorem od_law_21 : decode code 21 = .ok (.iconst 4, 1) := by decide +kernel
theorem od_law_22 : decode code 22 = .ok (.isub, 1) := by decide +kernel
theorem od_law_23 : decode code 23 = .ok (.if_icmp .gt (557), 3) := by decide +kernel
theorem od_law_26 : decode code 26 = .ok (.aload_n 0, 1) := by decide +kernel
theorem od_law_27 : decode code 27 = .ok (.iload_n 3, 1) := by decide +kernel
theorem od_law_28 : decode code 28 = .ok (.iaload, 1) := by decide +kernel
theorem od_law_29 : decode code 29 = .ok (.bipush (31), 2) := by decide +kernel
theorem od_law_31 : decode code 31 = .ok (.iand, 1) := by decide +kernel
theorem od_law_32 : decode code 32 = .ok (.tableswitch (542) (0) (19) #[96, 149, 160, 173, 186, 219, 262, 295, 318, 331, 354, 377, 390, 403, 416, 439, 472, 483, 496, 519], 96) := by decide +kernel
theorem od_law_128 : decode code 128 = .ok (.aload_n 1, 1) := by decide +kernel
theorem od_law_129 : decode code 129 = .ok (.aload_n 0, 1) := by decide +kernel
theorem od_law_130 : decode code 130 = .ok (.iload_n 3, 1) := by decide +kernel
theorem od_law_131 : decode code 131 = .ok (.iconst 1, 1) := by decide +kernel
theorem od_law_132 : decode code 132 = .ok (.iadd, 1) := by decide +kernel
theorem od_law_133 : decode code 133 = .ok (.iaload, 1) := by decide +kernel
theorem od_law_134 : decode code 134 = .ok (.i2l, 1) := by decide +kernel
theorem od_law_135 : decode code 135 = .ok (.bipush (32), 2) := by decide +kernel
theorem od_law_137 : decode code 137 = .ok (.lshl, 1) := by decide +kernel
theorem od_law_138 : decode code 138 = .ok (.aload_n 0, 1) := by decide +kernel
theorem od_law_139 : decode code 139 = .ok (.iload_n 3, 1) := by decide +kernel
theorem od_law_140 : decode code 140 = .ok (.iconst 2, 1) := by decide +kernel
theorem od_law_141 : decode code 141 = .ok (.iadd, 1) := by decide +kernel
theorem od_law_142 : decode code 142 = .ok (.iaload, 1) := by decide +kernel
theorem od_law_143 : decode code 143 = .ok (.i2l, 1) := by decide +kernel
theorem od_law_144 : decode code 144 = .ok (.ldc2_w 13, 3) := by decide +kernel
theorem od_law_147 : decode code 147 = .ok (.land, 1) := by decide +kernel
theorem od_law_148 : decode code 148 = .ok (.lor, 1) := by decide +kernel
theorem od_law_149 : decode code 149 = .ok (.invokevirtual 15, 3) := by decide +kernel
theorem od_law_152 : decode code 152 = .ok (.aload_n 2, 1) := by decide +kernel
theorem od_law_153 : decode code 153 = .ok (.aload_n 0, 1) := by decide +kernel
theorem od_law_154 : decode code 154 = .ok (.iload_n 3, 1) := by decide +kernel
theorem od_law_155 : decode code 155 = .ok (.iconst 1, 1) := by decide +kernel
theorem od_law_156 : decode code 156 = .ok (.iadd, 1) := by decide +kernel
theorem od_law_157 : decode code 157 = .ok (.iaload, 1) := by decide +kernel
theorem od_law_158 : decode code 158 = .ok (.i2l, 1) := by decide +kernel
theorem od_law_159 : decode code 159 = .ok (.bipush (32), 2) := by decide +kernel
theorem od_law_161 : decode code 161 = .ok (.lshl, 1) := by decide +kernel
theorem od_law_162 : decode code 162 = .ok (.aload_n 0, 1) := by decide +kernel
theorem od_law_163 : decode code 163 = .ok (.iload_n 3, 1) := by decide +kernel
theorem od_law_164 : decode code 164 = .ok (.iconst 2, 1) := by decide +kernel
theorem od_law_165 : decode code 165 = .ok (.iadd, 1) := by decide +kernel
theorem od_law_166 : decode code 166 = .ok (.iaload, 1) := by decide +kernel
theorem od_law_167 : decode code 167 = .ok (.i2l, 1) := by decide +kernel
theorem od_law_168 : decode code 168 = .ok (.ldc2_w 13, 3) := by decide +kernel
theorem od_law_171 : decode code 171 = .ok (.land, 1) := by decide +kernel
theorem od_law_172 : decode code 172 = .ok (.lor, 1) := by decide +kernel
theorem od_law_173 : decode code 173 = .ok (.invokevirtual 19, 3) := by decide +kernel
theorem od_law_176 : decode code 176 = .ok (.if_icmp .eq (398), 3) := by decide +kernel
theorem od_law_179 : decode code 179 = .ok (.iconst 0, 1) := by decide +kernel
theorem od_law_180 : decode code 180 = .ok (.ireturn, 1) := by decide +kernel
theorem od_law_181 : decode code 181 = .ok (.aload_n 1, 1) := by decide +kernel
theorem od_law_182 : decode code 182 = .ok (.invokevirtual 20, 3) := by decide +kernel
theorem od_law_185 : decode code 185 = .ok (.aload_n 2, 1) := by decide +kernel
theorem od_law_186 : decode code 186 = .ok (.invokevirtual 23, 3) := by decide +kernel
theorem od_law_189 : decode code 189 = .ok (.goto (385), 3) := by decide +kernel
theorem od_law_192 : decode code 192 = .ok (.aload_n 1, 1) := by decide +kernel
theorem od_law_193 : decode code 193 = .ok (.invokevirtual 24, 3) := by decide +kernel
theorem od_law_196 : decode code 196 = .ok (.aload_n 2, 1) := by decide +kernel
theorem od_law_197 : decode code 197 = .ok (.invokevirtual 28, 3) := by decide +kernel
theorem od_law_200 : decode code 200 = .ok (.if_icmp .eq (374), 3) := by decide +kernel
theorem od_law_203 : decode code 203 = .ok (.iconst 0, 1) := by decide +kernel
theorem od_law_204 : decode code 204 = .ok (.ireturn, 1) := by decide +kernel
theorem od_law_205 : decode code 205 = .ok (.aload_n 1, 1) := by decide +kernel
theorem od_law_206 : decode code 206 = .ok (.invokevirtual 29, 3) := by decide +kernel
theorem od_law_209 : decode code 209 = .ok (.aload_n 2, 1) := by decide +kernel
theorem od_law_210 : decode code 210 = .ok (.invokevirtual 32, 3) := by decide +kernel
theorem od_law_213 : decode code 213 = .ok (.if_icmp .eq (361), 3) := by decide +kernel
theorem od_law_216 : decode code 216 = .ok (.iconst 0, 1) := by decide +kernel
theorem od_law_217 : decode code 217 = .ok (.ireturn, 1) := by decide +kernel
theorem od_law_218 : decode code 218 = .ok (.aload_n 1, 1) := by decide +kernel
theorem od_law_219 : decode code 219 = .ok (.aload_n 0, 1) := by decide +kernel
theorem od_law_220 : decode code 220 = .ok (.iload_n 3, 1) := by decide +kernel
theorem od_law_221 : decode code 221 = .ok (.iconst 1, 1) := by decide +kernel
theorem od_law_222 : decode code 222 = .ok (.iadd, 1) := by decide +kernel
theorem od_law_223 : decode code 223 = .ok (.iaload, 1) := by decide +kernel
theorem od_law_224 : decode code 224 = .ok (.aload_n 0, 1) := by decide +kernel
theorem od_law_225 : decode code 225 = .ok (.iload_n 3, 1) := by decide +kernel
theorem od_law_226 : decode code 226 = .ok (.iconst 2, 1) := by decide +kernel
theorem od_law_227 : decode code 227 = .ok (.iadd, 1) := by decide +kernel
theorem od_law_228 : decode code 228 = .ok (.iaload, 1) := by decide +kernel
theorem od_law_229 : decode code 229 = .ok (.invokevirtual 33, 3) := by decide +kernel
theorem od_law_232 : decode code 232 = .ok (.aload_n 2, 1) := by decide +kernel
theorem od_law_233 : decode code 233 = .ok (.aload_n 0, 1) := by decide +kernel
theorem od_law_234 : decode code 234 = .ok (.iload_n 3, 1) := by decide +kernel
theorem od_law_235 : decode code 235 = .ok (.iconst 1, 1) := by decide +kernel
theorem od_law_236 : decode code 236 = .ok (.iadd, 1) := by decide +kernel
theorem od_law_237 : decode code 237 = .ok (.iaload, 1) := by decide +kernel
theorem od_law_238 : decode code 238 = .ok (.aload_n 0, 1) := by decide +kernel
theorem od_law_239 : decode code 239 = .ok (.iload_n 3, 1) := by decide +kernel
theorem od_law_240 : decode code 240 = .ok (.iconst 2, 1) := by decide +kernel
theorem od_law_241 : decode code 241 = .ok (.iadd, 1) := by decide +kernel
theorem od_law_242 : decode code 242 = .ok (.iaload, 1) := by decide +kernel
theorem od_law_243 : decode code 243 = .ok (.invokevirtual 37, 3) := by decide +kernel
theorem od_law_246 : decode code 246 = .ok (.if_icmp .eq (328), 3) := by decide +kernel
theorem od_law_249 : decode code 249 = .ok (.iconst 0, 1) := by decide +kernel
theorem od_law_250 : decode code 250 = .ok (.ireturn, 1) := by decide +kernel
theorem od_law_251 : decode code 251 = .ok (.aload_n 1, 1) := by decide +kernel
theorem od_law_252 : decode code 252 = .ok (.aload_n 0, 1) := by decide +kernel
theorem od_law_253 : decode code 253 = .ok (.iload_n 3, 1) := by decide +kernel
theorem od_law_254 : decode code 254 = .ok (.iconst 1, 1) := by decide +kernel
theorem od_law_255 : decode code 255 = .ok (.iadd, 1) := by decide +kernel
theorem od_law_256 : decode code 256 = .ok (.iaload, 1) := by decide +kernel
theorem od_law_257 : decode code 257 = .ok (.aload_n 0, 1) := by decide +kernel
theorem od_law_258 : decode code 258 = .ok (.iload_n 3, 1) := by decide +kernel
theorem od_law_259 : decode code 259 = .ok (.iconst 2, 1) := by decide +kernel
theorem od_law_260 : decode code 260 = .ok (.iadd, 1) := by decide +kernel
theorem od_law_261 : decode code 261 = .ok (.iaload, 1) := by decide +kernel
theorem od_law_262 : decode code 262 = .ok (.aload_n 0, 1) := by decide +kernel
theorem od_law_263 : decode code 263 = .ok (.iload_n 3, 1) := by decide +kernel
theorem od_law_264 : decode code 264 = .ok (.iconst 3, 1) := by decide +kernel
theorem od_law_265 : decode code 265 = .ok (.iadd, 1) := by decide +kernel
theorem od_law_266 : decode code 266 = .ok (.iaload, 1) := by decide +kernel
theorem od_law_267 : decode code 267 = .ok (.invokevirtual 38, 3) := by decide +kernel
theorem od_law_270 : decode code 270 = .ok (.aload_n 2, 1) := by decide +kernel
theorem od_law_271 : decode code 271 = .ok (.aload_n 0, 1) := by decide +kernel
theorem od_law_272 : decode code 272 = .ok (.iload_n 3, 1) := by decide +kernel
theorem od_law_273 : decode code 273 = .ok (.iconst 1, 1) := by decide +kernel
theorem od_law_274 : decode code 274 = .ok (.iadd, 1) := by decide +kernel
theorem od_law_275 : decode code 275 = .ok (.iaload, 1) := by decide +kernel
theorem od_law_276 : decode code 276 = .ok (.aload_n 0, 1) := by decide +kernel
theorem od_law_277 : decode code 277 = .ok (.iload_n 3, 1) := by decide +kernel
theorem od_law_278 : decode code 278 = .ok (.iconst 2, 1) := by decide +kernel
theorem od_law_279 : decode code 279 = .ok (.iadd, 1) := by decide +kernel
theorem od_law_280 : decode code 280 = .ok (.iaload, 1) := by decide +kernel
theorem od_law_281 : decode code 281 = .ok (.aload_n 0, 1) := by decide +kernel
theorem od_law_282 : decode code 282 = .ok (.iload_n 3, 1) := by decide +kernel
theorem od_law_283 : decode code 283 = .ok (.iconst 3, 1) := by decide +kernel
theorem od_law_284 : decode code 284 = .ok (.iadd, 1) := by decide +kernel
theorem od_law_285 : decode code 285 = .ok (.iaload, 1) := by decide +kernel
theorem od_law_286 : decode code 286 = .ok (.invokevirtual 42, 3) := by decide +kernel
theorem od_law_289 : decode code 289 = .ok (.if_icmp .eq (285), 3) := by decide +kernel
theorem od_law_292 : decode code 292 = .ok (.iconst 0, 1) := by decide +kernel
theorem od_law_293 : decode code 293 = .ok (.ireturn, 1) := by decide +kernel
theorem od_law_294 : decode code 294 = .ok (.aload_n 1, 1) := by decide +kernel
theorem od_law_295 : decode code 295 = .ok (.aload_n 0, 1) := by decide +kernel
theorem od_law_296 : decode code 296 = .ok (.iload_n 3, 1) := by decide +kernel
theorem od_law_297 : decode code 297 = .ok (.iconst 1, 1) := by decide +kernel
theorem od_law_298 : decode code 298 = .ok (.iadd, 1) := by decide +kernel
theorem od_law_299 : decode code 299 = .ok (.iaload, 1) := by decide +kernel
theorem od_law_300 : decode code 300 = .ok (.aload_n 0, 1) := by decide +kernel
theorem od_law_301 : decode code 301 = .ok (.iload_n 3, 1) := by decide +kernel
theorem od_law_302 : decode code 302 = .ok (.iconst 2, 1) := by decide +kernel
theorem od_law_303 : decode code 303 = .ok (.iadd, 1) := by decide +kernel
theorem od_law_304 : decode code 304 = .ok (.iaload, 1) := by decide +kernel
theorem od_law_305 : decode code 305 = .ok (.invokevirtual 43, 3) := by decide +kernel
theorem od_law_308 : decode code 308 = .ok (.aload_n 2, 1) := by decide +kernel
theorem od_law_309 : decode code 309 = .ok (.aload_n 0, 1) := by decide +kernel
theorem od_law_310 : decode code 310 = .ok (.iload_n 3, 1) := by decide +kernel
theorem od_law_311 : decode code 311 = .ok (.iconst 1, 1) := by decide +kernel
theorem od_law_312 : decode code 312 = .ok (.iadd, 1) := by decide +kernel
theorem od_law_313 : decode code 313 = .ok (.iaload, 1) := by decide +kernel
theorem od_law_314 : decode code 314 = .ok (.aload_n 0, 1) := by decide +kernel
theorem od_law_315 : decode code 315 = .ok (.iload_n 3, 1) := by decide +kernel
theorem od_law_316 : decode code 316 = .ok (.iconst 2, 1) := by decide +kernel
theorem od_law_317 : decode code 317 = .ok (.iadd, 1) := by decide +kernel
theorem od_law_318 : decode code 318 = .ok (.iaload, 1) := by decide +kernel
theorem od_law_319 : decode code 319 = .ok (.invokevirtual 47, 3) := by decide +kernel
theorem od_law_322 : decode code 322 = .ok (.if_icmp .eq (252), 3) := by decide +kernel
theorem od_law_325 : decode code 325 = .ok (.iconst 0, 1) := by decide +kernel
theorem od_law_326 : decode code 326 = .ok (.ireturn, 1) := by decide +kernel
theorem od_law_327 : decode code 327 = .ok (.aload_n 1, 1) := by decide +kernel
theorem od_law_328 : decode code 328 = .ok (.aload_n 0, 1) := by decide +kernel
theorem od_law_329 : decode code 329 = .ok (.iload_n 3, 1) := by decide +kernel
theorem od_law_330 : decode code 330 = .ok (.iconst 1, 1) := by decide +kernel
theorem od_law_331 : decode code 331 = .ok (.iadd, 1) := by decide +kernel
theorem od_law_332 : decode code 332 = .ok (.iaload, 1) := by decide +kernel
theorem od_law_333 : decode code 333 = .ok (.invokevirtual 48, 3) := by decide +kernel
theorem od_law_336 : decode code 336 = .ok (.aload_n 2, 1) := by decide +kernel
theorem od_law_337 : decode code 337 = .ok (.aload_n 0, 1) := by decide +kernel
theorem od_law_338 : decode code 338 = .ok (.iload_n 3, 1) := by decide +kernel
theorem od_law_339 : decode code 339 = .ok (.iconst 1, 1) := by decide +kernel
theorem od_law_340 : decode code 340 = .ok (.iadd, 1) := by decide +kernel
theorem od_law_341 : decode code 341 = .ok (.iaload, 1) := by decide +kernel
theorem od_law_342 : decode code 342 = .ok (.invokevirtual 52, 3) := by decide +kernel
theorem od_law_345 : decode code 345 = .ok (.if_icmp .eq (229), 3) := by decide +kernel
theorem od_law_348 : decode code 348 = .ok (.iconst 0, 1) := by decide +kernel
theorem od_law_349 : decode code 349 = .ok (.ireturn, 1) := by decide +kernel
theorem od_law_350 : decode code 350 = .ok (.aload_n 1, 1) := by decide +kernel
theorem od_law_351 : decode code 351 = .ok (.invokevirtual 53, 3) := by decide +kernel
theorem od_law_354 : decode code 354 = .ok (.aload_n 2, 1) := by decide +kernel
theorem od_law_355 : decode code 355 = .ok (.invokevirtual 56, 3) := by decide +kernel
theorem od_law_358 : decode code 358 = .ok (.if_icmp .eq (216), 3) := by decide +kernel
theorem od_law_361 : decode code 361 = .ok (.iconst 0, 1) := by decide +kernel
theorem od_law_362 : decode code 362 = .ok (.ireturn, 1) := by decide +kernel
theorem od_law_363 : decode code 363 = .ok (.aload_n 1, 1) := by decide +kernel
theorem od_law_364 : decode code 364 = .ok (.aload_n 0, 1) := by decide +kernel
theorem od_law_365 : decode code 365 = .ok (.iload_n 3, 1) := by decide +kernel
theorem od_law_366 : decode code 366 = .ok (.iconst 1, 1) := by decide +kernel
theorem od_law_367 : decode code 367 = .ok (.iadd, 1) := by decide +kernel
theorem od_law_368 : decode code 368 = .ok (.iaload, 1) := by decide +kernel
theorem od_law_369 : decode code 369 = .ok (.invokevirtual 57, 3) := by decide +kernel
theorem od_law_372 : decode code 372 = .ok (.aload_n 2, 1) := by decide +kernel
theorem od_law_373 : decode code 373 = .ok (.aload_n 0, 1) := by decide +kernel
theorem od_law_374 : decode code 374 = .ok (.iload_n 3, 1) := by decide +kernel
theorem od_law_375 : decode code 375 = .ok (.iconst 1, 1) := by decide +kernel
theorem od_law_376 : decode code 376 = .ok (.iadd, 1) := by decide +kernel
theorem od_law_377 : decode code 377 = .ok (.iaload, 1) := by decide +kernel
theorem od_law_378 : decode code 378 = .ok (.invokevirtual 60, 3) := by decide +kernel
theorem od_law_381 : decode code 381 = .ok (.if_icmp .eq (193), 3) := by decide +kernel
theorem od_law_384 : decode code 384 = .ok (.iconst 0, 1) := by decide +kernel
theorem od_law_385 : decode code 385 = .ok (.ireturn, 1) := by decide +kernel
theorem od_law_386 : decode code 386 = .ok (.aload_n 1, 1) := by decide +kernel
theorem od_law_387 : decode code 387 = .ok (.aload_n 0, 1) := by decide +kernel
theorem od_law_388 : decode code 388 = .ok (.iload_n 3, 1) := by decide +kernel
theorem od_law_389 : decode code 389 = .ok (.iconst 1, 1) := by decide +kernel
theorem od_law_390 : decode code 390 = .ok (.iadd, 1) := by decide +kernel
theorem od_law_391 : decode code 391 = .ok (.iaload, 1) := by decide +kernel
theorem od_law_392 : decode code 392 = .ok (.invokevirtual 61, 3) := by decide +kernel
theorem od_law_395 : decode code 395 = .ok (.aload_n 2, 1) := by decide +kernel
theorem od_law_396 : decode code 396 = .ok (.aload_n 0, 1) := by decide +kernel
theorem od_law_397 : decode code 397 = .ok (.iload_n 3, 1) := by decide +kernel
theorem od_law_398 : decode code 398 = .ok (.iconst 1, 1) := by decide +kernel
theorem od_law_399 : decode code 399 = .ok (.iadd, 1) := by decide +kernel
theorem od_law_400 : decode code 400 = .ok (.iaload, 1) := by decide +kernel
theorem od_law_401 : decode code 401 = .ok (.invokevirtual 64, 3) := by decide +kernel
theorem od_law_404 : decode code 404 = .ok (.if_icmp .eq (170), 3) := by decide +kernel
theorem od_law_407 : decode code 407 = .ok (.iconst 0, 1) := by decide +kernel
theorem od_law_408 : decode code 408 = .ok (.ireturn, 1) := by decide +kernel
theorem od_law_409 : decode code 409 = .ok (.aload_n 1, 1) := by decide +kernel
theorem od_law_410 : decode code 410 = .ok (.invokevirtual 65, 3) := by decide +kernel
theorem od_law_413 : decode code 413 = .ok (.aload_n 2, 1) := by decide +kernel
theorem od_law_414 : decode code 414 = .ok (.invokevirtual 68, 3) := by decide +kernel
theorem od_law_417 : decode code 417 = .ok (.if_icmp .eq (157), 3) := by decide +kernel
theorem od_law_420 : decode code 420 = .ok (.iconst 0, 1) := by decide +kernel
theorem od_law_421 : decode code 421 = .ok (.ireturn, 1) := by decide +kernel
theorem od_law_422 : decode code 422 = .ok (.aload_n 1, 1) := by decide +kernel
theorem od_law_423 : decode code 423 = .ok (.invokevirtual 69, 3) := by decide +kernel
theorem od_law_426 : decode code 426 = .ok (.aload_n 2, 1) := by decide +kernel
theorem od_law_427 : decode code 427 = .ok (.invokevirtual 72, 3) := by decide +kernel
theorem od_law_430 : decode code 430 = .ok (.if_icmp .eq (144), 3) := by decide +kernel
theorem od_law_433 : decode code 433 = .ok (.iconst 0, 1) := by decide +kernel
theorem od_law_434 : decode code 434 = .ok (.ireturn, 1) := by decide +kernel
theorem od_law_435 : decode code 435 = .ok (.aload_n 1, 1) := by decide +kernel
theorem od_law_436 : decode code 436 = .ok (.invokevirtual 73, 3) := by decide +kernel
theorem od_law_439 : decode code 439 = .ok (.aload_n 2, 1) := by decide +kernel
theorem od_law_440 : decode code 440 = .ok (.invokevirtual 76, 3) := by decide +kernel
theorem od_law_443 : decode code 443 = .ok (.if_icmp .eq (131), 3) := by decide +kernel
theorem od_law_446 : decode code 446 = .ok (.iconst 0, 1) := by decide +kernel
theorem od_law_447 : decode code 447 = .ok (.ireturn, 1) := by decide +kernel
theorem od_law_448 : decode code 448 = .ok (.aload_n 1, 1) := by decide +kernel
theorem od_law_449 : decode code 449 = .ok (.aload_n 0, 1) := by decide +kernel
theorem od_law_450 : decode code 450 = .ok (.iload_n 3, 1) := by decide +kernel
theorem od_law_451 : decode code 451 = .ok (.iconst 1, 1) := by decide +kernel
theorem od_law_452 : decode code 452 = .ok (.iadd, 1) := by decide +kernel
theorem od_law_453 : decode code 453 = .ok (.iaload, 1) := by decide +kernel
theorem od_law_454 : decode code 454 = .ok (.invokevirtual 77, 3) := by decide +kernel
theorem od_law_457 : decode code 457 = .ok (.aload_n 2, 1) := by decide +kernel
theorem od_law_458 : decode code 458 = .ok (.aload_n 0, 1) := by decide +kernel
theorem od_law_459 : decode code 459 = .ok (.iload_n 3, 1) := by decide +kernel
theorem od_law_460 : decode code 460 = .ok (.iconst 1, 1) := by decide +kernel
theorem od_law_461 : decode code 461 = .ok (.iadd, 1) := by decide +kernel
theorem od_law_462 : decode code 462 = .ok (.iaload, 1) := by decide +kernel
theorem od_law_463 : decode code 463 = .ok (.invokevirtual 80, 3) := by decide +kernel
theorem od_law_466 : decode code 466 = .ok (.if_icmp .eq (108), 3) := by decide +kernel
theorem od_law_469 : decode code 469 = .ok (.iconst 0, 1) := by decide +kernel
theorem od_law_470 : decode code 470 = .ok (.ireturn, 1) := by decide +kernel
theorem od_law_471 : decode code 471 = .ok (.aload_n 1, 1) := by decide +kernel
theorem od_law_472 : decode code 472 = .ok (.aload_n 0, 1) := by decide +kernel
theorem od_law_473 : decode code 473 = .ok (.iload_n 3, 1) := by decide +kernel
theorem od_law_474 : decode code 474 = .ok (.iconst 1, 1) := by decide +kernel
theorem od_law_475 : decode code 475 = .ok (.iadd, 1) := by decide +kernel
theorem od_law_476 : decode code 476 = .ok (.iaload, 1) := by decide +kernel
theorem od_law_477 : decode code 477 = .ok (.aload_n 0, 1) := by decide +kernel
theorem od_law_478 : decode code 478 = .ok (.iload_n 3, 1) := by decide +kernel
theorem od_law_479 : decode code 479 = .ok (.iconst 2, 1) := by decide +kernel
theorem od_law_480 : decode code 480 = .ok (.iadd, 1) := by decide +kernel
theorem od_law_481 : decode code 481 = .ok (.iaload, 1) := by decide +kernel
theorem od_law_482 : decode code 482 = .ok (.invokevirtual 81, 3) := by decide +kernel
theorem od_law_485 : decode code 485 = .ok (.aload_n 2, 1) := by decide +kernel
theorem od_law_486 : decode code 486 = .ok (.aload_n 0, 1) := by decide +kernel
theorem od_law_487 : decode code 487 = .ok (.iload_n 3, 1) := by decide +kernel
theorem od_law_488 : decode code 488 = .ok (.iconst 1, 1) := by decide +kernel
theorem od_law_489 : decode code 489 = .ok (.iadd, 1) := by decide +kernel
theorem od_law_490 : decode code 490 = .ok (.iaload, 1) := by decide +kernel
theorem od_law_491 : decode code 491 = .ok (.aload_n 0, 1) := by decide +kernel
theorem od_law_492 : decode code 492 = .ok (.iload_n 3, 1) := by decide +kernel
theorem od_law_493 : decode code 493 = .ok (.iconst 2, 1) := by decide +kernel
theorem od_law_494 : decode code 494 = .ok (.iadd, 1) := by decide +kernel
theorem od_law_495 : decode code 495 = .ok (.iaload, 1) := by decide +kernel
theorem od_law_496 : decode code 496 = .ok (.invokevirtual 84, 3) := by decide +kernel
theorem od_law_499 : decode code 499 = .ok (.if_icmp .eq (75), 3) := by decide +kernel
theorem od_law_502 : decode code 502 = .ok (.iconst 0, 1) := by decide +kernel
theorem od_law_503 : decode code 503 = .ok (.ireturn, 1) := by decide +kernel
theorem od_law_504 : decode code 504 = .ok (.aload_n 1, 1) := by decide +kernel
theorem od_law_505 : decode code 505 = .ok (.invokevirtual 85, 3) := by decide +kernel
theorem od_law_508 : decode code 508 = .ok (.aload_n 2, 1) := by decide +kernel
theorem od_law_509 : decode code 509 = .ok (.invokevirtual 88, 3) := by decide +kernel
theorem od_law_512 : decode code 512 = .ok (.goto (62), 3) := by decide +kernel
theorem od_law_515 : decode code 515 = .ok (.aload_n 1, 1) := by decide +kernel
theorem od_law_516 : decode code 516 = .ok (.invokevirtual 89, 3) := by decide +kernel
theorem od_law_519 : decode code 519 = .ok (.aload_n 2, 1) := by decide +kernel
theorem od_law_520 : decode code 520 = .ok (.invokevirtual 93, 3) := by decide +kernel
theorem od_law_523 : decode code 523 = .ok (.if_icmp .eq (51), 3) := by decide +kernel
theorem od_law_526 : decode code 526 = .ok (.iconst 0, 1) := by decide +kernel
theorem od_law_527 : decode code 527 = .ok (.ireturn, 1) := by decide +kernel
theorem od_law_528 : decode code 528 = .ok (.aload_n 1, 1) := by decide +kernel
theorem od_law_529 : decode code 529 = .ok (.aload_n 0, 1) := by decide +kernel
theorem od_law_530 : decode code 530 = .ok (.iload_n 3, 1) := by decide +kernel
theorem od_law_531 : decode code 531 = .ok (.iconst 1, 1) := by decide +kernel
theorem od_law_532 : decode code 532 = .ok (.iadd, 1) := by decide +kernel
theorem od_law_533 : decode code 533 = .ok (.iaload, 1) := by decide +kernel
theorem od_law_534 : decode code 534 = .ok (.invokevirtual 94, 3) := by decide +kernel
theorem od_law_537 : decode code 537 = .ok (.aload_n 2, 1) := by decide +kernel
theorem od_law_538 : decode code 538 = .ok (.aload_n 0, 1) := by decide +kernel
theorem od_law_539 : decode code 539 = .ok (.iload_n 3, 1) := by decide +kernel
theorem od_law_540 : decode code 540 = .ok (.iconst 1, 1) := by decide +kernel
theorem od_law_541 : decode code 541 = .ok (.iadd, 1) := by decide +kernel
theorem od_law_542 : decode code 542 = .ok (.iaload, 1) := by decide +kernel
theorem od_law_543 : decode code 543 = .ok (.invokevirtual 97, 3) := by decide +kernel
theorem od_law_546 : decode code 546 = .ok (.if_icmp .eq (28), 3) := by decide +kernel
theorem od_law_549 : decode code 549 = .ok (.iconst 0, 1) := by decide +kernel
theorem od_law_550 : decode code 550 = .ok (.ireturn, 1) := by decide +kernel
theorem od_law_551 : decode code 551 = .ok (.aload_n 1, 1) := by decide +kernel
theorem od_law_552 : decode code 552 = .ok (.aload_n 0, 1) := by decide +kernel
theorem od_law_553 : decode code 553 = .ok (.iload_n 3, 1) := by decide +kernel
theorem od_law_554 : decode code 554 = .ok (.iconst 1, 1) := by decide +kernel
theorem od_law_555 : decode code 555 = .ok (.iadd, 1) := by decide +kernel
theorem od_law_556 : decode code 556 = .ok (.iaload, 1) := by decide +kernel
theorem od_law_557 : decode code 557 = .ok (.invokevirtual 98, 3) := by decide +kernel
theorem od_law_560 : decode code 560 = .ok (.aload_n 2, 1) := by decide +kernel
theorem od_law_561 : decode code 561 = .ok (.aload_n 0, 1) := by decide +kernel
theorem od_law_562 : decode code 562 = .ok (.iload_n 3, 1) := by decide +kernel
theorem od_law_563 : decode code 563 = .ok (.iconst 1, 1) := by decide +kernel
theorem od_law_564 : decode code 564 = .ok (.iadd, 1) := by decide +kernel
theorem od_law_565 : decode code 565 = .ok (.iaload, 1) := by decide +kernel
theorem od_law_566 : decode code 566 = .ok (.invokevirtual 102, 3) := by decide +kernel
theorem od_law_569 : decode code 569 = .ok (.if_icmp .eq (5), 3) := by decide +kernel
theorem od_law_572 : decode code 572 = .ok (.iconst 0, 1) := by decide +kernel
theorem od_law_573 : decode code 573 = .ok (.ireturn, 1) := by decide +kernel
theorem od_law_574 : decode code 574 = .ok (.iinc 3 (4), 3) := by decide +kernel
theorem od_law_577 : decode code 577 = .ok (.goto (-559), 3) := by decide +kernel
theorem od_law_580 : decode code 580 = .ok (.iconst 1, 1) := by decide +kernel
theorem od_law_581 : decode code 581 = .ok (.ireturn, 1) := by decide +kernel
theorem ol_end {k Ln : Nat} (h1 : Ln < 4 * k) (h2 : 4 * k ≤ 2051) : nI Ln - nI 4 < nI (4 * k) := by
  rw [Int32.lt_iff_toInt_lt, pk_sub_toInt (by omega) (by omega), nI_toInt (by omega)]
  omega
theorem ol_go_on {k Ln : Nat} (h1 : 4 * k ≤ 2051) (h2 : Ln ≤ 2048) (h : ¬ nI Ln - nI 4 < nI (4 * k)) : 4 * k + 3 < Ln := by
  rw [Int32.lt_iff_toInt_lt, pk_sub_toInt (by omega) (by omega), nI_toInt (by omega)] at h
  omega
theorem ol_ret {p : Program} {l : Launch} {e : Env} {s : State} {m : MethodId} {below : List Frame} {meth : Method} {c : Code} {b : Nat} {τ : Type} {hp : τ → Heap → Prop} {L : List (Option Value)} {σ : τ} {own : String} {Ts : List Cond} (B : ox_B p s m #[.ref b] c 4 code own Ts) (hr : meth.sig.returnType = ret) (hlk : meth.locks = false) : ox_X p l e room_1 s m #[.ref b] below meth c hp (fun q => s.heap.size ≤ q) 4 43 7271 (lw_Z below #[.ref b] s) 581 L [.int 1] σ :=
  fun ls H locs hl hP hS => va_forget (fun q hq => hS.2.2 q hq) (lw_ret B.hx B.hb hr hlk od_law_581)
def ol_s_write (Rl : ox_S → ox_S → Prop) : Prop := ∀ (c m : ox_S) (x1 : Int64), Rl c m → ∃ (r : Int32) (c' m' : ox_S), oc_T_write x1 c = some (r, c') ∧ om_Mo_write x1 m = some (r, m') ∧ Rl c' m'
def ol_s_wipe (Rl : ox_S → ox_S → Prop) : Prop := ∀ (c m : ox_S) , Rl c m → ∃  (c' m' : ox_S), oc_T_wipe  c = some c' ∧ om_Mo_wipe  m = some m' ∧ Rl c' m'
def ol_s_load (Rl : ox_S → ox_S → Prop) : Prop := ∀ (c m : ox_S) , Rl c m → ∃ (r : Int32) (c' m' : ox_S), oc_T_load  c = some (r, c') ∧ om_Mo_load  m = some (r, m') ∧ Rl c' m'
def ol_s_size (Rl : ox_S → ox_S → Prop) : Prop := ∀ (c m : ox_S) , Rl c m → ∃ (r : Int32), oc_T_size  c = some r ∧ om_Mo_size  m = some r ∧ Rl c m
def ol_s_distance (Rl : ox_S → ox_S → Prop) : Prop := ∀ (c m : ox_S) (x1 : Int32) (x2 : Int32), Rl c m → ∃ (r : Int32), oc_T_distance x1 x2 c = some r ∧ om_Mo_distance x1 x2 m = some r ∧ Rl c m
def ol_s_mark (Rl : ox_S → ox_S → Prop) : Prop := ∀ (c m : ox_S) (x1 : Int32) (x2 : Int32) (x3 : Int32), Rl c m → ∃ (r : Int32) (c' m' : ox_S), oc_T_mark x1 x2 x3 c = some (r, c') ∧ om_Mo_mark x1 x2 x3 m = some (r, m') ∧ Rl c' m'
def ol_s_lift (Rl : ox_S → ox_S → Prop) : Prop := ∀ (c m : ox_S) (x1 : Int32) (x2 : Int32), Rl c m → ∃ (r : Int32) (c' m' : ox_S), oc_T_lift x1 x2 c = some (r, c') ∧ om_Mo_lift x1 x2 m = some (r, m') ∧ Rl c' m'
def ol_s_potential (Rl : ox_S → ox_S → Prop) : Prop := ∀ (c m : ox_S) (x1 : Int32), Rl c m → ∃ (r : Int32), oc_T_potential x1 c = some r ∧ om_Mo_potential x1 m = some r ∧ Rl c m
def ol_s_bound (Rl : ox_S → ox_S → Prop) : Prop := ∀ (c m : ox_S) , Rl c m → ∃ (r : Int32) (c' m' : ox_S), oc_T_bound  c = some (r, c') ∧ om_Mo_bound  m = some (r, m') ∧ Rl c' m'
def ol_s_degree (Rl : ox_S → ox_S → Prop) : Prop := ∀ (c m : ox_S) (x1 : Int32), Rl c m → ∃ (r : Int32) (c' m' : ox_S), oc_T_degree x1 c = some (r, c') ∧ om_Mo_degree x1 m = some (r, m') ∧ Rl c' m'
def ol_s_ascend (Rl : ox_S → ox_S → Prop) : Prop := ∀ (c m : ox_S) (x1 : Int32), Rl c m → ∃ (r : Int32) (c' m' : ox_S), oc_T_ascend x1 c = some (r, c') ∧ om_Mo_ascend x1 m = some (r, m') ∧ Rl c' m'
def ol_s_solve (Rl : ox_S → ox_S → Prop) : Prop := ∀ (c m : ox_S) , Rl c m → ∃ (r : Int32) (c' m' : ox_S), oc_T_solve  c = some (r, c') ∧ om_Mo_solve  m = some (r, m') ∧ Rl c' m'
def ol_s_ties (Rl : ox_S → ox_S → Prop) : Prop := ∀ (c m : ox_S) , Rl c m → ∃ (r : Int32) (m' : ox_S), oc_T_ties  c = some r ∧ om_Mo_ties  m = some (r, m') ∧ Rl c m'
def ol_s_improve (Rl : ox_S → ox_S → Prop) : Prop := ∀ (c m : ox_S) , Rl c m → ∃ (r : Int32) (c' m' : ox_S), oc_T_improve  c = some (r, c') ∧ om_Mo_improve  m = some (r, m') ∧ Rl c' m'
def ol_s_tour (Rl : ox_S → ox_S → Prop) : Prop := ∀ (c m : ox_S) (x1 : Int32), Rl c m → ∃ (r : Int32), oc_T_tour x1 c = some r ∧ om_Mo_tour x1 m = some r ∧ Rl c m
def ol_s_add (Rl : ox_S → ox_S → Prop) : Prop := ∀ (c m : ox_S) (x1 : Int32) (x2 : Int32), Rl c m → ∃ (r : Int32) (c' m' : ox_S), oc_T_add x1 x2 c = some (r, c') ∧ om_Mo_add x1 x2 m = some (r, m') ∧ Rl c' m'
def ol_s_drop (Rl : ox_S → ox_S → Prop) : Prop := ∀ (c m : ox_S) , Rl c m → ∃  (c' m' : ox_S), oc_T_drop  c = some c' ∧ om_Mo_drop  m = some m' ∧ Rl c' m'
def ol_s_covers (Rl : ox_S → ox_S → Prop) : Prop := ∀ (c m : ox_S) , Rl c m → ∃ (r : Int32) (m' : ox_S), oc_T_covers  c = some r ∧ om_Mo_covers  m = some (r, m') ∧ Rl c m'
def ol_s_caseBound (Rl : ox_S → ox_S → Prop) : Prop := ∀ (c m : ox_S) (x1 : Int32), Rl c m → ∃ (r : Int32) (c' m' : ox_S), oc_T_caseBound x1 c = some (r, c') ∧ om_Mo_caseBound x1 m = some (r, m') ∧ Rl c' m'
def ol_s_proves (Rl : ox_S → ox_S → Prop) : Prop := ∀ (c m : ox_S) (x1 : Int32), Rl c m → ∃ (r : Int32) (c' m' : ox_S), oc_T_proves x1 c = some (r, c') ∧ om_Mo_proves x1 m = some (r, m') ∧ Rl c' m'
def ol_sim (Rl : ox_S → ox_S → Prop) : Prop := ol_s_write Rl ∧ ol_s_wipe Rl ∧ ol_s_load Rl ∧ ol_s_size Rl ∧ ol_s_distance Rl ∧ ol_s_mark Rl ∧ ol_s_lift Rl ∧ ol_s_potential Rl ∧ ol_s_bound Rl ∧ ol_s_degree Rl ∧ ol_s_ascend Rl ∧ ol_s_solve Rl ∧ ol_s_ties Rl ∧ ol_s_improve Rl ∧ ol_s_tour Rl ∧ ol_s_add Rl ∧ ol_s_drop Rl ∧ ol_s_covers Rl ∧ ol_s_caseBound Rl ∧ ol_s_proves Rl
theorem ol_c_write {p : Program} {l : Launch} {e : Env} {s : State} {m : MethodId} {below : List Frame} {meth : Method} {c : Code} {D : va_G} {adc adm : Nat → Nat} {cI cC cZ : ClassId} {adK adV : Nat → Nat} {b Ln : Nat} {xs : Nat → Int32} (B : ox_B p s m #[.ref b] c 4 code "OneTreeToursLaw" ox_ws) (hX : va_X b Ln xs s s.heap) (hbl : b < s.heap.size) (okc : ox_ok (ol_c D adc cI cC adK adV)) (okm : ox_ok (ol_m D adm cI cC cZ)) (Kc : va_K (ox_D (ol_c D adc cI cC adK adV)) (ox_cl (ol_c D adc cI cC adK adV)) (ox_ty (ol_c D adc cI cC adK adV)) s) (Km : va_K (ox_D (ol_m D adm cI cC cZ)) (ox_cl (ol_m D adm cI cC cZ)) (ox_ty (ol_m D adm cI cC cZ)) s) (xc : ox_x (ol_c D adc cI cC adK adV) s s.heap) (hAc : ∀ q, ox_A (ol_c D adc cI cC adK adV) q → s.heap.size ≤ q) (hAm : ∀ q, ox_A (ol_m D adm cI cC cZ) q → s.heap.size ≤ q) (hd : ∀ q, ox_A (ol_m D adm cI cC cZ) q → ¬ ox_A (ol_c D adc cI cC adK adV) q) {L : List (Option Value)} {st : List Value} {σc σm σ2 : ox_S} {As rest st2 : List Value} {r2 : Option Value} (hM : Met l oy_T_write (Cond.code oy_T_write prog_1_method_2_code 3 (some .boolean) :: ox_ws) rm_oc_T_write (ox_P (ol_c D adc cI cC adK adV) (.ref (adc 0) :: As) σc) (ox_Q (ol_c D adc cI cC adK adV) r2 σ2) 0 0 (ox_A (ol_c D adc cI cC adK adV))) (hn : As.length = 1) (hroom : (rest.map fun v => v.category).sum ≤ 8) (hst : st = As.reverse ++ .ref (adc 0) :: rest) (hst2 : r2.toList ++ rest = st2) (k : ox_X p l e room_1 s m #[.ref b] below meth c (ol_hp (ol_c D adc cI cC adK adV) (ol_m D adm cI cC cZ)) (fun q => s.heap.size ≤ q) 4 43 7271 (lw_Z below #[.ref b] s) 152 L st2 (σ2, σm)) : ox_X p l e room_1 s m #[.ref b] below meth c (ol_hp (ol_c D adc cI cC adK adV) (ol_m D adm cI cC cZ)) (fun q => s.heap.size ≤ q) 4 43 7271 (lw_Z below #[.ref b] s) 149 L st (σc, σm) := by
  refine ol_goC (a := (Value.ref (adc 0) :: As).toArray) (rest := rest) okm hAc hd (fun ls H locs hl hP hP2 hS => ?_) hst2 k
  have hp := ol_pre Kc okc xc hP (fun q h1 h2 => hS.2.1 q h1 (by omega)) (.ref (adc 0) :: As)
  exact va_runV (C := oR_T) ⟨B.hx, B.hb, B.hml, B.hown, B.hts⟩ hM (ox_cwV 1 B.hts (ox_t2 33 rfl rfl) (ox_t1 1 rfl rfl) (ox_t2 30 rfl rfl) (ox_t2 31 rfl rfl) (ox_t2 32 rfl rfl) ⟨by decide, by decide, by decide +kernel⟩ ⟨rfl, rfl, Nat.le_of_ble_eq_true rfl, Nat.le_of_ble_eq_true rfl⟩) ⟨hp.1, va_recv Kc hP (ci := 0) (q0 := 0) rfl rfl, hp.2⟩ rfl hn hl.1 hst (lv_room hroom) od_law_149 ⟨Nat.le_of_ble_eq_true rfl, Nat.le_of_ble_eq_true rfl⟩
theorem ol_c_wipe {p : Program} {l : Launch} {e : Env} {s : State} {m : MethodId} {below : List Frame} {meth : Method} {c : Code} {D : va_G} {adc adm : Nat → Nat} {cI cC cZ : ClassId} {adK adV : Nat → Nat} {b Ln : Nat} {xs : Nat → Int32} (B : ox_B p s m #[.ref b] c 4 code "OneTreeToursLaw" ox_ws) (hX : va_X b Ln xs s s.heap) (hbl : b < s.heap.size) (okc : ox_ok (ol_c D adc cI cC adK adV)) (okm : ox_ok (ol_m D adm cI cC cZ)) (Kc : va_K (ox_D (ol_c D adc cI cC adK adV)) (ox_cl (ol_c D adc cI cC adK adV)) (ox_ty (ol_c D adc cI cC adK adV)) s) (Km : va_K (ox_D (ol_m D adm cI cC cZ)) (ox_cl (ol_m D adm cI cC cZ)) (ox_ty (ol_m D adm cI cC cZ)) s) (xc : ox_x (ol_c D adc cI cC adK adV) s s.heap) (hAc : ∀ q, ox_A (ol_c D adc cI cC adK adV) q → s.heap.size ≤ q) (hAm : ∀ q, ox_A (ol_m D adm cI cC cZ) q → s.heap.size ≤ q) (hd : ∀ q, ox_A (ol_m D adm cI cC cZ) q → ¬ ox_A (ol_c D adc cI cC adK adV) q) {L : List (Option Value)} {st : List Value} {σc σm σ2 : ox_S} {As rest st2 : List Value} {r2 : Option Value} (hM : Met l oy_T_wipe (Cond.code oy_T_wipe prog_1_method_3_code 1 none :: ox_ws) rm_oc_T_wipe (ox_P (ol_c D adc cI cC adK adV) (.ref (adc 0) :: As) σc) (ox_Q (ol_c D adc cI cC adK adV) r2 σ2) 0 0 (ox_A (ol_c D adc cI cC adK adV))) (hn : As.length = 0) (hroom : (rest.map fun v => v.category).sum ≤ 8) (hst : st = As.reverse ++ .ref (adc 0) :: rest) (hst2 : r2.toList ++ rest = st2) (k : ox_X p l e room_1 s m #[.ref b] below meth c (ol_hp (ol_c D adc cI cC adK adV) (ol_m D adm cI cC cZ)) (fun q => s.heap.size ≤ q) 4 43 7271 (lw_Z below #[.ref b] s) 185 L st2 (σ2, σm)) : ox_X p l e room_1 s m #[.ref b] below meth c (ol_hp (ol_c D adc cI cC adK adV) (ol_m D adm cI cC cZ)) (fun q => s.heap.size ≤ q) 4 43 7271 (lw_Z below #[.ref b] s) 182 L st (σc, σm) := by
  refine ol_goC (a := (Value.ref (adc 0) :: As).toArray) (rest := rest) okm hAc hd (fun ls H locs hl hP hP2 hS => ?_) hst2 k
  have hp := ol_pre Kc okc xc hP (fun q h1 h2 => hS.2.1 q h1 (by omega)) (.ref (adc 0) :: As)
  exact va_runV (C := oR_T) ⟨B.hx, B.hb, B.hml, B.hown, B.hts⟩ hM (ox_cwV 0 B.hts (ox_t2 47 rfl rfl) (ox_t1 1 rfl rfl) (ox_t2 44 rfl rfl) (ox_t2 45 rfl rfl) (ox_t2 46 rfl rfl) ⟨by decide, by decide, by decide +kernel⟩ ⟨rfl, rfl, Nat.le_of_ble_eq_true rfl, Nat.le_of_ble_eq_true rfl⟩) ⟨hp.1, va_recv Kc hP (ci := 0) (q0 := 0) rfl rfl, hp.2⟩ rfl hn hl.1 hst (lv_room hroom) od_law_182 ⟨Nat.le_of_ble_eq_true rfl, Nat.le_of_ble_eq_true rfl⟩
theorem ol_c_load {p : Program} {l : Launch} {e : Env} {s : State} {m : MethodId} {below : List Frame} {meth : Method} {c : Code} {D : va_G} {adc adm : Nat → Nat} {cI cC cZ : ClassId} {adK adV : Nat → Nat} {b Ln : Nat} {xs : Nat → Int32} (B : ox_B p s m #[.ref b] c 4 code "OneTreeToursLaw" ox_ws) (hX : va_X b Ln xs s s.heap) (hbl : b < s.heap.size) (okc : ox_ok (ol_c D adc cI cC adK adV)) (okm : ox_ok (ol_m D adm cI cC cZ)) (Kc : va_K (ox_D (ol_c D adc cI cC adK adV)) (ox_cl (ol_c D adc cI cC adK adV)) (ox_ty (ol_c D adc cI cC adK adV)) s) (Km : va_K (ox_D (ol_m D adm cI cC cZ)) (ox_cl (ol_m D adm cI cC cZ)) (ox_ty (ol_m D adm cI cC cZ)) s) (xc : ox_x (ol_c D adc cI cC adK adV) s s.heap) (hAc : ∀ q, ox_A (ol_c D adc cI cC adK adV) q → s.heap.size ≤ q) (hAm : ∀ q, ox_A (ol_m D adm cI cC cZ) q → s.heap.size ≤ q) (hd : ∀ q, ox_A (ol_m D adm cI cC cZ) q → ¬ ox_A (ol_c D adc cI cC adK adV) q) {L : List (Option Value)} {st : List Value} {σc σm σ2 : ox_S} {As rest st2 : List Value} {r2 : Option Value} (hM : Met l oy_T_load (Cond.code oy_T_load prog_1_method_4_code 2 (some .int) :: ox_ws) rm_oc_T_load (ox_P (ol_c D adc cI cC adK adV) (.ref (adc 0) :: As) σc) (ox_Q (ol_c D adc cI cC adK adV) r2 σ2) 0 0 (ox_A (ol_c D adc cI cC adK adV))) (hn : As.length = 0) (hroom : (rest.map fun v => v.category).sum ≤ 8) (hst : st = As.reverse ++ .ref (adc 0) :: rest) (hst2 : r2.toList ++ rest = st2) (k : ox_X p l e room_1 s m #[.ref b] below meth c (ol_hp (ol_c D adc cI cC adK adV) (ol_m D adm cI cC cZ)) (fun q => s.heap.size ≤ q) 4 43 7271 (lw_Z below #[.ref b] s) 196 L st2 (σ2, σm)) : ox_X p l e room_1 s m #[.ref b] below meth c (ol_hp (ol_c D adc cI cC adK adV) (ol_m D adm cI cC cZ)) (fun q => s.heap.size ≤ q) 4 43 7271 (lw_Z below #[.ref b] s) 193 L st (σc, σm) := by
  refine ol_goC (a := (Value.ref (adc 0) :: As).toArray) (rest := rest) okm hAc hd (fun ls H locs hl hP hP2 hS => ?_) hst2 k
  have hp := ol_pre Kc okc xc hP (fun q h1 h2 => hS.2.1 q h1 (by omega)) (.ref (adc 0) :: As)
  exact va_runV (C := oR_T) ⟨B.hx, B.hb, B.hml, B.hown, B.hts⟩ hM (ox_cwV 0 B.hts (ox_t2 51 rfl rfl) (ox_t1 1 rfl rfl) (ox_t2 48 rfl rfl) (ox_t2 49 rfl rfl) (ox_t2 50 rfl rfl) ⟨by decide, by decide, by decide +kernel⟩ ⟨rfl, rfl, Nat.le_of_ble_eq_true rfl, Nat.le_of_ble_eq_true rfl⟩) ⟨hp.1, va_recv Kc hP (ci := 0) (q0 := 0) rfl rfl, hp.2⟩ rfl hn hl.1 hst (lv_room hroom) od_law_193 ⟨Nat.le_of_ble_eq_true rfl, Nat.le_of_ble_eq_true rfl⟩
theorem ol_c_size {p : Program} {l : Launch} {e : Env} {s : State} {m : MethodId} {below : List Frame} {meth : Method} {c : Code} {D : va_G} {adc adm : Nat → Nat} {cI cC cZ : ClassId} {adK adV : Nat → Nat} {b Ln : Nat} {xs : Nat → Int32} (B : ox_B p s m #[.ref b] c 4 code "OneTreeToursLaw" ox_ws) (hX : va_X b Ln xs s s.heap) (hbl : b < s.heap.size) (okc : ox_ok (ol_c D adc cI cC adK adV)) (okm : ox_ok (ol_m D adm cI cC cZ)) (Kc : va_K (ox_D (ol_c D adc cI cC adK adV)) (ox_cl (ol_c D adc cI cC adK adV)) (ox_ty (ol_c D adc cI cC adK adV)) s) (Km : va_K (ox_D (ol_m D adm cI cC cZ)) (ox_cl (ol_m D adm cI cC cZ)) (ox_ty (ol_m D adm cI cC cZ)) s) (xc : ox_x (ol_c D adc cI cC adK adV) s s.heap) (hAc : ∀ q, ox_A (ol_c D adc cI cC adK adV) q → s.heap.size ≤ q) (hAm : ∀ q, ox_A (ol_m D adm cI cC cZ) q → s.heap.size ≤ q) (hd : ∀ q, ox_A (ol_m D adm cI cC cZ) q → ¬ ox_A (ol_c D adc cI cC adK adV) q) {L : List (Option Value)} {st : List Value} {σc σm σ2 : ox_S} {As rest st2 : List Value} {r2 : Option Value} (hM : Met l oy_T_size (Cond.code oy_T_size prog_1_method_5_code 1 (some .int) :: ox_ws) rm_oc_T_size (ox_P (ol_c D adc cI cC adK adV) (.ref (adc 0) :: As) σc) (ox_Q (ol_c D adc cI cC adK adV) r2 σ2) 0 0 (ox_A (ol_c D adc cI cC adK adV))) (hn : As.length = 0) (hroom : (rest.map fun v => v.category).sum ≤ 8) (hst : st = As.reverse ++ .ref (adc 0) :: rest) (hst2 : r2.toList ++ rest = st2) (k : ox_X p l e room_1 s m #[.ref b] below meth c (ol_hp (ol_c D adc cI cC adK adV) (ol_m D adm cI cC cZ)) (fun q => s.heap.size ≤ q) 4 43 7271 (lw_Z below #[.ref b] s) 209 L st2 (σ2, σm)) : ox_X p l e room_1 s m #[.ref b] below meth c (ol_hp (ol_c D adc cI cC adK adV) (ol_m D adm cI cC cZ)) (fun q => s.heap.size ≤ q) 4 43 7271 (lw_Z below #[.ref b] s) 206 L st (σc, σm) := by
  refine ol_goC (a := (Value.ref (adc 0) :: As).toArray) (rest := rest) okm hAc hd (fun ls H locs hl hP hP2 hS => ?_) hst2 k
  have hp := ol_pre Kc okc xc hP (fun q h1 h2 => hS.2.1 q h1 (by omega)) (.ref (adc 0) :: As)
  exact va_runV (C := oR_T) ⟨B.hx, B.hb, B.hml, B.hown, B.hts⟩ hM (ox_cwV 0 B.hts (ox_t3 21 rfl rfl) (ox_t1 1 rfl rfl) (ox_t3 18 rfl rfl) (ox_t3 19 rfl rfl) (ox_t3 20 rfl rfl) ⟨by decide, by decide, by decide +kernel⟩ ⟨rfl, rfl, Nat.le_of_ble_eq_true rfl, Nat.le_of_ble_eq_true rfl⟩) ⟨hp.1, va_recv Kc hP (ci := 0) (q0 := 0) rfl rfl, hp.2⟩ rfl hn hl.1 hst (lv_room hroom) od_law_206 ⟨Nat.le_of_ble_eq_true rfl, Nat.le_of_ble_eq_true rfl⟩
theorem ol_c_distance {p : Program} {l : Launch} {e : Env} {s : State} {m : MethodId} {below : List Frame} {meth : Method} {c : Code} {D : va_G} {adc adm : Nat → Nat} {cI cC cZ : ClassId} {adK adV : Nat → Nat} {b Ln : Nat} {xs : Nat → Int32} (B : ox_B p s m #[.ref b] c 4 code "OneTreeToursLaw" ox_ws) (hX : va_X b Ln xs s s.heap) (hbl : b < s.heap.size) (okc : ox_ok (ol_c D adc cI cC adK adV)) (okm : ox_ok (ol_m D adm cI cC cZ)) (Kc : va_K (ox_D (ol_c D adc cI cC adK adV)) (ox_cl (ol_c D adc cI cC adK adV)) (ox_ty (ol_c D adc cI cC adK adV)) s) (Km : va_K (ox_D (ol_m D adm cI cC cZ)) (ox_cl (ol_m D adm cI cC cZ)) (ox_ty (ol_m D adm cI cC cZ)) s) (xc : ox_x (ol_c D adc cI cC adK adV) s s.heap) (hAc : ∀ q, ox_A (ol_c D adc cI cC adK adV) q → s.heap.size ≤ q) (hAm : ∀ q, ox_A (ol_m D adm cI cC cZ) q → s.heap.size ≤ q) (hd : ∀ q, ox_A (ol_m D adm cI cC cZ) q → ¬ ox_A (ol_c D adc cI cC adK adV) q) {L : List (Option Value)} {st : List Value} {σc σm σ2 : ox_S} {As rest st2 : List Value} {r2 : Option Value} (hM : Met l oy_T_distance (Cond.code oy_T_distance prog_1_method_6_code 3 (some .int) :: ox_ws) rm_oc_T_distance (ox_P (ol_c D adc cI cC adK adV) (.ref (adc 0) :: As) σc) (ox_Q (ol_c D adc cI cC adK adV) r2 σ2) 0 0 (ox_A (ol_c D adc cI cC adK adV))) (hn : As.length = 2) (hroom : (rest.map fun v => v.category).sum ≤ 8) (hst : st = As.reverse ++ .ref (adc 0) :: rest) (hst2 : r2.toList ++ rest = st2) (k : ox_X p l e room_1 s m #[.ref b] below meth c (ol_hp (ol_c D adc cI cC adK adV) (ol_m D adm cI cC cZ)) (fun q => s.heap.size ≤ q) 4 43 7271 (lw_Z below #[.ref b] s) 232 L st2 (σ2, σm)) : ox_X p l e room_1 s m #[.ref b] below meth c (ol_hp (ol_c D adc cI cC adK adV) (ol_m D adm cI cC cZ)) (fun q => s.heap.size ≤ q) 4 43 7271 (lw_Z below #[.ref b] s) 229 L st (σc, σm) := by
  refine ol_goC (a := (Value.ref (adc 0) :: As).toArray) (rest := rest) okm hAc hd (fun ls H locs hl hP hP2 hS => ?_) hst2 k
  have hp := ol_pre Kc okc xc hP (fun q h1 h2 => hS.2.1 q h1 (by omega)) (.ref (adc 0) :: As)
  exact va_runV (C := oR_T) ⟨B.hx, B.hb, B.hml, B.hown, B.hts⟩ hM (ox_cwV 2 B.hts (ox_t3 25 rfl rfl) (ox_t1 1 rfl rfl) (ox_t3 22 rfl rfl) (ox_t3 23 rfl rfl) (ox_t3 24 rfl rfl) ⟨by decide, by decide, by decide +kernel⟩ ⟨rfl, rfl, Nat.le_of_ble_eq_true rfl, Nat.le_of_ble_eq_true rfl⟩) ⟨hp.1, va_recv Kc hP (ci := 0) (q0 := 0) rfl rfl, hp.2⟩ rfl hn hl.1 hst (lv_room hroom) od_law_229 ⟨Nat.le_of_ble_eq_true rfl, Nat.le_of_ble_eq_true rfl⟩
theorem ol_c_mark {p : Program} {l : Launch} {e : Env} {s : State} {m : MethodId} {below : List Frame} {meth : Method} {c : Code} {D : va_G} {adc adm : Nat → Nat} {cI cC cZ : ClassId} {adK adV : Nat → Nat} {b Ln : Nat} {xs : Nat → Int32} (B : ox_B p s m #[.ref b] c 4 code "OneTreeToursLaw" ox_ws) (hX : va_X b Ln xs s s.heap) (hbl : b < s.heap.size) (okc : ox_ok (ol_c D adc cI cC adK adV)) (okm : ox_ok (ol_m D adm cI cC cZ)) (Kc : va_K (ox_D (ol_c D adc cI cC adK adV)) (ox_cl (ol_c D adc cI cC adK adV)) (ox_ty (ol_c D adc cI cC adK adV)) s) (Km : va_K (ox_D (ol_m D adm cI cC cZ)) (ox_cl (ol_m D adm cI cC cZ)) (ox_ty (ol_m D adm cI cC cZ)) s) (xc : ox_x (ol_c D adc cI cC adK adV) s s.heap) (hAc : ∀ q, ox_A (ol_c D adc cI cC adK adV) q → s.heap.size ≤ q) (hAm : ∀ q, ox_A (ol_m D adm cI cC cZ) q → s.heap.size ≤ q) (hd : ∀ q, ox_A (ol_m D adm cI cC cZ) q → ¬ ox_A (ol_c D adc cI cC adK adV) q) {L : List (Option Value)} {st : List Value} {σc σm σ2 : ox_S} {As rest st2 : List Value} {r2 : Option Value} (hM : Met l oy_T_mark (Cond.code oy_T_mark prog_1_method_7_code 4 (some .boolean) :: ox_ws) rm_oc_T_mark (ox_P (ol_c D adc cI cC adK adV) (.ref (adc 0) :: As) σc) (ox_Q (ol_c D adc cI cC adK adV) r2 σ2) 0 0 (ox_A (ol_c D adc cI cC adK adV))) (hn : As.length = 3) (hroom : (rest.map fun v => v.category).sum ≤ 8) (hst : st = As.reverse ++ .ref (adc 0) :: rest) (hst2 : r2.toList ++ rest = st2) (k : ox_X p l e room_1 s m #[.ref b] below meth c (ol_hp (ol_c D adc cI cC adK adV) (ol_m D adm cI cC cZ)) (fun q => s.heap.size ≤ q) 4 43 7271 (lw_Z below #[.ref b] s) 270 L st2 (σ2, σm)) : ox_X p l e room_1 s m #[.ref b] below meth c (ol_hp (ol_c D adc cI cC adK adV) (ol_m D adm cI cC cZ)) (fun q => s.heap.size ≤ q) 4 43 7271 (lw_Z below #[.ref b] s) 267 L st (σc, σm) := by
  refine ol_goC (a := (Value.ref (adc 0) :: As).toArray) (rest := rest) okm hAc hd (fun ls H locs hl hP hP2 hS => ?_) hst2 k
  have hp := ol_pre Kc okc xc hP (fun q h1 h2 => hS.2.1 q h1 (by omega)) (.ref (adc 0) :: As)
  exact va_runV (C := oR_T) ⟨B.hx, B.hb, B.hml, B.hown, B.hts⟩ hM (ox_cwV 3 B.hts (ox_t3 34 rfl rfl) (ox_t1 1 rfl rfl) (ox_t3 31 rfl rfl) (ox_t3 32 rfl rfl) (ox_t3 33 rfl rfl) ⟨by decide, by decide, by decide +kernel⟩ ⟨rfl, rfl, Nat.le_of_ble_eq_true rfl, Nat.le_of_ble_eq_true rfl⟩) ⟨hp.1, va_recv Kc hP (ci := 0) (q0 := 0) rfl rfl, hp.2⟩ rfl hn hl.1 hst (lv_room hroom) od_law_267 ⟨Nat.le_of_ble_eq_true rfl, Nat.le_of_ble_eq_true rfl⟩
theorem ol_c_lift {p : Program} {l : Launch} {e : Env} {s : State} {m : MethodId} {below : List Frame} {meth : Method} {c : Code} {D : va_G} {adc adm : Nat → Nat} {cI cC cZ : ClassId} {adK adV : Nat → Nat} {b Ln : Nat} {xs : Nat → Int32} (B : ox_B p s m #[.ref b] c 4 code "OneTreeToursLaw" ox_ws) (hX : va_X b Ln xs s s.heap) (hbl : b < s.heap.size) (okc : ox_ok (ol_c D adc cI cC adK adV)) (okm : ox_ok (ol_m D adm cI cC cZ)) (Kc : va_K (ox_D (ol_c D adc cI cC adK adV)) (ox_cl (ol_c D adc cI cC adK adV)) (ox_ty (ol_c D adc cI cC adK adV)) s) (Km : va_K (ox_D (ol_m D adm cI cC cZ)) (ox_cl (ol_m D adm cI cC cZ)) (ox_ty (ol_m D adm cI cC cZ)) s) (xc : ox_x (ol_c D adc cI cC adK adV) s s.heap) (hAc : ∀ q, ox_A (ol_c D adc cI cC adK adV) q → s.heap.size ≤ q) (hAm : ∀ q, ox_A (ol_m D adm cI cC cZ) q → s.heap.size ≤ q) (hd : ∀ q, ox_A (ol_m D adm cI cC cZ) q → ¬ ox_A (ol_c D adc cI cC adK adV) q) {L : List (Option Value)} {st : List Value} {σc σm σ2 : ox_S} {As rest st2 : List Value} {r2 : Option Value} (hM : Met l oy_T_lift (Cond.code oy_T_lift prog_1_method_8_code 3 (some .boolean) :: ox_ws) rm_oc_T_lift (ox_P (ol_c D adc cI cC adK adV) (.ref (adc 0) :: As) σc) (ox_Q (ol_c D adc cI cC adK adV) r2 σ2) 0 0 (ox_A (ol_c D adc cI cC adK adV))) (hn : As.length = 2) (hroom : (rest.map fun v => v.category).sum ≤ 8) (hst : st = As.reverse ++ .ref (adc 0) :: rest) (hst2 : r2.toList ++ rest = st2) (k : ox_X p l e room_1 s m #[.ref b] below meth c (ol_hp (ol_c D adc cI cC adK adV) (ol_m D adm cI cC cZ)) (fun q => s.heap.size ≤ q) 4 43 7271 (lw_Z below #[.ref b] s) 308 L st2 (σ2, σm)) : ox_X p l e room_1 s m #[.ref b] below meth c (ol_hp (ol_c D adc cI cC adK adV) (ol_m D adm cI cC cZ)) (fun q => s.heap.size ≤ q) 4 43 7271 (lw_Z below #[.ref b] s) 305 L st (σc, σm) := by
  refine ol_goC (a := (Value.ref (adc 0) :: As).toArray) (rest := rest) okm hAc hd (fun ls H locs hl hP hP2 hS => ?_) hst2 k
  have hp := ol_pre Kc okc xc hP (fun q h1 h2 => hS.2.1 q h1 (by omega)) (.ref (adc 0) :: As)
  exact va_runV (C := oR_T) ⟨B.hx, B.hb, B.hml, B.hown, B.hts⟩ hM (ox_cwV 2 B.hts (ox_t3 43 rfl rfl) (ox_t1 1 rfl rfl) (ox_t3 40 rfl rfl) (ox_t3 41 rfl rfl) (ox_t3 42 rfl rfl) ⟨by decide, by decide, by decide +kernel⟩ ⟨rfl, rfl, Nat.le_of_ble_eq_true rfl, Nat.le_of_ble_eq_true rfl⟩) ⟨hp.1, va_recv Kc hP (ci := 0) (q0 := 0) rfl rfl, hp.2⟩ rfl hn hl.1 hst (lv_room hroom) od_law_305 ⟨Nat.le_of_ble_eq_true rfl, Nat.le_of_ble_eq_true rfl⟩
theorem ol_c_potential {p : Program} {l : Launch} {e : Env} {s : State} {m : MethodId} {below : List Frame} {meth : Method} {c : Code} {D : va_G} {adc adm : Nat → Nat} {cI cC cZ : ClassId} {adK adV : Nat → Nat} {b Ln : Nat} {xs : Nat → Int32} (B : ox_B p s m #[.ref b] c 4 code "OneTreeToursLaw" ox_ws) (hX : va_X b Ln xs s s.heap) (hbl : b < s.heap.size) (okc : ox_ok (ol_c D adc cI cC adK adV)) (okm : ox_ok (ol_m D adm cI cC cZ)) (Kc : va_K (ox_D (ol_c D adc cI cC adK adV)) (ox_cl (ol_c D adc cI cC adK adV)) (ox_ty (ol_c D adc cI cC adK adV)) s) (Km : va_K (ox_D (ol_m D adm cI cC cZ)) (ox_cl (ol_m D adm cI cC cZ)) (ox_ty (ol_m D adm cI cC cZ)) s) (xc : ox_x (ol_c D adc cI cC adK adV) s s.heap) (hAc : ∀ q, ox_A (ol_c D adc cI cC adK adV) q → s.heap.size ≤ q) (hAm : ∀ q, ox_A (ol_m D adm cI cC cZ) q → s.heap.size ≤ q) (hd : ∀ q, ox_A (ol_m D adm cI cC cZ) q → ¬ ox_A (ol_c D adc cI cC adK adV) q) {L : List (Option Value)} {st : List Value} {σc σm σ2 : ox_S} {As rest st2 : List Value} {r2 : Option Value} (hM : Met l oy_T_potential (Cond.code oy_T_potential prog_1_method_9_code 2 (some .int) :: ox_ws) rm_oc_T_potential (ox_P (ol_c D adc cI cC adK adV) (.ref (adc 0) :: As) σc) (ox_Q (ol_c D adc cI cC adK adV) r2 σ2) 0 0 (ox_A (ol_c D adc cI cC adK adV))) (hn : As.length = 1) (hroom : (rest.map fun v => v.category).sum ≤ 8) (hst : st = As.reverse ++ .ref (adc 0) :: rest) (hst2 : r2.toList ++ rest = st2) (k : ox_X p l e room_1 s m #[.ref b] below meth c (ol_hp (ol_c D adc cI cC adK adV) (ol_m D adm cI cC cZ)) (fun q => s.heap.size ≤ q) 4 43 7271 (lw_Z below #[.ref b] s) 336 L st2 (σ2, σm)) : ox_X p l e room_1 s m #[.ref b] below meth c (ol_hp (ol_c D adc cI cC adK adV) (ol_m D adm cI cC cZ)) (fun q => s.heap.size ≤ q) 4 43 7271 (lw_Z below #[.ref b] s) 333 L st (σc, σm) := by
  refine ol_goC (a := (Value.ref (adc 0) :: As).toArray) (rest := rest) okm hAc hd (fun ls H locs hl hP hP2 hS => ?_) hst2 k
  have hp := ol_pre Kc okc xc hP (fun q h1 h2 => hS.2.1 q h1 (by omega)) (.ref (adc 0) :: As)
  exact va_runV (C := oR_T) ⟨B.hx, B.hb, B.hml, B.hown, B.hts⟩ hM (ox_cwV 1 B.hts (ox_t3 52 rfl rfl) (ox_t1 1 rfl rfl) (ox_t3 49 rfl rfl) (ox_t3 50 rfl rfl) (ox_t3 51 rfl rfl) ⟨by decide, by decide, by decide +kernel⟩ ⟨rfl, rfl, Nat.le_of_ble_eq_true rfl, Nat.le_of_ble_eq_true rfl⟩) ⟨hp.1, va_recv Kc hP (ci := 0) (q0 := 0) rfl rfl, hp.2⟩ rfl hn hl.1 hst (lv_room hroom) od_law_333 ⟨Nat.le_of_ble_eq_true rfl, Nat.le_of_ble_eq_true rfl⟩
theorem ol_c_bound {p : Program} {l : Launch} {e : Env} {s : State} {m : MethodId} {below : List Frame} {meth : Method} {c : Code} {D : va_G} {adc adm : Nat → Nat} {cI cC cZ : ClassId} {adK adV : Nat → Nat} {b Ln : Nat} {xs : Nat → Int32} (B : ox_B p s m #[.ref b] c 4 code "OneTreeToursLaw" ox_ws) (hX : va_X b Ln xs s s.heap) (hbl : b < s.heap.size) (okc : ox_ok (ol_c D adc cI cC adK adV)) (okm : ox_ok (ol_m D adm cI cC cZ)) (Kc : va_K (ox_D (ol_c D adc cI cC adK adV)) (ox_cl (ol_c D adc cI cC adK adV)) (ox_ty (ol_c D adc cI cC adK adV)) s) (Km : va_K (ox_D (ol_m D adm cI cC cZ)) (ox_cl (ol_m D adm cI cC cZ)) (ox_ty (ol_m D adm cI cC cZ)) s) (xc : ox_x (ol_c D adc cI cC adK adV) s s.heap) (hAc : ∀ q, ox_A (ol_c D adc cI cC adK adV) q → s.heap.size ≤ q) (hAm : ∀ q, ox_A (ol_m D adm cI cC cZ) q → s.heap.size ≤ q) (hd : ∀ q, ox_A (ol_m D adm cI cC cZ) q → ¬ ox_A (ol_c D adc cI cC adK adV) q) {L : List (Option Value)} {st : List Value} {σc σm σ2 : ox_S} {As rest st2 : List Value} {r2 : Option Value} (hM : Met l oy_T_bound (Cond.code oy_T_bound prog_1_method_10_code 1 (some .int) :: ox_ws) rm_oc_T_bound (ox_P (ol_c D adc cI cC adK adV) (.ref (adc 0) :: As) σc) (ox_Q (ol_c D adc cI cC adK adV) r2 σ2) 0 0 (ox_A (ol_c D adc cI cC adK adV))) (hn : As.length = 0) (hroom : (rest.map fun v => v.category).sum ≤ 8) (hst : st = As.reverse ++ .ref (adc 0) :: rest) (hst2 : r2.toList ++ rest = st2) (k : ox_X p l e room_1 s m #[.ref b] below meth c (ol_hp (ol_c D adc cI cC adK adV) (ol_m D adm cI cC cZ)) (fun q => s.heap.size ≤ q) 4 43 7271 (lw_Z below #[.ref b] s) 354 L st2 (σ2, σm)) : ox_X p l e room_1 s m #[.ref b] below meth c (ol_hp (ol_c D adc cI cC adK adV) (ol_m D adm cI cC cZ)) (fun q => s.heap.size ≤ q) 4 43 7271 (lw_Z below #[.ref b] s) 351 L st (σc, σm) := by
  refine ol_goC (a := (Value.ref (adc 0) :: As).toArray) (rest := rest) okm hAc hd (fun ls H locs hl hP hP2 hS => ?_) hst2 k
  have hp := ol_pre Kc okc xc hP (fun q h1 h2 => hS.2.1 q h1 (by omega)) (.ref (adc 0) :: As)
  exact va_runV (C := oR_T) ⟨B.hx, B.hb, B.hml, B.hown, B.hts⟩ hM (ox_cwV 0 B.hts (ox_t3 56 rfl rfl) (ox_t1 1 rfl rfl) (ox_t3 53 rfl rfl) (ox_t3 54 rfl rfl) (ox_t3 55 rfl rfl) ⟨by decide, by decide, by decide +kernel⟩ ⟨rfl, rfl, Nat.le_of_ble_eq_true rfl, Nat.le_of_ble_eq_true rfl⟩) ⟨hp.1, va_recv Kc hP (ci := 0) (q0 := 0) rfl rfl, hp.2⟩ rfl hn hl.1 hst (lv_room hroom) od_law_351 ⟨Nat.le_of_ble_eq_true rfl, Nat.le_of_ble_eq_true rfl⟩
theorem ol_c_degree {p : Program} {l : Launch} {e : Env} {s : State} {m : MethodId} {below : List Frame} {meth : Method} {c : Code} {D : va_G} {adc adm : Nat → Nat} {cI cC cZ : ClassId} {adK adV : Nat → Nat} {b Ln : Nat} {xs : Nat → Int32} (B : ox_B p s m #[.ref b] c 4 code "OneTreeToursLaw" ox_ws) (hX : va_X b Ln xs s s.heap) (hbl : b < s.heap.size) (okc : ox_ok (ol_c D adc cI cC adK adV)) (okm : ox_ok (ol_m D adm cI cC cZ)) (Kc : va_K (ox_D (ol_c D adc cI cC adK adV)) (ox_cl (ol_c D adc cI cC adK adV)) (ox_ty (ol_c D adc cI cC adK adV)) s) (Km : va_K (ox_D (ol_m D adm cI cC cZ)) (ox_cl (ol_m D adm cI cC cZ)) (ox_ty (ol_m D adm cI cC cZ)) s) (xc : ox_x (ol_c D adc cI cC adK adV) s s.heap) (hAc : ∀ q, ox_A (ol_c D adc cI cC adK adV) q → s.heap.size ≤ q) (hAm : ∀ q, ox_A (ol_m D adm cI cC cZ) q → s.heap.size ≤ q) (hd : ∀ q, ox_A (ol_m D adm cI cC cZ) q → ¬ ox_A (ol_c D adc cI cC adK adV) q) {L : List (Option Value)} {st : List Value} {σc σm σ2 : ox_S} {As rest st2 : List Value} {r2 : Option Value} (hM : Met l oy_T_degree (Cond.code oy_T_degree prog_1_method_11_code 2 (some .int) :: ox_ws) rm_oc_T_degree (ox_P (ol_c D adc cI cC adK adV) (.ref (adc 0) :: As) σc) (ox_Q (ol_c D adc cI cC adK adV) r2 σ2) 0 0 (ox_A (ol_c D adc cI cC adK adV))) (hn : As.length = 1) (hroom : (rest.map fun v => v.category).sum ≤ 8) (hst : st = As.reverse ++ .ref (adc 0) :: rest) (hst2 : r2.toList ++ rest = st2) (k : ox_X p l e room_1 s m #[.ref b] below meth c (ol_hp (ol_c D adc cI cC adK adV) (ol_m D adm cI cC cZ)) (fun q => s.heap.size ≤ q) 4 43 7271 (lw_Z below #[.ref b] s) 372 L st2 (σ2, σm)) : ox_X p l e room_1 s m #[.ref b] below meth c (ol_hp (ol_c D adc cI cC adK adV) (ol_m D adm cI cC cZ)) (fun q => s.heap.size ≤ q) 4 43 7271 (lw_Z below #[.ref b] s) 369 L st (σc, σm) := by
  refine ol_goC (a := (Value.ref (adc 0) :: As).toArray) (rest := rest) okm hAc hd (fun ls H locs hl hP hP2 hS => ?_) hst2 k
  have hp := ol_pre Kc okc xc hP (fun q h1 h2 => hS.2.1 q h1 (by omega)) (.ref (adc 0) :: As)
  exact va_runV (C := oR_T) ⟨B.hx, B.hb, B.hml, B.hown, B.hts⟩ hM (ox_cwV 1 B.hts (ox_t3 98 rfl rfl) (ox_t1 1 rfl rfl) (ox_t3 95 rfl rfl) (ox_t3 96 rfl rfl) (ox_t3 97 rfl rfl) ⟨by decide, by decide, by decide +kernel⟩ ⟨rfl, rfl, Nat.le_of_ble_eq_true rfl, Nat.le_of_ble_eq_true rfl⟩) ⟨hp.1, va_recv Kc hP (ci := 0) (q0 := 0) rfl rfl, hp.2⟩ rfl hn hl.1 hst (lv_room hroom) od_law_369 ⟨Nat.le_of_ble_eq_true rfl, Nat.le_of_ble_eq_true rfl⟩
theorem ol_c_ascend {p : Program} {l : Launch} {e : Env} {s : State} {m : MethodId} {below : List Frame} {meth : Method} {c : Code} {D : va_G} {adc adm : Nat → Nat} {cI cC cZ : ClassId} {adK adV : Nat → Nat} {b Ln : Nat} {xs : Nat → Int32} (B : ox_B p s m #[.ref b] c 4 code "OneTreeToursLaw" ox_ws) (hX : va_X b Ln xs s s.heap) (hbl : b < s.heap.size) (okc : ox_ok (ol_c D adc cI cC adK adV)) (okm : ox_ok (ol_m D adm cI cC cZ)) (Kc : va_K (ox_D (ol_c D adc cI cC adK adV)) (ox_cl (ol_c D adc cI cC adK adV)) (ox_ty (ol_c D adc cI cC adK adV)) s) (Km : va_K (ox_D (ol_m D adm cI cC cZ)) (ox_cl (ol_m D adm cI cC cZ)) (ox_ty (ol_m D adm cI cC cZ)) s) (xc : ox_x (ol_c D adc cI cC adK adV) s s.heap) (hAc : ∀ q, ox_A (ol_c D adc cI cC adK adV) q → s.heap.size ≤ q) (hAm : ∀ q, ox_A (ol_m D adm cI cC cZ) q → s.heap.size ≤ q) (hd : ∀ q, ox_A (ol_m D adm cI cC cZ) q → ¬ ox_A (ol_c D adc cI cC adK adV) q) {L : List (Option Value)} {st : List Value} {σc σm σ2 : ox_S} {As rest st2 : List Value} {r2 : Option Value} (hM : Met l oy_T_ascend (Cond.code oy_T_ascend prog_1_method_12_code 3 (some .int) :: ox_ws) rm_oc_T_ascend (ox_P (ol_c D adc cI cC adK adV) (.ref (adc 0) :: As) σc) (ox_Q (ol_c D adc cI cC adK adV) r2 σ2) 0 0 (ox_A (ol_c D adc cI cC adK adV))) (hn : As.length = 1) (hroom : (rest.map fun v => v.category).sum ≤ 8) (hst : st = As.reverse ++ .ref (adc 0) :: rest) (hst2 : r2.toList ++ rest = st2) (k : ox_X p l e room_1 s m #[.ref b] below meth c (ol_hp (ol_c D adc cI cC adK adV) (ol_m D adm cI cC cZ)) (fun q => s.heap.size ≤ q) 4 43 7271 (lw_Z below #[.ref b] s) 395 L st2 (σ2, σm)) : ox_X p l e room_1 s m #[.ref b] below meth c (ol_hp (ol_c D adc cI cC adK adV) (ol_m D adm cI cC cZ)) (fun q => s.heap.size ≤ q) 4 43 7271 (lw_Z below #[.ref b] s) 392 L st (σc, σm) := by
  refine ol_goC (a := (Value.ref (adc 0) :: As).toArray) (rest := rest) okm hAc hd (fun ls H locs hl hP hP2 hS => ?_) hst2 k
  have hp := ol_pre Kc okc xc hP (fun q h1 h2 => hS.2.1 q h1 (by omega)) (.ref (adc 0) :: As)
  exact va_runV (C := oR_T) ⟨B.hx, B.hb, B.hml, B.hown, B.hts⟩ hM (ox_cwV 1 B.hts (ox_t3 103 rfl rfl) (ox_t1 1 rfl rfl) (ox_t3 100 rfl rfl) (ox_t3 101 rfl rfl) (ox_t3 102 rfl rfl) ⟨by decide, by decide, by decide +kernel⟩ ⟨rfl, rfl, Nat.le_of_ble_eq_true rfl, Nat.le_of_ble_eq_true rfl⟩) ⟨hp.1, va_recv Kc hP (ci := 0) (q0 := 0) rfl rfl, hp.2⟩ rfl hn hl.1 hst (lv_room hroom) od_law_392 ⟨Nat.le_of_ble_eq_true rfl, Nat.le_of_ble_eq_true rfl⟩
theorem ol_c_solve {p : Program} {l : Launch} {e : Env} {s : State} {m : MethodId} {below : List Frame} {meth : Method} {c : Code} {D : va_G} {adc adm : Nat → Nat} {cI cC cZ : ClassId} {adK adV : Nat → Nat} {b Ln : Nat} {xs : Nat → Int32} (B : ox_B p s m #[.ref b] c 4 code "OneTreeToursLaw" ox_ws) (hX : va_X b Ln xs s s.heap) (hbl : b < s.heap.size) (okc : ox_ok (ol_c D adc cI cC adK adV)) (okm : ox_ok (ol_m D adm cI cC cZ)) (Kc : va_K (ox_D (ol_c D adc cI cC adK adV)) (ox_cl (ol_c D adc cI cC adK adV)) (ox_ty (ol_c D adc cI cC adK adV)) s) (Km : va_K (ox_D (ol_m D adm cI cC cZ)) (ox_cl (ol_m D adm cI cC cZ)) (ox_ty (ol_m D adm cI cC cZ)) s) (xc : ox_x (ol_c D adc cI cC adK adV) s s.heap) (hAc : ∀ q, ox_A (ol_c D adc cI cC adK adV) q → s.heap.size ≤ q) (hAm : ∀ q, ox_A (ol_m D adm cI cC cZ) q → s.heap.size ≤ q) (hd : ∀ q, ox_A (ol_m D adm cI cC cZ) q → ¬ ox_A (ol_c D adc cI cC adK adV) q) {L : List (Option Value)} {st : List Value} {σc σm σ2 : ox_S} {As rest st2 : List Value} {r2 : Option Value} (hM : Met l oy_T_solve (Cond.code oy_T_solve prog_1_method_13_code 2 (some .int) :: ox_ws) rm_oc_T_solve (ox_P (ol_c D adc cI cC adK adV) (.ref (adc 0) :: As) σc) (ox_Q (ol_c D adc cI cC adK adV) r2 σ2) 0 0 (ox_A (ol_c D adc cI cC adK adV))) (hn : As.length = 0) (hroom : (rest.map fun v => v.category).sum ≤ 8) (hst : st = As.reverse ++ .ref (adc 0) :: rest) (hst2 : r2.toList ++ rest = st2) (k : ox_X p l e room_1 s m #[.ref b] below meth c (ol_hp (ol_c D adc cI cC adK adV) (ol_m D adm cI cC cZ)) (fun q => s.heap.size ≤ q) 4 43 7271 (lw_Z below #[.ref b] s) 413 L st2 (σ2, σm)) : ox_X p l e room_1 s m #[.ref b] below meth c (ol_hp (ol_c D adc cI cC adK adV) (ol_m D adm cI cC cZ)) (fun q => s.heap.size ≤ q) 4 43 7271 (lw_Z below #[.ref b] s) 410 L st (σc, σm) := by
  refine ol_goC (a := (Value.ref (adc 0) :: As).toArray) (rest := rest) okm hAc hd (fun ls H locs hl hP hP2 hS => ?_) hst2 k
  have hp := ol_pre Kc okc xc hP (fun q h1 h2 => hS.2.1 q h1 (by omega)) (.ref (adc 0) :: As)
  exact va_runV (C := oR_T) ⟨B.hx, B.hb, B.hml, B.hown, B.hts⟩ hM (ox_cwV 0 B.hts (ox_t3 112 rfl rfl) (ox_t1 1 rfl rfl) (ox_t3 109 rfl rfl) (ox_t3 110 rfl rfl) (ox_t3 111 rfl rfl) ⟨by decide, by decide, by decide +kernel⟩ ⟨rfl, rfl, Nat.le_of_ble_eq_true rfl, Nat.le_of_ble_eq_true rfl⟩) ⟨hp.1, va_recv Kc hP (ci := 0) (q0 := 0) rfl rfl, hp.2⟩ rfl hn hl.1 hst (lv_room hroom) od_law_410 ⟨Nat.le_of_ble_eq_true rfl, Nat.le_of_ble_eq_true rfl⟩
theorem ol_c_ties {p : Program} {l : Launch} {e : Env} {s : State} {m : MethodId} {below : List Frame} {meth : Method} {c : Code} {D : va_G} {adc adm : Nat → Nat} {cI cC cZ : ClassId} {adK adV : Nat → Nat} {b Ln : Nat} {xs : Nat → Int32} (B : ox_B p s m #[.ref b] c 4 code "OneTreeToursLaw" ox_ws) (hX : va_X b Ln xs s s.heap) (hbl : b < s.heap.size) (okc : ox_ok (ol_c D adc cI cC adK adV)) (okm : ox_ok (ol_m D adm cI cC cZ)) (Kc : va_K (ox_D (ol_c D adc cI cC adK adV)) (ox_cl (ol_c D adc cI cC adK adV)) (ox_ty (ol_c D adc cI cC adK adV)) s) (Km : va_K (ox_D (ol_m D adm cI cC cZ)) (ox_cl (ol_m D adm cI cC cZ)) (ox_ty (ol_m D adm cI cC cZ)) s) (xc : ox_x (ol_c D adc cI cC adK adV) s s.heap) (hAc : ∀ q, ox_A (ol_c D adc cI cC adK adV) q → s.heap.size ≤ q) (hAm : ∀ q, ox_A (ol_m D adm cI cC cZ) q → s.heap.size ≤ q) (hd : ∀ q, ox_A (ol_m D adm cI cC cZ) q → ¬ ox_A (ol_c D adc cI cC adK adV) q) {L : List (Option Value)} {st : List Value} {σc σm σ2 : ox_S} {As rest st2 : List Value} {r2 : Option Value} (hM : Met l oy_T_ties (Cond.code oy_T_ties prog_1_method_14_code 1 (some .int) :: ox_ws) rm_oc_T_ties (ox_P (ol_c D adc cI cC adK adV) (.ref (adc 0) :: As) σc) (ox_Q (ol_c D adc cI cC adK adV) r2 σ2) 0 0 (ox_A (ol_c D adc cI cC adK adV))) (hn : As.length = 0) (hroom : (rest.map fun v => v.category).sum ≤ 8) (hst : st = As.reverse ++ .ref (adc 0) :: rest) (hst2 : r2.toList ++ rest = st2) (k : ox_X p l e room_1 s m #[.ref b] below meth c (ol_hp (ol_c D adc cI cC adK adV) (ol_m D adm cI cC cZ)) (fun q => s.heap.size ≤ q) 4 43 7271 (lw_Z below #[.ref b] s) 426 L st2 (σ2, σm)) : ox_X p l e room_1 s m #[.ref b] below meth c (ol_hp (ol_c D adc cI cC adK adV) (ol_m D adm cI cC cZ)) (fun q => s.heap.size ≤ q) 4 43 7271 (lw_Z below #[.ref b] s) 423 L st (σc, σm) := by
  refine ol_goC (a := (Value.ref (adc 0) :: As).toArray) (rest := rest) okm hAc hd (fun ls H locs hl hP hP2 hS => ?_) hst2 k
  have hp := ol_pre Kc okc xc hP (fun q h1 h2 => hS.2.1 q h1 (by omega)) (.ref (adc 0) :: As)
  exact va_runV (C := oR_T) ⟨B.hx, B.hb, B.hml, B.hown, B.hts⟩ hM (ox_cwV 0 B.hts (ox_t3 133 rfl rfl) (ox_t1 1 rfl rfl) (ox_t3 130 rfl rfl) (ox_t3 131 rfl rfl) (ox_t3 132 rfl rfl) ⟨by decide, by decide, by decide +kernel⟩ ⟨rfl, rfl, Nat.le_of_ble_eq_true rfl, Nat.le_of_ble_eq_true rfl⟩) ⟨hp.1, va_recv Kc hP (ci := 0) (q0 := 0) rfl rfl, hp.2⟩ rfl hn hl.1 hst (lv_room hroom) od_law_423 ⟨Nat.le_of_ble_eq_true rfl, Nat.le_of_ble_eq_true rfl⟩
theorem ol_c_improve {p : Program} {l : Launch} {e : Env} {s : State} {m : MethodId} {below : List Frame} {meth : Method} {c : Code} {D : va_G} {adc adm : Nat → Nat} {cI cC cZ : ClassId} {adK adV : Nat → Nat} {b Ln : Nat} {xs : Nat → Int32} (B : ox_B p s m #[.ref b] c 4 code "OneTreeToursLaw" ox_ws) (hX : va_X b Ln xs s s.heap) (hbl : b < s.heap.size) (okc : ox_ok (ol_c D adc cI cC adK adV)) (okm : ox_ok (ol_m D adm cI cC cZ)) (Kc : va_K (ox_D (ol_c D adc cI cC adK adV)) (ox_cl (ol_c D adc cI cC adK adV)) (ox_ty (ol_c D adc cI cC adK adV)) s) (Km : va_K (ox_D (ol_m D adm cI cC cZ)) (ox_cl (ol_m D adm cI cC cZ)) (ox_ty (ol_m D adm cI cC cZ)) s) (xc : ox_x (ol_c D adc cI cC adK adV) s s.heap) (hAc : ∀ q, ox_A (ol_c D adc cI cC adK adV) q → s.heap.size ≤ q) (hAm : ∀ q, ox_A (ol_m D adm cI cC cZ) q → s.heap.size ≤ q) (hd : ∀ q, ox_A (ol_m D adm cI cC cZ) q → ¬ ox_A (ol_c D adc cI cC adK adV) q) {L : List (Option Value)} {st : List Value} {σc σm σ2 : ox_S} {As rest st2 : List Value} {r2 : Option Value} (hM : Met l oy_T_improve (Cond.code oy_T_improve prog_1_method_15_code 1 (some .int) :: ox_ws) rm_oc_T_improve (ox_P (ol_c D adc cI cC adK adV) (.ref (adc 0) :: As) σc) (ox_Q (ol_c D adc cI cC adK adV) r2 σ2) 0 0 (ox_A (ol_c D adc cI cC adK adV))) (hn : As.length = 0) (hroom : (rest.map fun v => v.category).sum ≤ 8) (hst : st = As.reverse ++ .ref (adc 0) :: rest) (hst2 : r2.toList ++ rest = st2) (k : ox_X p l e room_1 s m #[.ref b] below meth c (ol_hp (ol_c D adc cI cC adK adV) (ol_m D adm cI cC cZ)) (fun q => s.heap.size ≤ q) 4 43 7271 (lw_Z below #[.ref b] s) 439 L st2 (σ2, σm)) : ox_X p l e room_1 s m #[.ref b] below meth c (ol_hp (ol_c D adc cI cC adK adV) (ol_m D adm cI cC cZ)) (fun q => s.heap.size ≤ q) 4 43 7271 (lw_Z below #[.ref b] s) 436 L st (σc, σm) := by
  refine ol_goC (a := (Value.ref (adc 0) :: As).toArray) (rest := rest) okm hAc hd (fun ls H locs hl hP hP2 hS => ?_) hst2 k
  have hp := ol_pre Kc okc xc hP (fun q h1 h2 => hS.2.1 q h1 (by omega)) (.ref (adc 0) :: As)
  exact va_runV (C := oR_T) ⟨B.hx, B.hb, B.hml, B.hown, B.hts⟩ hM (ox_cwV 0 B.hts (ox_t3 142 rfl rfl) (ox_t1 1 rfl rfl) (ox_t3 139 rfl rfl) (ox_t3 140 rfl rfl) (ox_t3 141 rfl rfl) ⟨by decide, by decide, by decide +kernel⟩ ⟨rfl, rfl, Nat.le_of_ble_eq_true rfl, Nat.le_of_ble_eq_true rfl⟩) ⟨hp.1, va_recv Kc hP (ci := 0) (q0 := 0) rfl rfl, hp.2⟩ rfl hn hl.1 hst (lv_room hroom) od_law_436 ⟨Nat.le_of_ble_eq_true rfl, Nat.le_of_ble_eq_true rfl⟩
theorem ol_c_tour {p : Program} {l : Launch} {e : Env} {s : State} {m : MethodId} {below : List Frame} {meth : Method} {c : Code} {D : va_G} {adc adm : Nat → Nat} {cI cC cZ : ClassId} {adK adV : Nat → Nat} {b Ln : Nat} {xs : Nat → Int32} (B : ox_B p s m #[.ref b] c 4 code "OneTreeToursLaw" ox_ws) (hX : va_X b Ln xs s s.heap) (hbl : b < s.heap.size) (okc : ox_ok (ol_c D adc cI cC adK adV)) (okm : ox_ok (ol_m D adm cI cC cZ)) (Kc : va_K (ox_D (ol_c D adc cI cC adK adV)) (ox_cl (ol_c D adc cI cC adK adV)) (ox_ty (ol_c D adc cI cC adK adV)) s) (Km : va_K (ox_D (ol_m D adm cI cC cZ)) (ox_cl (ol_m D adm cI cC cZ)) (ox_ty (ol_m D adm cI cC cZ)) s) (xc : ox_x (ol_c D adc cI cC adK adV) s s.heap) (hAc : ∀ q, ox_A (ol_c D adc cI cC adK adV) q → s.heap.size ≤ q) (hAm : ∀ q, ox_A (ol_m D adm cI cC cZ) q → s.heap.size ≤ q) (hd : ∀ q, ox_A (ol_m D adm cI cC cZ) q → ¬ ox_A (ol_c D adc cI cC adK adV) q) {L : List (Option Value)} {st : List Value} {σc σm σ2 : ox_S} {As rest st2 : List Value} {r2 : Option Value} (hM : Met l oy_T_tour (Cond.code oy_T_tour prog_1_method_16_code 2 (some .int) :: ox_ws) rm_oc_T_tour (ox_P (ol_c D adc cI cC adK adV) (.ref (adc 0) :: As) σc) (ox_Q (ol_c D adc cI cC adK adV) r2 σ2) 0 0 (ox_A (ol_c D adc cI cC adK adV))) (hn : As.length = 1) (hroom : (rest.map fun v => v.category).sum ≤ 8) (hst : st = As.reverse ++ .ref (adc 0) :: rest) (hst2 : r2.toList ++ rest = st2) (k : ox_X p l e room_1 s m #[.ref b] below meth c (ol_hp (ol_c D adc cI cC adK adV) (ol_m D adm cI cC cZ)) (fun q => s.heap.size ≤ q) 4 43 7271 (lw_Z below #[.ref b] s) 457 L st2 (σ2, σm)) : ox_X p l e room_1 s m #[.ref b] below meth c (ol_hp (ol_c D adc cI cC adK adV) (ol_m D adm cI cC cZ)) (fun q => s.heap.size ≤ q) 4 43 7271 (lw_Z below #[.ref b] s) 454 L st (σc, σm) := by
  refine ol_goC (a := (Value.ref (adc 0) :: As).toArray) (rest := rest) okm hAc hd (fun ls H locs hl hP hP2 hS => ?_) hst2 k
  have hp := ol_pre Kc okc xc hP (fun q h1 h2 => hS.2.1 q h1 (by omega)) (.ref (adc 0) :: As)
  exact va_runV (C := oR_T) ⟨B.hx, B.hb, B.hml, B.hown, B.hts⟩ hM (ox_cwV 1 B.hts (ox_t3 177 rfl rfl) (ox_t1 1 rfl rfl) (ox_t3 174 rfl rfl) (ox_t3 175 rfl rfl) (ox_t3 176 rfl rfl) ⟨by decide, by decide, by decide +kernel⟩ ⟨rfl, rfl, Nat.le_of_ble_eq_true rfl, Nat.le_of_ble_eq_true rfl⟩) ⟨hp.1, va_recv Kc hP (ci := 0) (q0 := 0) rfl rfl, hp.2⟩ rfl hn hl.1 hst (lv_room hroom) od_law_454 ⟨Nat.le_of_ble_eq_true rfl, Nat.le_of_ble_eq_true rfl⟩
theorem ol_c_add {p : Program} {l : Launch} {e : Env} {s : State} {m : MethodId} {below : List Frame} {meth : Method} {c : Code} {D : va_G} {adc adm : Nat → Nat} {cI cC cZ : ClassId} {adK adV : Nat → Nat} {b Ln : Nat} {xs : Nat → Int32} (B : ox_B p s m #[.ref b] c 4 code "OneTreeToursLaw" ox_ws) (hX : va_X b Ln xs s s.heap) (hbl : b < s.heap.size) (okc : ox_ok (ol_c D adc cI cC adK adV)) (okm : ox_ok (ol_m D adm cI cC cZ)) (Kc : va_K (ox_D (ol_c D adc cI cC adK adV)) (ox_cl (ol_c D adc cI cC adK adV)) (ox_ty (ol_c D adc cI cC adK adV)) s) (Km : va_K (ox_D (ol_m D adm cI cC cZ)) (ox_cl (ol_m D adm cI cC cZ)) (ox_ty (ol_m D adm cI cC cZ)) s) (xc : ox_x (ol_c D adc cI cC adK adV) s s.heap) (hAc : ∀ q, ox_A (ol_c D adc cI cC adK adV) q → s.heap.size ≤ q) (hAm : ∀ q, ox_A (ol_m D adm cI cC cZ) q → s.heap.size ≤ q) (hd : ∀ q, ox_A (ol_m D adm cI cC cZ) q → ¬ ox_A (ol_c D adc cI cC adK adV) q) {L : List (Option Value)} {st : List Value} {σc σm σ2 : ox_S} {As rest st2 : List Value} {r2 : Option Value} (hM : Met l oy_T_add (Cond.code oy_T_add prog_1_method_17_code 3 (some .int) :: ox_ws) rm_oc_T_add (ox_P (ol_c D adc cI cC adK adV) (.ref (adc 0) :: As) σc) (ox_Q (ol_c D adc cI cC adK adV) r2 σ2) 0 0 (ox_A (ol_c D adc cI cC adK adV))) (hn : As.length = 2) (hroom : (rest.map fun v => v.category).sum ≤ 8) (hst : st = As.reverse ++ .ref (adc 0) :: rest) (hst2 : r2.toList ++ rest = st2) (k : ox_X p l e room_1 s m #[.ref b] below meth c (ol_hp (ol_c D adc cI cC adK adV) (ol_m D adm cI cC cZ)) (fun q => s.heap.size ≤ q) 4 43 7271 (lw_Z below #[.ref b] s) 485 L st2 (σ2, σm)) : ox_X p l e room_1 s m #[.ref b] below meth c (ol_hp (ol_c D adc cI cC adK adV) (ol_m D adm cI cC cZ)) (fun q => s.heap.size ≤ q) 4 43 7271 (lw_Z below #[.ref b] s) 482 L st (σc, σm) := by
  refine ol_goC (a := (Value.ref (adc 0) :: As).toArray) (rest := rest) okm hAc hd (fun ls H locs hl hP hP2 hS => ?_) hst2 k
  have hp := ol_pre Kc okc xc hP (fun q h1 h2 => hS.2.1 q h1 (by omega)) (.ref (adc 0) :: As)
  exact va_runV (C := oR_T) ⟨B.hx, B.hb, B.hml, B.hown, B.hts⟩ hM (ox_cwV 2 B.hts (ox_t3 181 rfl rfl) (ox_t1 1 rfl rfl) (ox_t3 178 rfl rfl) (ox_t3 179 rfl rfl) (ox_t3 180 rfl rfl) ⟨by decide, by decide, by decide +kernel⟩ ⟨rfl, rfl, Nat.le_of_ble_eq_true rfl, Nat.le_of_ble_eq_true rfl⟩) ⟨hp.1, va_recv Kc hP (ci := 0) (q0 := 0) rfl rfl, hp.2⟩ rfl hn hl.1 hst (lv_room hroom) od_law_482 ⟨Nat.le_of_ble_eq_true rfl, Nat.le_of_ble_eq_true rfl⟩
theorem ol_c_drop {p : Program} {l : Launch} {e : Env} {s : State} {m : MethodId} {below : List Frame} {meth : Method} {c : Code} {D : va_G} {adc adm : Nat → Nat} {cI cC cZ : ClassId} {adK adV : Nat → Nat} {b Ln : Nat} {xs : Nat → Int32} (B : ox_B p s m #[.ref b] c 4 code "OneTreeToursLaw" ox_ws) (hX : va_X b Ln xs s s.heap) (hbl : b < s.heap.size) (okc : ox_ok (ol_c D adc cI cC adK adV)) (okm : ox_ok (ol_m D adm cI cC cZ)) (Kc : va_K (ox_D (ol_c D adc cI cC adK adV)) (ox_cl (ol_c D adc cI cC adK adV)) (ox_ty (ol_c D adc cI cC adK adV)) s) (Km : va_K (ox_D (ol_m D adm cI cC cZ)) (ox_cl (ol_m D adm cI cC cZ)) (ox_ty (ol_m D adm cI cC cZ)) s) (xc : ox_x (ol_c D adc cI cC adK adV) s s.heap) (hAc : ∀ q, ox_A (ol_c D adc cI cC adK adV) q → s.heap.size ≤ q) (hAm : ∀ q, ox_A (ol_m D adm cI cC cZ) q → s.heap.size ≤ q) (hd : ∀ q, ox_A (ol_m D adm cI cC cZ) q → ¬ ox_A (ol_c D adc cI cC adK adV) q) {L : List (Option Value)} {st : List Value} {σc σm σ2 : ox_S} {As rest st2 : List Value} {r2 : Option Value} (hM : Met l oy_T_drop (Cond.code oy_T_drop prog_1_method_18_code 1 none :: ox_ws) rm_oc_T_drop (ox_P (ol_c D adc cI cC adK adV) (.ref (adc 0) :: As) σc) (ox_Q (ol_c D adc cI cC adK adV) r2 σ2) 0 0 (ox_A (ol_c D adc cI cC adK adV))) (hn : As.length = 0) (hroom : (rest.map fun v => v.category).sum ≤ 8) (hst : st = As.reverse ++ .ref (adc 0) :: rest) (hst2 : r2.toList ++ rest = st2) (k : ox_X p l e room_1 s m #[.ref b] below meth c (ol_hp (ol_c D adc cI cC adK adV) (ol_m D adm cI cC cZ)) (fun q => s.heap.size ≤ q) 4 43 7271 (lw_Z below #[.ref b] s) 508 L st2 (σ2, σm)) : ox_X p l e room_1 s m #[.ref b] below meth c (ol_hp (ol_c D adc cI cC adK adV) (ol_m D adm cI cC cZ)) (fun q => s.heap.size ≤ q) 4 43 7271 (lw_Z below #[.ref b] s) 505 L st (σc, σm) := by
  refine ol_goC (a := (Value.ref (adc 0) :: As).toArray) (rest := rest) okm hAc hd (fun ls H locs hl hP hP2 hS => ?_) hst2 k
  have hp := ol_pre Kc okc xc hP (fun q h1 h2 => hS.2.1 q h1 (by omega)) (.ref (adc 0) :: As)
  exact va_runV (C := oR_T) ⟨B.hx, B.hb, B.hml, B.hown, B.hts⟩ hM (ox_cwV 0 B.hts (ox_t3 193 rfl rfl) (ox_t1 1 rfl rfl) (ox_t3 190 rfl rfl) (ox_t3 191 rfl rfl) (ox_t3 192 rfl rfl) ⟨by decide, by decide, by decide +kernel⟩ ⟨rfl, rfl, Nat.le_of_ble_eq_true rfl, Nat.le_of_ble_eq_true rfl⟩) ⟨hp.1, va_recv Kc hP (ci := 0) (q0 := 0) rfl rfl, hp.2⟩ rfl hn hl.1 hst (lv_room hroom) od_law_505 ⟨Nat.le_of_ble_eq_true rfl, Nat.le_of_ble_eq_true rfl⟩
theorem ol_c_covers {p : Program} {l : Launch} {e : Env} {s : State} {m : MethodId} {below : List Frame} {meth : Method} {c : Code} {D : va_G} {adc adm : Nat → Nat} {cI cC cZ : ClassId} {adK adV : Nat → Nat} {b Ln : Nat} {xs : Nat → Int32} (B : ox_B p s m #[.ref b] c 4 code "OneTreeToursLaw" ox_ws) (hX : va_X b Ln xs s s.heap) (hbl : b < s.heap.size) (okc : ox_ok (ol_c D adc cI cC adK adV)) (okm : ox_ok (ol_m D adm cI cC cZ)) (Kc : va_K (ox_D (ol_c D adc cI cC adK adV)) (ox_cl (ol_c D adc cI cC adK adV)) (ox_ty (ol_c D adc cI cC adK adV)) s) (Km : va_K (ox_D (ol_m D adm cI cC cZ)) (ox_cl (ol_m D adm cI cC cZ)) (ox_ty (ol_m D adm cI cC cZ)) s) (xc : ox_x (ol_c D adc cI cC adK adV) s s.heap) (hAc : ∀ q, ox_A (ol_c D adc cI cC adK adV) q → s.heap.size ≤ q) (hAm : ∀ q, ox_A (ol_m D adm cI cC cZ) q → s.heap.size ≤ q) (hd : ∀ q, ox_A (ol_m D adm cI cC cZ) q → ¬ ox_A (ol_c D adc cI cC adK adV) q) {L : List (Option Value)} {st : List Value} {σc σm σ2 : ox_S} {As rest st2 : List Value} {r2 : Option Value} (hM : Met l oy_T_covers (Cond.code oy_T_covers prog_1_method_19_code 2 (some .boolean) :: ox_ws) rm_oc_T_covers (ox_P (ol_c D adc cI cC adK adV) (.ref (adc 0) :: As) σc) (ox_Q (ol_c D adc cI cC adK adV) r2 σ2) 0 0 (ox_A (ol_c D adc cI cC adK adV))) (hn : As.length = 0) (hroom : (rest.map fun v => v.category).sum ≤ 8) (hst : st = As.reverse ++ .ref (adc 0) :: rest) (hst2 : r2.toList ++ rest = st2) (k : ox_X p l e room_1 s m #[.ref b] below meth c (ol_hp (ol_c D adc cI cC adK adV) (ol_m D adm cI cC cZ)) (fun q => s.heap.size ≤ q) 4 43 7271 (lw_Z below #[.ref b] s) 519 L st2 (σ2, σm)) : ox_X p l e room_1 s m #[.ref b] below meth c (ol_hp (ol_c D adc cI cC adK adV) (ol_m D adm cI cC cZ)) (fun q => s.heap.size ≤ q) 4 43 7271 (lw_Z below #[.ref b] s) 516 L st (σc, σm) := by
  refine ol_goC (a := (Value.ref (adc 0) :: As).toArray) (rest := rest) okm hAc hd (fun ls H locs hl hP hP2 hS => ?_) hst2 k
  have hp := ol_pre Kc okc xc hP (fun q h1 h2 => hS.2.1 q h1 (by omega)) (.ref (adc 0) :: As)
  exact va_runV (C := oR_T) ⟨B.hx, B.hb, B.hml, B.hown, B.hts⟩ hM (ox_cwV 0 B.hts (ox_t3 197 rfl rfl) (ox_t1 1 rfl rfl) (ox_t3 194 rfl rfl) (ox_t3 195 rfl rfl) (ox_t3 196 rfl rfl) ⟨by decide, by decide, by decide +kernel⟩ ⟨rfl, rfl, Nat.le_of_ble_eq_true rfl, Nat.le_of_ble_eq_true rfl⟩) ⟨hp.1, va_recv Kc hP (ci := 0) (q0 := 0) rfl rfl, hp.2⟩ rfl hn hl.1 hst (lv_room hroom) od_law_516 ⟨Nat.le_of_ble_eq_true rfl, Nat.le_of_ble_eq_true rfl⟩
theorem ol_c_caseBound {p : Program} {l : Launch} {e : Env} {s : State} {m : MethodId} {below : List Frame} {meth : Method} {c : Code} {D : va_G} {adc adm : Nat → Nat} {cI cC cZ : ClassId} {adK adV : Nat → Nat} {b Ln : Nat} {xs : Nat → Int32} (B : ox_B p s m #[.ref b] c 4 code "OneTreeToursLaw" ox_ws) (hX : va_X b Ln xs s s.heap) (hbl : b < s.heap.size) (okc : ox_ok (ol_c D adc cI cC adK adV)) (okm : ox_ok (ol_m D adm cI cC cZ)) (Kc : va_K (ox_D (ol_c D adc cI cC adK adV)) (ox_cl (ol_c D adc cI cC adK adV)) (ox_ty (ol_c D adc cI cC adK adV)) s) (Km : va_K (ox_D (ol_m D adm cI cC cZ)) (ox_cl (ol_m D adm cI cC cZ)) (ox_ty (ol_m D adm cI cC cZ)) s) (xc : ox_x (ol_c D adc cI cC adK adV) s s.heap) (hAc : ∀ q, ox_A (ol_c D adc cI cC adK adV) q → s.heap.size ≤ q) (hAm : ∀ q, ox_A (ol_m D adm cI cC cZ) q → s.heap.size ≤ q) (hd : ∀ q, ox_A (ol_m D adm cI cC cZ) q → ¬ ox_A (ol_c D adc cI cC adK adV) q) {L : List (Option Value)} {st : List Value} {σc σm σ2 : ox_S} {As rest st2 : List Value} {r2 : Option Value} (hM : Met l oy_T_caseBound (Cond.code oy_T_caseBound prog_1_method_20_code 2 (some .int) :: ox_ws) rm_oc_T_caseBound (ox_P (ol_c D adc cI cC adK adV) (.ref (adc 0) :: As) σc) (ox_Q (ol_c D adc cI cC adK adV) r2 σ2) 0 0 (ox_A (ol_c D adc cI cC adK adV))) (hn : As.length = 1) (hroom : (rest.map fun v => v.category).sum ≤ 8) (hst : st = As.reverse ++ .ref (adc 0) :: rest) (hst2 : r2.toList ++ rest = st2) (k : ox_X p l e room_1 s m #[.ref b] below meth c (ol_hp (ol_c D adc cI cC adK adV) (ol_m D adm cI cC cZ)) (fun q => s.heap.size ≤ q) 4 43 7271 (lw_Z below #[.ref b] s) 537 L st2 (σ2, σm)) : ox_X p l e room_1 s m #[.ref b] below meth c (ol_hp (ol_c D adc cI cC adK adV) (ol_m D adm cI cC cZ)) (fun q => s.heap.size ≤ q) 4 43 7271 (lw_Z below #[.ref b] s) 534 L st (σc, σm) := by
  refine ol_goC (a := (Value.ref (adc 0) :: As).toArray) (rest := rest) okm hAc hd (fun ls H locs hl hP hP2 hS => ?_) hst2 k
  have hp := ol_pre Kc okc xc hP (fun q h1 h2 => hS.2.1 q h1 (by omega)) (.ref (adc 0) :: As)
  exact va_runV (C := oR_T) ⟨B.hx, B.hb, B.hml, B.hown, B.hts⟩ hM (ox_cwV 1 B.hts (ox_t3 207 rfl rfl) (ox_t1 1 rfl rfl) (ox_t3 204 rfl rfl) (ox_t3 205 rfl rfl) (ox_t3 206 rfl rfl) ⟨by decide, by decide, by decide +kernel⟩ ⟨rfl, rfl, Nat.le_of_ble_eq_true rfl, Nat.le_of_ble_eq_true rfl⟩) ⟨hp.1, va_recv Kc hP (ci := 0) (q0 := 0) rfl rfl, hp.2⟩ rfl hn hl.1 hst (lv_room hroom) od_law_534 ⟨Nat.le_of_ble_eq_true rfl, Nat.le_of_ble_eq_true rfl⟩
theorem ol_c_proves {p : Program} {l : Launch} {e : Env} {s : State} {m : MethodId} {below : List Frame} {meth : Method} {c : Code} {D : va_G} {adc adm : Nat → Nat} {cI cC cZ : ClassId} {adK adV : Nat → Nat} {b Ln : Nat} {xs : Nat → Int32} (B : ox_B p s m #[.ref b] c 4 code "OneTreeToursLaw" ox_ws) (hX : va_X b Ln xs s s.heap) (hbl : b < s.heap.size) (okc : ox_ok (ol_c D adc cI cC adK adV)) (okm : ox_ok (ol_m D adm cI cC cZ)) (Kc : va_K (ox_D (ol_c D adc cI cC adK adV)) (ox_cl (ol_c D adc cI cC adK adV)) (ox_ty (ol_c D adc cI cC adK adV)) s) (Km : va_K (ox_D (ol_m D adm cI cC cZ)) (ox_cl (ol_m D adm cI cC cZ)) (ox_ty (ol_m D adm cI cC cZ)) s) (xc : ox_x (ol_c D adc cI cC adK adV) s s.heap) (hAc : ∀ q, ox_A (ol_c D adc cI cC adK adV) q → s.heap.size ≤ q) (hAm : ∀ q, ox_A (ol_m D adm cI cC cZ) q → s.heap.size ≤ q) (hd : ∀ q, ox_A (ol_m D adm cI cC cZ) q → ¬ ox_A (ol_c D adc cI cC adK adV) q) {L : List (Option Value)} {st : List Value} {σc σm σ2 : ox_S} {As rest st2 : List Value} {r2 : Option Value} (hM : Met l oy_T_proves (Cond.code oy_T_proves prog_1_method_21_code 4 (some .boolean) :: ox_ws) rm_oc_T_proves (ox_P (ol_c D adc cI cC adK adV) (.ref (adc 0) :: As) σc) (ox_Q (ol_c D adc cI cC adK adV) r2 σ2) 0 0 (ox_A (ol_c D adc cI cC adK adV))) (hn : As.length = 1) (hroom : (rest.map fun v => v.category).sum ≤ 8) (hst : st = As.reverse ++ .ref (adc 0) :: rest) (hst2 : r2.toList ++ rest = st2) (k : ox_X p l e room_1 s m #[.ref b] below meth c (ol_hp (ol_c D adc cI cC adK adV) (ol_m D adm cI cC cZ)) (fun q => s.heap.size ≤ q) 4 43 7271 (lw_Z below #[.ref b] s) 560 L st2 (σ2, σm)) : ox_X p l e room_1 s m #[.ref b] below meth c (ol_hp (ol_c D adc cI cC adK adV) (ol_m D adm cI cC cZ)) (fun q => s.heap.size ≤ q) 4 43 7271 (lw_Z below #[.ref b] s) 557 L st (σc, σm) := by
  refine ol_goC (a := (Value.ref (adc 0) :: As).toArray) (rest := rest) okm hAc hd (fun ls H locs hl hP hP2 hS => ?_) hst2 k
  have hp := ol_pre Kc okc xc hP (fun q h1 h2 => hS.2.1 q h1 (by omega)) (.ref (adc 0) :: As)
  exact va_runV (C := oR_T) ⟨B.hx, B.hb, B.hml, B.hown, B.hts⟩ hM (ox_cwV 1 B.hts (ox_t3 211 rfl rfl) (ox_t1 1 rfl rfl) (ox_t3 208 rfl rfl) (ox_t3 209 rfl rfl) (ox_t3 210 rfl rfl) ⟨by decide, by decide, by decide +kernel⟩ ⟨rfl, rfl, Nat.le_of_ble_eq_true rfl, Nat.le_of_ble_eq_true rfl⟩) ⟨hp.1, va_recv Kc hP (ci := 0) (q0 := 0) rfl rfl, hp.2⟩ rfl hn hl.1 hst (lv_room hroom) od_law_557 ⟨Nat.le_of_ble_eq_true rfl, Nat.le_of_ble_eq_true rfl⟩
theorem ol_m_write {p : Program} {l : Launch} {e : Env} {s : State} {m : MethodId} {below : List Frame} {meth : Method} {c : Code} {D : va_G} {adc adm : Nat → Nat} {cI cC cZ : ClassId} {adK adV : Nat → Nat} {b Ln : Nat} {xs : Nat → Int32} (B : ox_B p s m #[.ref b] c 4 code "OneTreeToursLaw" ox_ws) (hX : va_X b Ln xs s s.heap) (hbl : b < s.heap.size) (okc : ox_ok (ol_c D adc cI cC adK adV)) (okm : ox_ok (ol_m D adm cI cC cZ)) (Kc : va_K (ox_D (ol_c D adc cI cC adK adV)) (ox_cl (ol_c D adc cI cC adK adV)) (ox_ty (ol_c D adc cI cC adK adV)) s) (Km : va_K (ox_D (ol_m D adm cI cC cZ)) (ox_cl (ol_m D adm cI cC cZ)) (ox_ty (ol_m D adm cI cC cZ)) s) (xc : ox_x (ol_c D adc cI cC adK adV) s s.heap) (hAc : ∀ q, ox_A (ol_c D adc cI cC adK adV) q → s.heap.size ≤ q) (hAm : ∀ q, ox_A (ol_m D adm cI cC cZ) q → s.heap.size ≤ q) (hd : ∀ q, ox_A (ol_m D adm cI cC cZ) q → ¬ ox_A (ol_c D adc cI cC adK adV) q) {L : List (Option Value)} {st : List Value} {σc σm σ2 : ox_S} {As rest st2 : List Value} {r2 : Option Value} (hM : Met l oy_Mo_write (Cond.code oy_Mo_write prog_11_method_2_code 6 (some .boolean) :: ox_ws) rm_om_Mo_write (ox_P (ol_m D adm cI cC cZ) (.ref (adm 0) :: As) σm) (ox_Q (ol_m D adm cI cC cZ) r2 σ2) 0 0 (ox_A (ol_m D adm cI cC cZ))) (hn : As.length = 1) (hroom : (rest.map fun v => v.category).sum ≤ 8) (hst : st = As.reverse ++ .ref (adm 0) :: rest) (hst2 : r2.toList ++ rest = st2) (k : ox_X p l e room_1 s m #[.ref b] below meth c (ol_hp (ol_c D adc cI cC adK adV) (ol_m D adm cI cC cZ)) (fun q => s.heap.size ≤ q) 4 43 7271 (lw_Z below #[.ref b] s) 176 L st2 (σc, σ2)) : ox_X p l e room_1 s m #[.ref b] below meth c (ol_hp (ol_c D adc cI cC adK adV) (ol_m D adm cI cC cZ)) (fun q => s.heap.size ≤ q) 4 43 7271 (lw_Z below #[.ref b] s) 173 L st (σc, σm) := by
  refine ol_goM (a := (Value.ref (adm 0) :: As).toArray) (rest := rest) okc hAm (fun q h1 h2 => hd q h2 h1) (fun ls H locs hl hP2 hP hS => ?_) hst2 k
  have hp := ol_pre Km okm (show ox_x (ol_m D adm cI cC cZ) s s.heap from trivial) hP (fun q h1 h2 => hS.2.1 q h1 (by omega)) (.ref (adm 0) :: As)
  exact va_runV (C := oR_Mo) ⟨B.hx, B.hb, B.hml, B.hown, B.hts⟩ hM (ox_cwV 1 B.hts (ox_t4 66 rfl rfl) (ox_t1 10 rfl rfl) (ox_t4 63 rfl rfl) (ox_t4 64 rfl rfl) (ox_t4 65 rfl rfl) ⟨by decide, by decide, by decide +kernel⟩ ⟨rfl, rfl, Nat.le_of_ble_eq_true rfl, Nat.le_of_ble_eq_true rfl⟩) ⟨hp.1, va_recv Km hP (ci := 9) (q0 := 0) rfl rfl, hp.2⟩ rfl hn hl.1 hst (lv_room hroom) od_law_173 ⟨Nat.le_of_ble_eq_true rfl, Nat.le_of_ble_eq_true rfl⟩
theorem ol_m_wipe {p : Program} {l : Launch} {e : Env} {s : State} {m : MethodId} {below : List Frame} {meth : Method} {c : Code} {D : va_G} {adc adm : Nat → Nat} {cI cC cZ : ClassId} {adK adV : Nat → Nat} {b Ln : Nat} {xs : Nat → Int32} (B : ox_B p s m #[.ref b] c 4 code "OneTreeToursLaw" ox_ws) (hX : va_X b Ln xs s s.heap) (hbl : b < s.heap.size) (okc : ox_ok (ol_c D adc cI cC adK adV)) (okm : ox_ok (ol_m D adm cI cC cZ)) (Kc : va_K (ox_D (ol_c D adc cI cC adK adV)) (ox_cl (ol_c D adc cI cC adK adV)) (ox_ty (ol_c D adc cI cC adK adV)) s) (Km : va_K (ox_D (ol_m D adm cI cC cZ)) (ox_cl (ol_m D adm cI cC cZ)) (ox_ty (ol_m D adm cI cC cZ)) s) (xc : ox_x (ol_c D adc cI cC adK adV) s s.heap) (hAc : ∀ q, ox_A (ol_c D adc cI cC adK adV) q → s.heap.size ≤ q) (hAm : ∀ q, ox_A (ol_m D adm cI cC cZ) q → s.heap.size ≤ q) (hd : ∀ q, ox_A (ol_m D adm cI cC cZ) q → ¬ ox_A (ol_c D adc cI cC adK adV) q) {L : List (Option Value)} {st : List Value} {σc σm σ2 : ox_S} {As rest st2 : List Value} {r2 : Option Value} (hM : Met l oy_Mo_wipe (Cond.code oy_Mo_wipe prog_11_method_3_code 1 none :: ox_ws) rm_om_Mo_wipe (ox_P (ol_m D adm cI cC cZ) (.ref (adm 0) :: As) σm) (ox_Q (ol_m D adm cI cC cZ) r2 σ2) 0 0 (ox_A (ol_m D adm cI cC cZ))) (hn : As.length = 0) (hroom : (rest.map fun v => v.category).sum ≤ 8) (hst : st = As.reverse ++ .ref (adm 0) :: rest) (hst2 : r2.toList ++ rest = st2) (k : ox_X p l e room_1 s m #[.ref b] below meth c (ol_hp (ol_c D adc cI cC adK adV) (ol_m D adm cI cC cZ)) (fun q => s.heap.size ≤ q) 4 43 7271 (lw_Z below #[.ref b] s) 189 L st2 (σc, σ2)) : ox_X p l e room_1 s m #[.ref b] below meth c (ol_hp (ol_c D adc cI cC adK adV) (ol_m D adm cI cC cZ)) (fun q => s.heap.size ≤ q) 4 43 7271 (lw_Z below #[.ref b] s) 186 L st (σc, σm) := by
  refine ol_goM (a := (Value.ref (adm 0) :: As).toArray) (rest := rest) okc hAm (fun q h1 h2 => hd q h2 h1) (fun ls H locs hl hP2 hP hS => ?_) hst2 k
  have hp := ol_pre Km okm (show ox_x (ol_m D adm cI cC cZ) s s.heap from trivial) hP (fun q h1 h2 => hS.2.1 q h1 (by omega)) (.ref (adm 0) :: As)
  exact va_runV (C := oR_Mo) ⟨B.hx, B.hb, B.hml, B.hown, B.hts⟩ hM (ox_cwV 0 B.hts (ox_t4 71 rfl rfl) (ox_t1 10 rfl rfl) (ox_t4 68 rfl rfl) (ox_t4 69 rfl rfl) (ox_t4 70 rfl rfl) ⟨by decide, by decide, by decide +kernel⟩ ⟨rfl, rfl, Nat.le_of_ble_eq_true rfl, Nat.le_of_ble_eq_true rfl⟩) ⟨hp.1, va_recv Km hP (ci := 9) (q0 := 0) rfl rfl, hp.2⟩ rfl hn hl.1 hst (lv_room hroom) od_law_186 ⟨Nat.le_of_ble_eq_true rfl, Nat.le_of_ble_eq_true rfl⟩
theorem ol_m_load {p : Program} {l : Launch} {e : Env} {s : State} {m : MethodId} {below : List Frame} {meth : Method} {c : Code} {D : va_G} {adc adm : Nat → Nat} {cI cC cZ : ClassId} {adK adV : Nat → Nat} {b Ln : Nat} {xs : Nat → Int32} (B : ox_B p s m #[.ref b] c 4 code "OneTreeToursLaw" ox_ws) (hX : va_X b Ln xs s s.heap) (hbl : b < s.heap.size) (okc : ox_ok (ol_c D adc cI cC adK adV)) (okm : ox_ok (ol_m D adm cI cC cZ)) (Kc : va_K (ox_D (ol_c D adc cI cC adK adV)) (ox_cl (ol_c D adc cI cC adK adV)) (ox_ty (ol_c D adc cI cC adK adV)) s) (Km : va_K (ox_D (ol_m D adm cI cC cZ)) (ox_cl (ol_m D adm cI cC cZ)) (ox_ty (ol_m D adm cI cC cZ)) s) (xc : ox_x (ol_c D adc cI cC adK adV) s s.heap) (hAc : ∀ q, ox_A (ol_c D adc cI cC adK adV) q → s.heap.size ≤ q) (hAm : ∀ q, ox_A (ol_m D adm cI cC cZ) q → s.heap.size ≤ q) (hd : ∀ q, ox_A (ol_m D adm cI cC cZ) q → ¬ ox_A (ol_c D adc cI cC adK adV) q) {L : List (Option Value)} {st : List Value} {σc σm σ2 : ox_S} {As rest st2 : List Value} {r2 : Option Value} (hM : Met l oy_Mo_load (Cond.code oy_Mo_load prog_11_method_22_code 3 (some .int) :: ox_ws) rm_om_Mo_load (ox_P (ol_m D adm cI cC cZ) (.ref (adm 0) :: As) σm) (ox_Q (ol_m D adm cI cC cZ) r2 σ2) 0 0 (ox_A (ol_m D adm cI cC cZ))) (hn : As.length = 0) (hroom : (rest.map fun v => v.category).sum ≤ 8) (hst : st = As.reverse ++ .ref (adm 0) :: rest) (hst2 : r2.toList ++ rest = st2) (k : ox_X p l e room_1 s m #[.ref b] below meth c (ol_hp (ol_c D adc cI cC adK adV) (ol_m D adm cI cC cZ)) (fun q => s.heap.size ≤ q) 4 43 7271 (lw_Z below #[.ref b] s) 200 L st2 (σc, σ2)) : ox_X p l e room_1 s m #[.ref b] below meth c (ol_hp (ol_c D adc cI cC adK adV) (ol_m D adm cI cC cZ)) (fun q => s.heap.size ≤ q) 4 43 7271 (lw_Z below #[.ref b] s) 197 L st (σc, σm) := by
  refine ol_goM (a := (Value.ref (adm 0) :: As).toArray) (rest := rest) okc hAm (fun q h1 h2 => hd q h2 h1) (fun ls H locs hl hP2 hP hS => ?_) hst2 k
  have hp := ol_pre Km okm (show ox_x (ol_m D adm cI cC cZ) s s.heap from trivial) hP (fun q h1 h2 => hS.2.1 q h1 (by omega)) (.ref (adm 0) :: As)
  exact va_runV (C := oR_Mo) ⟨B.hx, B.hb, B.hml, B.hown, B.hts⟩ hM (ox_cwV 0 B.hts (ox_t4 75 rfl rfl) (ox_t1 10 rfl rfl) (ox_t4 72 rfl rfl) (ox_t4 73 rfl rfl) (ox_t4 74 rfl rfl) ⟨by decide, by decide, by decide +kernel⟩ ⟨rfl, rfl, Nat.le_of_ble_eq_true rfl, Nat.le_of_ble_eq_true rfl⟩) ⟨hp.1, va_recv Km hP (ci := 9) (q0 := 0) rfl rfl, hp.2⟩ rfl hn hl.1 hst (lv_room hroom) od_law_197 ⟨Nat.le_of_ble_eq_true rfl, Nat.le_of_ble_eq_true rfl⟩
theorem ol_m_size {p : Program} {l : Launch} {e : Env} {s : State} {m : MethodId} {below : List Frame} {meth : Method} {c : Code} {D : va_G} {adc adm : Nat → Nat} {cI cC cZ : ClassId} {adK adV : Nat → Nat} {b Ln : Nat} {xs : Nat → Int32} (B : ox_B p s m #[.ref b] c 4 code "OneTreeToursLaw" ox_ws) (hX : va_X b Ln xs s s.heap) (hbl : b < s.heap.size) (okc : ox_ok (ol_c D adc cI cC adK adV)) (okm : ox_ok (ol_m D adm cI cC cZ)) (Kc : va_K (ox_D (ol_c D adc cI cC adK adV)) (ox_cl (ol_c D adc cI cC adK adV)) (ox_ty (ol_c D adc cI cC adK adV)) s) (Km : va_K (ox_D (ol_m D adm cI cC cZ)) (ox_cl (ol_m D adm cI cC cZ)) (ox_ty (ol_m D adm cI cC cZ)) s) (xc : ox_x (ol_c D adc cI cC adK adV) s s.heap) (hAc : ∀ q, ox_A (ol_c D adc cI cC adK adV) q → s.heap.size ≤ q) (hAm : ∀ q, ox_A (ol_m D adm cI cC cZ) q → s.heap.size ≤ q) (hd : ∀ q, ox_A (ol_m D adm cI cC cZ) q → ¬ ox_A (ol_c D adc cI cC adK adV) q) {L : List (Option Value)} {st : List Value} {σc σm σ2 : ox_S} {As rest st2 : List Value} {r2 : Option Value} (hM : Met l oy_Mo_size (Cond.code oy_Mo_size prog_11_method_23_code 1 (some .int) :: ox_ws) rm_om_Mo_size (ox_P (ol_m D adm cI cC cZ) (.ref (adm 0) :: As) σm) (ox_Q (ol_m D adm cI cC cZ) r2 σ2) 0 0 (ox_A (ol_m D adm cI cC cZ))) (hn : As.length = 0) (hroom : (rest.map fun v => v.category).sum ≤ 8) (hst : st = As.reverse ++ .ref (adm 0) :: rest) (hst2 : r2.toList ++ rest = st2) (k : ox_X p l e room_1 s m #[.ref b] below meth c (ol_hp (ol_c D adc cI cC adK adV) (ol_m D adm cI cC cZ)) (fun q => s.heap.size ≤ q) 4 43 7271 (lw_Z below #[.ref b] s) 213 L st2 (σc, σ2)) : ox_X p l e room_1 s m #[.ref b] below meth c (ol_hp (ol_c D adc cI cC adK adV) (ol_m D adm cI cC cZ)) (fun q => s.heap.size ≤ q) 4 43 7271 (lw_Z below #[.ref b] s) 210 L st (σc, σm) := by
  refine ol_goM (a := (Value.ref (adm 0) :: As).toArray) (rest := rest) okc hAm (fun q h1 h2 => hd q h2 h1) (fun ls H locs hl hP2 hP hS => ?_) hst2 k
  have hp := ol_pre Km okm (show ox_x (ol_m D adm cI cC cZ) s s.heap from trivial) hP (fun q h1 h2 => hS.2.1 q h1 (by omega)) (.ref (adm 0) :: As)
  exact va_runV (C := oR_Mo) ⟨B.hx, B.hb, B.hml, B.hown, B.hts⟩ hM (ox_cwV 0 B.hts (ox_t4 173 rfl rfl) (ox_t1 10 rfl rfl) (ox_t4 170 rfl rfl) (ox_t4 171 rfl rfl) (ox_t4 172 rfl rfl) ⟨by decide, by decide, by decide +kernel⟩ ⟨rfl, rfl, Nat.le_of_ble_eq_true rfl, Nat.le_of_ble_eq_true rfl⟩) ⟨hp.1, va_recv Km hP (ci := 9) (q0 := 0) rfl rfl, hp.2⟩ rfl hn hl.1 hst (lv_room hroom) od_law_210 ⟨Nat.le_of_ble_eq_true rfl, Nat.le_of_ble_eq_true rfl⟩
theorem ol_m_distance {p : Program} {l : Launch} {e : Env} {s : State} {m : MethodId} {below : List Frame} {meth : Method} {c : Code} {D : va_G} {adc adm : Nat → Nat} {cI cC cZ : ClassId} {adK adV : Nat → Nat} {b Ln : Nat} {xs : Nat → Int32} (B : ox_B p s m #[.ref b] c 4 code "OneTreeToursLaw" ox_ws) (hX : va_X b Ln xs s s.heap) (hbl : b < s.heap.size) (okc : ox_ok (ol_c D adc cI cC adK adV)) (okm : ox_ok (ol_m D adm cI cC cZ)) (Kc : va_K (ox_D (ol_c D adc cI cC adK adV)) (ox_cl (ol_c D adc cI cC adK adV)) (ox_ty (ol_c D adc cI cC adK adV)) s) (Km : va_K (ox_D (ol_m D adm cI cC cZ)) (ox_cl (ol_m D adm cI cC cZ)) (ox_ty (ol_m D adm cI cC cZ)) s) (xc : ox_x (ol_c D adc cI cC adK adV) s s.heap) (hAc : ∀ q, ox_A (ol_c D adc cI cC adK adV) q → s.heap.size ≤ q) (hAm : ∀ q, ox_A (ol_m D adm cI cC cZ) q → s.heap.size ≤ q) (hd : ∀ q, ox_A (ol_m D adm cI cC cZ) q → ¬ ox_A (ol_c D adc cI cC adK adV) q) {L : List (Option Value)} {st : List Value} {σc σm σ2 : ox_S} {As rest st2 : List Value} {r2 : Option Value} (hM : Met l oy_Mo_distance (Cond.code oy_Mo_distance prog_11_method_25_code 3 (some .int) :: ox_ws) rm_om_Mo_distance (ox_P (ol_m D adm cI cC cZ) (.ref (adm 0) :: As) σm) (ox_Q (ol_m D adm cI cC cZ) r2 σ2) 0 0 (ox_A (ol_m D adm cI cC cZ))) (hn : As.length = 2) (hroom : (rest.map fun v => v.category).sum ≤ 8) (hst : st = As.reverse ++ .ref (adm 0) :: rest) (hst2 : r2.toList ++ rest = st2) (k : ox_X p l e room_1 s m #[.ref b] below meth c (ol_hp (ol_c D adc cI cC adK adV) (ol_m D adm cI cC cZ)) (fun q => s.heap.size ≤ q) 4 43 7271 (lw_Z below #[.ref b] s) 246 L st2 (σc, σ2)) : ox_X p l e room_1 s m #[.ref b] below meth c (ol_hp (ol_c D adc cI cC adK adV) (ol_m D adm cI cC cZ)) (fun q => s.heap.size ≤ q) 4 43 7271 (lw_Z below #[.ref b] s) 243 L st (σc, σm) := by
  refine ol_goM (a := (Value.ref (adm 0) :: As).toArray) (rest := rest) okc hAm (fun q h1 h2 => hd q h2 h1) (fun ls H locs hl hP2 hP hS => ?_) hst2 k
  have hp := ol_pre Km okm (show ox_x (ol_m D adm cI cC cZ) s s.heap from trivial) hP (fun q h1 h2 => hS.2.1 q h1 (by omega)) (.ref (adm 0) :: As)
  exact va_runV (C := oR_Mo) ⟨B.hx, B.hb, B.hml, B.hown, B.hts⟩ hM (ox_cwV 2 B.hts (ox_t4 177 rfl rfl) (ox_t1 10 rfl rfl) (ox_t4 174 rfl rfl) (ox_t4 175 rfl rfl) (ox_t4 176 rfl rfl) ⟨by decide, by decide, by decide +kernel⟩ ⟨rfl, rfl, Nat.le_of_ble_eq_true rfl, Nat.le_of_ble_eq_true rfl⟩) ⟨hp.1, va_recv Km hP (ci := 9) (q0 := 0) rfl rfl, hp.2⟩ rfl hn hl.1 hst (lv_room hroom) od_law_243 ⟨Nat.le_of_ble_eq_true rfl, Nat.le_of_ble_eq_true rfl⟩
theorem ol_m_mark {p : Program} {l : Launch} {e : Env} {s : State} {m : MethodId} {below : List Frame} {meth : Method} {c : Code} {D : va_G} {adc adm : Nat → Nat} {cI cC cZ : ClassId} {adK adV : Nat → Nat} {b Ln : Nat} {xs : Nat → Int32} (B : ox_B p s m #[.ref b] c 4 code "OneTreeToursLaw" ox_ws) (hX : va_X b Ln xs s s.heap) (hbl : b < s.heap.size) (okc : ox_ok (ol_c D adc cI cC adK adV)) (okm : ox_ok (ol_m D adm cI cC cZ)) (Kc : va_K (ox_D (ol_c D adc cI cC adK adV)) (ox_cl (ol_c D adc cI cC adK adV)) (ox_ty (ol_c D adc cI cC adK adV)) s) (Km : va_K (ox_D (ol_m D adm cI cC cZ)) (ox_cl (ol_m D adm cI cC cZ)) (ox_ty (ol_m D adm cI cC cZ)) s) (xc : ox_x (ol_c D adc cI cC adK adV) s s.heap) (hAc : ∀ q, ox_A (ol_c D adc cI cC adK adV) q → s.heap.size ≤ q) (hAm : ∀ q, ox_A (ol_m D adm cI cC cZ) q → s.heap.size ≤ q) (hd : ∀ q, ox_A (ol_m D adm cI cC cZ) q → ¬ ox_A (ol_c D adc cI cC adK adV) q) {L : List (Option Value)} {st : List Value} {σc σm σ2 : ox_S} {As rest st2 : List Value} {r2 : Option Value} (hM : Met l oy_Mo_mark (Cond.code oy_Mo_mark prog_11_method_26_code 4 (some .boolean) :: ox_ws) rm_om_Mo_mark (ox_P (ol_m D adm cI cC cZ) (.ref (adm 0) :: As) σm) (ox_Q (ol_m D adm cI cC cZ) r2 σ2) 0 0 (ox_A (ol_m D adm cI cC cZ))) (hn : As.length = 3) (hroom : (rest.map fun v => v.category).sum ≤ 8) (hst : st = As.reverse ++ .ref (adm 0) :: rest) (hst2 : r2.toList ++ rest = st2) (k : ox_X p l e room_1 s m #[.ref b] below meth c (ol_hp (ol_c D adc cI cC adK adV) (ol_m D adm cI cC cZ)) (fun q => s.heap.size ≤ q) 4 43 7271 (lw_Z below #[.ref b] s) 289 L st2 (σc, σ2)) : ox_X p l e room_1 s m #[.ref b] below meth c (ol_hp (ol_c D adc cI cC adK adV) (ol_m D adm cI cC cZ)) (fun q => s.heap.size ≤ q) 4 43 7271 (lw_Z below #[.ref b] s) 286 L st (σc, σm) := by
  refine ol_goM (a := (Value.ref (adm 0) :: As).toArray) (rest := rest) okc hAm (fun q h1 h2 => hd q h2 h1) (fun ls H locs hl hP2 hP hS => ?_) hst2 k
  have hp := ol_pre Km okm (show ox_x (ol_m D adm cI cC cZ) s s.heap from trivial) hP (fun q h1 h2 => hS.2.1 q h1 (by omega)) (.ref (adm 0) :: As)
  exact va_runV (C := oR_Mo) ⟨B.hx, B.hb, B.hml, B.hown, B.hts⟩ hM (ox_cwV 3 B.hts (ox_t4 185 rfl rfl) (ox_t1 10 rfl rfl) (ox_t4 182 rfl rfl) (ox_t4 183 rfl rfl) (ox_t4 184 rfl rfl) ⟨by decide, by decide, by decide +kernel⟩ ⟨rfl, rfl, Nat.le_of_ble_eq_true rfl, Nat.le_of_ble_eq_true rfl⟩) ⟨hp.1, va_recv Km hP (ci := 9) (q0 := 0) rfl rfl, hp.2⟩ rfl hn hl.1 hst (lv_room hroom) od_law_286 ⟨Nat.le_of_ble_eq_true rfl, Nat.le_of_ble_eq_true rfl⟩
theorem ol_m_lift {p : Program} {l : Launch} {e : Env} {s : State} {m : MethodId} {below : List Frame} {meth : Method} {c : Code} {D : va_G} {adc adm : Nat → Nat} {cI cC cZ : ClassId} {adK adV : Nat → Nat} {b Ln : Nat} {xs : Nat → Int32} (B : ox_B p s m #[.ref b] c 4 code "OneTreeToursLaw" ox_ws) (hX : va_X b Ln xs s s.heap) (hbl : b < s.heap.size) (okc : ox_ok (ol_c D adc cI cC adK adV)) (okm : ox_ok (ol_m D adm cI cC cZ)) (Kc : va_K (ox_D (ol_c D adc cI cC adK adV)) (ox_cl (ol_c D adc cI cC adK adV)) (ox_ty (ol_c D adc cI cC adK adV)) s) (Km : va_K (ox_D (ol_m D adm cI cC cZ)) (ox_cl (ol_m D adm cI cC cZ)) (ox_ty (ol_m D adm cI cC cZ)) s) (xc : ox_x (ol_c D adc cI cC adK adV) s s.heap) (hAc : ∀ q, ox_A (ol_c D adc cI cC adK adV) q → s.heap.size ≤ q) (hAm : ∀ q, ox_A (ol_m D adm cI cC cZ) q → s.heap.size ≤ q) (hd : ∀ q, ox_A (ol_m D adm cI cC cZ) q → ¬ ox_A (ol_c D adc cI cC adK adV) q) {L : List (Option Value)} {st : List Value} {σc σm σ2 : ox_S} {As rest st2 : List Value} {r2 : Option Value} (hM : Met l oy_Mo_lift (Cond.code oy_Mo_lift prog_11_method_27_code 3 (some .boolean) :: ox_ws) rm_om_Mo_lift (ox_P (ol_m D adm cI cC cZ) (.ref (adm 0) :: As) σm) (ox_Q (ol_m D adm cI cC cZ) r2 σ2) 0 0 (ox_A (ol_m D adm cI cC cZ))) (hn : As.length = 2) (hroom : (rest.map fun v => v.category).sum ≤ 8) (hst : st = As.reverse ++ .ref (adm 0) :: rest) (hst2 : r2.toList ++ rest = st2) (k : ox_X p l e room_1 s m #[.ref b] below meth c (ol_hp (ol_c D adc cI cC adK adV) (ol_m D adm cI cC cZ)) (fun q => s.heap.size ≤ q) 4 43 7271 (lw_Z below #[.ref b] s) 322 L st2 (σc, σ2)) : ox_X p l e room_1 s m #[.ref b] below meth c (ol_hp (ol_c D adc cI cC adK adV) (ol_m D adm cI cC cZ)) (fun q => s.heap.size ≤ q) 4 43 7271 (lw_Z below #[.ref b] s) 319 L st (σc, σm) := by
  refine ol_goM (a := (Value.ref (adm 0) :: As).toArray) (rest := rest) okc hAm (fun q h1 h2 => hd q h2 h1) (fun ls H locs hl hP2 hP hS => ?_) hst2 k
  have hp := ol_pre Km okm (show ox_x (ol_m D adm cI cC cZ) s s.heap from trivial) hP (fun q h1 h2 => hS.2.1 q h1 (by omega)) (.ref (adm 0) :: As)
  exact va_runV (C := oR_Mo) ⟨B.hx, B.hb, B.hml, B.hown, B.hts⟩ hM (ox_cwV 2 B.hts (ox_t4 189 rfl rfl) (ox_t1 10 rfl rfl) (ox_t4 186 rfl rfl) (ox_t4 187 rfl rfl) (ox_t4 188 rfl rfl) ⟨by decide, by decide, by decide +kernel⟩ ⟨rfl, rfl, Nat.le_of_ble_eq_true rfl, Nat.le_of_ble_eq_true rfl⟩) ⟨hp.1, va_recv Km hP (ci := 9) (q0 := 0) rfl rfl, hp.2⟩ rfl hn hl.1 hst (lv_room hroom) od_law_319 ⟨Nat.le_of_ble_eq_true rfl, Nat.le_of_ble_eq_true rfl⟩
theorem ol_m_potential {p : Program} {l : Launch} {e : Env} {s : State} {m : MethodId} {below : List Frame} {meth : Method} {c : Code} {D : va_G} {adc adm : Nat → Nat} {cI cC cZ : ClassId} {adK adV : Nat → Nat} {b Ln : Nat} {xs : Nat → Int32} (B : ox_B p s m #[.ref b] c 4 code "OneTreeToursLaw" ox_ws) (hX : va_X b Ln xs s s.heap) (hbl : b < s.heap.size) (okc : ox_ok (ol_c D adc cI cC adK adV)) (okm : ox_ok (ol_m D adm cI cC cZ)) (Kc : va_K (ox_D (ol_c D adc cI cC adK adV)) (ox_cl (ol_c D adc cI cC adK adV)) (ox_ty (ol_c D adc cI cC adK adV)) s) (Km : va_K (ox_D (ol_m D adm cI cC cZ)) (ox_cl (ol_m D adm cI cC cZ)) (ox_ty (ol_m D adm cI cC cZ)) s) (xc : ox_x (ol_c D adc cI cC adK adV) s s.heap) (hAc : ∀ q, ox_A (ol_c D adc cI cC adK adV) q → s.heap.size ≤ q) (hAm : ∀ q, ox_A (ol_m D adm cI cC cZ) q → s.heap.size ≤ q) (hd : ∀ q, ox_A (ol_m D adm cI cC cZ) q → ¬ ox_A (ol_c D adc cI cC adK adV) q) {L : List (Option Value)} {st : List Value} {σc σm σ2 : ox_S} {As rest st2 : List Value} {r2 : Option Value} (hM : Met l oy_Mo_potential (Cond.code oy_Mo_potential prog_11_method_28_code 2 (some .int) :: ox_ws) rm_om_Mo_potential (ox_P (ol_m D adm cI cC cZ) (.ref (adm 0) :: As) σm) (ox_Q (ol_m D adm cI cC cZ) r2 σ2) 0 0 (ox_A (ol_m D adm cI cC cZ))) (hn : As.length = 1) (hroom : (rest.map fun v => v.category).sum ≤ 8) (hst : st = As.reverse ++ .ref (adm 0) :: rest) (hst2 : r2.toList ++ rest = st2) (k : ox_X p l e room_1 s m #[.ref b] below meth c (ol_hp (ol_c D adc cI cC adK adV) (ol_m D adm cI cC cZ)) (fun q => s.heap.size ≤ q) 4 43 7271 (lw_Z below #[.ref b] s) 345 L st2 (σc, σ2)) : ox_X p l e room_1 s m #[.ref b] below meth c (ol_hp (ol_c D adc cI cC adK adV) (ol_m D adm cI cC cZ)) (fun q => s.heap.size ≤ q) 4 43 7271 (lw_Z below #[.ref b] s) 342 L st (σc, σm) := by
  refine ol_goM (a := (Value.ref (adm 0) :: As).toArray) (rest := rest) okc hAm (fun q h1 h2 => hd q h2 h1) (fun ls H locs hl hP2 hP hS => ?_) hst2 k
  have hp := ol_pre Km okm (show ox_x (ol_m D adm cI cC cZ) s s.heap from trivial) hP (fun q h1 h2 => hS.2.1 q h1 (by omega)) (.ref (adm 0) :: As)
  exact va_runV (C := oR_Mo) ⟨B.hx, B.hb, B.hml, B.hown, B.hts⟩ hM (ox_cwV 1 B.hts (ox_t4 195 rfl rfl) (ox_t1 10 rfl rfl) (ox_t4 192 rfl rfl) (ox_t4 193 rfl rfl) (ox_t4 194 rfl rfl) ⟨by decide, by decide, by decide +kernel⟩ ⟨rfl, rfl, Nat.le_of_ble_eq_true rfl, Nat.le_of_ble_eq_true rfl⟩) ⟨hp.1, va_recv Km hP (ci := 9) (q0 := 0) rfl rfl, hp.2⟩ rfl hn hl.1 hst (lv_room hroom) od_law_342 ⟨Nat.le_of_ble_eq_true rfl, Nat.le_of_ble_eq_true rfl⟩
theorem ol_m_bound {p : Program} {l : Launch} {e : Env} {s : State} {m : MethodId} {below : List Frame} {meth : Method} {c : Code} {D : va_G} {adc adm : Nat → Nat} {cI cC cZ : ClassId} {adK adV : Nat → Nat} {b Ln : Nat} {xs : Nat → Int32} (B : ox_B p s m #[.ref b] c 4 code "OneTreeToursLaw" ox_ws) (hX : va_X b Ln xs s s.heap) (hbl : b < s.heap.size) (okc : ox_ok (ol_c D adc cI cC adK adV)) (okm : ox_ok (ol_m D adm cI cC cZ)) (Kc : va_K (ox_D (ol_c D adc cI cC adK adV)) (ox_cl (ol_c D adc cI cC adK adV)) (ox_ty (ol_c D adc cI cC adK adV)) s) (Km : va_K (ox_D (ol_m D adm cI cC cZ)) (ox_cl (ol_m D adm cI cC cZ)) (ox_ty (ol_m D adm cI cC cZ)) s) (xc : ox_x (ol_c D adc cI cC adK adV) s s.heap) (hAc : ∀ q, ox_A (ol_c D adc cI cC adK adV) q → s.heap.size ≤ q) (hAm : ∀ q, ox_A (ol_m D adm cI cC cZ) q → s.heap.size ≤ q) (hd : ∀ q, ox_A (ol_m D adm cI cC cZ) q → ¬ ox_A (ol_c D adc cI cC adK adV) q) {L : List (Option Value)} {st : List Value} {σc σm σ2 : ox_S} {As rest st2 : List Value} {r2 : Option Value} (hM : Met l oy_Mo_bound (Cond.code oy_Mo_bound prog_11_method_37_code 1 (some .int) :: ox_ws) rm_om_Mo_bound (ox_P (ol_m D adm cI cC cZ) (.ref (adm 0) :: As) σm) (ox_Q (ol_m D adm cI cC cZ) r2 σ2) 0 0 (ox_A (ol_m D adm cI cC cZ))) (hn : As.length = 0) (hroom : (rest.map fun v => v.category).sum ≤ 8) (hst : st = As.reverse ++ .ref (adm 0) :: rest) (hst2 : r2.toList ++ rest = st2) (k : ox_X p l e room_1 s m #[.ref b] below meth c (ol_hp (ol_c D adc cI cC adK adV) (ol_m D adm cI cC cZ)) (fun q => s.heap.size ≤ q) 4 43 7271 (lw_Z below #[.ref b] s) 358 L st2 (σc, σ2)) : ox_X p l e room_1 s m #[.ref b] below meth c (ol_hp (ol_c D adc cI cC adK adV) (ol_m D adm cI cC cZ)) (fun q => s.heap.size ≤ q) 4 43 7271 (lw_Z below #[.ref b] s) 355 L st (σc, σm) := by
  refine ol_goM (a := (Value.ref (adm 0) :: As).toArray) (rest := rest) okc hAm (fun q h1 h2 => hd q h2 h1) (fun ls H locs hl hP2 hP hS => ?_) hst2 k
  have hp := ol_pre Km okm (show ox_x (ol_m D adm cI cC cZ) s s.heap from trivial) hP (fun q h1 h2 => hS.2.1 q h1 (by omega)) (.ref (adm 0) :: As)
  exact va_runV (C := oR_Mo) ⟨B.hx, B.hb, B.hml, B.hown, B.hts⟩ hM (ox_cwV 0 B.hts (ox_t4 199 rfl rfl) (ox_t1 10 rfl rfl) (ox_t4 196 rfl rfl) (ox_t4 197 rfl rfl) (ox_t4 198 rfl rfl) ⟨by decide, by decide, by decide +kernel⟩ ⟨rfl, rfl, Nat.le_of_ble_eq_true rfl, Nat.le_of_ble_eq_true rfl⟩) ⟨hp.1, va_recv Km hP (ci := 9) (q0 := 0) rfl rfl, hp.2⟩ rfl hn hl.1 hst (lv_room hroom) od_law_355 ⟨Nat.le_of_ble_eq_true rfl, Nat.le_of_ble_eq_true rfl⟩
theorem ol_m_degree {p : Program} {l : Launch} {e : Env} {s : State} {m : MethodId} {below : List Frame} {meth : Method} {c : Code} {D : va_G} {adc adm : Nat → Nat} {cI cC cZ : ClassId} {adK adV : Nat → Nat} {b Ln : Nat} {xs : Nat → Int32} (B : ox_B p s m #[.ref b] c 4 code "OneTreeToursLaw" ox_ws) (hX : va_X b Ln xs s s.heap) (hbl : b < s.heap.size) (okc : ox_ok (ol_c D adc cI cC adK adV)) (okm : ox_ok (ol_m D adm cI cC cZ)) (Kc : va_K (ox_D (ol_c D adc cI cC adK adV)) (ox_cl (ol_c D adc cI cC adK adV)) (ox_ty (ol_c D adc cI cC adK adV)) s) (Km : va_K (ox_D (ol_m D adm cI cC cZ)) (ox_cl (ol_m D adm cI cC cZ)) (ox_ty (ol_m D adm cI cC cZ)) s) (xc : ox_x (ol_c D adc cI cC adK adV) s s.heap) (hAc : ∀ q, ox_A (ol_c D adc cI cC adK adV) q → s.heap.size ≤ q) (hAm : ∀ q, ox_A (ol_m D adm cI cC cZ) q → s.heap.size ≤ q) (hd : ∀ q, ox_A (ol_m D adm cI cC cZ) q → ¬ ox_A (ol_c D adc cI cC adK adV) q) {L : List (Option Value)} {st : List Value} {σc σm σ2 : ox_S} {As rest st2 : List Value} {r2 : Option Value} (hM : Met l oy_Mo_degree (Cond.code oy_Mo_degree prog_11_method_39_code 2 (some .int) :: ox_ws) rm_om_Mo_degree (ox_P (ol_m D adm cI cC cZ) (.ref (adm 0) :: As) σm) (ox_Q (ol_m D adm cI cC cZ) r2 σ2) 0 0 (ox_A (ol_m D adm cI cC cZ))) (hn : As.length = 1) (hroom : (rest.map fun v => v.category).sum ≤ 8) (hst : st = As.reverse ++ .ref (adm 0) :: rest) (hst2 : r2.toList ++ rest = st2) (k : ox_X p l e room_1 s m #[.ref b] below meth c (ol_hp (ol_c D adc cI cC adK adV) (ol_m D adm cI cC cZ)) (fun q => s.heap.size ≤ q) 4 43 7271 (lw_Z below #[.ref b] s) 381 L st2 (σc, σ2)) : ox_X p l e room_1 s m #[.ref b] below meth c (ol_hp (ol_c D adc cI cC adK adV) (ol_m D adm cI cC cZ)) (fun q => s.heap.size ≤ q) 4 43 7271 (lw_Z below #[.ref b] s) 378 L st (σc, σm) := by
  refine ol_goM (a := (Value.ref (adm 0) :: As).toArray) (rest := rest) okc hAm (fun q h1 h2 => hd q h2 h1) (fun ls H locs hl hP2 hP hS => ?_) hst2 k
  have hp := ol_pre Km okm (show ox_x (ol_m D adm cI cC cZ) s s.heap from trivial) hP (fun q h1 h2 => hS.2.1 q h1 (by omega)) (.ref (adm 0) :: As)
  exact va_runV (C := oR_Mo) ⟨B.hx, B.hb, B.hml, B.hown, B.hts⟩ hM (ox_cwV 1 B.hts (ox_t4 236 rfl rfl) (ox_t1 10 rfl rfl) (ox_t4 233 rfl rfl) (ox_t4 234 rfl rfl) (ox_t4 235 rfl rfl) ⟨by decide, by decide, by decide +kernel⟩ ⟨rfl, rfl, Nat.le_of_ble_eq_true rfl, Nat.le_of_ble_eq_true rfl⟩) ⟨hp.1, va_recv Km hP (ci := 9) (q0 := 0) rfl rfl, hp.2⟩ rfl hn hl.1 hst (lv_room hroom) od_law_378 ⟨Nat.le_of_ble_eq_true rfl, Nat.le_of_ble_eq_true rfl⟩
theorem ol_m_ascend {p : Program} {l : Launch} {e : Env} {s : State} {m : MethodId} {below : List Frame} {meth : Method} {c : Code} {D : va_G} {adc adm : Nat → Nat} {cI cC cZ : ClassId} {adK adV : Nat → Nat} {b Ln : Nat} {xs : Nat → Int32} (B : ox_B p s m #[.ref b] c 4 code "OneTreeToursLaw" ox_ws) (hX : va_X b Ln xs s s.heap) (hbl : b < s.heap.size) (okc : ox_ok (ol_c D adc cI cC adK adV)) (okm : ox_ok (ol_m D adm cI cC cZ)) (Kc : va_K (ox_D (ol_c D adc cI cC adK adV)) (ox_cl (ol_c D adc cI cC adK adV)) (ox_ty (ol_c D adc cI cC adK adV)) s) (Km : va_K (ox_D (ol_m D adm cI cC cZ)) (ox_cl (ol_m D adm cI cC cZ)) (ox_ty (ol_m D adm cI cC cZ)) s) (xc : ox_x (ol_c D adc cI cC adK adV) s s.heap) (hAc : ∀ q, ox_A (ol_c D adc cI cC adK adV) q → s.heap.size ≤ q) (hAm : ∀ q, ox_A (ol_m D adm cI cC cZ) q → s.heap.size ≤ q) (hd : ∀ q, ox_A (ol_m D adm cI cC cZ) q → ¬ ox_A (ol_c D adc cI cC adK adV) q) {L : List (Option Value)} {st : List Value} {σc σm σ2 : ox_S} {As rest st2 : List Value} {r2 : Option Value} (hM : Met l oy_Mo_ascend (Cond.code oy_Mo_ascend prog_11_method_40_code 4 (some .int) :: ox_ws) rm_om_Mo_ascend (ox_P (ol_m D adm cI cC cZ) (.ref (adm 0) :: As) σm) (ox_Q (ol_m D adm cI cC cZ) r2 σ2) 0 0 (ox_A (ol_m D adm cI cC cZ))) (hn : As.length = 1) (hroom : (rest.map fun v => v.category).sum ≤ 8) (hst : st = As.reverse ++ .ref (adm 0) :: rest) (hst2 : r2.toList ++ rest = st2) (k : ox_X p l e room_1 s m #[.ref b] below meth c (ol_hp (ol_c D adc cI cC adK adV) (ol_m D adm cI cC cZ)) (fun q => s.heap.size ≤ q) 4 43 7271 (lw_Z below #[.ref b] s) 404 L st2 (σc, σ2)) : ox_X p l e room_1 s m #[.ref b] below meth c (ol_hp (ol_c D adc cI cC adK adV) (ol_m D adm cI cC cZ)) (fun q => s.heap.size ≤ q) 4 43 7271 (lw_Z below #[.ref b] s) 401 L st (σc, σm) := by
  refine ol_goM (a := (Value.ref (adm 0) :: As).toArray) (rest := rest) okc hAm (fun q h1 h2 => hd q h2 h1) (fun ls H locs hl hP2 hP hS => ?_) hst2 k
  have hp := ol_pre Km okm (show ox_x (ol_m D adm cI cC cZ) s s.heap from trivial) hP (fun q h1 h2 => hS.2.1 q h1 (by omega)) (.ref (adm 0) :: As)
  exact va_runV (C := oR_Mo) ⟨B.hx, B.hb, B.hml, B.hown, B.hts⟩ hM (ox_cwV 1 B.hts (ox_t5 4 rfl rfl) (ox_t1 10 rfl rfl) (ox_t5 1 rfl rfl) (ox_t5 2 rfl rfl) (ox_t5 3 rfl rfl) ⟨by decide, by decide, by decide +kernel⟩ ⟨rfl, rfl, Nat.le_of_ble_eq_true rfl, Nat.le_of_ble_eq_true rfl⟩) ⟨hp.1, va_recv Km hP (ci := 9) (q0 := 0) rfl rfl, hp.2⟩ rfl hn hl.1 hst (lv_room hroom) od_law_401 ⟨Nat.le_of_ble_eq_true rfl, Nat.le_of_ble_eq_true rfl⟩
theorem ol_m_solve {p : Program} {l : Launch} {e : Env} {s : State} {m : MethodId} {below : List Frame} {meth : Method} {c : Code} {D : va_G} {adc adm : Nat → Nat} {cI cC cZ : ClassId} {adK adV : Nat → Nat} {b Ln : Nat} {xs : Nat → Int32} (B : ox_B p s m #[.ref b] c 4 code "OneTreeToursLaw" ox_ws) (hX : va_X b Ln xs s s.heap) (hbl : b < s.heap.size) (okc : ox_ok (ol_c D adc cI cC adK adV)) (okm : ox_ok (ol_m D adm cI cC cZ)) (Kc : va_K (ox_D (ol_c D adc cI cC adK adV)) (ox_cl (ol_c D adc cI cC adK adV)) (ox_ty (ol_c D adc cI cC adK adV)) s) (Km : va_K (ox_D (ol_m D adm cI cC cZ)) (ox_cl (ol_m D adm cI cC cZ)) (ox_ty (ol_m D adm cI cC cZ)) s) (xc : ox_x (ol_c D adc cI cC adK adV) s s.heap) (hAc : ∀ q, ox_A (ol_c D adc cI cC adK adV) q → s.heap.size ≤ q) (hAm : ∀ q, ox_A (ol_m D adm cI cC cZ) q → s.heap.size ≤ q) (hd : ∀ q, ox_A (ol_m D adm cI cC cZ) q → ¬ ox_A (ol_c D adc cI cC adK adV) q) {L : List (Option Value)} {st : List Value} {σc σm σ2 : ox_S} {As rest st2 : List Value} {r2 : Option Value} (hM : Met l oy_Mo_solve (Cond.code oy_Mo_solve prog_11_method_49_code 4 (some .int) :: ox_ws) rm_om_Mo_solve (ox_P (ol_m D adm cI cC cZ) (.ref (adm 0) :: As) σm) (ox_Q (ol_m D adm cI cC cZ) r2 σ2) 0 0 (ox_A (ol_m D adm cI cC cZ))) (hn : As.length = 0) (hroom : (rest.map fun v => v.category).sum ≤ 8) (hst : st = As.reverse ++ .ref (adm 0) :: rest) (hst2 : r2.toList ++ rest = st2) (k : ox_X p l e room_1 s m #[.ref b] below meth c (ol_hp (ol_c D adc cI cC adK adV) (ol_m D adm cI cC cZ)) (fun q => s.heap.size ≤ q) 4 43 7271 (lw_Z below #[.ref b] s) 417 L st2 (σc, σ2)) : ox_X p l e room_1 s m #[.ref b] below meth c (ol_hp (ol_c D adc cI cC adK adV) (ol_m D adm cI cC cZ)) (fun q => s.heap.size ≤ q) 4 43 7271 (lw_Z below #[.ref b] s) 414 L st (σc, σm) := by
  refine ol_goM (a := (Value.ref (adm 0) :: As).toArray) (rest := rest) okc hAm (fun q h1 h2 => hd q h2 h1) (fun ls H locs hl hP2 hP hS => ?_) hst2 k
  have hp := ol_pre Km okm (show ox_x (ol_m D adm cI cC cZ) s s.heap from trivial) hP (fun q h1 h2 => hS.2.1 q h1 (by omega)) (.ref (adm 0) :: As)
  exact va_runV (C := oR_Mo) ⟨B.hx, B.hb, B.hml, B.hown, B.hts⟩ hM (ox_cwV 0 B.hts (ox_t5 8 rfl rfl) (ox_t1 10 rfl rfl) (ox_t5 5 rfl rfl) (ox_t5 6 rfl rfl) (ox_t5 7 rfl rfl) ⟨by decide, by decide, by decide +kernel⟩ ⟨rfl, rfl, Nat.le_of_ble_eq_true rfl, Nat.le_of_ble_eq_true rfl⟩) ⟨hp.1, va_recv Km hP (ci := 9) (q0 := 0) rfl rfl, hp.2⟩ rfl hn hl.1 hst (lv_room hroom) od_law_414 ⟨Nat.le_of_ble_eq_true rfl, Nat.le_of_ble_eq_true rfl⟩
theorem ol_m_ties {p : Program} {l : Launch} {e : Env} {s : State} {m : MethodId} {below : List Frame} {meth : Method} {c : Code} {D : va_G} {adc adm : Nat → Nat} {cI cC cZ : ClassId} {adK adV : Nat → Nat} {b Ln : Nat} {xs : Nat → Int32} (B : ox_B p s m #[.ref b] c 4 code "OneTreeToursLaw" ox_ws) (hX : va_X b Ln xs s s.heap) (hbl : b < s.heap.size) (okc : ox_ok (ol_c D adc cI cC adK adV)) (okm : ox_ok (ol_m D adm cI cC cZ)) (Kc : va_K (ox_D (ol_c D adc cI cC adK adV)) (ox_cl (ol_c D adc cI cC adK adV)) (ox_ty (ol_c D adc cI cC adK adV)) s) (Km : va_K (ox_D (ol_m D adm cI cC cZ)) (ox_cl (ol_m D adm cI cC cZ)) (ox_ty (ol_m D adm cI cC cZ)) s) (xc : ox_x (ol_c D adc cI cC adK adV) s s.heap) (hAc : ∀ q, ox_A (ol_c D adc cI cC adK adV) q → s.heap.size ≤ q) (hAm : ∀ q, ox_A (ol_m D adm cI cC cZ) q → s.heap.size ≤ q) (hd : ∀ q, ox_A (ol_m D adm cI cC cZ) q → ¬ ox_A (ol_c D adc cI cC adK adV) q) {L : List (Option Value)} {st : List Value} {σc σm σ2 : ox_S} {As rest st2 : List Value} {r2 : Option Value} (hM : Met l oy_Mo_ties (Cond.code oy_Mo_ties prog_11_method_50_code 5 (some .int) :: ox_ws) rm_om_Mo_ties (ox_P (ol_m D adm cI cC cZ) (.ref (adm 0) :: As) σm) (ox_Q (ol_m D adm cI cC cZ) r2 σ2) 0 0 (ox_A (ol_m D adm cI cC cZ))) (hn : As.length = 0) (hroom : (rest.map fun v => v.category).sum ≤ 8) (hst : st = As.reverse ++ .ref (adm 0) :: rest) (hst2 : r2.toList ++ rest = st2) (k : ox_X p l e room_1 s m #[.ref b] below meth c (ol_hp (ol_c D adc cI cC adK adV) (ol_m D adm cI cC cZ)) (fun q => s.heap.size ≤ q) 4 43 7271 (lw_Z below #[.ref b] s) 430 L st2 (σc, σ2)) : ox_X p l e room_1 s m #[.ref b] below meth c (ol_hp (ol_c D adc cI cC adK adV) (ol_m D adm cI cC cZ)) (fun q => s.heap.size ≤ q) 4 43 7271 (lw_Z below #[.ref b] s) 427 L st (σc, σm) := by
  refine ol_goM (a := (Value.ref (adm 0) :: As).toArray) (rest := rest) okc hAm (fun q h1 h2 => hd q h2 h1) (fun ls H locs hl hP2 hP hS => ?_) hst2 k
  have hp := ol_pre Km okm (show ox_x (ol_m D adm cI cC cZ) s s.heap from trivial) hP (fun q h1 h2 => hS.2.1 q h1 (by omega)) (.ref (adm 0) :: As)
  exact va_runV (C := oR_Mo) ⟨B.hx, B.hb, B.hml, B.hown, B.hts⟩ hM (ox_cwV 0 B.hts (ox_t5 44 rfl rfl) (ox_t1 10 rfl rfl) (ox_t5 41 rfl rfl) (ox_t5 42 rfl rfl) (ox_t5 43 rfl rfl) ⟨by decide, by decide, by decide +kernel⟩ ⟨rfl, rfl, Nat.le_of_ble_eq_true rfl, Nat.le_of_ble_eq_true rfl⟩) ⟨hp.1, va_recv Km hP (ci := 9) (q0 := 0) rfl rfl, hp.2⟩ rfl hn hl.1 hst (lv_room hroom) od_law_427 ⟨Nat.le_of_ble_eq_true rfl, Nat.le_of_ble_eq_true rfl⟩
theorem ol_m_improve {p : Program} {l : Launch} {e : Env} {s : State} {m : MethodId} {below : List Frame} {meth : Method} {c : Code} {D : va_G} {adc adm : Nat → Nat} {cI cC cZ : ClassId} {adK adV : Nat → Nat} {b Ln : Nat} {xs : Nat → Int32} (B : ox_B p s m #[.ref b] c 4 code "OneTreeToursLaw" ox_ws) (hX : va_X b Ln xs s s.heap) (hbl : b < s.heap.size) (okc : ox_ok (ol_c D adc cI cC adK adV)) (okm : ox_ok (ol_m D adm cI cC cZ)) (Kc : va_K (ox_D (ol_c D adc cI cC adK adV)) (ox_cl (ol_c D adc cI cC adK adV)) (ox_ty (ol_c D adc cI cC adK adV)) s) (Km : va_K (ox_D (ol_m D adm cI cC cZ)) (ox_cl (ol_m D adm cI cC cZ)) (ox_ty (ol_m D adm cI cC cZ)) s) (xc : ox_x (ol_c D adc cI cC adK adV) s s.heap) (hAc : ∀ q, ox_A (ol_c D adc cI cC adK adV) q → s.heap.size ≤ q) (hAm : ∀ q, ox_A (ol_m D adm cI cC cZ) q → s.heap.size ≤ q) (hd : ∀ q, ox_A (ol_m D adm cI cC cZ) q → ¬ ox_A (ol_c D adc cI cC adK adV) q) {L : List (Option Value)} {st : List Value} {σc σm σ2 : ox_S} {As rest st2 : List Value} {r2 : Option Value} (hM : Met l oy_Mo_improve (Cond.code oy_Mo_improve prog_11_method_53_code 2 (some .int) :: ox_ws) rm_om_Mo_improve (ox_P (ol_m D adm cI cC cZ) (.ref (adm 0) :: As) σm) (ox_Q (ol_m D adm cI cC cZ) r2 σ2) 0 0 (ox_A (ol_m D adm cI cC cZ))) (hn : As.length = 0) (hroom : (rest.map fun v => v.category).sum ≤ 8) (hst : st = As.reverse ++ .ref (adm 0) :: rest) (hst2 : r2.toList ++ rest = st2) (k : ox_X p l e room_1 s m #[.ref b] below meth c (ol_hp (ol_c D adc cI cC adK adV) (ol_m D adm cI cC cZ)) (fun q => s.heap.size ≤ q) 4 43 7271 (lw_Z below #[.ref b] s) 443 L st2 (σc, σ2)) : ox_X p l e room_1 s m #[.ref b] below meth c (ol_hp (ol_c D adc cI cC adK adV) (ol_m D adm cI cC cZ)) (fun q => s.heap.size ≤ q) 4 43 7271 (lw_Z below #[.ref b] s) 440 L st (σc, σm) := by
  refine ol_goM (a := (Value.ref (adm 0) :: As).toArray) (rest := rest) okc hAm (fun q h1 h2 => hd q h2 h1) (fun ls H locs hl hP2 hP hS => ?_) hst2 k
  have hp := ol_pre Km okm (show ox_x (ol_m D adm cI cC cZ) s s.heap from trivial) hP (fun q h1 h2 => hS.2.1 q h1 (by omega)) (.ref (adm 0) :: As)
  exact va_runV (C := oR_Mo) ⟨B.hx, B.hb, B.hml, B.hown, B.hts⟩ hM (ox_cwV 0 B.hts (ox_t5 48 rfl rfl) (ox_t1 10 rfl rfl) (ox_t5 45 rfl rfl) (ox_t5 46 rfl rfl) (ox_t5 47 rfl rfl) ⟨by decide, by decide, by decide +kernel⟩ ⟨rfl, rfl, Nat.le_of_ble_eq_true rfl, Nat.le_of_ble_eq_true rfl⟩) ⟨hp.1, va_recv Km hP (ci := 9) (q0 := 0) rfl rfl, hp.2⟩ rfl hn hl.1 hst (lv_room hroom) od_law_440 ⟨Nat.le_of_ble_eq_true rfl, Nat.le_of_ble_eq_true rfl⟩
theorem ol_m_tour {p : Program} {l : Launch} {e : Env} {s : State} {m : MethodId} {below : List Frame} {meth : Method} {c : Code} {D : va_G} {adc adm : Nat → Nat} {cI cC cZ : ClassId} {adK adV : Nat → Nat} {b Ln : Nat} {xs : Nat → Int32} (B : ox_B p s m #[.ref b] c 4 code "OneTreeToursLaw" ox_ws) (hX : va_X b Ln xs s s.heap) (hbl : b < s.heap.size) (okc : ox_ok (ol_c D adc cI cC adK adV)) (okm : ox_ok (ol_m D adm cI cC cZ)) (Kc : va_K (ox_D (ol_c D adc cI cC adK adV)) (ox_cl (ol_c D adc cI cC adK adV)) (ox_ty (ol_c D adc cI cC adK adV)) s) (Km : va_K (ox_D (ol_m D adm cI cC cZ)) (ox_cl (ol_m D adm cI cC cZ)) (ox_ty (ol_m D adm cI cC cZ)) s) (xc : ox_x (ol_c D adc cI cC adK adV) s s.heap) (hAc : ∀ q, ox_A (ol_c D adc cI cC adK adV) q → s.heap.size ≤ q) (hAm : ∀ q, ox_A (ol_m D adm cI cC cZ) q → s.heap.size ≤ q) (hd : ∀ q, ox_A (ol_m D adm cI cC cZ) q → ¬ ox_A (ol_c D adc cI cC adK adV) q) {L : List (Option Value)} {st : List Value} {σc σm σ2 : ox_S} {As rest st2 : List Value} {r2 : Option Value} (hM : Met l oy_Mo_tour (Cond.code oy_Mo_tour prog_11_method_54_code 2 (some .int) :: ox_ws) rm_om_Mo_tour (ox_P (ol_m D adm cI cC cZ) (.ref (adm 0) :: As) σm) (ox_Q (ol_m D adm cI cC cZ) r2 σ2) 0 0 (ox_A (ol_m D adm cI cC cZ))) (hn : As.length = 1) (hroom : (rest.map fun v => v.category).sum ≤ 8) (hst : st = As.reverse ++ .ref (adm 0) :: rest) (hst2 : r2.toList ++ rest = st2) (k : ox_X p l e room_1 s m #[.ref b] below meth c (ol_hp (ol_c D adc cI cC adK adV) (ol_m D adm cI cC cZ)) (fun q => s.heap.size ≤ q) 4 43 7271 (lw_Z below #[.ref b] s) 466 L st2 (σc, σ2)) : ox_X p l e room_1 s m #[.ref b] below meth c (ol_hp (ol_c D adc cI cC adK adV) (ol_m D adm cI cC cZ)) (fun q => s.heap.size ≤ q) 4 43 7271 (lw_Z below #[.ref b] s) 463 L st (σc, σm) := by
  refine ol_goM (a := (Value.ref (adm 0) :: As).toArray) (rest := rest) okc hAm (fun q h1 h2 => hd q h2 h1) (fun ls H locs hl hP2 hP hS => ?_) hst2 k
  have hp := ol_pre Km okm (show ox_x (ol_m D adm cI cC cZ) s s.heap from trivial) hP (fun q h1 h2 => hS.2.1 q h1 (by omega)) (.ref (adm 0) :: As)
  exact va_runV (C := oR_Mo) ⟨B.hx, B.hb, B.hml, B.hown, B.hts⟩ hM (ox_cwV 1 B.hts (ox_t5 60 rfl rfl) (ox_t1 10 rfl rfl) (ox_t5 57 rfl rfl) (ox_t5 58 rfl rfl) (ox_t5 59 rfl rfl) ⟨by decide, by decide, by decide +kernel⟩ ⟨rfl, rfl, Nat.le_of_ble_eq_true rfl, Nat.le_of_ble_eq_true rfl⟩) ⟨hp.1, va_recv Km hP (ci := 9) (q0 := 0) rfl rfl, hp.2⟩ rfl hn hl.1 hst (lv_room hroom) od_law_463 ⟨Nat.le_of_ble_eq_true rfl, Nat.le_of_ble_eq_true rfl⟩
theorem ol_m_add {p : Program} {l : Launch} {e : Env} {s : State} {m : MethodId} {below : List Frame} {meth : Method} {c : Code} {D : va_G} {adc adm : Nat → Nat} {cI cC cZ : ClassId} {adK adV : Nat → Nat} {b Ln : Nat} {xs : Nat → Int32} (B : ox_B p s m #[.ref b] c 4 code "OneTreeToursLaw" ox_ws) (hX : va_X b Ln xs s s.heap) (hbl : b < s.heap.size) (okc : ox_ok (ol_c D adc cI cC adK adV)) (okm : ox_ok (ol_m D adm cI cC cZ)) (Kc : va_K (ox_D (ol_c D adc cI cC adK adV)) (ox_cl (ol_c D adc cI cC adK adV)) (ox_ty (ol_c D adc cI cC adK adV)) s) (Km : va_K (ox_D (ol_m D adm cI cC cZ)) (ox_cl (ol_m D adm cI cC cZ)) (ox_ty (ol_m D adm cI cC cZ)) s) (xc : ox_x (ol_c D adc cI cC adK adV) s s.heap) (hAc : ∀ q, ox_A (ol_c D adc cI cC adK adV) q → s.heap.size ≤ q) (hAm : ∀ q, ox_A (ol_m D adm cI cC cZ) q → s.heap.size ≤ q) (hd : ∀ q, ox_A (ol_m D adm cI cC cZ) q → ¬ ox_A (ol_c D adc cI cC adK adV) q) {L : List (Option Value)} {st : List Value} {σc σm σ2 : ox_S} {As rest st2 : List Value} {r2 : Option Value} (hM : Met l oy_Mo_add (Cond.code oy_Mo_add prog_11_method_56_code 4 (some .int) :: ox_ws) rm_om_Mo_add (ox_P (ol_m D adm cI cC cZ) (.ref (adm 0) :: As) σm) (ox_Q (ol_m D adm cI cC cZ) r2 σ2) 0 0 (ox_A (ol_m D adm cI cC cZ))) (hn : As.length = 2) (hroom : (rest.map fun v => v.category).sum ≤ 8) (hst : st = As.reverse ++ .ref (adm 0) :: rest) (hst2 : r2.toList ++ rest = st2) (k : ox_X p l e room_1 s m #[.ref b] below meth c (ol_hp (ol_c D adc cI cC adK adV) (ol_m D adm cI cC cZ)) (fun q => s.heap.size ≤ q) 4 43 7271 (lw_Z below #[.ref b] s) 499 L st2 (σc, σ2)) : ox_X p l e room_1 s m #[.ref b] below meth c (ol_hp (ol_c D adc cI cC adK adV) (ol_m D adm cI cC cZ)) (fun q => s.heap.size ≤ q) 4 43 7271 (lw_Z below #[.ref b] s) 496 L st (σc, σm) := by
  refine ol_goM (a := (Value.ref (adm 0) :: As).toArray) (rest := rest) okc hAm (fun q h1 h2 => hd q h2 h1) (fun ls H locs hl hP2 hP hS => ?_) hst2 k
  have hp := ol_pre Km okm (show ox_x (ol_m D adm cI cC cZ) s s.heap from trivial) hP (fun q h1 h2 => hS.2.1 q h1 (by omega)) (.ref (adm 0) :: As)
  exact va_runV (C := oR_Mo) ⟨B.hx, B.hb, B.hml, B.hown, B.hts⟩ hM (ox_cwV 2 B.hts (ox_t5 64 rfl rfl) (ox_t1 10 rfl rfl) (ox_t5 61 rfl rfl) (ox_t5 62 rfl rfl) (ox_t5 63 rfl rfl) ⟨by decide, by decide, by decide +kernel⟩ ⟨rfl, rfl, Nat.le_of_ble_eq_true rfl, Nat.le_of_ble_eq_true rfl⟩) ⟨hp.1, va_recv Km hP (ci := 9) (q0 := 0) rfl rfl, hp.2⟩ rfl hn hl.1 hst (lv_room hroom) od_law_496 ⟨Nat.le_of_ble_eq_true rfl, Nat.le_of_ble_eq_true rfl⟩
theorem ol_m_drop {p : Program} {l : Launch} {e : Env} {s : State} {m : MethodId} {below : List Frame} {meth : Method} {c : Code} {D : va_G} {adc adm : Nat → Nat} {cI cC cZ : ClassId} {adK adV : Nat → Nat} {b Ln : Nat} {xs : Nat → Int32} (B : ox_B p s m #[.ref b] c 4 code "OneTreeToursLaw" ox_ws) (hX : va_X b Ln xs s s.heap) (hbl : b < s.heap.size) (okc : ox_ok (ol_c D adc cI cC adK adV)) (okm : ox_ok (ol_m D adm cI cC cZ)) (Kc : va_K (ox_D (ol_c D adc cI cC adK adV)) (ox_cl (ol_c D adc cI cC adK adV)) (ox_ty (ol_c D adc cI cC adK adV)) s) (Km : va_K (ox_D (ol_m D adm cI cC cZ)) (ox_cl (ol_m D adm cI cC cZ)) (ox_ty (ol_m D adm cI cC cZ)) s) (xc : ox_x (ol_c D adc cI cC adK adV) s s.heap) (hAc : ∀ q, ox_A (ol_c D adc cI cC adK adV) q → s.heap.size ≤ q) (hAm : ∀ q, ox_A (ol_m D adm cI cC cZ) q → s.heap.size ≤ q) (hd : ∀ q, ox_A (ol_m D adm cI cC cZ) q → ¬ ox_A (ol_c D adc cI cC adK adV) q) {L : List (Option Value)} {st : List Value} {σc σm σ2 : ox_S} {As rest st2 : List Value} {r2 : Option Value} (hM : Met l oy_Mo_drop (Cond.code oy_Mo_drop prog_11_method_57_code 1 none :: ox_ws) rm_om_Mo_drop (ox_P (ol_m D adm cI cC cZ) (.ref (adm 0) :: As) σm) (ox_Q (ol_m D adm cI cC cZ) r2 σ2) 0 0 (ox_A (ol_m D adm cI cC cZ))) (hn : As.length = 0) (hroom : (rest.map fun v => v.category).sum ≤ 8) (hst : st = As.reverse ++ .ref (adm 0) :: rest) (hst2 : r2.toList ++ rest = st2) (k : ox_X p l e room_1 s m #[.ref b] below meth c (ol_hp (ol_c D adc cI cC adK adV) (ol_m D adm cI cC cZ)) (fun q => s.heap.size ≤ q) 4 43 7271 (lw_Z below #[.ref b] s) 512 L st2 (σc, σ2)) : ox_X p l e room_1 s m #[.ref b] below meth c (ol_hp (ol_c D adc cI cC adK adV) (ol_m D adm cI cC cZ)) (fun q => s.heap.size ≤ q) 4 43 7271 (lw_Z below #[.ref b] s) 509 L st (σc, σm) := by
  refine ol_goM (a := (Value.ref (adm 0) :: As).toArray) (rest := rest) okc hAm (fun q h1 h2 => hd q h2 h1) (fun ls H locs hl hP2 hP hS => ?_) hst2 k
  have hp := ol_pre Km okm (show ox_x (ol_m D adm cI cC cZ) s s.heap from trivial) hP (fun q h1 h2 => hS.2.1 q h1 (by omega)) (.ref (adm 0) :: As)
  exact va_runV (C := oR_Mo) ⟨B.hx, B.hb, B.hml, B.hown, B.hts⟩ hM (ox_cwV 0 B.hts (ox_t5 68 rfl rfl) (ox_t1 10 rfl rfl) (ox_t5 65 rfl rfl) (ox_t5 66 rfl rfl) (ox_t5 67 rfl rfl) ⟨by decide, by decide, by decide +kernel⟩ ⟨rfl, rfl, Nat.le_of_ble_eq_true rfl, Nat.le_of_ble_eq_true rfl⟩) ⟨hp.1, va_recv Km hP (ci := 9) (q0 := 0) rfl rfl, hp.2⟩ rfl hn hl.1 hst (lv_room hroom) od_law_509 ⟨Nat.le_of_ble_eq_true rfl, Nat.le_of_ble_eq_true rfl⟩
theorem ol_m_covers {p : Program} {l : Launch} {e : Env} {s : State} {m : MethodId} {below : List Frame} {meth : Method} {c : Code} {D : va_G} {adc adm : Nat → Nat} {cI cC cZ : ClassId} {adK adV : Nat → Nat} {b Ln : Nat} {xs : Nat → Int32} (B : ox_B p s m #[.ref b] c 4 code "OneTreeToursLaw" ox_ws) (hX : va_X b Ln xs s s.heap) (hbl : b < s.heap.size) (okc : ox_ok (ol_c D adc cI cC adK adV)) (okm : ox_ok (ol_m D adm cI cC cZ)) (Kc : va_K (ox_D (ol_c D adc cI cC adK adV)) (ox_cl (ol_c D adc cI cC adK adV)) (ox_ty (ol_c D adc cI cC adK adV)) s) (Km : va_K (ox_D (ol_m D adm cI cC cZ)) (ox_cl (ol_m D adm cI cC cZ)) (ox_ty (ol_m D adm cI cC cZ)) s) (xc : ox_x (ol_c D adc cI cC adK adV) s s.heap) (hAc : ∀ q, ox_A (ol_c D adc cI cC adK adV) q → s.heap.size ≤ q) (hAm : ∀ q, ox_A (ol_m D adm cI cC cZ) q → s.heap.size ≤ q) (hd : ∀ q, ox_A (ol_m D adm cI cC cZ) q → ¬ ox_A (ol_c D adc cI cC adK adV) q) {L : List (Option Value)} {st : List Value} {σc σm σ2 : ox_S} {As rest st2 : List Value} {r2 : Option Value} (hM : Met l oy_Mo_covers (Cond.code oy_Mo_covers prog_11_method_59_code 4 (some .boolean) :: ox_ws) rm_om_Mo_covers (ox_P (ol_m D adm cI cC cZ) (.ref (adm 0) :: As) σm) (ox_Q (ol_m D adm cI cC cZ) r2 σ2) 0 0 (ox_A (ol_m D adm cI cC cZ))) (hn : As.length = 0) (hroom : (rest.map fun v => v.category).sum ≤ 8) (hst : st = As.reverse ++ .ref (adm 0) :: rest) (hst2 : r2.toList ++ rest = st2) (k : ox_X p l e room_1 s m #[.ref b] below meth c (ol_hp (ol_c D adc cI cC adK adV) (ol_m D adm cI cC cZ)) (fun q => s.heap.size ≤ q) 4 43 7271 (lw_Z below #[.ref b] s) 523 L st2 (σc, σ2)) : ox_X p l e room_1 s m #[.ref b] below meth c (ol_hp (ol_c D adc cI cC adK adV) (ol_m D adm cI cC cZ)) (fun q => s.heap.size ≤ q) 4 43 7271 (lw_Z below #[.ref b] s) 520 L st (σc, σm) := by
  refine ol_goM (a := (Value.ref (adm 0) :: As).toArray) (rest := rest) okc hAm (fun q h1 h2 => hd q h2 h1) (fun ls H locs hl hP2 hP hS => ?_) hst2 k
  have hp := ol_pre Km okm (show ox_x (ol_m D adm cI cC cZ) s s.heap from trivial) hP (fun q h1 h2 => hS.2.1 q h1 (by omega)) (.ref (adm 0) :: As)
  exact va_runV (C := oR_Mo) ⟨B.hx, B.hb, B.hml, B.hown, B.hts⟩ hM (ox_cwV 0 B.hts (ox_t5 72 rfl rfl) (ox_t1 10 rfl rfl) (ox_t5 69 rfl rfl) (ox_t5 70 rfl rfl) (ox_t5 71 rfl rfl) ⟨by decide, by decide, by decide +kernel⟩ ⟨rfl, rfl, Nat.le_of_ble_eq_true rfl, Nat.le_of_ble_eq_true rfl⟩) ⟨hp.1, va_recv Km hP (ci := 9) (q0 := 0) rfl rfl, hp.2⟩ rfl hn hl.1 hst (lv_room hroom) od_law_520 ⟨Nat.le_of_ble_eq_true rfl, Nat.le_of_ble_eq_true rfl⟩
theorem ol_m_caseBound {p : Program} {l : Launch} {e : Env} {s : State} {m : MethodId} {below : List Frame} {meth : Method} {c : Code} {D : va_G} {adc adm : Nat → Nat} {cI cC cZ : ClassId} {adK adV : Nat → Nat} {b Ln : Nat} {xs : Nat → Int32} (B : ox_B p s m #[.ref b] c 4 code "OneTreeToursLaw" ox_ws) (hX : va_X b Ln xs s s.heap) (hbl : b < s.heap.size) (okc : ox_ok (ol_c D adc cI cC adK adV)) (okm : ox_ok (ol_m D adm cI cC cZ)) (Kc : va_K (ox_D (ol_c D adc cI cC adK adV)) (ox_cl (ol_c D adc cI cC adK adV)) (ox_ty (ol_c D adc cI cC adK adV)) s) (Km : va_K (ox_D (ol_m D adm cI cC cZ)) (ox_cl (ol_m D adm cI cC cZ)) (ox_ty (ol_m D adm cI cC cZ)) s) (xc : ox_x (ol_c D adc cI cC adK adV) s s.heap) (hAc : ∀ q, ox_A (ol_c D adc cI cC adK adV) q → s.heap.size ≤ q) (hAm : ∀ q, ox_A (ol_m D adm cI cC cZ) q → s.heap.size ≤ q) (hd : ∀ q, ox_A (ol_m D adm cI cC cZ) q → ¬ ox_A (ol_c D adc cI cC adK adV) q) {L : List (Option Value)} {st : List Value} {σc σm σ2 : ox_S} {As rest st2 : List Value} {r2 : Option Value} (hM : Met l oy_Mo_caseBound (Cond.code oy_Mo_caseBound prog_11_method_60_code 5 (some .int) :: ox_ws) rm_om_Mo_caseBound (ox_P (ol_m D adm cI cC cZ) (.ref (adm 0) :: As) σm) (ox_Q (ol_m D adm cI cC cZ) r2 σ2) 0 0 (ox_A (ol_m D adm cI cC cZ))) (hn : As.length = 1) (hroom : (rest.map fun v => v.category).sum ≤ 8) (hst : st = As.reverse ++ .ref (adm 0) :: rest) (hst2 : r2.toList ++ rest = st2) (k : ox_X p l e room_1 s m #[.ref b] below meth c (ol_hp (ol_c D adc cI cC adK adV) (ol_m D adm cI cC cZ)) (fun q => s.heap.size ≤ q) 4 43 7271 (lw_Z below #[.ref b] s) 546 L st2 (σc, σ2)) : ox_X p l e room_1 s m #[.ref b] below meth c (ol_hp (ol_c D adc cI cC adK adV) (ol_m D adm cI cC cZ)) (fun q => s.heap.size ≤ q) 4 43 7271 (lw_Z below #[.ref b] s) 543 L st (σc, σm) := by
  refine ol_goM (a := (Value.ref (adm 0) :: As).toArray) (rest := rest) okc hAm (fun q h1 h2 => hd q h2 h1) (fun ls H locs hl hP2 hP hS => ?_) hst2 k
  have hp := ol_pre Km okm (show ox_x (ol_m D adm cI cC cZ) s s.heap from trivial) hP (fun q h1 h2 => hS.2.1 q h1 (by omega)) (.ref (adm 0) :: As)
  exact va_runV (C := oR_Mo) ⟨B.hx, B.hb, B.hml, B.hown, B.hts⟩ hM (ox_cwV 1 B.hts (ox_t5 83 rfl rfl) (ox_t1 10 rfl rfl) (ox_t5 80 rfl rfl) (ox_t5 81 rfl rfl) (ox_t5 82 rfl rfl) ⟨by decide, by decide, by decide +kernel⟩ ⟨rfl, rfl, Nat.le_of_ble_eq_true rfl, Nat.le_of_ble_eq_true rfl⟩) ⟨hp.1, va_recv Km hP (ci := 9) (q0 := 0) rfl rfl, hp.2⟩ rfl hn hl.1 hst (lv_room hroom) od_law_543 ⟨Nat.le_of_ble_eq_true rfl, Nat.le_of_ble_eq_true rfl⟩
theorem ol_m_proves {p : Program} {l : Launch} {e : Env} {s : State} {m : MethodId} {below : List Frame} {meth : Method} {c : Code} {D : va_G} {adc adm : Nat → Nat} {cI cC cZ : ClassId} {adK adV : Nat → Nat} {b Ln : Nat} {xs : Nat → Int32} (B : ox_B p s m #[.ref b] c 4 code "OneTreeToursLaw" ox_ws) (hX : va_X b Ln xs s s.heap) (hbl : b < s.heap.size) (okc : ox_ok (ol_c D adc cI cC adK adV)) (okm : ox_ok (ol_m D adm cI cC cZ)) (Kc : va_K (ox_D (ol_c D adc cI cC adK adV)) (ox_cl (ol_c D adc cI cC adK adV)) (ox_ty (ol_c D adc cI cC adK adV)) s) (Km : va_K (ox_D (ol_m D adm cI cC cZ)) (ox_cl (ol_m D adm cI cC cZ)) (ox_ty (ol_m D adm cI cC cZ)) s) (xc : ox_x (ol_c D adc cI cC adK adV) s s.heap) (hAc : ∀ q, ox_A (ol_c D adc cI cC adK adV) q → s.heap.size ≤ q) (hAm : ∀ q, ox_A (ol_m D adm cI cC cZ) q → s.heap.size ≤ q) (hd : ∀ q, ox_A (ol_m D adm cI cC cZ) q → ¬ ox_A (ol_c D adc cI cC adK adV) q) {L : List (Option Value)} {st : List Value} {σc σm σ2 : ox_S} {As rest st2 : List Value} {r2 : Option Value} (hM : Met l oy_Mo_proves (Cond.code oy_Mo_proves prog_11_method_61_code 5 (some .boolean) :: ox_ws) rm_om_Mo_proves (ox_P (ol_m D adm cI cC cZ) (.ref (adm 0) :: As) σm) (ox_Q (ol_m D adm cI cC cZ) r2 σ2) 0 0 (ox_A (ol_m D adm cI cC cZ))) (hn : As.length = 1) (hroom : (rest.map fun v => v.category).sum ≤ 8) (hst : st = As.reverse ++ .ref (adm 0) :: rest) (hst2 : r2.toList ++ rest = st2) (k : ox_X p l e room_1 s m #[.ref b] below meth c (ol_hp (ol_c D adc cI cC adK adV) (ol_m D adm cI cC cZ)) (fun q => s.heap.size ≤ q) 4 43 7271 (lw_Z below #[.ref b] s) 569 L st2 (σc, σ2)) : ox_X p l e room_1 s m #[.ref b] below meth c (ol_hp (ol_c D adc cI cC adK adV) (ol_m D adm cI cC cZ)) (fun q => s.heap.size ≤ q) 4 43 7271 (lw_Z below #[.ref b] s) 566 L st (σc, σm) := by
  refine ol_goM (a := (Value.ref (adm 0) :: As).toArray) (rest := rest) okc hAm (fun q h1 h2 => hd q h2 h1) (fun ls H locs hl hP2 hP hS => ?_) hst2 k
  have hp := ol_pre Km okm (show ox_x (ol_m D adm cI cC cZ) s s.heap from trivial) hP (fun q h1 h2 => hS.2.1 q h1 (by omega)) (.ref (adm 0) :: As)
  exact va_runV (C := oR_Mo) ⟨B.hx, B.hb, B.hml, B.hown, B.hts⟩ hM (ox_cwV 1 B.hts (ox_t5 87 rfl rfl) (ox_t1 10 rfl rfl) (ox_t5 84 rfl rfl) (ox_t5 85 rfl rfl) (ox_t5 86 rfl rfl) ⟨by decide, by decide, by decide +kernel⟩ ⟨rfl, rfl, Nat.le_of_ble_eq_true rfl, Nat.le_of_ble_eq_true rfl⟩) ⟨hp.1, va_recv Km hP (ci := 9) (q0 := 0) rfl rfl, hp.2⟩ rfl hn hl.1 hst (lv_room hroom) od_law_566 ⟨Nat.le_of_ble_eq_true rfl, Nat.le_of_ble_eq_true rfl⟩
set_option maxRecDepth 100000 in
set_option maxHeartbeats 8000000 in
theorem ol_loop {p : Program} {l : Launch} {e : Env} {s : State} {m : MethodId} {below : List Frame} {meth : Method} {c : Code} {D : va_G} {adc adm : Nat → Nat} {cI cC cZ : ClassId} {adK adV : Nat → Nat} {b Ln : Nat} {xs : Nat → Int32} (B : ox_B p s m #[.ref b] c 4 code "OneTreeToursLaw" ox_ws) (hX : va_X b Ln xs s s.heap) (hbl : b < s.heap.size) (okc : ox_ok (ol_c D adc cI cC adK adV)) (okm : ox_ok (ol_m D adm cI cC cZ)) (Kc : va_K (ox_D (ol_c D adc cI cC adK adV)) (ox_cl (ol_c D adc cI cC adK adV)) (ox_ty (ol_c D adc cI cC adK adV)) s) (Km : va_K (ox_D (ol_m D adm cI cC cZ)) (ox_cl (ol_m D adm cI cC cZ)) (ox_ty (ol_m D adm cI cC cZ)) s) (xc : ox_x (ol_c D adc cI cC adK adV) s s.heap) (hAc : ∀ q, ox_A (ol_c D adc cI cC adK adV) q → s.heap.size ≤ q) (hAm : ∀ q, ox_A (ol_m D adm cI cC cZ) q → s.heap.size ≤ q) (hd : ∀ q, ox_A (ol_m D adm cI cC cZ) q → ¬ ox_A (ol_c D adc cI cC adK adV) q) (hr : meth.sig.returnType = ret) (hlk : meth.locks = false) (hLn : Ln ≤ 2048) {Rl : ox_S → ox_S → Prop} (hsim : ol_sim Rl) : ∀ (n k : Nat) (σc σm : ox_S), Ln < 4 * k + n → 4 * k ≤ Ln + 3 → Rl σc σm → ox_X p l e room_1 s m #[.ref b] below meth c (ol_hp (ol_c D adc cI cC adK adV) (ol_m D adm cI cC cZ)) (fun q => s.heap.size ≤ q) 4 43 7271 (lw_Z below #[.ref b] s) 18 [some (.ref b), some (.ref (adc 0)), some (.ref (adm 0)), some (.int (nI (4 * k)))] [] (σc, σm) := by
  obtain ⟨hs_write, hs_wipe, hs_load, hs_size, hs_distance, hs_mark, hs_lift, hs_potential, hs_bound, hs_degree, hs_ascend, hs_solve, hs_ties, hs_improve, hs_tour, hs_add, hs_drop, hs_covers, hs_caseBound, hs_proves⟩ := hsim
  intro n
  induction n with
  | zero =>
    intro k σc σm hn hk4 hR
    refine ox_iload_n B 3 od_law_18 rfl rfl ?_
    refine ox_aload_n B 0 od_law_19 rfl rfl ?_
    refine ol_len B hX hbl od_law_20 ?_
    refine ox_iconst (v := nI 4) B od_law_21 (by decide) ?_
    refine ox_isub B od_law_22 ?_
    refine ox_icmp_gt B 580 od_law_23 rfl (fun _ => ?_) (fun h => absurd (ol_end (by omega) (by omega)) h)
    refine ox_iconst (v := (1 : Int32)) B od_law_580 (by decide) ?_
    exact ol_ret B hr hlk
  | succ n ih =>
    intro k σc σm hn hk4 hR
    have back : ∀ c' m' : ox_S, Rl c' m' → 4 * k + 3 < Ln → ox_X p l e room_1 s m #[.ref b] below meth c (ol_hp (ol_c D adc cI cC adK adV) (ol_m D adm cI cC cZ)) (fun q => s.heap.size ≤ q) 4 43 7271 (lw_Z below #[.ref b] s) 574 [some (.ref b), some (.ref (adc 0)), some (.ref (adm 0)), some (.int (nI (4 * k)))] [] (c', m') := by
      intro c' m' hR2 hlt
      refine ox_iinc B od_law_574 rfl (v := nI (4 * (k + 1))) (by show nI (4 * k) + Int32.ofInt 4 = _; rw [show Int32.ofInt 4 = nI 4 by decide, nI_add]; rfl) (by decide) rfl (L2 := [some (.ref b), some (.ref (adc 0)), some (.ref (adm 0)), some (.int (nI (4 * (k + 1))))]) rfl ?_
      refine ox_goto B 18 od_law_577 rfl ?_
      exact ih (k + 1) c' m' (by omega) (by omega) hR2
    refine ox_iload_n B 3 od_law_18 rfl rfl ?_
    refine ox_aload_n B 0 od_law_19 rfl rfl ?_
    refine ol_len B hX hbl od_law_20 ?_
    refine ox_iconst (v := nI 4) B od_law_21 (by decide) ?_
    refine ox_isub B od_law_22 ?_
    refine ox_icmp_gt B 580 od_law_23 rfl (fun _ => ?_) (fun h => ?_)
    · refine ox_iconst (v := (1 : Int32)) B od_law_580 (by decide) ?_
      exact ol_ret B hr hlk
    have hlt : 4 * k + 3 < Ln := ol_go_on (by omega) (by omega) h
    have back := fun c' m' h => back c' m' h hlt
    refine ox_aload_n B 0 od_law_26 rfl rfl ?_
    refine ox_iload_n B 3 od_law_27 rfl rfl ?_
    refine ol_ld B hX hbl (ol_in0 (by omega) hLn) od_law_28 ?_
    refine ox_bipush (v := (31 : Int32)) B od_law_29 (by decide) ?_
    refine ox_iand B od_law_31 ?_
    generalize xs (nI (4 * k)).toNatClampNeg &&& (31 : Int32) = w
    by_cases hc : w = (0 : Int32)
    · refine ox_tblI (off := 96) B 128 od_law_32 hc (by decide) (by decide) (by decide) rfl ?_
      obtain ⟨r, c', m', h1, h2, hR2⟩ := hs_write σc σm (((((xs ((nI (4 * k) + nI 1).toNatClampNeg)).toInt64) <<< ((32 : Int32).toInt64 &&& 63)) ||| (((xs ((nI (4 * k) + nI 2).toNatClampNeg)).toInt64) &&& (4294967295 : Int64)))) hR
      refine ox_aload_n B 1 od_law_128 rfl rfl ?_
      refine ox_aload_n B 0 od_law_129 rfl rfl ?_
      refine ox_iload_n B 3 od_law_130 rfl rfl ?_
      refine ox_iconst (v := nI 1) B od_law_131 (by decide) ?_
      refine ox_iadd B od_law_132 ?_
      refine ol_ld B hX hbl (ol_in (by omega) hLn) od_law_133 ?_
      refine ox_i2l B od_law_134 ?_
      refine ox_bipush (v := (32 : Int32)) B od_law_135 (by decide) ?_
      refine ox_lshl B od_law_137 ?_
      refine ox_aload_n B 0 od_law_138 rfl rfl ?_
      refine ox_iload_n B 3 od_law_139 rfl rfl ?_
      refine ox_iconst (v := nI 2) B od_law_140 (by decide) ?_
      refine ox_iadd B od_law_141 ?_
      refine ol_ld B hX hbl (ol_in (by omega) hLn) od_law_142 ?_
      refine ox_i2l B od_law_143 ?_
      refine ox_ldc2 B od_law_144 (ox_t5 90 rfl rfl) ?_
      refine ox_land B od_law_147 ?_
      refine ox_lor B od_law_148 ?_
      refine ol_c_write B hX hbl okc okm Kc Km xc hAc hAm hd (As := [.long ((((xs ((nI (4 * k) + nI 1).toNatClampNeg)).toInt64) <<< ((32 : Int32).toInt64 &&& 63)) ||| (((xs ((nI (4 * k) + nI 2).toNatClampNeg)).toInt64) &&& (4294967295 : Int64)))]) (rest := []) (st2 := [.int r]) (ct_oc_T_write okc (((((xs ((nI (4 * k) + nI 1).toNatClampNeg)).toInt64) <<< ((32 : Int32).toInt64 &&& 63)) ||| (((xs ((nI (4 * k) + nI 2).toNatClampNeg)).toInt64) &&& (4294967295 : Int64)))) σc _ h1) rfl (Nat.le_of_ble_eq_true rfl) rfl rfl ?_
      refine ox_aload_n B 2 od_law_152 rfl rfl ?_
      refine ox_aload_n B 0 od_law_153 rfl rfl ?_
      refine ox_iload_n B 3 od_law_154 rfl rfl ?_
      refine ox_iconst (v := nI 1) B od_law_155 (by decide) ?_
      refine ox_iadd B od_law_156 ?_
      refine ol_ld B hX hbl (ol_in (by omega) hLn) od_law_157 ?_
      refine ox_i2l B od_law_158 ?_
      refine ox_bipush (v := (32 : Int32)) B od_law_159 (by decide) ?_
      refine ox_lshl B od_law_161 ?_
      refine ox_aload_n B 0 od_law_162 rfl rfl ?_
      refine ox_iload_n B 3 od_law_163 rfl rfl ?_
      refine ox_iconst (v := nI 2) B od_law_164 (by decide) ?_
      refine ox_iadd B od_law_165 ?_
      refine ol_ld B hX hbl (ol_in (by omega) hLn) od_law_166 ?_
      refine ox_i2l B od_law_167 ?_
      refine ox_ldc2 B od_law_168 (ox_t5 90 rfl rfl) ?_
      refine ox_land B od_law_171 ?_
      refine ox_lor B od_law_172 ?_
      refine ol_m_write B hX hbl okc okm Kc Km xc hAc hAm hd (As := [.long ((((xs ((nI (4 * k) + nI 1).toNatClampNeg)).toInt64) <<< ((32 : Int32).toInt64 &&& 63)) ||| (((xs ((nI (4 * k) + nI 2).toNatClampNeg)).toInt64) &&& (4294967295 : Int64)))]) (rest := [.int r]) (st2 := [.int r, .int r]) (ct_om_Mo_write okm (((((xs ((nI (4 * k) + nI 1).toNatClampNeg)).toInt64) <<< ((32 : Int32).toInt64 &&& 63)) ||| (((xs ((nI (4 * k) + nI 2).toNatClampNeg)).toInt64) &&& (4294967295 : Int64)))) σm _ h2) rfl (Nat.le_of_ble_eq_true rfl) rfl rfl ?_
      refine ox_icmp_eq B 574 od_law_176 rfl (fun _ => ?_) (fun h => absurd rfl h)
      exact back c' m' hR2
    have n0 := hc
    clear hc
    by_cases hc : w = (1 : Int32)
    · refine ox_tblI (off := 149) B 181 od_law_32 hc (by decide) (by decide) (by decide) rfl ?_
      obtain ⟨c', m', h1, h2, hR2⟩ := hs_wipe σc σm hR
      refine ox_aload_n B 1 od_law_181 rfl rfl ?_
      refine ol_c_wipe B hX hbl okc okm Kc Km xc hAc hAm hd (As := []) (rest := []) (st2 := []) (ct_oc_T_wipe okc  σc _ h1) rfl (Nat.le_of_ble_eq_true rfl) rfl rfl ?_
      refine ox_aload_n B 2 od_law_185 rfl rfl ?_
      refine ol_m_wipe B hX hbl okc okm Kc Km xc hAc hAm hd (As := []) (rest := []) (st2 := []) (ct_om_Mo_wipe okm  σm _ h2) rfl (Nat.le_of_ble_eq_true rfl) rfl rfl ?_
      refine ox_goto B 574 od_law_189 rfl ?_
      exact back c' m' hR2
    have n1 := hc
    clear hc
    by_cases hc : w = (2 : Int32)
    · refine ox_tblI (off := 160) B 192 od_law_32 hc (by decide) (by decide) (by decide) rfl ?_
      obtain ⟨r, c', m', h1, h2, hR2⟩ := hs_load σc σm hR
      refine ox_aload_n B 1 od_law_192 rfl rfl ?_
      refine ol_c_load B hX hbl okc okm Kc Km xc hAc hAm hd (As := []) (rest := []) (st2 := [.int r]) (ct_oc_T_load okc  σc _ h1) rfl (Nat.le_of_ble_eq_true rfl) rfl rfl ?_
      refine ox_aload_n B 2 od_law_196 rfl rfl ?_
      refine ol_m_load B hX hbl okc okm Kc Km xc hAc hAm hd (As := []) (rest := [.int r]) (st2 := [.int r, .int r]) (ct_om_Mo_load okm  σm _ h2) rfl (Nat.le_of_ble_eq_true rfl) rfl rfl ?_
      refine ox_icmp_eq B 574 od_law_200 rfl (fun _ => ?_) (fun h => absurd rfl h)
      exact back c' m' hR2
    have n2 := hc
    clear hc
    by_cases hc : w = (3 : Int32)
    · refine ox_tblI (off := 173) B 205 od_law_32 hc (by decide) (by decide) (by decide) rfl ?_
      obtain ⟨r, h1, h2, hR2⟩ := hs_size σc σm hR
      refine ox_aload_n B 1 od_law_205 rfl rfl ?_
      refine ol_c_size B hX hbl okc okm Kc Km xc hAc hAm hd (As := []) (rest := []) (st2 := [.int r]) (ct_oc_T_size okc  σc _ h1) rfl (Nat.le_of_ble_eq_true rfl) rfl rfl ?_
      refine ox_aload_n B 2 od_law_209 rfl rfl ?_
      refine ol_m_size B hX hbl okc okm Kc Km xc hAc hAm hd (As := []) (rest := [.int r]) (st2 := [.int r, .int r]) (ct_om_Mo_size okm  σm _ h2) rfl (Nat.le_of_ble_eq_true rfl) rfl rfl ?_
      refine ox_icmp_eq B 574 od_law_213 rfl (fun _ => ?_) (fun h => absurd rfl h)
      exact back σc σm hR2
    have n3 := hc
    clear hc
    by_cases hc : w = (4 : Int32)
    · refine ox_tblI (off := 186) B 218 od_law_32 hc (by decide) (by decide) (by decide) rfl ?_
      obtain ⟨r, h1, h2, hR2⟩ := hs_distance σc σm ((xs ((nI (4 * k) + nI 1).toNatClampNeg))) ((xs ((nI (4 * k) + nI 2).toNatClampNeg))) hR
      refine ox_aload_n B 1 od_law_218 rfl rfl ?_
      refine ox_aload_n B 0 od_law_219 rfl rfl ?_
      refine ox_iload_n B 3 od_law_220 rfl rfl ?_
      refine ox_iconst (v := nI 1) B od_law_221 (by decide) ?_
      refine ox_iadd B od_law_222 ?_
      refine ol_ld B hX hbl (ol_in (by omega) hLn) od_law_223 ?_
      refine ox_aload_n B 0 od_law_224 rfl rfl ?_
      refine ox_iload_n B 3 od_law_225 rfl rfl ?_
      refine ox_iconst (v := nI 2) B od_law_226 (by decide) ?_
      refine ox_iadd B od_law_227 ?_
      refine ol_ld B hX hbl (ol_in (by omega) hLn) od_law_228 ?_
      refine ol_c_distance B hX hbl okc okm Kc Km xc hAc hAm hd (As := [.int (xs ((nI (4 * k) + nI 1).toNatClampNeg)), .int (xs ((nI (4 * k) + nI 2).toNatClampNeg))]) (rest := []) (st2 := [.int r]) (ct_oc_T_distance okc ((xs ((nI (4 * k) + nI 1).toNatClampNeg))) ((xs ((nI (4 * k) + nI 2).toNatClampNeg))) σc _ h1) rfl (Nat.le_of_ble_eq_true rfl) rfl rfl ?_
      refine ox_aload_n B 2 od_law_232 rfl rfl ?_
      refine ox_aload_n B 0 od_law_233 rfl rfl ?_
      refine ox_iload_n B 3 od_law_234 rfl rfl ?_
      refine ox_iconst (v := nI 1) B od_law_235 (by decide) ?_
      refine ox_iadd B od_law_236 ?_
      refine ol_ld B hX hbl (ol_in (by omega) hLn) od_law_237 ?_
      refine ox_aload_n B 0 od_law_238 rfl rfl ?_
      refine ox_iload_n B 3 od_law_239 rfl rfl ?_
      refine ox_iconst (v := nI 2) B od_law_240 (by decide) ?_
      refine ox_iadd B od_law_241 ?_
      refine ol_ld B hX hbl (ol_in (by omega) hLn) od_law_242 ?_
      refine ol_m_distance B hX hbl okc okm Kc Km xc hAc hAm hd (As := [.int (xs ((nI (4 * k) + nI 1).toNatClampNeg)), .int (xs ((nI (4 * k) + nI 2).toNatClampNeg))]) (rest := [.int r]) (st2 := [.int r, .int r]) (ct_om_Mo_distance okm ((xs ((nI (4 * k) + nI 1).toNatClampNeg))) ((xs ((nI (4 * k) + nI 2).toNatClampNeg))) σm _ h2) rfl (Nat.le_of_ble_eq_true rfl) rfl rfl ?_
      refine ox_icmp_eq B 574 od_law_246 rfl (fun _ => ?_) (fun h => absurd rfl h)
      exact back σc σm hR2
    have n4 := hc
    clear hc
    by_cases hc : w = (5 : Int32)
    · refine ox_tblI (off := 219) B 251 od_law_32 hc (by decide) (by decide) (by decide) rfl ?_
      obtain ⟨r, c', m', h1, h2, hR2⟩ := hs_mark σc σm ((xs ((nI (4 * k) + nI 1).toNatClampNeg))) ((xs ((nI (4 * k) + nI 2).toNatClampNeg))) ((xs ((nI (4 * k) + nI 3).toNatClampNeg))) hR
      refine ox_aload_n B 1 od_law_251 rfl rfl ?_
      refine ox_aload_n B 0 od_law_252 rfl rfl ?_
      refine ox_iload_n B 3 od_law_253 rfl rfl ?_
      refine ox_iconst (v := nI 1) B od_law_254 (by decide) ?_
      refine ox_iadd B od_law_255 ?_
      refine ol_ld B hX hbl (ol_in (by omega) hLn) od_law_256 ?_
      refine ox_aload_n B 0 od_law_257 rfl rfl ?_
      refine ox_iload_n B 3 od_law_258 rfl rfl ?_
      refine ox_iconst (v := nI 2) B od_law_259 (by decide) ?_
      refine ox_iadd B od_law_260 ?_
      refine ol_ld B hX hbl (ol_in (by omega) hLn) od_law_261 ?_
      refine ox_aload_n B 0 od_law_262 rfl rfl ?_
      refine ox_iload_n B 3 od_law_263 rfl rfl ?_
      refine ox_iconst (v := nI 3) B od_law_264 (by decide) ?_
      refine ox_iadd B od_law_265 ?_
      refine ol_ld B hX hbl (ol_in (by omega) hLn) od_law_266 ?_
      refine ol_c_mark B hX hbl okc okm Kc Km xc hAc hAm hd (As := [.int (xs ((nI (4 * k) + nI 1).toNatClampNeg)), .int (xs ((nI (4 * k) + nI 2).toNatClampNeg)), .int (xs ((nI (4 * k) + nI 3).toNatClampNeg))]) (rest := []) (st2 := [.int r]) (ct_oc_T_mark okc ((xs ((nI (4 * k) + nI 1).toNatClampNeg))) ((xs ((nI (4 * k) + nI 2).toNatClampNeg))) ((xs ((nI (4 * k) + nI 3).toNatClampNeg))) σc _ h1) rfl (Nat.le_of_ble_eq_true rfl) rfl rfl ?_
      refine ox_aload_n B 2 od_law_270 rfl rfl ?_
      refine ox_aload_n B 0 od_law_271 rfl rfl ?_
      refine ox_iload_n B 3 od_law_272 rfl rfl ?_
      refine ox_iconst (v := nI 1) B od_law_273 (by decide) ?_
      refine ox_iadd B od_law_274 ?_
      refine ol_ld B hX hbl (ol_in (by omega) hLn) od_law_275 ?_
      refine ox_aload_n B 0 od_law_276 rfl rfl ?_
      refine ox_iload_n B 3 od_law_277 rfl rfl ?_
      refine ox_iconst (v := nI 2) B od_law_278 (by decide) ?_
      refine ox_iadd B od_law_279 ?_
      refine ol_ld B hX hbl (ol_in (by omega) hLn) od_law_280 ?_
      refine ox_aload_n B 0 od_law_281 rfl rfl ?_
      refine ox_iload_n B 3 od_law_282 rfl rfl ?_
      refine ox_iconst (v := nI 3) B od_law_283 (by decide) ?_
      refine ox_iadd B od_law_284 ?_
      refine ol_ld B hX hbl (ol_in (by omega) hLn) od_law_285 ?_
      refine ol_m_mark B hX hbl okc okm Kc Km xc hAc hAm hd (As := [.int (xs ((nI (4 * k) + nI 1).toNatClampNeg)), .int (xs ((nI (4 * k) + nI 2).toNatClampNeg)), .int (xs ((nI (4 * k) + nI 3).toNatClampNeg))]) (rest := [.int r]) (st2 := [.int r, .int r]) (ct_om_Mo_mark okm ((xs ((nI (4 * k) + nI 1).toNatClampNeg))) ((xs ((nI (4 * k) + nI 2).toNatClampNeg))) ((xs ((nI (4 * k) + nI 3).toNatClampNeg))) σm _ h2) rfl (Nat.le_of_ble_eq_true rfl) rfl rfl ?_
      refine ox_icmp_eq B 574 od_law_289 rfl (fun _ => ?_) (fun h => absurd rfl h)
      exact back c' m' hR2
    have n5 := hc
    clear hc
    by_cases hc : w = (6 : Int32)
    · refine ox_tblI (off := 262) B 294 od_law_32 hc (by decide) (by decide) (by decide) rfl ?_
      obtain ⟨r, c', m', h1, h2, hR2⟩ := hs_lift σc σm ((xs ((nI (4 * k) + nI 1).toNatClampNeg))) ((xs ((nI (4 * k) + nI 2).toNatClampNeg))) hR
      refine ox_aload_n B 1 od_law_294 rfl rfl ?_
      refine ox_aload_n B 0 od_law_295 rfl rfl ?_
      refine ox_iload_n B 3 od_law_296 rfl rfl ?_
      refine ox_iconst (v := nI 1) B od_law_297 (by decide) ?_
      refine ox_iadd B od_law_298 ?_
      refine ol_ld B hX hbl (ol_in (by omega) hLn) od_law_299 ?_
      refine ox_aload_n B 0 od_law_300 rfl rfl ?_
      refine ox_iload_n B 3 od_law_301 rfl rfl ?_
      refine ox_iconst (v := nI 2) B od_law_302 (by decide) ?_
      refine ox_iadd B od_law_303 ?_
      refine ol_ld B hX hbl (ol_in (by omega) hLn) od_law_304 ?_
      refine ol_c_lift B hX hbl okc okm Kc Km xc hAc hAm hd (As := [.int (xs ((nI (4 * k) + nI 1).toNatClampNeg)), .int (xs ((nI (4 * k) + nI 2).toNatClampNeg))]) (rest := []) (st2 := [.int r]) (ct_oc_T_lift okc ((xs ((nI (4 * k) + nI 1).toNatClampNeg))) ((xs ((nI (4 * k) + nI 2).toNatClampNeg))) σc _ h1) rfl (Nat.le_of_ble_eq_true rfl) rfl rfl ?_
      refine ox_aload_n B 2 od_law_308 rfl rfl ?_
      refine ox_aload_n B 0 od_law_309 rfl rfl ?_
      refine ox_iload_n B 3 od_law_310 rfl rfl ?_
      refine ox_iconst (v := nI 1) B od_law_311 (by decide) ?_
      refine ox_iadd B od_law_312 ?_
      refine ol_ld B hX hbl (ol_in (by omega) hLn) od_law_313 ?_
      refine ox_aload_n B 0 od_law_314 rfl rfl ?_
      refine ox_iload_n B 3 od_law_315 rfl rfl ?_
      refine ox_iconst (v := nI 2) B od_law_316 (by decide) ?_
      refine ox_iadd B od_law_317 ?_
      refine ol_ld B hX hbl (ol_in (by omega) hLn) od_law_318 ?_
      refine ol_m_lift B hX hbl okc okm Kc Km xc hAc hAm hd (As := [.int (xs ((nI (4 * k) + nI 1).toNatClampNeg)), .int (xs ((nI (4 * k) + nI 2).toNatClampNeg))]) (rest := [.int r]) (st2 := [.int r, .int r]) (ct_om_Mo_lift okm ((xs ((nI (4 * k) + nI 1).toNatClampNeg))) ((xs ((nI (4 * k) + nI 2).toNatClampNeg))) σm _ h2) rfl (Nat.le_of_ble_eq_true rfl) rfl rfl ?_
      refine ox_icmp_eq B 574 od_law_322 rfl (fun _ => ?_) (fun h => absurd rfl h)
      exact back c' m' hR2
    have n6 := hc
    clear hc
    by_cases hc : w = (7 : Int32)
    · refine ox_tblI (off := 295) B 327 od_law_32 hc (by decide) (by decide) (by decide) rfl ?_
      obtain ⟨r, h1, h2, hR2⟩ := hs_potential σc σm ((xs ((nI (4 * k) + nI 1).toNatClampNeg))) hR
      refine ox_aload_n B 1 od_law_327 rfl rfl ?_
      refine ox_aload_n B 0 od_law_328 rfl rfl ?_
      refine ox_iload_n B 3 od_law_329 rfl rfl ?_
      refine ox_iconst (v := nI 1) B od_law_330 (by decide) ?_
      refine ox_iadd B od_law_331 ?_
      refine ol_ld B hX hbl (ol_in (by omega) hLn) od_law_332 ?_
      refine ol_c_potential B hX hbl okc okm Kc Km xc hAc hAm hd (As := [.int (xs ((nI (4 * k) + nI 1).toNatClampNeg))]) (rest := []) (st2 := [.int r]) (ct_oc_T_potential okc ((xs ((nI (4 * k) + nI 1).toNatClampNeg))) σc _ h1) rfl (Nat.le_of_ble_eq_true rfl) rfl rfl ?_
      refine ox_aload_n B 2 od_law_336 rfl rfl ?_
      refine ox_aload_n B 0 od_law_337 rfl rfl ?_
      refine ox_iload_n B 3 od_law_338 rfl rfl ?_
      refine ox_iconst (v := nI 1) B od_law_339 (by decide) ?_
      refine ox_iadd B od_law_340 ?_
      refine ol_ld B hX hbl (ol_in (by omega) hLn) od_law_341 ?_
      refine ol_m_potential B hX hbl okc okm Kc Km xc hAc hAm hd (As := [.int (xs ((nI (4 * k) + nI 1).toNatClampNeg))]) (rest := [.int r]) (st2 := [.int r, .int r]) (ct_om_Mo_potential okm ((xs ((nI (4 * k) + nI 1).toNatClampNeg))) σm _ h2) rfl (Nat.le_of_ble_eq_true rfl) rfl rfl ?_
      refine ox_icmp_eq B 574 od_law_345 rfl (fun _ => ?_) (fun h => absurd rfl h)
      exact back σc σm hR2
    have n7 := hc
    clear hc
    by_cases hc : w = (8 : Int32)
    · refine ox_tblI (off := 318) B 350 od_law_32 hc (by decide) (by decide) (by decide) rfl ?_
      obtain ⟨r, c', m', h1, h2, hR2⟩ := hs_bound σc σm hR
      refine ox_aload_n B 1 od_law_350 rfl rfl ?_
      refine ol_c_bound B hX hbl okc okm Kc Km xc hAc hAm hd (As := []) (rest := []) (st2 := [.int r]) (ct_oc_T_bound okc  σc _ h1) rfl (Nat.le_of_ble_eq_true rfl) rfl rfl ?_
      refine ox_aload_n B 2 od_law_354 rfl rfl ?_
      refine ol_m_bound B hX hbl okc okm Kc Km xc hAc hAm hd (As := []) (rest := [.int r]) (st2 := [.int r, .int r]) (ct_om_Mo_bound okm  σm _ h2) rfl (Nat.le_of_ble_eq_true rfl) rfl rfl ?_
      refine ox_icmp_eq B 574 od_law_358 rfl (fun _ => ?_) (fun h => absurd rfl h)
      exact back c' m' hR2
    have n8 := hc
    clear hc
    by_cases hc : w = (9 : Int32)
    · refine ox_tblI (off := 331) B 363 od_law_32 hc (by decide) (by decide) (by decide) rfl ?_
      obtain ⟨r, c', m', h1, h2, hR2⟩ := hs_degree σc σm ((xs ((nI (4 * k) + nI 1).toNatClampNeg))) hR
      refine ox_aload_n B 1 od_law_363 rfl rfl ?_
      refine ox_aload_n B 0 od_law_364 rfl rfl ?_
      refine ox_iload_n B 3 od_law_365 rfl rfl ?_
      refine ox_iconst (v := nI 1) B od_law_366 (by decide) ?_
      refine ox_iadd B od_law_367 ?_
      refine ol_ld B hX hbl (ol_in (by omega) hLn) od_law_368 ?_
      refine ol_c_degree B hX hbl okc okm Kc Km xc hAc hAm hd (As := [.int (xs ((nI (4 * k) + nI 1).toNatClampNeg))]) (rest := []) (st2 := [.int r]) (ct_oc_T_degree okc ((xs ((nI (4 * k) + nI 1).toNatClampNeg))) σc _ h1) rfl (Nat.le_of_ble_eq_true rfl) rfl rfl ?_
      refine ox_aload_n B 2 od_law_372 rfl rfl ?_
      refine ox_aload_n B 0 od_law_373 rfl rfl ?_
      refine ox_iload_n B 3 od_law_374 rfl rfl ?_
      refine ox_iconst (v := nI 1) B od_law_375 (by decide) ?_
      refine ox_iadd B od_law_376 ?_
      refine ol_ld B hX hbl (ol_in (by omega) hLn) od_law_377 ?_
      refine ol_m_degree B hX hbl okc okm Kc Km xc hAc hAm hd (As := [.int (xs ((nI (4 * k) + nI 1).toNatClampNeg))]) (rest := [.int r]) (st2 := [.int r, .int r]) (ct_om_Mo_degree okm ((xs ((nI (4 * k) + nI 1).toNatClampNeg))) σm _ h2) rfl (Nat.le_of_ble_eq_true rfl) rfl rfl ?_
      refine ox_icmp_eq B 574 od_law_381 rfl (fun _ => ?_) (fun h => absurd rfl h)
      exact back c' m' hR2
    have n9 := hc
    clear hc
    by_cases hc : w = (10 : Int32)
    · refine ox_tblI (off := 354) B 386 od_law_32 hc (by decide) (by decide) (by decide) rfl ?_
      obtain ⟨r, c', m', h1, h2, hR2⟩ := hs_ascend σc σm ((xs ((nI (4 * k) + nI 1).toNatClampNeg))) hR
      refine ox_aload_n B 1 od_law_386 rfl rfl ?_
      refine ox_aload_n B 0 od_law_387 rfl rfl ?_
      refine ox_iload_n B 3 od_law_388 rfl rfl ?_
      refine ox_iconst (v := nI 1) B od_law_389 (by decide) ?_
      refine ox_iadd B od_law_390 ?_
      refine ol_ld B hX hbl (ol_in (by omega) hLn) od_law_391 ?_
      refine ol_c_ascend B hX hbl okc okm Kc Km xc hAc hAm hd (As := [.int (xs ((nI (4 * k) + nI 1).toNatClampNeg))]) (rest := []) (st2 := [.int r]) (ct_oc_T_ascend okc ((xs ((nI (4 * k) + nI 1).toNatClampNeg))) σc _ h1) rfl (Nat.le_of_ble_eq_true rfl) rfl rfl ?_
      refine ox_aload_n B 2 od_law_395 rfl rfl ?_
      refine ox_aload_n B 0 od_law_396 rfl rfl ?_
      refine ox_iload_n B 3 od_law_397 rfl rfl ?_
      refine ox_iconst (v := nI 1) B od_law_398 (by decide) ?_
      refine ox_iadd B od_law_399 ?_
      refine ol_ld B hX hbl (ol_in (by omega) hLn) od_law_400 ?_
      refine ol_m_ascend B hX hbl okc okm Kc Km xc hAc hAm hd (As := [.int (xs ((nI (4 * k) + nI 1).toNatClampNeg))]) (rest := [.int r]) (st2 := [.int r, .int r]) (ct_om_Mo_ascend okm ((xs ((nI (4 * k) + nI 1).toNatClampNeg))) σm _ h2) rfl (Nat.le_of_ble_eq_true rfl) rfl rfl ?_
      refine ox_icmp_eq B 574 od_law_404 rfl (fun _ => ?_) (fun h => absurd rfl h)
      exact back c' m' hR2
    have n10 := hc
    clear hc
    by_cases hc : w = (11 : Int32)
    · refine ox_tblI (off := 377) B 409 od_law_32 hc (by decide) (by decide) (by decide) rfl ?_
      obtain ⟨r, c', m', h1, h2, hR2⟩ := hs_solve σc σm hR
      refine ox_aload_n B 1 od_law_409 rfl rfl ?_
      refine ol_c_solve B hX hbl okc okm Kc Km xc hAc hAm hd (As := []) (rest := []) (st2 := [.int r]) (ct_oc_T_solve okc  σc _ h1) rfl (Nat.le_of_ble_eq_true rfl) rfl rfl ?_
      refine ox_aload_n B 2 od_law_413 rfl rfl ?_
      refine ol_m_solve B hX hbl okc okm Kc Km xc hAc hAm hd (As := []) (rest := [.int r]) (st2 := [.int r, .int r]) (ct_om_Mo_solve okm  σm _ h2) rfl (Nat.le_of_ble_eq_true rfl) rfl rfl ?_
      refine ox_icmp_eq B 574 od_law_417 rfl (fun _ => ?_) (fun h => absurd rfl h)
      exact back c' m' hR2
    have n11 := hc
    clear hc
    by_cases hc : w = (12 : Int32)
    · refine ox_tblI (off := 390) B 422 od_law_32 hc (by decide) (by decide) (by decide) rfl ?_
      obtain ⟨r, m', h1, h2, hR2⟩ := hs_ties σc σm hR
      refine ox_aload_n B 1 od_law_422 rfl rfl ?_
      refine ol_c_ties B hX hbl okc okm Kc Km xc hAc hAm hd (As := []) (rest := []) (st2 := [.int r]) (ct_oc_T_ties okc  σc _ h1) rfl (Nat.le_of_ble_eq_true rfl) rfl rfl ?_
      refine ox_aload_n B 2 od_law_426 rfl rfl ?_
      refine ol_m_ties B hX hbl okc okm Kc Km xc hAc hAm hd (As := []) (rest := [.int r]) (st2 := [.int r, .int r]) (ct_om_Mo_ties okm  σm _ h2) rfl (Nat.le_of_ble_eq_true rfl) rfl rfl ?_
      refine ox_icmp_eq B 574 od_law_430 rfl (fun _ => ?_) (fun h => absurd rfl h)
      exact back σc m' hR2
    have n12 := hc
    clear hc
    by_cases hc : w = (13 : Int32)
    · refine ox_tblI (off := 403) B 435 od_law_32 hc (by decide) (by decide) (by decide) rfl ?_
      obtain ⟨r, c', m', h1, h2, hR2⟩ := hs_improve σc σm hR
      refine ox_aload_n B 1 od_law_435 rfl rfl ?_
      refine ol_c_improve B hX hbl okc okm Kc Km xc hAc hAm hd (As := []) (rest := []) (st2 := [.int r]) (ct_oc_T_improve okc  σc _ h1) rfl (Nat.le_of_ble_eq_true rfl) rfl rfl ?_
      refine ox_aload_n B 2 od_law_439 rfl rfl ?_
      refine ol_m_improve B hX hbl okc okm Kc Km xc hAc hAm hd (As := []) (rest := [.int r]) (st2 := [.int r, .int r]) (ct_om_Mo_improve okm  σm _ h2) rfl (Nat.le_of_ble_eq_true rfl) rfl rfl ?_
      refine ox_icmp_eq B 574 od_law_443 rfl (fun _ => ?_) (fun h => absurd rfl h)
      exact back c' m' hR2
    have n13 := hc
    clear hc
    by_cases hc : w = (14 : Int32)
    · refine ox_tblI (off := 416) B 448 od_law_32 hc (by decide) (by decide) (by decide) rfl ?_
      obtain ⟨r, h1, h2, hR2⟩ := hs_tour σc σm ((xs ((nI (4 * k) + nI 1).toNatClampNeg))) hR
      refine ox_aload_n B 1 od_law_448 rfl rfl ?_
      refine ox_aload_n B 0 od_law_449 rfl rfl ?_
      refine ox_iload_n B 3 od_law_450 rfl rfl ?_
      refine ox_iconst (v := nI 1) B od_law_451 (by decide) ?_
      refine ox_iadd B od_law_452 ?_
      refine ol_ld B hX hbl (ol_in (by omega) hLn) od_law_453 ?_
      refine ol_c_tour B hX hbl okc okm Kc Km xc hAc hAm hd (As := [.int (xs ((nI (4 * k) + nI 1).toNatClampNeg))]) (rest := []) (st2 := [.int r]) (ct_oc_T_tour okc ((xs ((nI (4 * k) + nI 1).toNatClampNeg))) σc _ h1) rfl (Nat.le_of_ble_eq_true rfl) rfl rfl ?_
      refine ox_aload_n B 2 od_law_457 rfl rfl ?_
      refine ox_aload_n B 0 od_law_458 rfl rfl ?_
      refine ox_iload_n B 3 od_law_459 rfl rfl ?_
      refine ox_iconst (v := nI 1) B od_law_460 (by decide) ?_
      refine ox_iadd B od_law_461 ?_
      refine ol_ld B hX hbl (ol_in (by omega) hLn) od_law_462 ?_
      refine ol_m_tour B hX hbl okc okm Kc Km xc hAc hAm hd (As := [.int (xs ((nI (4 * k) + nI 1).toNatClampNeg))]) (rest := [.int r]) (st2 := [.int r, .int r]) (ct_om_Mo_tour okm ((xs ((nI (4 * k) + nI 1).toNatClampNeg))) σm _ h2) rfl (Nat.le_of_ble_eq_true rfl) rfl rfl ?_
      refine ox_icmp_eq B 574 od_law_466 rfl (fun _ => ?_) (fun h => absurd rfl h)
      exact back σc σm hR2
    have n14 := hc
    clear hc
    by_cases hc : w = (15 : Int32)
    · refine ox_tblI (off := 439) B 471 od_law_32 hc (by decide) (by decide) (by decide) rfl ?_
      obtain ⟨r, c', m', h1, h2, hR2⟩ := hs_add σc σm ((xs ((nI (4 * k) + nI 1).toNatClampNeg))) ((xs ((nI (4 * k) + nI 2).toNatClampNeg))) hR
      refine ox_aload_n B 1 od_law_471 rfl rfl ?_
      refine ox_aload_n B 0 od_law_472 rfl rfl ?_
      refine ox_iload_n B 3 od_law_473 rfl rfl ?_
      refine ox_iconst (v := nI 1) B od_law_474 (by decide) ?_
      refine ox_iadd B od_law_475 ?_
      refine ol_ld B hX hbl (ol_in (by omega) hLn) od_law_476 ?_
      refine ox_aload_n B 0 od_law_477 rfl rfl ?_
      refine ox_iload_n B 3 od_law_478 rfl rfl ?_
      refine ox_iconst (v := nI 2) B od_law_479 (by decide) ?_
      refine ox_iadd B od_law_480 ?_
      refine ol_ld B hX hbl (ol_in (by omega) hLn) od_law_481 ?_
      refine ol_c_add B hX hbl okc okm Kc Km xc hAc hAm hd (As := [.int (xs ((nI (4 * k) + nI 1).toNatClampNeg)), .int (xs ((nI (4 * k) + nI 2).toNatClampNeg))]) (rest := []) (st2 := [.int r]) (ct_oc_T_add okc ((xs ((nI (4 * k) + nI 1).toNatClampNeg))) ((xs ((nI (4 * k) + nI 2).toNatClampNeg))) σc _ h1) rfl (Nat.le_of_ble_eq_true rfl) rfl rfl ?_
      refine ox_aload_n B 2 od_law_485 rfl rfl ?_
      refine ox_aload_n B 0 od_law_486 rfl rfl ?_
      refine ox_iload_n B 3 od_law_487 rfl rfl ?_
      refine ox_iconst (v := nI 1) B od_law_488 (by decide) ?_
      refine ox_iadd B od_law_489 ?_
      refine ol_ld B hX hbl (ol_in (by omega) hLn) od_law_490 ?_
      refine ox_aload_n B 0 od_law_491 rfl rfl ?_
      refine ox_iload_n B 3 od_law_492 rfl rfl ?_
      refine ox_iconst (v := nI 2) B od_law_493 (by decide) ?_
      refine ox_iadd B od_law_494 ?_
      refine ol_ld B hX hbl (ol_in (by omega) hLn) od_law_495 ?_
      refine ol_m_add B hX hbl okc okm Kc Km xc hAc hAm hd (As := [.int (xs ((nI (4 * k) + nI 1).toNatClampNeg)), .int (xs ((nI (4 * k) + nI 2).toNatClampNeg))]) (rest := [.int r]) (st2 := [.int r, .int r]) (ct_om_Mo_add okm ((xs ((nI (4 * k) + nI 1).toNatClampNeg))) ((xs ((nI (4 * k) + nI 2).toNatClampNeg))) σm _ h2) rfl (Nat.le_of_ble_eq_true rfl) rfl rfl ?_
      refine ox_icmp_eq B 574 od_law_499 rfl (fun _ => ?_) (fun h => absurd rfl h)
      exact back c' m' hR2
    have n15 := hc
    clear hc
    by_cases hc : w = (16 : Int32)
    · refine ox_tblI (off := 472) B 504 od_law_32 hc (by decide) (by decide) (by decide) rfl ?_
      obtain ⟨c', m', h1, h2, hR2⟩ := hs_drop σc σm hR
      refine ox_aload_n B 1 od_law_504 rfl rfl ?_
      refine ol_c_drop B hX hbl okc okm Kc Km xc hAc hAm hd (As := []) (rest := []) (st2 := []) (ct_oc_T_drop okc  σc _ h1) rfl (Nat.le_of_ble_eq_true rfl) rfl rfl ?_
      refine ox_aload_n B 2 od_law_508 rfl rfl ?_
      refine ol_m_drop B hX hbl okc okm Kc Km xc hAc hAm hd (As := []) (rest := []) (st2 := []) (ct_om_Mo_drop okm  σm _ h2) rfl (Nat.le_of_ble_eq_true rfl) rfl rfl ?_
      refine ox_goto B 574 od_law_512 rfl ?_
      exact back c' m' hR2
    have n16 := hc
    clear hc
    by_cases hc : w = (17 : Int32)
    · refine ox_tblI (off := 483) B 515 od_law_32 hc (by decide) (by decide) (by decide) rfl ?_
      obtain ⟨r, m', h1, h2, hR2⟩ := hs_covers σc σm hR
      refine ox_aload_n B 1 od_law_515 rfl rfl ?_
      refine ol_c_covers B hX hbl okc okm Kc Km xc hAc hAm hd (As := []) (rest := []) (st2 := [.int r]) (ct_oc_T_covers okc  σc _ h1) rfl (Nat.le_of_ble_eq_true rfl) rfl rfl ?_
      refine ox_aload_n B 2 od_law_519 rfl rfl ?_
      refine ol_m_covers B hX hbl okc okm Kc Km xc hAc hAm hd (As := []) (rest := [.int r]) (st2 := [.int r, .int r]) (ct_om_Mo_covers okm  σm _ h2) rfl (Nat.le_of_ble_eq_true rfl) rfl rfl ?_
      refine ox_icmp_eq B 574 od_law_523 rfl (fun _ => ?_) (fun h => absurd rfl h)
      exact back σc m' hR2
    have n17 := hc
    clear hc
    by_cases hc : w = (18 : Int32)
    · refine ox_tblI (off := 496) B 528 od_law_32 hc (by decide) (by decide) (by decide) rfl ?_
      obtain ⟨r, c', m', h1, h2, hR2⟩ := hs_caseBound σc σm ((xs ((nI (4 * k) + nI 1).toNatClampNeg))) hR
      refine ox_aload_n B 1 od_law_528 rfl rfl ?_
      refine ox_aload_n B 0 od_law_529 rfl rfl ?_
      refine ox_iload_n B 3 od_law_530 rfl rfl ?_
      refine ox_iconst (v := nI 1) B od_law_531 (by decide) ?_
      refine ox_iadd B od_law_532 ?_
      refine ol_ld B hX hbl (ol_in (by omega) hLn) od_law_533 ?_
      refine ol_c_caseBound B hX hbl okc okm Kc Km xc hAc hAm hd (As := [.int (xs ((nI (4 * k) + nI 1).toNatClampNeg))]) (rest := []) (st2 := [.int r]) (ct_oc_T_caseBound okc ((xs ((nI (4 * k) + nI 1).toNatClampNeg))) σc _ h1) rfl (Nat.le_of_ble_eq_true rfl) rfl rfl ?_
      refine ox_aload_n B 2 od_law_537 rfl rfl ?_
      refine ox_aload_n B 0 od_law_538 rfl rfl ?_
      refine ox_iload_n B 3 od_law_539 rfl rfl ?_
      refine ox_iconst (v := nI 1) B od_law_540 (by decide) ?_
      refine ox_iadd B od_law_541 ?_
      refine ol_ld B hX hbl (ol_in (by omega) hLn) od_law_542 ?_
      refine ol_m_caseBound B hX hbl okc okm Kc Km xc hAc hAm hd (As := [.int (xs ((nI (4 * k) + nI 1).toNatClampNeg))]) (rest := [.int r]) (st2 := [.int r, .int r]) (ct_om_Mo_caseBound okm ((xs ((nI (4 * k) + nI 1).toNatClampNeg))) σm _ h2) rfl (Nat.le_of_ble_eq_true rfl) rfl rfl ?_
      refine ox_icmp_eq B 574 od_law_546 rfl (fun _ => ?_) (fun h => absurd rfl h)
      exact back c' m' hR2
    have n18 := hc
    clear hc
    by_cases hc : w = (19 : Int32)
    · refine ox_tblI (off := 519) B 551 od_law_32 hc (by decide) (by decide) (by decide) rfl ?_
      obtain ⟨r, c', m', h1, h2, hR2⟩ := hs_proves σc σm ((xs ((nI (4 * k) + nI 1).toNatClampNeg))) hR
      refine ox_aload_n B 1 od_law_551 rfl rfl ?_
      refine ox_aload_n B 0 od_law_552 rfl rfl ?_
      refine ox_iload_n B 3 od_law_553 rfl rfl ?_
      refine ox_iconst (v := nI 1) B od_law_554 (by decide) ?_
      refine ox_iadd B od_law_555 ?_
      refine ol_ld B hX hbl (ol_in (by omega) hLn) od_law_556 ?_
      refine ol_c_proves B hX hbl okc okm Kc Km xc hAc hAm hd (As := [.int (xs ((nI (4 * k) + nI 1).toNatClampNeg))]) (rest := []) (st2 := [.int r]) (ct_oc_T_proves okc ((xs ((nI (4 * k) + nI 1).toNatClampNeg))) σc _ h1) rfl (Nat.le_of_ble_eq_true rfl) rfl rfl ?_
      refine ox_aload_n B 2 od_law_560 rfl rfl ?_
      refine ox_aload_n B 0 od_law_561 rfl rfl ?_
      refine ox_iload_n B 3 od_law_562 rfl rfl ?_
      refine ox_iconst (v := nI 1) B od_law_563 (by decide) ?_
      refine ox_iadd B od_law_564 ?_
      refine ol_ld B hX hbl (ol_in (by omega) hLn) od_law_565 ?_
      refine ol_m_proves B hX hbl okc okm Kc Km xc hAc hAm hd (As := [.int (xs ((nI (4 * k) + nI 1).toNatClampNeg))]) (rest := [.int r]) (st2 := [.int r, .int r]) (ct_om_Mo_proves okm ((xs ((nI (4 * k) + nI 1).toNatClampNeg))) σm _ h2) rfl (Nat.le_of_ble_eq_true rfl) rfl rfl ?_
      refine ox_icmp_eq B 574 od_law_569 rfl (fun _ => ?_) (fun h => absurd rfl h)
      exact back c' m' hR2
    have n19 := hc
    clear hc
    refine ox_tblO B 574 od_law_32 (ol_out n0 n1 n2 n3 n4 n5 n6 n7 n8 n9 n10 n11 n12 n13 n14 n15 n16 n17 n18 n19) rfl ?_
    exact back σc σm hR
