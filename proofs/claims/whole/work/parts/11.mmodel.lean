noncomputable def om_Mo_write_b90 (x1 : Int64) (x4 : Int32) (σ : ox_S) : Option ((Int32 × ox_S) ⊕ (Int32 × ox_S)) :=
  if (8 : Int32) ≤ x4 then
    some (.inr ((1 : Int32), σ))
  else
    ox_let (((x1 >>> (((8 : Int32) * x4).toInt64 &&& 63)) &&& ((255 : Int64))).toInt32) fun v1 =>
    if v1 = 0 then
      ox_let (x4 + (1 : Int32)) fun v2 =>
      some (.inl (v2, σ))
    else
      ox_ix (σ.1 0) 480 fun j3 =>
      ox_let (ox_s2 σ 0 j3 (vp_nar .char ((v1.toUInt32 % 65536).toInt32))) fun s4 =>
      ox_let (ox_s1 s4 0 ((s4.1 0) + (1 : Int32))) fun s5 =>
      ox_let (x4 + (1 : Int32)) fun v6 =>
      some (.inl (v6, s5))
noncomputable def om_Mo_write_h90 (x1 : Int64) (x4 : Int32) (σ : ox_S) : Option (Int32 × ox_S) :=
  ox_w (fun t => om_Mo_write_b90 x1 t.1 t.2) (x4, σ)
noncomputable def om_Mo_write_j54 (x1 : Int64) (x3 : Int32) (x4 : Int32) (x5 : Int32) (σ : ox_S) : Option ((Int32 × Int32) ⊕ (Int32 × ox_S)) :=
  if x5 = 0 then
    ox_let (x3 + (0 : Int32)) fun v10 =>
    ox_let (x4 + (1 : Int32)) fun v11 =>
    some (.inl (v10, v11))
  else
    ox_let (x3 + (1 : Int32)) fun v8 =>
    ox_let (x4 + (1 : Int32)) fun v9 =>
    some (.inl (v8, v9))
noncomputable def om_Mo_write_b5 (x1 : Int64) (x3 : Int32) (x4 : Int32) (σ : ox_S) : Option ((Int32 × Int32) ⊕ (Int32 × ox_S)) :=
  if (8 : Int32) ≤ x4 then
    if ((σ.1 0) + x3) ≤ (480 : Int32) then
      (om_Mo_write_h90 x1 (0 : Int32) σ).map (fun t => .inr t)
    else
      some (.inr ((0 : Int32), σ))
  else
    ox_let (((x1 >>> (((8 : Int32) * x4).toInt64 &&& 63)) &&& ((255 : Int64))).toInt32) fun v7 =>
    if v7 = 0 then
      om_Mo_write_j54 x1 x3 x4 v7 σ
    else
      if v7 = (10 : Int32) then
        om_Mo_write_j54 x1 x3 x4 v7 σ
      else
        if v7 < (32 : Int32) then
          some (.inr ((0 : Int32), σ))
        else
          if v7 ≤ (126 : Int32) then
            om_Mo_write_j54 x1 x3 x4 v7 σ
          else
            some (.inr ((0 : Int32), σ))
noncomputable def om_Mo_write_h5 (x1 : Int64) (x3 : Int32) (x4 : Int32) (σ : ox_S) : Option (Int32 × ox_S) :=
  ox_w (fun t => om_Mo_write_b5 x1 t.1 t.2 σ) (x3, x4)
noncomputable def om_Mo_write (x1 : Int64) (σ : ox_S) : Option (Int32 × ox_S) :=
  om_Mo_write_h5 x1 (0 : Int32) (0 : Int32) σ
noncomputable def om_Mo_wipe  (σ : ox_S) : Option ox_S :=
  ox_let (ox_s1 σ 0 (0 : Int32)) fun s1 =>
  some s1
noncomputable def om_Mo_apart_b77 (x5 : Int32) (x6 : Int32) (σ : ox_S) : Option (Int32 ⊕ Int32) :=
  if x5 < ((x6 + (1 : Int32)) * (x6 + (1 : Int32))) then
    if (σ.1 8) = (5 : Int32) then
      if x5 ≤ ((x6 * x6) + x6) then
        some (.inr x6)
      else
        some (.inr (x6 + (1 : Int32)))
    else
      if x5 ≤ (x6 * x6) then
        some (.inr x6)
      else
        some (.inr (x6 + (1 : Int32)))
  else
    ox_let (x6 + (1 : Int32)) fun v8 =>
    some (.inl v8)
noncomputable def om_Mo_apart_h77 (x5 : Int32) (x6 : Int32) (σ : ox_S) : Option Int32 :=
  ox_w (fun t => om_Mo_apart_b77 x5 t σ) x6
noncomputable def om_Mo_apart (x1 : Int32) (x2 : Int32) (σ : ox_S) : Option Int32 :=
  ox_ix x1 8 fun j1 =>
  ox_ix x2 8 fun j2 =>
  ox_let ((σ.2 8 j1) - (σ.2 8 j2)) fun v3 =>
  ox_ix x1 8 fun j4 =>
  ox_ix x2 8 fun j5 =>
  ox_let ((σ.2 9 j4) - (σ.2 9 j5)) fun v6 =>
  if (σ.1 8) = (7 : Int32) then
    if 0 ≤ v3 then
      if 0 ≤ v6 then
        some (v3 + v6)
      else
        some (v3 + (-v6))
    else
      if 0 ≤ v6 then
        some ((-v3) + v6)
      else
        some ((-v3) + (-v6))
  else
    ox_let ((v3 * v3) + (v6 * v6)) fun v7 =>
    om_Mo_apart_h77 v7 (0 : Int32) σ
noncomputable def om_Mo_adopt_b27 (x1 : Int32) (x2 : Int32) (σ : ox_S) : Option ((Int32 × ox_S) ⊕ ((Int32 × ox_S) ⊕ ox_S)) :=
  if (σ.1 1) ≤ x2 then
    ox_let (x1 + (1 : Int32)) fun v6 =>
    some (.inr (.inl (v6, σ)))
  else
    if x1 = x2 then
      ox_ix (((8 : Int32) * x1) + x2) 64 fun j19 =>
      ox_let (ox_s2 σ 1 j19 (0 : Int32)) fun s20 =>
      ox_ix (((8 : Int32) * x1) + x2) 64 fun j21 =>
      ox_let (ox_s2 s20 2 j21 (0 : Int32)) fun s22 =>
      ox_let (x2 + (1 : Int32)) fun v23 =>
      some (.inl (v23, s22))
    else
      if (σ.1 8) = (4 : Int32) then
        ox_ix (((8 : Int32) * x1) + x2) 64 fun j13 =>
        ox_ix (((8 : Int32) * x1) + x2) 64 fun j14 =>
        ox_let (ox_s2 σ 1 j14 (σ.2 7 j13)) fun s15 =>
        ox_ix (((8 : Int32) * x1) + x2) 64 fun j16 =>
        ox_let (ox_s2 s15 2 j16 (0 : Int32)) fun s17 =>
        ox_let (x2 + (1 : Int32)) fun v18 =>
        some (.inl (v18, s17))
      else
        (om_Mo_apart x1 x2 σ).bind fun r7 =>
        ox_ix (((8 : Int32) * x1) + x2) 64 fun j8 =>
        ox_let (ox_s2 σ 1 j8 r7) fun s9 =>
        ox_ix (((8 : Int32) * x1) + x2) 64 fun j10 =>
        ox_let (ox_s2 s9 2 j10 (0 : Int32)) fun s11 =>
        ox_let (x2 + (1 : Int32)) fun v12 =>
        some (.inl (v12, s11))
noncomputable def om_Mo_adopt_h27 (x1 : Int32) (x2 : Int32) (σ : ox_S) : Option ((Int32 × ox_S) ⊕ ox_S) :=
  ox_w (fun t => om_Mo_adopt_b27 x1 t.1 t.2) (x2, σ)
noncomputable def om_Mo_adopt_b10 (x1 : Int32) (σ : ox_S) : Option ((Int32 × ox_S) ⊕ ox_S) :=
  if (σ.1 1) ≤ x1 then
    ox_let (ox_s1 σ 2 (0 : Int32)) fun s2 =>
    ox_let (ox_s1 s2 3 (0 : Int32)) fun s3 =>
    some (.inr s3)
  else
    ox_ix x1 8 fun j4 =>
    ox_let (ox_s2 σ 3 j4 (0 : Int32)) fun s5 =>
    om_Mo_adopt_h27 x1 (0 : Int32) s5
noncomputable def om_Mo_adopt_h10 (x1 : Int32) (σ : ox_S) : Option ox_S :=
  ox_w (fun t => om_Mo_adopt_b10 t.1 t.2) (x1, σ)
noncomputable def om_Mo_adopt  (σ : ox_S) : Option ox_S :=
  ox_let (ox_s1 σ 1 (σ.1 7)) fun s1 =>
  om_Mo_adopt_h10 (0 : Int32) s1
noncomputable def om_Mo_due  (σ : ox_S) : Option Int32 :=
  if (σ.1 8) = (4 : Int32) then
    if (σ.1 9) = (8 : Int32) then
      some ((σ.1 7) * (σ.1 7))
    else
      if (σ.1 9) = (9 : Int32) then
        some (((σ.1 7) * ((σ.1 7) - (1 : Int32))) / (2 : Int32))
      else
        some (((σ.1 7) * ((σ.1 7) + (1 : Int32))) / (2 : Int32))
  else
    some (σ.1 7)
noncomputable def om_Mo_word_b46  (σ : ox_S) : Option (ox_S ⊕ (Int32 × ox_S)) :=
  if (σ.1 5) ≤ (σ.1 4) then
    if (σ.1 4) ≤ (σ.1 6) then
      some (.inr ((0 : Int32), σ))
    else
      some (.inr ((1 : Int32), σ))
  else
    ox_ix (σ.1 4) 480 fun j2 =>
    if (σ.2 0 j2) = (32 : Int32) then
      if (σ.1 4) ≤ (σ.1 6) then
        some (.inr ((0 : Int32), σ))
      else
        some (.inr ((1 : Int32), σ))
    else
      ox_let (ox_s1 σ 4 ((σ.1 4) + (1 : Int32))) fun s3 =>
      some (.inl s3)
noncomputable def om_Mo_word_h46  (σ : ox_S) : Option (Int32 × ox_S) :=
  ox_w (fun t => om_Mo_word_b46  t) σ
noncomputable def om_Mo_word_b0  (σ : ox_S) : Option (ox_S ⊕ (Int32 × ox_S)) :=
  if (σ.1 5) ≤ (σ.1 4) then
    ox_let (ox_s1 σ 6 (σ.1 4)) fun s1 =>
    (om_Mo_word_h46 s1).map (fun t => .inr t)
  else
    ox_ix (σ.1 4) 480 fun j4 =>
    if (σ.2 0 j4) = (32 : Int32) then
      ox_let (ox_s1 σ 4 ((σ.1 4) + (1 : Int32))) fun s6 =>
      some (.inl s6)
    else
      ox_let (ox_s1 σ 6 (σ.1 4)) fun s5 =>
      (om_Mo_word_h46 s5).map (fun t => .inr t)
noncomputable def om_Mo_word_h0  (σ : ox_S) : Option (Int32 × ox_S) :=
  ox_w (fun t => om_Mo_word_b0  t) σ
noncomputable def om_Mo_word  (σ : ox_S) : Option (Int32 × ox_S) :=
  om_Mo_word_h0 σ
noncomputable def om_Mo_noMore  (σ : ox_S) : Option (Int32 × ox_S) :=
  ox_b2 (om_Mo_word σ) fun r1 s2 =>
  if r1 = 0 then
    some ((1 : Int32), s2)
  else
    some ((0 : Int32), s2)
noncomputable def om_Mo_isNumber_b54 (x2 : Int32) (x3 : Int32) (σ : ox_S) : Option ((Int32 × Int32) ⊕ Int32) :=
  if (σ.1 4) ≤ x3 then
    ox_z x2 <|
    some (.inr x2)
  else
    if x2 = 0 then
      ox_let (x3 + (1 : Int32)) fun v2 =>
      some (.inl ((0 : Int32), v2))
    else
      ox_ix x3 480 fun j3 =>
      if (σ.2 0 j3) < (48 : Int32) then
        ox_let (x3 + (1 : Int32)) fun v4 =>
        some (.inl ((0 : Int32), v4))
      else
        ox_ix x3 480 fun j5 =>
        if (57 : Int32) < (σ.2 0 j5) then
          ox_let (x3 + (1 : Int32)) fun v6 =>
          some (.inl ((0 : Int32), v6))
        else
          ox_let (x3 + (1 : Int32)) fun v7 =>
          some (.inl ((1 : Int32), v7))
noncomputable def om_Mo_isNumber_h54 (x2 : Int32) (x3 : Int32) (σ : ox_S) : Option Int32 :=
  ox_w (fun t => om_Mo_isNumber_b54 t.1 t.2 σ) (x2, x3)
noncomputable def om_Mo_isNumber_j27 (y0 : Int32) (σ : ox_S) : Option Int32 :=
  if (σ.1 4) ≤ y0 then
    om_Mo_isNumber_h54 (0 : Int32) y0 σ
  else
    if (4 : Int32) < ((σ.1 4) - y0) then
      om_Mo_isNumber_h54 (0 : Int32) y0 σ
    else
      om_Mo_isNumber_h54 (1 : Int32) y0 σ
noncomputable def om_Mo_isNumber  (σ : ox_S) : Option Int32 :=
  ox_ix (σ.1 6) 480 fun j1 =>
  if (σ.2 0 j1) = (45 : Int32) then
    om_Mo_isNumber_j27 ((σ.1 6) + (1 : Int32)) σ
  else
    om_Mo_isNumber_j27 (σ.1 6) σ
noncomputable def om_Mo_number_b7 (x1 : Int32) (x2 : Int32) (σ : ox_S) : Option ((Int32 × Int32) ⊕ Int32) :=
  if (σ.1 4) ≤ x2 then
    ox_ix (σ.1 6) 480 fun j2 =>
    if (σ.2 0 j2) = (45 : Int32) then
      some (.inr (-x1))
    else
      some (.inr x1)
  else
    ox_ix x2 480 fun j3 =>
    if (σ.2 0 j3) = (45 : Int32) then
      ox_let (x2 + (1 : Int32)) fun v7 =>
      some (.inl ((0 : Int32), v7))
    else
      ox_ix x2 480 fun j4 =>
      ox_let ((((10 : Int32) * x1) + (σ.2 0 j4)) - (48 : Int32)) fun v5 =>
      ox_let (x2 + (1 : Int32)) fun v6 =>
      some (.inl (v5, v6))
noncomputable def om_Mo_number_h7 (x1 : Int32) (x2 : Int32) (σ : ox_S) : Option Int32 :=
  ox_w (fun t => om_Mo_number_b7 t.1 t.2 σ) (x1, x2)
noncomputable def om_Mo_number  (σ : ox_S) : Option Int32 :=
  ox_let (σ.1 6) fun v1 =>
  om_Mo_number_h7 (0 : Int32) v1 σ
noncomputable def om_Mo_place_j116 (x1 : Int32) (x2 : Int32) (x3 : Int32) (y0 : Int32) (σ : ox_S) : Option (Int32 × ox_S) :=
  if x2 = 0 then
    some ((0 : Int32), σ)
  else
    if x3 < (-999 : Int32) then
      some ((0 : Int32), σ)
    else
      if (999 : Int32) < x3 then
        some ((0 : Int32), σ)
      else
        if y0 < (-999 : Int32) then
          some ((0 : Int32), σ)
        else
          if y0 ≤ (999 : Int32) then
            ox_ix x1 8 fun j2 =>
            ox_let (ox_s2 σ 8 j2 x3) fun s3 =>
            ox_ix x1 8 fun j4 =>
            ox_let (ox_s2 s3 9 j4 y0) fun s5 =>
            ox_let (ox_s1 s5 12 ((s5.1 12) + (1 : Int32))) fun s6 =>
            ox_b2 (om_Mo_noMore s6) fun r7 s8 =>
            ox_z r7 <|
            some (r7, s8)
          else
            some ((0 : Int32), σ)
noncomputable def om_Mo_place_j79 (x1 : Int32) (x2 : Int32) (y0 : Int32) (σ : ox_S) : Option (Int32 × ox_S) :=
  if x2 = 0 then
    om_Mo_place_j116 x1 (0 : Int32) y0 (0 : Int32) σ
  else
    ox_b2 (om_Mo_word σ) fun r9 s10 =>
    if r9 = 0 then
      om_Mo_place_j116 x1 (0 : Int32) y0 (0 : Int32) s10
    else
      (om_Mo_isNumber s10).bind fun r11 =>
      if r11 = 0 then
        om_Mo_place_j116 x1 (0 : Int32) y0 (0 : Int32) s10
      else
        (om_Mo_number s10).bind fun r12 =>
        om_Mo_place_j116 x1 (1 : Int32) y0 r12 s10
noncomputable def om_Mo_place_j42 (x1 : Int32) (y0 : Int32) (σ : ox_S) : Option (Int32 × ox_S) :=
  if y0 = 0 then
    om_Mo_place_j79 x1 (0 : Int32) (0 : Int32) σ
  else
    ox_b2 (om_Mo_word σ) fun r13 s14 =>
    if r13 = 0 then
      om_Mo_place_j79 x1 (0 : Int32) (0 : Int32) s14
    else
      (om_Mo_isNumber s14).bind fun r15 =>
      if r15 = 0 then
        om_Mo_place_j79 x1 (0 : Int32) (0 : Int32) s14
      else
        (om_Mo_number s14).bind fun r16 =>
        om_Mo_place_j79 x1 (1 : Int32) r16 s14
noncomputable def om_Mo_place  (σ : ox_S) : Option (Int32 × ox_S) :=
  ox_let (σ.1 12) fun v1 =>
  if (σ.1 7) ≤ v1 then
    om_Mo_place_j42 v1 (0 : Int32) σ
  else
    ox_b2 (om_Mo_word σ) fun r17 s18 =>
    if r17 = 0 then
      om_Mo_place_j42 v1 (0 : Int32) s18
    else
      (om_Mo_isNumber s18).bind fun r19 =>
      if r19 = 0 then
        om_Mo_place_j42 v1 (0 : Int32) s18
      else
        (om_Mo_number s18).bind fun r20 =>
        if r20 = (v1 + (1 : Int32)) then
          om_Mo_place_j42 v1 (1 : Int32) s18
        else
          om_Mo_place_j42 v1 (0 : Int32) s18
noncomputable def om_Mo_pair_j49 (x2 : Int32) (x3 : Int32) (x4 : Int32) (y0 : Int32) (σ : ox_S) : Option ((Int32 × Int32) ⊕ Int32) :=
  if (y0 - x4) < x2 then
    ox_let (x2 - ((y0 - x4) + (1 : Int32))) fun v1 =>
    ox_let (x3 + (1 : Int32)) fun v2 =>
    some (.inl (v1, v2))
  else
    some (.inr ((((8 : Int32) * x3) + x4) + x2))
noncomputable def om_Mo_pair_b4 (x2 : Int32) (x3 : Int32) (σ : ox_S) : Option ((Int32 × Int32) ⊕ Int32) :=
  if (σ.1 7) ≤ x3 then
    some (.inr (-1 : Int32))
  else
    if (σ.1 9) = (9 : Int32) then
      ox_let (x3 + (1 : Int32)) fun v3 =>
      if (σ.1 9) = (10 : Int32) then
        om_Mo_pair_j49 x2 x3 v3 x3 σ
      else
        om_Mo_pair_j49 x2 x3 v3 ((σ.1 7) - (1 : Int32)) σ
    else
      if (σ.1 9) = (10 : Int32) then
        om_Mo_pair_j49 x2 x3 (0 : Int32) x3 σ
      else
        om_Mo_pair_j49 x2 x3 (0 : Int32) ((σ.1 7) - (1 : Int32)) σ
noncomputable def om_Mo_pair_h4 (x2 : Int32) (x3 : Int32) (σ : ox_S) : Option Int32 :=
  ox_w (fun t => om_Mo_pair_b4 t.1 t.2 σ) (x2, x3)
noncomputable def om_Mo_pair (x1 : Int32) (σ : ox_S) : Option Int32 :=
  om_Mo_pair_h4 x1 (0 : Int32) σ
noncomputable def om_Mo_take_j99 (x1 : Int32) (x3 : Int32) (x4 : Int32) (y0 : Int32) (σ : ox_S) : Option (Int32 × ox_S) :=
  ox_ix (((8 : Int32) * x3) + x4) 64 fun j4 =>
  ox_let (ox_s2 σ 7 j4 x1) fun s5 =>
  ox_ix (((8 : Int32) * x4) + x3) 64 fun j6 =>
  ox_let (ox_s2 s5 7 j6 x1) fun s7 =>
  ox_let (ox_s1 s7 12 ((s7.1 12) + (1 : Int32))) fun s8 =>
  ox_z y0 <|
  some (y0, s8)
noncomputable def om_Mo_take_j23 (x1 : Int32) (y0 : Int32) (σ : ox_S) : Option (Int32 × ox_S) :=
  if y0 < 0 then
    some ((0 : Int32), σ)
  else
    if 0 ≤ x1 then
      ox_let (y0 / (8 : Int32)) fun v2 =>
      ox_let (y0 - y0 / (8 : Int32) * (8 : Int32)) fun v3 =>
      if v2 = v3 then
        if x1 = 0 then
          om_Mo_take_j99 x1 v2 v3 (1 : Int32) σ
        else
          om_Mo_take_j99 x1 v2 v3 (0 : Int32) σ
      else
        if (σ.1 9) = (8 : Int32) then
          if v2 < v3 then
            om_Mo_take_j99 x1 v2 v3 (1 : Int32) σ
          else
            ox_ix (((8 : Int32) * v3) + v2) 64 fun j9 =>
            if x1 = (σ.2 7 j9) then
              om_Mo_take_j99 x1 v2 v3 (1 : Int32) σ
            else
              om_Mo_take_j99 x1 v2 v3 (0 : Int32) σ
        else
          om_Mo_take_j99 x1 v2 v3 (1 : Int32) σ
    else
      some ((0 : Int32), σ)
noncomputable def om_Mo_take (x1 : Int32) (σ : ox_S) : Option (Int32 × ox_S) :=
  (om_Mo_due σ).bind fun r1 =>
  if r1 ≤ (σ.1 12) then
    om_Mo_take_j23 x1 (-1 : Int32) σ
  else
    (om_Mo_pair (σ.1 12) σ).bind fun r10 =>
    om_Mo_take_j23 x1 r10 σ
noncomputable def om_Mo_numbers_b2 (x1 : Int32) (σ : ox_S) : Option ((Int32 × ox_S) ⊕ (Int32 × ox_S)) :=
  if x1 = 0 then
    ox_z x1 <|
    some (.inr (x1, σ))
  else
    ox_b2 (om_Mo_word σ) fun r1 s2 =>
    if r1 = 0 then
      ox_z x1 <|
      some (.inr (x1, s2))
    else
      (om_Mo_isNumber s2).bind fun r3 =>
      if r3 = 0 then
        some (.inl ((0 : Int32), s2))
      else
        ox_ix (s2.1 6) 480 fun j4 =>
        if (s2.2 0 j4) = (45 : Int32) then
          some (.inl ((0 : Int32), s2))
        else
          (om_Mo_number s2).bind fun r5 =>
          ox_b2 (om_Mo_take r5 s2) fun r6 s7 =>
          if r6 = 0 then
            some (.inl ((0 : Int32), s7))
          else
            some (.inl ((1 : Int32), s7))
noncomputable def om_Mo_numbers_h2 (x1 : Int32) (σ : ox_S) : Option (Int32 × ox_S) :=
  ox_w (fun t => om_Mo_numbers_b2 t.1 t.2) (x1, σ)
noncomputable def om_Mo_numbers  (σ : ox_S) : Option (Int32 × ox_S) :=
  om_Mo_numbers_h2 (1 : Int32) σ
noncomputable def om_Mo_part (x0 : Int32) (x1 : Int32) (σ : ox_S) : Option Int64 :=
  if x0 = (0 : Int32) then
    if x1 = 0 then
      some ((4203070411800137539 : Int64))
    else
      if x1 = (1 : Int32) then
        some ((0 : Int64))
      else
        some ((0 : Int64))
  else
  if x0 = (1 : Int32) then
    if x1 = 0 then
      some ((5713189197931432260 : Int64))
    else
      if x1 = (1 : Int32) then
        some ((14926 : Int64))
      else
        some ((0 : Int64))
  else
  if x0 = (2 : Int32) then
    if x1 = 0 then
      some ((5279722204857582661 : Int64))
    else
      if x1 = (1 : Int32) then
        some ((4994590205665364039 : Int64))
      else
        some ((58 : Int64))
  else
  if x0 = (3 : Int32) then
    if x1 = 0 then
      some ((5279722204857582661 : Int64))
    else
      if x1 = (1 : Int32) then
        some ((5571602852676388935 : Int64))
      else
        some ((3822657 : Int64))
  else
  if x0 = (4 : Int32) then
    if x1 = 0 then
      some ((6073459554577832005 : Int64))
    else
      if x1 = (1 : Int32) then
        some ((0 : Int64))
      else
        some ((0 : Int64))
  else
  if x0 = (5 : Int32) then
    if x1 = 0 then
      some ((74983137301829 : Int64))
    else
      if x1 = (1 : Int32) then
        some ((0 : Int64))
      else
        some ((0 : Int64))
  else
  if x0 = (6 : Int32) then
    if x1 = 0 then
      some ((19195683299476803 : Int64))
    else
      if x1 = (1 : Int32) then
        some ((0 : Int64))
      else
        some ((0 : Int64))
  else
  if x0 = (7 : Int32) then
    if x1 = 0 then
      some ((74983138017613 : Int64))
    else
      if x1 = (1 : Int32) then
        some ((0 : Int64))
      else
        some ((0 : Int64))
  else
  if x0 = (8 : Int32) then
    if x1 = 0 then
      some ((6071218844369442118 : Int64))
    else
      if x1 = (1 : Int32) then
        some ((5785938 : Int64))
      else
        some ((0 : Int64))
  else
  if x0 = (9 : Int32) then
    if x1 = 0 then
      some ((5715735684041429077 : Int64))
    else
      if x1 = (1 : Int32) then
        some ((87 : Int64))
      else
        some ((0 : Int64))
  else
  if x0 = (10 : Int32) then
    if x1 = 0 then
      some ((5279449470140370764 : Int64))
    else
      if x1 = (1 : Int32) then
        some ((95998196008769 : Int64))
      else
        some ((0 : Int64))
  else
  if x0 = (11 : Int32) then
    if x1 = 0 then
      some ((5279722204857582661 : Int64))
    else
      if x1 = (1 : Int32) then
        some ((6071772947009521735 : Int64))
      else
        some ((5132105 : Int64))
  else
  if x0 = (12 : Int32) then
    if x1 = 0 then
      some ((5714860528619507534 : Int64))
    else
      if x1 = (1 : Int32) then
        some ((5283922227842991186 : Int64))
      else
        some ((20047 : Int64))
  else
  if x0 = (13 : Int32) then
    if x1 = 0 then
      some ((4607813 : Int64))
    else
      if x1 = (1 : Int32) then
        some ((0 : Int64))
      else
        some ((0 : Int64))
  else
  some ((0 : Int64))
noncomputable def om_Mo_letter (x0 : Int32) (x1 : Int32) (σ : ox_S) : Option Int32 :=
  if x1 ≤ (23 : Int32) then
    (om_Mo_part x0 (x1 / (8 : Int32)) σ).bind fun r1 =>
    some (((r1 >>> (((8 : Int32) * (x1 - x1 / (8 : Int32) * (8 : Int32))).toInt64 &&& 63)) &&& ((255 : Int64))).toInt32)
  else
    some (0 : Int32)
noncomputable def om_Mo_begins_b2 (x1 : Int32) (x2 : Int32) (x3 : Int32) (σ : ox_S) : Option (Int32 ⊕ Int32) :=
  (om_Mo_letter x1 x3 σ).bind fun r1 =>
  if r1 = 0 then
    some (.inr x3)
  else
    if (σ.1 5) ≤ (x2 + x3) then
      some (.inr (0 : Int32))
    else
      ox_ix (x2 + x3) 480 fun j2 =>
      (om_Mo_letter x1 x3 σ).bind fun r3 =>
      if (σ.2 0 j2) = r3 then
        ox_let (x3 + (1 : Int32)) fun v4 =>
        some (.inl v4)
      else
        some (.inr (0 : Int32))
noncomputable def om_Mo_begins_h2 (x1 : Int32) (x2 : Int32) (x3 : Int32) (σ : ox_S) : Option Int32 :=
  ox_w (fun t => om_Mo_begins_b2 x1 x2 t σ) x3
noncomputable def om_Mo_begins (x1 : Int32) (x2 : Int32) (σ : ox_S) : Option Int32 :=
  om_Mo_begins_h2 x1 x2 (0 : Int32) σ
noncomputable def om_Mo_is (x1 : Int32) (σ : ox_S) : Option Int32 :=
  if (σ.1 4) ≤ (σ.1 6) then
    some (0 : Int32)
  else
    (om_Mo_begins x1 (σ.1 6) σ).bind fun r1 =>
    if r1 = ((σ.1 4) - (σ.1 6)) then
      some (1 : Int32)
    else
      some (0 : Int32)
noncomputable def om_Mo_choice_b11 (x2 : Int32) (x3 : Int32) (x4 : Int32) (x5 : Int32) (σ : ox_S) : Option ((Int32 × Int32) ⊕ (Int32 × ox_S)) :=
  if x2 < x5 then
    ox_b2 (om_Mo_noMore σ) fun r3 s4 =>
    if r3 = 0 then
      some (.inr ((-1 : Int32), s4))
    else
      some (.inr (x4, s4))
  else
    if x3 = 0 then
      ox_b2 (om_Mo_noMore σ) fun r5 s6 =>
      if r5 = 0 then
        some (.inr ((-1 : Int32), s6))
      else
        some (.inr (x4, s6))
    else
      (om_Mo_is x5 σ).bind fun r7 =>
      if r7 = 0 then
        ox_let (x5 + (1 : Int32)) fun v8 =>
        some (.inl (x4, v8))
      else
        ox_let (x5 + (1 : Int32)) fun v9 =>
        some (.inl (x5, v9))
noncomputable def om_Mo_choice_h11 (x2 : Int32) (x3 : Int32) (x4 : Int32) (x5 : Int32) (σ : ox_S) : Option (Int32 × ox_S) :=
  ox_w (fun t => om_Mo_choice_b11 x2 x3 t.1 t.2 σ) (x4, x5)
noncomputable def om_Mo_choice (x1 : Int32) (x2 : Int32) (σ : ox_S) : Option (Int32 × ox_S) :=
  ox_b2 (om_Mo_word σ) fun r1 s2 =>
  om_Mo_choice_h11 x2 r1 (-1 : Int32) x1 s2
noncomputable def om_Mo_header_j278 (y0 : Int32) (σ : ox_S) : Option (Int32 × ox_S) :=
  (om_Mo_is y0 σ).bind fun r8 =>
  if r8 = 0 then
    ox_let (ox_s1 σ 10 (0 : Int32)) fun s9 =>
    ox_z (s9.1 10) <|
    some (s9.1 10, s9)
  else
    ox_b2 (om_Mo_noMore σ) fun r10 s11 =>
    if r10 = 0 then
      ox_let (ox_s1 s11 10 (0 : Int32)) fun s12 =>
      ox_z (s12.1 10) <|
      some (s12.1 10, s12)
    else
      ox_let (ox_s1 s11 10 (1 : Int32)) fun s13 =>
      ox_z (s13.1 10) <|
      some (s13.1 10, s13)
noncomputable def om_Mo_header_j256 (y0 : Int32) (σ : ox_S) : Option (Int32 × ox_S) :=
  if y0 = 0 then
    ox_let (ox_s1 σ 10 (0 : Int32)) fun s7 =>
    ox_z (s7.1 10) <|
    some (s7.1 10, s7)
  else
    if (σ.1 8) = (4 : Int32) then
      om_Mo_header_j278 (11 : Int32) σ
    else
      om_Mo_header_j278 (12 : Int32) σ
noncomputable def om_Mo_header_j192 (y0 : Int32) (σ : ox_S) : Option (Int32 × ox_S) :=
  ox_b2 (om_Mo_choice (8 : Int32) (10 : Int32) σ) fun r14 s15 =>
  ox_let (ox_s1 s15 9 r14) fun s16 =>
  if y0 = 0 then
    some ((0 : Int32), s16)
  else
    if (s16.1 9) < 0 then
      some ((0 : Int32), s16)
    else
      some ((1 : Int32), s16)
noncomputable def om_Mo_header_j135 (y0 : Int32) (σ : ox_S) : Option (Int32 × ox_S) :=
  ox_b2 (om_Mo_choice (4 : Int32) (7 : Int32) σ) fun r17 s18 =>
  ox_let (ox_s1 s18 8 r17) fun s19 =>
  if y0 = 0 then
    some ((0 : Int32), s19)
  else
    if (s19.1 8) < 0 then
      some ((0 : Int32), s19)
    else
      some ((1 : Int32), s19)
noncomputable def om_Mo_header_j84 (x1 : Int32) (x2 : Int32) (y0 : Int32) (σ : ox_S) : Option (Int32 × ox_S) :=
  ox_let (ox_s1 σ 7 y0) fun s20 =>
  if x1 = 0 then
    some ((0 : Int32), s20)
  else
    if x2 < (3 : Int32) then
      some ((0 : Int32), s20)
    else
      if (8 : Int32) < x2 then
        some ((0 : Int32), s20)
      else
        ox_b2 (om_Mo_noMore s20) fun r21 s22 =>
        if r21 = 0 then
          some ((0 : Int32), s22)
        else
          some ((1 : Int32), s22)
noncomputable def om_Mo_header_j57 (y0 : Int32) (σ : ox_S) : Option (Int32 × ox_S) :=
  if y0 = 0 then
    if y0 = 0 then
      om_Mo_header_j84 y0 (0 : Int32) (σ.1 7) σ
    else
      om_Mo_header_j84 y0 (0 : Int32) (0 : Int32) σ
  else
    (om_Mo_number σ).bind fun r23 =>
    if y0 = 0 then
      om_Mo_header_j84 y0 r23 (σ.1 7) σ
    else
      om_Mo_header_j84 y0 r23 r23 σ
noncomputable def om_Mo_header  (σ : ox_S) : Option (Int32 × ox_S) :=
  (om_Mo_begins (0 : Int32) (σ.1 4) σ).bind fun r1 =>
  if r1 ≤ 0 then
    ox_b2 (om_Mo_word σ) fun r2 s3 =>
    if r2 = 0 then
      some ((0 : Int32), s3)
    else
      (om_Mo_is (1 : Int32) s3).bind fun r4 =>
      if r4 = 0 then
        (om_Mo_is (2 : Int32) s3).bind fun r5 =>
        if r5 = 0 then
          (om_Mo_is (3 : Int32) s3).bind fun r6 =>
          if r6 = 0 then
            if (s3.1 7) ≤ 0 then
              om_Mo_header_j256 (0 : Int32) s3
            else
              if (s3.1 8) < 0 then
                om_Mo_header_j256 (0 : Int32) s3
              else
                if (4 : Int32) < (s3.1 8) then
                  om_Mo_header_j256 (1 : Int32) s3
                else
                  if (s3.1 9) < 0 then
                    om_Mo_header_j256 (0 : Int32) s3
                  else
                    om_Mo_header_j256 (1 : Int32) s3
          else
            if 0 ≤ (s3.1 9) then
              om_Mo_header_j192 (0 : Int32) s3
            else
              if (s3.1 8) = (4 : Int32) then
                om_Mo_header_j192 (1 : Int32) s3
              else
                om_Mo_header_j192 (0 : Int32) s3
        else
          if 0 ≤ (s3.1 8) then
            om_Mo_header_j135 (0 : Int32) s3
          else
            om_Mo_header_j135 (1 : Int32) s3
      else
        if (s3.1 7) = 0 then
          ox_b2 (om_Mo_word s3) fun r24 s25 =>
          if r24 = 0 then
            om_Mo_header_j57 (0 : Int32) s25
          else
            (om_Mo_isNumber s25).bind fun r26 =>
            if r26 = 0 then
              om_Mo_header_j57 (0 : Int32) s25
            else
              om_Mo_header_j57 (1 : Int32) s25
        else
          om_Mo_header_j57 (0 : Int32) s3
  else
    some ((1 : Int32), σ)
noncomputable def om_Mo_line_j65 (x1 : Int32) (y0 : Int32) (σ : ox_S) : Option (Int32 × ox_S) :=
  ox_z y0 <|
  ox_let (ox_s1 σ 11 y0) fun s9 =>
  ox_let (ox_s1 s9 4 x1) fun s10 =>
  if y0 = 0 then
    if (s10.1 8) = (4 : Int32) then
      ox_b2 (om_Mo_noMore s10) fun r11 s12 =>
      if r11 = 0 then
        some ((0 : Int32), s12)
      else
        some ((1 : Int32), s12)
    else
      some ((0 : Int32), s10)
  else
    some ((1 : Int32), s10)
noncomputable def om_Mo_line (x1 : Int32) (σ : ox_S) : Option (Int32 × ox_S) :=
  ox_let (ox_s1 σ 4 x1) fun s1 =>
  if (s1.1 11) = 0 then
    if (s1.1 10) = 0 then
      ox_b2 (om_Mo_header s1) fun r16 s17 =>
      ox_z r16 <|
      some (r16, s17)
    else
      (om_Mo_due s1).bind fun r2 =>
      if (s1.1 12) = r2 then
        ox_b2 (om_Mo_word s1) fun r7 s8 =>
        if r7 = 0 then
          om_Mo_line_j65 x1 (0 : Int32) s8
        else
          (om_Mo_is (13 : Int32) s8).bind fun r13 =>
          if r13 = 0 then
            om_Mo_line_j65 x1 (0 : Int32) s8
          else
            ox_b2 (om_Mo_noMore s8) fun r14 s15 =>
            if r14 = 0 then
              om_Mo_line_j65 x1 (0 : Int32) s15
            else
              om_Mo_line_j65 x1 (1 : Int32) s15
      else
        if (s1.1 8) = (4 : Int32) then
          ox_b2 (om_Mo_numbers s1) fun r5 s6 =>
          ox_z r5 <|
          some (r5, s6)
        else
          ox_b2 (om_Mo_place s1) fun r3 s4 =>
          ox_z r3 <|
          some (r3, s4)
  else
    some ((0 : Int32), s1)
noncomputable def om_Mo_load_j85 (x1 : Int32) (x2 : Int32) (σ : ox_S) : Option ((Int32 × Int32 × ox_S) ⊕ (Int32 × ox_S)) :=
  if (σ.1 5) = (σ.1 0) then
    some (.inr (-x1, σ))
  else
    ox_b2 (om_Mo_line x2 σ) fun r9 s10 =>
    if r9 = 0 then
      some (.inr (-x1, s10))
    else
      ox_let ((s10.1 5) + (1 : Int32)) fun v11 =>
      ox_let (x1 + (1 : Int32)) fun v12 =>
      some (.inl (v12, v11, s10))
noncomputable def om_Mo_load_b47 (x1 : Int32) (x2 : Int32) (σ : ox_S) : Option (ox_S ⊕ ((Int32 × Int32 × ox_S) ⊕ (Int32 × ox_S))) :=
  if (σ.1 0) ≤ (σ.1 5) then
    (om_Mo_load_j85 x1 x2 σ).map (fun t => .inr t)
  else
    ox_ix (σ.1 5) 480 fun j13 =>
    if (σ.2 0 j13) = (10 : Int32) then
      (om_Mo_load_j85 x1 x2 σ).map (fun t => .inr t)
    else
      ox_let (ox_s1 σ 5 ((σ.1 5) + (1 : Int32))) fun s14 =>
      some (.inl s14)
noncomputable def om_Mo_load_h47 (x1 : Int32) (x2 : Int32) (σ : ox_S) : Option ((Int32 × Int32 × ox_S) ⊕ (Int32 × ox_S)) :=
  ox_w (fun t => om_Mo_load_b47 x1 x2 t) σ
noncomputable def om_Mo_load_b34 (x1 : Int32) (x2 : Int32) (σ : ox_S) : Option ((Int32 × Int32 × ox_S) ⊕ (Int32 × ox_S)) :=
  if (σ.1 0) ≤ x2 then
    if (σ.1 11) = 0 then
      some (.inr (-x1, σ))
    else
      (om_Mo_adopt σ).bind fun s7 =>
      some (.inr ((0 : Int32), s7))
  else
    ox_let (ox_s1 σ 5 x2) fun s8 =>
    om_Mo_load_h47 x1 x2 s8
noncomputable def om_Mo_load_h34 (x1 : Int32) (x2 : Int32) (σ : ox_S) : Option (Int32 × ox_S) :=
  ox_w (fun t => om_Mo_load_b34 t.1 t.2.1 t.2.2) (x1, x2, σ)
noncomputable def om_Mo_load  (σ : ox_S) : Option (Int32 × ox_S) :=
  ox_let (ox_s1 σ 7 (0 : Int32)) fun s1 =>
  ox_let (ox_s1 s1 8 (-1 : Int32)) fun s2 =>
  ox_let (ox_s1 s2 9 (-1 : Int32)) fun s3 =>
  ox_let (ox_s1 s3 10 (0 : Int32)) fun s4 =>
  ox_let (ox_s1 s4 11 (0 : Int32)) fun s5 =>
  ox_let (ox_s1 s5 12 (0 : Int32)) fun s6 =>
  om_Mo_load_h34 (1 : Int32) (0 : Int32) s6
noncomputable def om_Mo_size  (σ : ox_S) : Option Int32 :=
  some (σ.1 1)
noncomputable def om_Mo_city (x1 : Int32) (σ : ox_S) : Option Int32 :=
  if x1 < 0 then
    some (0 : Int32)
  else
    if (σ.1 1) ≤ x1 then
      some (0 : Int32)
    else
      some (1 : Int32)
noncomputable def om_Mo_distance (x1 : Int32) (x2 : Int32) (σ : ox_S) : Option Int32 :=
  (om_Mo_city x1 σ).bind fun r1 =>
  if r1 = 0 then
    some (-1 : Int32)
  else
    (om_Mo_city x2 σ).bind fun r2 =>
    if r2 = 0 then
      some (-1 : Int32)
    else
      ox_ix (((8 : Int32) * x1) + x2) 64 fun j3 =>
      some (σ.2 1 j3)
noncomputable def om_Mo_mark (x1 : Int32) (x2 : Int32) (x3 : Int32) (σ : ox_S) : Option (Int32 × ox_S) :=
  (om_Mo_city x1 σ).bind fun r1 =>
  if r1 = 0 then
    some ((0 : Int32), σ)
  else
    (om_Mo_city x2 σ).bind fun r2 =>
    if r2 = 0 then
      some ((0 : Int32), σ)
    else
      if x1 = x2 then
        some ((0 : Int32), σ)
      else
        if x3 < 0 then
          some ((0 : Int32), σ)
        else
          if x3 ≤ (2 : Int32) then
            ox_ix (((8 : Int32) * x1) + x2) 64 fun j3 =>
            ox_let (ox_s2 σ 2 j3 x3) fun s4 =>
            ox_ix (((8 : Int32) * x2) + x1) 64 fun j5 =>
            ox_let (ox_s2 s4 2 j5 x3) fun s6 =>
            some ((1 : Int32), s6)
          else
            some ((0 : Int32), σ)
noncomputable def om_Mo_lift (x1 : Int32) (x2 : Int32) (σ : ox_S) : Option (Int32 × ox_S) :=
  (om_Mo_city x1 σ).bind fun r1 =>
  if r1 = 0 then
    some ((0 : Int32), σ)
  else
    if x2 < (-100000 : Int32) then
      some ((0 : Int32), σ)
    else
      if x2 ≤ (100000 : Int32) then
        ox_ix x1 8 fun j2 =>
        ox_let (ox_s2 σ 3 j2 x2) fun s3 =>
        some ((1 : Int32), s3)
      else
        some ((0 : Int32), σ)
noncomputable def om_Mo_potential (x1 : Int32) (σ : ox_S) : Option Int32 :=
  (om_Mo_city x1 σ).bind fun r1 =>
  if r1 = 0 then
    some (0 : Int32)
  else
    ox_ix x1 8 fun j2 =>
    some (σ.2 3 j2)
noncomputable def om_Mo_ownRules_b2 (x1 : Int32) (σ : ox_S) : Option ((Int32 × ox_S) ⊕ ox_S) :=
  if (64 : Int32) ≤ x1 then
    some (.inr σ)
  else
    ox_ix x1 64 fun j1 =>
    ox_ix x1 64 fun j2 =>
    ox_let (ox_s2 σ 11 j2 (σ.2 2 j1)) fun s3 =>
    ox_let (x1 + (1 : Int32)) fun v4 =>
    some (.inl (v4, s3))
noncomputable def om_Mo_ownRules_h2 (x1 : Int32) (σ : ox_S) : Option ox_S :=
  ox_w (fun t => om_Mo_ownRules_b2 t.1 t.2) (x1, σ)
noncomputable def om_Mo_ownRules  (σ : ox_S) : Option ox_S :=
  om_Mo_ownRules_h2 (0 : Int32) σ
noncomputable def om_Mo_weight (x1 : Int32) (x2 : Int32) (σ : ox_S) : Option Int32 :=
  ox_ix (((8 : Int32) * x1) + x2) 64 fun j1 =>
  ox_ix x1 8 fun j2 =>
  ox_ix x2 8 fun j3 =>
  some (((σ.2 1 j1) + (σ.2 3 j2)) + (σ.2 3 j3))
noncomputable def om_Mo_worse (x1 : Int32) (x2 : Int32) (σ : ox_S) : Option Int32 :=
  (om_Mo_weight (x1 / (8 : Int32)) (x1 - x1 / (8 : Int32) * (8 : Int32)) σ).bind fun r1 =>
  (om_Mo_weight (x2 / (8 : Int32)) (x2 - x2 / (8 : Int32) * (8 : Int32)) σ).bind fun r2 =>
  if r1 = r2 then
    if x1 ≤ x2 then
      some (0 : Int32)
    else
      some (1 : Int32)
  else
    if r1 ≤ r2 then
      some (0 : Int32)
    else
      some (1 : Int32)
noncomputable def om_Mo_worst_j93 (x1 : Int32) (x2 : Int32) (x3 : Int32) (x4 : Int32) (x5 : Int32) (x6 : Int32) (y0 : Int32) (σ : ox_S) : Option ((Int32 × Int32) ⊕ ((Int32 × Int32) ⊕ Int32)) :=
  if y0 = 0 then
    ox_let (x5 + (1 : Int32)) fun v5 =>
    some (.inl (x3, v5))
  else
    if x3 < 0 then
      ox_let (x5 + (1 : Int32)) fun v6 =>
      some (.inl (x6, v6))
    else
      (om_Mo_worse x6 x3 σ).bind fun r7 =>
      if r7 = 0 then
        ox_let (x5 + (1 : Int32)) fun v8 =>
        some (.inl (x3, v8))
      else
        ox_let (x5 + (1 : Int32)) fun v9 =>
        some (.inl (x6, v9))
noncomputable def om_Mo_worst_j70 (x1 : Int32) (x2 : Int32) (x3 : Int32) (x4 : Int32) (x5 : Int32) (x6 : Int32) (y0 : Int32) (σ : ox_S) : Option ((Int32 × Int32) ⊕ ((Int32 × Int32) ⊕ Int32)) :=
  if y0 = x1 then
    if x2 < 0 then
      om_Mo_worst_j93 x1 x2 x3 x4 x5 x6 (1 : Int32) σ
    else
      (om_Mo_worse x2 x6 σ).bind fun r11 =>
      if r11 = 0 then
        om_Mo_worst_j93 x1 x2 x3 x4 x5 x6 (0 : Int32) σ
      else
        om_Mo_worst_j93 x1 x2 x3 x4 x5 x6 (1 : Int32) σ
  else
    om_Mo_worst_j93 x1 x2 x3 x4 x5 x6 (0 : Int32) σ
noncomputable def om_Mo_worst_b20 (x1 : Int32) (x2 : Int32) (x3 : Int32) (x4 : Int32) (x5 : Int32) (σ : ox_S) : Option ((Int32 × Int32) ⊕ ((Int32 × Int32) ⊕ Int32)) :=
  if (σ.1 1) ≤ x5 then
    ox_let (x4 + (1 : Int32)) fun v2 =>
    some (.inr (.inl (x3, v2)))
  else
    ox_let (((8 : Int32) * x4) + x5) fun v3 =>
    ox_ix v3 64 fun j4 =>
    if (σ.2 10 j4) = 0 then
      om_Mo_worst_j93 x1 x2 x3 x4 x5 v3 (0 : Int32) σ
    else
      ox_ix v3 64 fun j10 =>
      if (σ.2 11 j10) = (1 : Int32) then
        om_Mo_worst_j93 x1 x2 x3 x4 x5 v3 (0 : Int32) σ
      else
        if x4 = 0 then
          om_Mo_worst_j70 x1 x2 x3 x4 x5 v3 (1 : Int32) σ
        else
          om_Mo_worst_j70 x1 x2 x3 x4 x5 v3 (0 : Int32) σ
noncomputable def om_Mo_worst_h20 (x1 : Int32) (x2 : Int32) (x3 : Int32) (x4 : Int32) (x5 : Int32) (σ : ox_S) : Option ((Int32 × Int32) ⊕ Int32) :=
  ox_w (fun t => om_Mo_worst_b20 x1 x2 t.1 x4 t.2 σ) (x3, x5)
noncomputable def om_Mo_worst_b5 (x1 : Int32) (x2 : Int32) (x3 : Int32) (x4 : Int32) (σ : ox_S) : Option ((Int32 × Int32) ⊕ Int32) :=
  if (σ.1 1) ≤ x4 then
    some (.inr x3)
  else
    ox_let (x4 + (1 : Int32)) fun v1 =>
    om_Mo_worst_h20 x1 x2 x3 x4 v1 σ
noncomputable def om_Mo_worst_h5 (x1 : Int32) (x2 : Int32) (x3 : Int32) (x4 : Int32) (σ : ox_S) : Option Int32 :=
  ox_w (fun t => om_Mo_worst_b5 x1 x2 t.1 t.2 σ) (x3, x4)
noncomputable def om_Mo_worst (x1 : Int32) (x2 : Int32) (σ : ox_S) : Option Int32 :=
  om_Mo_worst_h5 x1 x2 (-1 : Int32) (0 : Int32) σ
noncomputable def om_Mo_count_j51 (x1 : Int32) (x3 : Int32) (x4 : Int32) (y0 : Int32) (y1 : Int32) (σ : ox_S) : Option ((Int32 × Int32) ⊕ ((Int32 × Int32) ⊕ Int32)) :=
  if y0 = x1 then
    ox_let (y1 + (1 : Int32)) fun v8 =>
    ox_let (x4 + (1 : Int32)) fun v9 =>
    some (.inl (v8, v9))
  else
    ox_let (y1 + (0 : Int32)) fun v6 =>
    ox_let (x4 + (1 : Int32)) fun v7 =>
    some (.inl (v6, v7))
noncomputable def om_Mo_count_b17 (x1 : Int32) (x2 : Int32) (x3 : Int32) (x4 : Int32) (σ : ox_S) : Option ((Int32 × Int32) ⊕ ((Int32 × Int32) ⊕ Int32)) :=
  if (σ.1 1) ≤ x4 then
    ox_let (x3 + (1 : Int32)) fun v2 =>
    some (.inr (.inl (x2, v2)))
  else
    ox_ix (((8 : Int32) * x3) + x4) 64 fun j3 =>
    if (σ.2 10 j3) = 0 then
      ox_let (x2 + (0 : Int32)) fun v4 =>
      ox_let (x4 + (1 : Int32)) fun v5 =>
      some (.inl (v4, v5))
    else
      if x3 = 0 then
        om_Mo_count_j51 x1 x3 x4 (1 : Int32) x2 σ
      else
        om_Mo_count_j51 x1 x3 x4 (0 : Int32) x2 σ
noncomputable def om_Mo_count_h17 (x1 : Int32) (x2 : Int32) (x3 : Int32) (x4 : Int32) (σ : ox_S) : Option ((Int32 × Int32) ⊕ Int32) :=
  ox_w (fun t => om_Mo_count_b17 x1 t.1 x3 t.2 σ) (x2, x4)
noncomputable def om_Mo_count_b4 (x1 : Int32) (x2 : Int32) (x3 : Int32) (σ : ox_S) : Option ((Int32 × Int32) ⊕ Int32) :=
  if (σ.1 1) ≤ x3 then
    some (.inr x2)
  else
    ox_let (x3 + (1 : Int32)) fun v1 =>
    om_Mo_count_h17 x1 x2 x3 v1 σ
noncomputable def om_Mo_count_h4 (x1 : Int32) (x2 : Int32) (x3 : Int32) (σ : ox_S) : Option Int32 :=
  ox_w (fun t => om_Mo_count_b4 x1 t.1 t.2 σ) (x2, x3)
noncomputable def om_Mo_count (x1 : Int32) (σ : ox_S) : Option Int32 :=
  om_Mo_count_h4 x1 (0 : Int32) (0 : Int32) σ
noncomputable def om_Mo_joins_b163 (x4 : Int32) (x5 : Int32) (σ : ox_S) : Option ((Int32 × Int32) ⊕ (Int32 × ox_S)) :=
  if (σ.1 1) ≤ x5 then
    if x4 = ((σ.1 1) - (1 : Int32)) then
      some (.inr ((1 : Int32), σ))
    else
      some (.inr ((0 : Int32), σ))
  else
    ox_ix x5 8 fun j1 =>
    ox_let (x4 + (σ.2 12 j1)) fun v2 =>
    ox_let (x5 + (1 : Int32)) fun v3 =>
    some (.inl (v2, v3))
noncomputable def om_Mo_joins_h163 (x4 : Int32) (x5 : Int32) (σ : ox_S) : Option (Int32 × ox_S) :=
  ox_w (fun t => om_Mo_joins_b163 t.1 t.2 σ) (x4, x5)
noncomputable def om_Mo_joins_j100 (x1 : Int32) (x2 : Int32) (x3 : Int32) (x4 : Int32) (x5 : Int32) (y0 : Int32) (σ : ox_S) : Option ((Int32 × Int32 × ox_S) ⊕ ((Int32 × Int32 × ox_S) ⊕ ((Int32 × ox_S) ⊕ (Int32 × ox_S)))) :=
  if y0 = 0 then
    ox_let (x5 + (1 : Int32)) fun v7 =>
    some (.inl (x3, v7, σ))
  else
    ox_ix x4 8 fun j8 =>
    ox_ix x5 8 fun j9 =>
    if (σ.2 12 j8) = (σ.2 12 j9) then
      ox_let (x5 + (1 : Int32)) fun v10 =>
      some (.inl (x3, v10, σ))
    else
      ox_ix x4 8 fun j11 =>
      ox_let (ox_s2 σ 12 j11 (1 : Int32)) fun s12 =>
      ox_ix x5 8 fun j13 =>
      ox_let (ox_s2 s12 12 j13 (1 : Int32)) fun s14 =>
      ox_let (x5 + (1 : Int32)) fun v15 =>
      some (.inl ((1 : Int32), v15, s14))
noncomputable def om_Mo_joins_b58 (x1 : Int32) (x2 : Int32) (x3 : Int32) (x4 : Int32) (x5 : Int32) (σ : ox_S) : Option ((Int32 × Int32 × ox_S) ⊕ ((Int32 × Int32 × ox_S) ⊕ ((Int32 × ox_S) ⊕ (Int32 × ox_S)))) :=
  if (σ.1 1) ≤ x5 then
    ox_let (x4 + (1 : Int32)) fun v5 =>
    some (.inr (.inl (x3, v5, σ)))
  else
    ox_ix (((8 : Int32) * x4) + x5) 64 fun j6 =>
    if (σ.2 10 j6) = 0 then
      om_Mo_joins_j100 x1 x2 x3 x4 x5 (0 : Int32) σ
    else
      if x4 = x1 then
        if x5 = x2 then
          om_Mo_joins_j100 x1 x2 x3 x4 x5 (0 : Int32) σ
        else
          om_Mo_joins_j100 x1 x2 x3 x4 x5 (1 : Int32) σ
      else
        om_Mo_joins_j100 x1 x2 x3 x4 x5 (1 : Int32) σ
noncomputable def om_Mo_joins_h58 (x1 : Int32) (x2 : Int32) (x3 : Int32) (x4 : Int32) (x5 : Int32) (σ : ox_S) : Option ((Int32 × Int32 × ox_S) ⊕ ((Int32 × ox_S) ⊕ (Int32 × ox_S))) :=
  ox_w (fun t => om_Mo_joins_b58 x1 x2 t.1 x4 t.2.1 t.2.2) (x3, x5, σ)
noncomputable def om_Mo_joins_b43 (x1 : Int32) (x2 : Int32) (x3 : Int32) (x4 : Int32) (σ : ox_S) : Option ((Int32 × Int32 × ox_S) ⊕ ((Int32 × ox_S) ⊕ (Int32 × ox_S))) :=
  if (σ.1 1) ≤ x4 then
    some (.inr (.inl (x3, σ)))
  else
    ox_let (x4 + (1 : Int32)) fun v4 =>
    om_Mo_joins_h58 x1 x2 x3 x4 v4 σ
noncomputable def om_Mo_joins_h43 (x1 : Int32) (x2 : Int32) (x3 : Int32) (x4 : Int32) (σ : ox_S) : Option ((Int32 × ox_S) ⊕ (Int32 × ox_S)) :=
  ox_w (fun t => om_Mo_joins_b43 x1 x2 t.1 t.2.1 t.2.2) (x3, x4, σ)
noncomputable def om_Mo_joins_b34 (x1 : Int32) (x2 : Int32) (x3 : Int32) (σ : ox_S) : Option ((Int32 × ox_S) ⊕ (Int32 × ox_S)) :=
  if x3 = 0 then
    (om_Mo_joins_h163 (0 : Int32) (1 : Int32) σ).map (fun t => .inr t)
  else
    om_Mo_joins_h43 x1 x2 (0 : Int32) (1 : Int32) σ
noncomputable def om_Mo_joins_h34 (x1 : Int32) (x2 : Int32) (x3 : Int32) (σ : ox_S) : Option (Int32 × ox_S) :=
  ox_w (fun t => om_Mo_joins_b34 x1 x2 t.1 t.2) (x3, σ)
noncomputable def om_Mo_joins_b2 (x1 : Int32) (x2 : Int32) (x3 : Int32) (σ : ox_S) : Option ((Int32 × ox_S) ⊕ (Int32 × ox_S)) :=
  if (σ.1 1) ≤ x3 then
    (om_Mo_joins_h34 x1 x2 (1 : Int32) σ).map (fun t => .inr t)
  else
    if x3 = (1 : Int32) then
      ox_ix x3 8 fun j19 =>
      ox_let (ox_s2 σ 12 j19 (1 : Int32)) fun s20 =>
      ox_let (x3 + (1 : Int32)) fun v21 =>
      some (.inl (v21, s20))
    else
      ox_ix x3 8 fun j16 =>
      ox_let (ox_s2 σ 12 j16 (0 : Int32)) fun s17 =>
      ox_let (x3 + (1 : Int32)) fun v18 =>
      some (.inl (v18, s17))
noncomputable def om_Mo_joins_h2 (x1 : Int32) (x2 : Int32) (x3 : Int32) (σ : ox_S) : Option (Int32 × ox_S) :=
  ox_w (fun t => om_Mo_joins_b2 x1 x2 t.1 t.2) (x3, σ)
noncomputable def om_Mo_joins (x1 : Int32) (x2 : Int32) (σ : ox_S) : Option (Int32 × ox_S) :=
  om_Mo_joins_h2 x1 x2 (0 : Int32) σ
noncomputable def om_Mo_tree_b138 (x2 : Int32) (σ : ox_S) : Option ((Int32 × ox_S) ⊕ (Int32 × ox_S)) :=
  if x2 < 0 then
    (om_Mo_count (0 : Int32) σ).bind fun r7 =>
    if r7 = ((σ.1 1) - (2 : Int32)) then
      some (.inr ((1 : Int32), σ))
    else
      some (.inr ((0 : Int32), σ))
  else
    ox_b2 (om_Mo_joins (x2 / (8 : Int32)) (x2 - x2 / (8 : Int32) * (8 : Int32)) σ) fun r8 s9 =>
    if r8 = 0 then
      (om_Mo_worst (0 : Int32) x2 s9).bind fun r10 =>
      some (.inl (r10, s9))
    else
      ox_ix x2 64 fun j11 =>
      ox_let (ox_s2 s9 10 j11 (0 : Int32)) fun s12 =>
      (om_Mo_worst (0 : Int32) x2 s12).bind fun r13 =>
      some (.inl (r13, s12))
noncomputable def om_Mo_tree_h138 (x2 : Int32) (σ : ox_S) : Option (Int32 × ox_S) :=
  ox_w (fun t => om_Mo_tree_b138 t.1 t.2) (x2, σ)
noncomputable def om_Mo_tree_j111  (σ : ox_S) : Option (Int32 × ox_S) :=
  (om_Mo_count (1 : Int32) σ).bind fun r3 =>
  if r3 = (2 : Int32) then
    ox_b2 (om_Mo_joins (-1 : Int32) (-1 : Int32) σ) fun r4 s5 =>
    if r4 = 0 then
      some ((0 : Int32), s5)
    else
      (om_Mo_worst (0 : Int32) (-1 : Int32) s5).bind fun r6 =>
      om_Mo_tree_h138 r6 s5
  else
    some ((0 : Int32), σ)
noncomputable def om_Mo_tree_b81 (x1 : Int32) (σ : ox_S) : Option ((Int32 × ox_S) ⊕ (Int32 × ox_S)) :=
  (om_Mo_count (1 : Int32) σ).bind fun r2 =>
  if r2 ≤ (2 : Int32) then
    (om_Mo_tree_j111 σ).map (fun t => .inr t)
  else
    if x1 < 0 then
      (om_Mo_tree_j111 σ).map (fun t => .inr t)
    else
      ox_ix x1 64 fun j14 =>
      ox_let (ox_s2 σ 10 j14 (0 : Int32)) fun s15 =>
      (om_Mo_worst (1 : Int32) (-1 : Int32) s15).bind fun r16 =>
      some (.inl (r16, s15))
noncomputable def om_Mo_tree_h81 (x1 : Int32) (σ : ox_S) : Option (Int32 × ox_S) :=
  ox_w (fun t => om_Mo_tree_b81 t.1 t.2) (x1, σ)
noncomputable def om_Mo_tree_b23 (x1 : Int32) (x2 : Int32) (σ : ox_S) : Option ((Int32 × ox_S) ⊕ ((Int32 × ox_S) ⊕ (Int32 × ox_S))) :=
  if (σ.1 1) ≤ x2 then
    ox_let (x1 + (1 : Int32)) fun v18 =>
    some (.inr (.inl (v18, σ)))
  else
    ox_ix (((8 : Int32) * x1) + x2) 64 fun j19 =>
    if (σ.2 11 j19) = (2 : Int32) then
      ox_ix (((8 : Int32) * x1) + x2) 64 fun j20 =>
      ox_let (ox_s2 σ 10 j20 (0 : Int32)) fun s21 =>
      ox_let (x2 + (1 : Int32)) fun v22 =>
      some (.inl (v22, s21))
    else
      ox_ix (((8 : Int32) * x1) + x2) 64 fun j23 =>
      ox_let (ox_s2 σ 10 j23 (1 : Int32)) fun s24 =>
      ox_let (x2 + (1 : Int32)) fun v25 =>
      some (.inl (v25, s24))
noncomputable def om_Mo_tree_h23 (x1 : Int32) (x2 : Int32) (σ : ox_S) : Option ((Int32 × ox_S) ⊕ (Int32 × ox_S)) :=
  ox_w (fun t => om_Mo_tree_b23 x1 t.1 t.2) (x2, σ)
noncomputable def om_Mo_tree_b11 (x1 : Int32) (σ : ox_S) : Option ((Int32 × ox_S) ⊕ (Int32 × ox_S)) :=
  if (σ.1 1) ≤ x1 then
    (om_Mo_worst (1 : Int32) (-1 : Int32) σ).bind fun r1 =>
    (om_Mo_tree_h81 r1 σ).map (fun t => .inr t)
  else
    ox_let (x1 + (1 : Int32)) fun v17 =>
    om_Mo_tree_h23 x1 v17 σ
noncomputable def om_Mo_tree_h11 (x1 : Int32) (σ : ox_S) : Option (Int32 × ox_S) :=
  ox_w (fun t => om_Mo_tree_b11 t.1 t.2) (x1, σ)
noncomputable def om_Mo_tree  (σ : ox_S) : Option (Int32 × ox_S) :=
  if (σ.1 1) = 0 then
    some ((0 : Int32), σ)
  else
    om_Mo_tree_h11 (0 : Int32) σ
noncomputable def om_Mo_boundNow_b37 (x1 : Int32) (x2 : Int32) (x3 : Int32) (σ : ox_S) : Option ((Int32 × Int32) ⊕ ((Int32 × Int32) ⊕ (Int32 × ox_S))) :=
  if (σ.1 1) ≤ x3 then
    ox_let (x2 + (1 : Int32)) fun v6 =>
    some (.inr (.inl (x1, v6)))
  else
    ox_ix (((8 : Int32) * x2) + x3) 64 fun j7 =>
    if (σ.2 10 j7) = 0 then
      ox_let (x1 + (0 : Int32)) fun v8 =>
      ox_let (x3 + (1 : Int32)) fun v9 =>
      some (.inl (v8, v9))
    else
      (om_Mo_weight x2 x3 σ).bind fun r10 =>
      ox_let (x1 + r10) fun v11 =>
      ox_let (x3 + (1 : Int32)) fun v12 =>
      some (.inl (v11, v12))
noncomputable def om_Mo_boundNow_h37 (x1 : Int32) (x2 : Int32) (x3 : Int32) (σ : ox_S) : Option ((Int32 × Int32) ⊕ (Int32 × ox_S)) :=
  ox_w (fun t => om_Mo_boundNow_b37 t.1 x2 t.2 σ) (x1, x3)
noncomputable def om_Mo_boundNow_b14 (x1 : Int32) (x2 : Int32) (σ : ox_S) : Option ((Int32 × Int32) ⊕ (Int32 × ox_S)) :=
  if (σ.1 1) ≤ x2 then
    some (.inr (x1, σ))
  else
    ox_ix x2 8 fun j3 =>
    ox_let (x1 - ((2 : Int32) * (σ.2 3 j3))) fun v4 =>
    ox_let (x2 + (1 : Int32)) fun v5 =>
    om_Mo_boundNow_h37 v4 x2 v5 σ
noncomputable def om_Mo_boundNow_h14 (x1 : Int32) (x2 : Int32) (σ : ox_S) : Option (Int32 × ox_S) :=
  ox_w (fun t => om_Mo_boundNow_b14 t.1 t.2 σ) (x1, x2)
noncomputable def om_Mo_boundNow  (σ : ox_S) : Option (Int32 × ox_S) :=
  ox_b2 (om_Mo_tree σ) fun r1 s2 =>
  if r1 = 0 then
    some ((-2000000 : Int32), s2)
  else
    om_Mo_boundNow_h14 (0 : Int32) (0 : Int32) s2
noncomputable def om_Mo_bound  (σ : ox_S) : Option (Int32 × ox_S) :=
  (om_Mo_ownRules σ).bind fun s1 =>
  ox_b2 (om_Mo_boundNow s1) fun r2 s3 =>
  some (r2, s3)
noncomputable def om_Mo_meeting_j32 (x1 : Int32) (x3 : Int32) (y0 : Int32) (σ : ox_S) : Option ((Int32 × Int32) ⊕ Int32) :=
  if x3 ≤ x1 then
    ox_let (y0 + (0 : Int32)) fun v1 =>
    ox_let (x3 + (1 : Int32)) fun v2 =>
    some (.inl (v1, v2))
  else
    ox_ix (((8 : Int32) * x1) + x3) 64 fun j3 =>
    if (σ.2 10 j3) = 0 then
      ox_let (y0 + (0 : Int32)) fun v4 =>
      ox_let (x3 + (1 : Int32)) fun v5 =>
      some (.inl (v4, v5))
    else
      ox_let (y0 + (1 : Int32)) fun v6 =>
      ox_let (x3 + (1 : Int32)) fun v7 =>
      some (.inl (v6, v7))
noncomputable def om_Mo_meeting_b4 (x1 : Int32) (x2 : Int32) (x3 : Int32) (σ : ox_S) : Option ((Int32 × Int32) ⊕ Int32) :=
  if (σ.1 1) ≤ x3 then
    some (.inr x2)
  else
    if x1 ≤ x3 then
      om_Mo_meeting_j32 x1 x3 x2 σ
    else
      ox_ix (((8 : Int32) * x3) + x1) 64 fun j8 =>
      if (σ.2 10 j8) = 0 then
        om_Mo_meeting_j32 x1 x3 x2 σ
      else
        ox_let (x2 + (1 : Int32)) fun v9 =>
        ox_let (x3 + (1 : Int32)) fun v10 =>
        some (.inl (v9, v10))
noncomputable def om_Mo_meeting_h4 (x1 : Int32) (x2 : Int32) (x3 : Int32) (σ : ox_S) : Option Int32 :=
  ox_w (fun t => om_Mo_meeting_b4 x1 t.1 t.2 σ) (x2, x3)
noncomputable def om_Mo_meeting (x1 : Int32) (σ : ox_S) : Option Int32 :=
  om_Mo_meeting_h4 x1 (0 : Int32) (0 : Int32) σ
noncomputable def om_Mo_degree (x1 : Int32) (σ : ox_S) : Option (Int32 × ox_S) :=
  (om_Mo_ownRules σ).bind fun s1 =>
  (om_Mo_city x1 s1).bind fun r2 =>
  if r2 = 0 then
    some ((-1 : Int32), s1)
  else
    ox_b2 (om_Mo_tree s1) fun r3 s4 =>
    if r3 = 0 then
      some ((-1 : Int32), s4)
    else
      (om_Mo_meeting x1 s4).bind fun r5 =>
      some (r5, s4)
noncomputable def om_Mo_ascend_b74 (x1 : Int32) (x2 : Int32) (σ : ox_S) : Option ((Int32 × ox_S) ⊕ (Int32 × ox_S)) :=
  if (σ.1 1) ≤ x2 then
    ox_b2 (om_Mo_boundNow σ) fun r4 s5 =>
    some (.inr (r4, s5))
  else
    ox_ix x2 8 fun j6 =>
    (om_Mo_meeting x2 σ).bind fun r7 =>
    ox_ix x2 8 fun j8 =>
    ox_let (ox_s2 σ 3 j8 ((σ.2 3 j6) + (x1 * (r7 - (2 : Int32))))) fun s9 =>
    ox_let (x2 + (1 : Int32)) fun v10 =>
    some (.inl (v10, s9))
noncomputable def om_Mo_ascend_h74 (x1 : Int32) (x2 : Int32) (σ : ox_S) : Option (Int32 × ox_S) :=
  ox_w (fun t => om_Mo_ascend_b74 x1 t.1 t.2) (x2, σ)
noncomputable def om_Mo_ascend_b27 (x1 : Int32) (x2 : Int32) (σ : ox_S) : Option (Int32 ⊕ (Int32 × ox_S)) :=
  if (σ.1 1) ≤ x2 then
    (om_Mo_ascend_h74 x1 (0 : Int32) σ).map (fun t => .inr t)
  else
    ox_ix x2 8 fun j11 =>
    (om_Mo_meeting x2 σ).bind fun r12 =>
    ox_let ((σ.2 3 j11) + (x1 * (r12 - (2 : Int32)))) fun v13 =>
    if v13 < (-100000 : Int32) then
      some (.inr ((-1 : Int32), σ))
    else
      if v13 ≤ (100000 : Int32) then
        ox_let (x2 + (1 : Int32)) fun v14 =>
        some (.inl v14)
      else
        some (.inr ((-1 : Int32), σ))
noncomputable def om_Mo_ascend_h27 (x1 : Int32) (x2 : Int32) (σ : ox_S) : Option (Int32 × ox_S) :=
  ox_w (fun t => om_Mo_ascend_b27 x1 t σ) x2
noncomputable def om_Mo_ascend (x1 : Int32) (σ : ox_S) : Option (Int32 × ox_S) :=
  (om_Mo_ownRules σ).bind fun s1 =>
  if x1 < (1 : Int32) then
    some ((-1 : Int32), s1)
  else
    if (1000 : Int32) < x1 then
      some ((-1 : Int32), s1)
    else
      ox_b2 (om_Mo_tree s1) fun r2 s3 =>
      if r2 = 0 then
        some ((-1 : Int32), s3)
      else
        om_Mo_ascend_h27 x1 (0 : Int32) s3
noncomputable def om_Mo_firstTour_b2 (x1 : Int32) (σ : ox_S) : Option ((Int32 × ox_S) ⊕ ox_S) :=
  if (σ.1 1) ≤ x1 then
    some (.inr σ)
  else
    ox_ix x1 8 fun j1 =>
    ox_let (ox_s2 σ 13 j1 x1) fun s2 =>
    ox_let (x1 + (1 : Int32)) fun v3 =>
    some (.inl (v3, s2))
noncomputable def om_Mo_firstTour_h2 (x1 : Int32) (σ : ox_S) : Option ox_S :=
  ox_w (fun t => om_Mo_firstTour_b2 t.1 t.2) (x1, σ)
noncomputable def om_Mo_firstTour  (σ : ox_S) : Option ox_S :=
  om_Mo_firstTour_h2 (0 : Int32) σ
noncomputable def om_Mo_next (x1 : Int32) (σ : ox_S) : Option Int32 :=
  if (x1 + (1 : Int32)) = (σ.1 1) then
    ox_ix (0 : Int32) 8 fun j2 =>
    some (σ.2 13 j2)
  else
    ox_ix (x1 + (1 : Int32)) 8 fun j1 =>
    some (σ.2 13 j1)
noncomputable def om_Mo_has_j43 (x1 : Int32) (x2 : Int32) (x4 : Int32) (x5 : Int32) (σ : ox_S) : Option ((Int32 × Int32) ⊕ Int32) :=
  ox_ix x4 8 fun j4 =>
  if (σ.2 13 j4) = x2 then
    if x5 = x1 then
      ox_let (x4 + (1 : Int32)) fun v7 =>
      some (.inl ((1 : Int32), v7))
    else
      ox_let (x4 + (1 : Int32)) fun v6 =>
      some (.inl ((0 : Int32), v6))
  else
    ox_let (x4 + (1 : Int32)) fun v5 =>
    some (.inl ((0 : Int32), v5))
noncomputable def om_Mo_has_b5 (x1 : Int32) (x2 : Int32) (x3 : Int32) (x4 : Int32) (σ : ox_S) : Option ((Int32 × Int32) ⊕ Int32) :=
  if (σ.1 1) ≤ x4 then
    ox_z x3 <|
    some (.inr x3)
  else
    (om_Mo_next x4 σ).bind fun r1 =>
    if x3 = 0 then
      ox_ix x4 8 fun j3 =>
      if (σ.2 13 j3) = x1 then
        if r1 = x2 then
          ox_let (x4 + (1 : Int32)) fun v8 =>
          some (.inl ((1 : Int32), v8))
        else
          om_Mo_has_j43 x1 x2 x4 r1 σ
      else
        om_Mo_has_j43 x1 x2 x4 r1 σ
    else
      ox_let (x4 + (1 : Int32)) fun v2 =>
      some (.inl ((1 : Int32), v2))
noncomputable def om_Mo_has_h5 (x1 : Int32) (x2 : Int32) (x3 : Int32) (x4 : Int32) (σ : ox_S) : Option Int32 :=
  ox_w (fun t => om_Mo_has_b5 x1 x2 t.1 t.2 σ) (x3, x4)
noncomputable def om_Mo_has (x1 : Int32) (x2 : Int32) (σ : ox_S) : Option Int32 :=
  om_Mo_has_h5 x1 x2 (0 : Int32) (0 : Int32) σ
noncomputable def om_Mo_allowed_b44 (x1 : Int32) (x2 : Int32) (x3 : Int32) (σ : ox_S) : Option ((Int32 × Int32) ⊕ ((Int32 × Int32) ⊕ Int32)) :=
  if (σ.1 1) ≤ x3 then
    ox_let (x2 + (1 : Int32)) fun v4 =>
    some (.inr (.inl (x1, v4)))
  else
    if x1 = 0 then
      ox_let (x2 + (1 : Int32)) fun v5 =>
      some (.inr (.inl (x1, v5)))
    else
      (om_Mo_has x2 x3 σ).bind fun r6 =>
      ox_ix (((8 : Int32) * x2) + x3) 64 fun j7 =>
      if (σ.2 2 j7) = 0 then
        ox_let (x3 + (1 : Int32)) fun v8 =>
        some (.inl ((1 : Int32), v8))
      else
        ox_ix (((8 : Int32) * x2) + x3) 64 fun j9 =>
        if (σ.2 2 j9) = (1 : Int32) then
          if (1 : Int32) = r6 then
            ox_let (x3 + (1 : Int32)) fun v13 =>
            some (.inl ((1 : Int32), v13))
          else
            ox_let (x3 + (1 : Int32)) fun v12 =>
            some (.inl ((0 : Int32), v12))
        else
          if (0 : Int32) = r6 then
            ox_let (x3 + (1 : Int32)) fun v11 =>
            some (.inl ((1 : Int32), v11))
          else
            ox_let (x3 + (1 : Int32)) fun v10 =>
            some (.inl ((0 : Int32), v10))
noncomputable def om_Mo_allowed_h44 (x1 : Int32) (x2 : Int32) (x3 : Int32) (σ : ox_S) : Option ((Int32 × Int32) ⊕ Int32) :=
  ox_w (fun t => om_Mo_allowed_b44 t.1 x2 t.2 σ) (x1, x3)
noncomputable def om_Mo_allowed_b28 (x1 : Int32) (x2 : Int32) (σ : ox_S) : Option ((Int32 × Int32) ⊕ Int32) :=
  if (σ.1 1) ≤ x2 then
    ox_z x1 <|
    some (.inr x1)
  else
    if x1 = 0 then
      ox_z x1 <|
      some (.inr x1)
    else
      ox_let (x2 + (1 : Int32)) fun v3 =>
      om_Mo_allowed_h44 x1 x2 v3 σ
noncomputable def om_Mo_allowed_h28 (x1 : Int32) (x2 : Int32) (σ : ox_S) : Option Int32 :=
  ox_w (fun t => om_Mo_allowed_b28 t.1 t.2 σ) (x1, x2)
noncomputable def om_Mo_allowed  (σ : ox_S) : Option Int32 :=
  ox_ix (1 : Int32) 8 fun j1 =>
  ox_ix ((σ.1 1) - (1 : Int32)) 8 fun j2 =>
  if (σ.2 13 j2) ≤ (σ.2 13 j1) then
    om_Mo_allowed_h28 (0 : Int32) (0 : Int32) σ
  else
    om_Mo_allowed_h28 (1 : Int32) (0 : Int32) σ
noncomputable def om_Mo_turn_b2 (x1 : Int32) (x2 : Int32) (x3 : Int32) (σ : ox_S) : Option ((Int32 × ox_S) ⊕ ox_S) :=
  if (x1 + x2) ≤ ((2 : Int32) * x3) then
    some (.inr σ)
  else
    ox_let ((x1 + x2) - x3) fun v1 =>
    ox_ix x3 8 fun j2 =>
    ox_let (σ.2 13 j2) fun v3 =>
    ox_ix v1 8 fun j4 =>
    ox_ix x3 8 fun j5 =>
    ox_let (ox_s2 σ 13 j5 (σ.2 13 j4)) fun s6 =>
    ox_ix v1 8 fun j7 =>
    ox_let (ox_s2 s6 13 j7 v3) fun s8 =>
    ox_let (x3 + (1 : Int32)) fun v9 =>
    some (.inl (v9, s8))
noncomputable def om_Mo_turn_h2 (x1 : Int32) (x2 : Int32) (x3 : Int32) (σ : ox_S) : Option ox_S :=
  ox_w (fun t => om_Mo_turn_b2 x1 x2 t.1 t.2) (x3, σ)
noncomputable def om_Mo_turn (x1 : Int32) (x2 : Int32) (σ : ox_S) : Option ox_S :=
  om_Mo_turn_h2 x1 x2 x1 σ
noncomputable def om_Mo_nextTour_b47 (x1 : Int32) (x2 : Int32) (σ : ox_S) : Option (Int32 ⊕ (Int32 × ox_S)) :=
  ox_ix x2 8 fun j3 =>
  ox_ix x1 8 fun j4 =>
  if (σ.2 13 j4) ≤ (σ.2 13 j3) then
    ox_ix x1 8 fun j5 =>
    ox_let (σ.2 13 j5) fun v6 =>
    ox_ix x2 8 fun j7 =>
    ox_ix x1 8 fun j8 =>
    ox_let (ox_s2 σ 13 j8 (σ.2 13 j7)) fun s9 =>
    ox_ix x2 8 fun j10 =>
    ox_let (ox_s2 s9 13 j10 v6) fun s11 =>
    (om_Mo_turn (x1 + (1 : Int32)) ((s11.1 1) - (1 : Int32)) s11).bind fun s12 =>
    some (.inr ((1 : Int32), s12))
  else
    ox_let (x2 + (-1 : Int32)) fun v13 =>
    some (.inl v13)
noncomputable def om_Mo_nextTour_h47 (x1 : Int32) (x2 : Int32) (σ : ox_S) : Option (Int32 × ox_S) :=
  ox_w (fun t => om_Mo_nextTour_b47 x1 t σ) x2
noncomputable def om_Mo_nextTour_b7 (x1 : Int32) (σ : ox_S) : Option (Int32 ⊕ (Int32 × ox_S)) :=
  if x1 ≤ 0 then
    if 0 < x1 then
      ox_let ((σ.1 1) - (1 : Int32)) fun v2 =>
      (om_Mo_nextTour_h47 x1 v2 σ).map (fun t => .inr t)
    else
      some (.inr ((0 : Int32), σ))
  else
    ox_ix x1 8 fun j14 =>
    ox_ix (x1 + (1 : Int32)) 8 fun j15 =>
    if (σ.2 13 j14) ≤ (σ.2 13 j15) then
      if 0 < x1 then
        ox_let ((σ.1 1) - (1 : Int32)) fun v16 =>
        (om_Mo_nextTour_h47 x1 v16 σ).map (fun t => .inr t)
      else
        some (.inr ((0 : Int32), σ))
    else
      ox_let (x1 + (-1 : Int32)) fun v17 =>
      some (.inl v17)
noncomputable def om_Mo_nextTour_h7 (x1 : Int32) (σ : ox_S) : Option (Int32 × ox_S) :=
  ox_w (fun t => om_Mo_nextTour_b7 t σ) x1
noncomputable def om_Mo_nextTour  (σ : ox_S) : Option (Int32 × ox_S) :=
  ox_let ((σ.1 1) - (2 : Int32)) fun v1 =>
  om_Mo_nextTour_h7 v1 σ
noncomputable def om_Mo_length_b4 (x1 : Int32) (x2 : Int32) (σ : ox_S) : Option ((Int32 × Int32) ⊕ Int32) :=
  if (σ.1 1) ≤ x2 then
    some (.inr x1)
  else
    (om_Mo_next x2 σ).bind fun r1 =>
    ox_ix x2 8 fun j2 =>
    ox_ix (((8 : Int32) * (σ.2 13 j2)) + r1) 64 fun j3 =>
    ox_let (x1 + (σ.2 1 j3)) fun v4 =>
    ox_let (x2 + (1 : Int32)) fun v5 =>
    some (.inl (v4, v5))
noncomputable def om_Mo_length_h4 (x1 : Int32) (x2 : Int32) (σ : ox_S) : Option Int32 :=
  ox_w (fun t => om_Mo_length_b4 t.1 t.2 σ) (x1, x2)
noncomputable def om_Mo_length  (σ : ox_S) : Option Int32 :=
  om_Mo_length_h4 (0 : Int32) (0 : Int32) σ
noncomputable def om_Mo_keep_b2 (x1 : Int32) (σ : ox_S) : Option ((Int32 × ox_S) ⊕ ox_S) :=
  if (σ.1 1) ≤ x1 then
    ox_let (ox_s1 σ 2 (1 : Int32)) fun s1 =>
    some (.inr s1)
  else
    ox_ix x1 8 fun j2 =>
    ox_ix x1 8 fun j3 =>
    ox_let (ox_s2 σ 4 j3 (σ.2 13 j2)) fun s4 =>
    ox_let (x1 + (1 : Int32)) fun v5 =>
    some (.inl (v5, s4))
noncomputable def om_Mo_keep_h2 (x1 : Int32) (σ : ox_S) : Option ox_S :=
  ox_w (fun t => om_Mo_keep_b2 t.1 t.2) (x1, σ)
noncomputable def om_Mo_keep  (σ : ox_S) : Option ox_S :=
  om_Mo_keep_h2 (0 : Int32) σ
noncomputable def om_Mo_solve_b19 (x1 : Int32) (x2 : Int32) (σ : ox_S) : Option ((Int32 × Int32 × ox_S) ⊕ (Int32 × ox_S)) :=
  if x2 = 0 then
    if 0 ≤ x1 then
      some (.inr (x1, σ))
    else
      some (.inr ((-2000000 : Int32), σ))
  else
    (om_Mo_allowed σ).bind fun r2 =>
    if r2 = 0 then
      ox_b2 (om_Mo_nextTour σ) fun r3 s4 =>
      some (.inl (x1, r3, s4))
    else
      (om_Mo_length σ).bind fun r5 =>
      if x1 < 0 then
        (om_Mo_keep σ).bind fun s6 =>
        ox_b2 (om_Mo_nextTour s6) fun r7 s8 =>
        some (.inl (r5, r7, s8))
      else
        if x1 ≤ r5 then
          ox_b2 (om_Mo_nextTour σ) fun r9 s10 =>
          some (.inl (x1, r9, s10))
        else
          (om_Mo_keep σ).bind fun s11 =>
          ox_b2 (om_Mo_nextTour s11) fun r12 s13 =>
          some (.inl (r5, r12, s13))
noncomputable def om_Mo_solve_h19 (x1 : Int32) (x2 : Int32) (σ : ox_S) : Option (Int32 × ox_S) :=
  ox_w (fun t => om_Mo_solve_b19 t.1 t.2.1 t.2.2) (x1, x2, σ)
noncomputable def om_Mo_solve  (σ : ox_S) : Option (Int32 × ox_S) :=
  if (σ.1 1) ≤ 0 then
    (om_Mo_firstTour σ).bind fun s1 =>
    om_Mo_solve_h19 (-1 : Int32) (0 : Int32) s1
  else
    (om_Mo_firstTour σ).bind fun s14 =>
    om_Mo_solve_h19 (-1 : Int32) (1 : Int32) s14
noncomputable def om_Mo_ties_j65 (x1 : Int32) (x4 : Int32) (y0 : Int32) (σ : ox_S) : Option ((Int32 × Int32 × Int32 × ox_S) ⊕ (Int32 × ox_S)) :=
  if x1 < 0 then
    ox_b2 (om_Mo_nextTour σ) fun r6 s7 =>
    some (.inl (x4, y0, r6, s7))
  else
    if x1 ≤ x4 then
      ox_b2 (om_Mo_nextTour σ) fun r8 s9 =>
      some (.inl (x1, y0, r8, s9))
    else
      ox_b2 (om_Mo_nextTour σ) fun r10 s11 =>
      some (.inl (x4, y0, r10, s11))
noncomputable def om_Mo_ties_b21 (x1 : Int32) (x2 : Int32) (x3 : Int32) (σ : ox_S) : Option ((Int32 × Int32 × Int32 × ox_S) ⊕ (Int32 × ox_S)) :=
  if x3 = 0 then
    some (.inr (x2, σ))
  else
    (om_Mo_allowed σ).bind fun r2 =>
    if r2 = 0 then
      ox_b2 (om_Mo_nextTour σ) fun r3 s4 =>
      some (.inl (x1, x2, r3, s4))
    else
      (om_Mo_length σ).bind fun r5 =>
      if x1 < 0 then
        om_Mo_ties_j65 x1 r5 (1 : Int32) σ
      else
        if x1 ≤ r5 then
          if r5 = x1 then
            om_Mo_ties_j65 x1 r5 (x2 + (1 : Int32)) σ
          else
            om_Mo_ties_j65 x1 r5 x2 σ
        else
          om_Mo_ties_j65 x1 r5 (1 : Int32) σ
noncomputable def om_Mo_ties_h21 (x1 : Int32) (x2 : Int32) (x3 : Int32) (σ : ox_S) : Option (Int32 × ox_S) :=
  ox_w (fun t => om_Mo_ties_b21 t.1 t.2.1 t.2.2.1 t.2.2.2) (x1, x2, x3, σ)
noncomputable def om_Mo_ties  (σ : ox_S) : Option (Int32 × ox_S) :=
  if (σ.1 1) ≤ 0 then
    (om_Mo_firstTour σ).bind fun s1 =>
    om_Mo_ties_h21 (-1 : Int32) (0 : Int32) (0 : Int32) s1
  else
    (om_Mo_firstTour σ).bind fun s12 =>
    om_Mo_ties_h21 (-1 : Int32) (0 : Int32) (1 : Int32) s12
noncomputable def om_Mo_nearest_b35 (x1 : Int32) (x2 : Int32) (x3 : Int32) (x4 : Int32) (x5 : Int32) (σ : ox_S) : Option ((Int32 × Int32) ⊕ ((Int32 × Int32) ⊕ ((Int32 × ox_S) ⊕ ox_S))) :=
  if x1 ≤ x5 then
    ox_ix (x1 - (1 : Int32)) 8 fun j6 =>
    ox_let (σ.2 13 j6) fun v7 =>
    if x4 = 0 then
      if x2 < 0 then
        ox_let (x3 + (1 : Int32)) fun v9 =>
        some (.inr (.inl (x3, v9)))
      else
        ox_ix (((8 : Int32) * v7) + x3) 64 fun j10 =>
        ox_ix (((8 : Int32) * v7) + x2) 64 fun j11 =>
        if (σ.2 1 j11) ≤ (σ.2 1 j10) then
          ox_let (x3 + (1 : Int32)) fun v12 =>
          some (.inr (.inl (x2, v12)))
        else
          ox_let (x3 + (1 : Int32)) fun v13 =>
          some (.inr (.inl (x3, v13)))
    else
      ox_let (x3 + (1 : Int32)) fun v8 =>
      some (.inr (.inl (x2, v8)))
  else
    if x4 = 0 then
      ox_ix x5 8 fun j15 =>
      if (σ.2 13 j15) = x3 then
        ox_let (x5 + (1 : Int32)) fun v17 =>
        some (.inl ((1 : Int32), v17))
      else
        ox_let (x5 + (1 : Int32)) fun v16 =>
        some (.inl ((0 : Int32), v16))
    else
      ox_let (x5 + (1 : Int32)) fun v14 =>
      some (.inl ((1 : Int32), v14))
noncomputable def om_Mo_nearest_h35 (x1 : Int32) (x2 : Int32) (x3 : Int32) (x4 : Int32) (x5 : Int32) (σ : ox_S) : Option ((Int32 × Int32) ⊕ ((Int32 × ox_S) ⊕ ox_S)) :=
  ox_w (fun t => om_Mo_nearest_b35 x1 x2 x3 t.1 t.2 σ) (x4, x5)
noncomputable def om_Mo_nearest_b21 (x1 : Int32) (x2 : Int32) (x3 : Int32) (σ : ox_S) : Option ((Int32 × Int32) ⊕ ((Int32 × ox_S) ⊕ ox_S)) :=
  if (σ.1 1) ≤ x3 then
    ox_ix x1 8 fun j3 =>
    ox_let (ox_s2 σ 13 j3 x2) fun s4 =>
    ox_let (x1 + (1 : Int32)) fun v5 =>
    some (.inr (.inl (v5, s4)))
  else
    om_Mo_nearest_h35 x1 x2 x3 (0 : Int32) (0 : Int32) σ
noncomputable def om_Mo_nearest_h21 (x1 : Int32) (x2 : Int32) (x3 : Int32) (σ : ox_S) : Option ((Int32 × ox_S) ⊕ ox_S) :=
  ox_w (fun t => om_Mo_nearest_b21 x1 t.1 t.2 σ) (x2, x3)
noncomputable def om_Mo_nearest_b9 (x1 : Int32) (σ : ox_S) : Option ((Int32 × ox_S) ⊕ ox_S) :=
  if (σ.1 1) ≤ x1 then
    some (.inr σ)
  else
    om_Mo_nearest_h21 x1 (-1 : Int32) (1 : Int32) σ
noncomputable def om_Mo_nearest_h9 (x1 : Int32) (σ : ox_S) : Option ox_S :=
  ox_w (fun t => om_Mo_nearest_b9 t.1 t.2) (x1, σ)
noncomputable def om_Mo_nearest  (σ : ox_S) : Option ox_S :=
  ox_ix (0 : Int32) 8 fun j1 =>
  ox_let (ox_s2 σ 13 j1 (0 : Int32)) fun s2 =>
  om_Mo_nearest_h9 (1 : Int32) s2
noncomputable def om_Mo_better_b19 (x1 : Int32) (x2 : Int32) (x3 : Int32) (σ : ox_S) : Option ((Int32 × ox_S) ⊕ ((Int32 × ox_S) ⊕ (Int32 × ox_S))) :=
  if (σ.1 1) ≤ x3 then
    ox_let (x2 + (1 : Int32)) fun v3 =>
    some (.inr (.inl (v3, σ)))
  else
    (om_Mo_turn x2 x3 σ).bind fun s4 =>
    (om_Mo_length s4).bind fun r5 =>
    if x1 ≤ r5 then
      (om_Mo_turn x2 x3 s4).bind fun s6 =>
      ox_let (x3 + (1 : Int32)) fun v7 =>
      some (.inl (v7, s6))
    else
      some (.inr (.inr ((1 : Int32), s4)))
noncomputable def om_Mo_better_h19 (x1 : Int32) (x2 : Int32) (x3 : Int32) (σ : ox_S) : Option ((Int32 × ox_S) ⊕ (Int32 × ox_S)) :=
  ox_w (fun t => om_Mo_better_b19 x1 x2 t.1 t.2) (x3, σ)
noncomputable def om_Mo_better_b7 (x1 : Int32) (x2 : Int32) (σ : ox_S) : Option ((Int32 × ox_S) ⊕ (Int32 × ox_S)) :=
  if (σ.1 1) ≤ x2 then
    some (.inr ((0 : Int32), σ))
  else
    ox_let (x2 + (1 : Int32)) fun v2 =>
    om_Mo_better_h19 x1 x2 v2 σ
noncomputable def om_Mo_better_h7 (x1 : Int32) (x2 : Int32) (σ : ox_S) : Option (Int32 × ox_S) :=
  ox_w (fun t => om_Mo_better_b7 x1 t.1 t.2) (x2, σ)
noncomputable def om_Mo_better  (σ : ox_S) : Option (Int32 × ox_S) :=
  (om_Mo_length σ).bind fun r1 =>
  om_Mo_better_h7 r1 (1 : Int32) σ
noncomputable def om_Mo_improve_b16 (x1 : Int32) (σ : ox_S) : Option ((Int32 × ox_S) ⊕ (Int32 × ox_S)) :=
  if x1 = 0 then
    ox_ix (1 : Int32) 8 fun j2 =>
    ox_ix ((σ.1 1) - (1 : Int32)) 8 fun j3 =>
    if (σ.2 13 j2) ≤ (σ.2 13 j3) then
      (om_Mo_keep σ).bind fun s4 =>
      (om_Mo_length s4).bind fun r5 =>
      some (.inr (r5, s4))
    else
      (om_Mo_turn (1 : Int32) ((σ.1 1) - (1 : Int32)) σ).bind fun s6 =>
      (om_Mo_keep s6).bind fun s7 =>
      (om_Mo_length s7).bind fun r8 =>
      some (.inr (r8, s7))
  else
    ox_b2 (om_Mo_better σ) fun r9 s10 =>
    some (.inl (r9, s10))
noncomputable def om_Mo_improve_h16 (x1 : Int32) (σ : ox_S) : Option (Int32 × ox_S) :=
  ox_w (fun t => om_Mo_improve_b16 t.1 t.2) (x1, σ)
noncomputable def om_Mo_improve  (σ : ox_S) : Option (Int32 × ox_S) :=
  if (σ.1 1) = 0 then
    some ((-2000000 : Int32), σ)
  else
    (om_Mo_nearest σ).bind fun s1 =>
    om_Mo_improve_h16 (1 : Int32) s1
noncomputable def om_Mo_tour (x1 : Int32) (σ : ox_S) : Option Int32 :=
  if (σ.1 2) = 0 then
    some (-1 : Int32)
  else
    if x1 < 0 then
      some (-1 : Int32)
    else
      if (σ.1 1) ≤ x1 then
        some (-1 : Int32)
      else
        ox_ix x1 8 fun j1 =>
        some (σ.2 4 j1)
noncomputable def om_Mo_add (x1 : Int32) (x2 : Int32) (σ : ox_S) : Option (Int32 × ox_S) :=
  ox_let (((σ.1 1) * ((σ.1 1) - (1 : Int32))) / (2 : Int32)) fun v1 =>
  if (σ.1 1) = 0 then
    some ((-1 : Int32), σ)
  else
    if (x1 >>> (v1 &&& 31)) = 0 then
      if (x2 >>> (v1 &&& 31)) = 0 then
        if (x1 &&& x2) = 0 then
          if (σ.1 3) = (10 : Int32) then
            some ((-2000000 : Int32), σ)
          else
            ox_ix (σ.1 3) 10 fun j2 =>
            ox_let (ox_s2 σ 5 j2 x1) fun s3 =>
            ox_ix (s3.1 3) 10 fun j4 =>
            ox_let (ox_s2 s3 6 j4 x2) fun s5 =>
            ox_let (ox_s1 s5 3 ((s5.1 3) + (1 : Int32))) fun s6 =>
            some (s6.1 3, s6)
        else
          some ((-1 : Int32), σ)
      else
        some ((-1 : Int32), σ)
    else
      some ((-1 : Int32), σ)
noncomputable def om_Mo_drop  (σ : ox_S) : Option ox_S :=
  ox_let (ox_s1 σ 3 (0 : Int32)) fun s1 =>
  some s1
noncomputable def om_Mo_bit (x0 : Int32) (x1 : Int32) (σ : ox_S) : Option Int32 :=
  some ((x0 >>> (x1 &&& 31)) &&& (1 : Int32))
noncomputable def om_Mo_inCase_j63 (x1 : Int32) (x3 : Int32) (x4 : Int32) (x5 : Int32) (x6 : Int32) (σ : ox_S) : Option ((Int32 × Int32 × Int32) ⊕ ((Int32 × Int32 × Int32) ⊕ Int32)) :=
  ox_ix x1 10 fun j8 =>
  (om_Mo_bit (σ.2 6 j8) x3 σ).bind fun r9 =>
  if r9 = 0 then
    ox_let (x3 + (1 : Int32)) fun v10 =>
    ox_let (x5 + (1 : Int32)) fun v11 =>
    some (.inl ((1 : Int32), v10, v11))
  else
    if x6 = 0 then
      ox_let (x3 + (1 : Int32)) fun v14 =>
      ox_let (x5 + (1 : Int32)) fun v15 =>
      some (.inl ((1 : Int32), v14, v15))
    else
      ox_let (x3 + (1 : Int32)) fun v12 =>
      ox_let (x5 + (1 : Int32)) fun v13 =>
      some (.inl ((0 : Int32), v12, v13))
noncomputable def om_Mo_inCase_b22 (x1 : Int32) (x2 : Int32) (x3 : Int32) (x4 : Int32) (x5 : Int32) (σ : ox_S) : Option ((Int32 × Int32 × Int32) ⊕ ((Int32 × Int32 × Int32) ⊕ Int32)) :=
  if (σ.1 1) ≤ x5 then
    ox_let (x4 + (1 : Int32)) fun v2 =>
    some (.inr (.inl (x2, x3, v2)))
  else
    (om_Mo_has x4 x5 σ).bind fun r3 =>
    if x2 = 0 then
      ox_let (x3 + (1 : Int32)) fun v4 =>
      ox_let (x5 + (1 : Int32)) fun v5 =>
      some (.inl ((0 : Int32), v4, v5))
    else
      ox_ix x1 10 fun j6 =>
      (om_Mo_bit (σ.2 5 j6) x3 σ).bind fun r7 =>
      if r7 = 0 then
        om_Mo_inCase_j63 x1 x3 x4 x5 r3 σ
      else
        if r3 = 0 then
          ox_let (x3 + (1 : Int32)) fun v16 =>
          ox_let (x5 + (1 : Int32)) fun v17 =>
          some (.inl ((0 : Int32), v16, v17))
        else
          om_Mo_inCase_j63 x1 x3 x4 x5 r3 σ
noncomputable def om_Mo_inCase_h22 (x1 : Int32) (x2 : Int32) (x3 : Int32) (x4 : Int32) (x5 : Int32) (σ : ox_S) : Option ((Int32 × Int32 × Int32) ⊕ Int32) :=
  ox_w (fun t => om_Mo_inCase_b22 x1 t.1 t.2.1 x4 t.2.2 σ) (x2, x3, x5)
noncomputable def om_Mo_inCase_b7 (x1 : Int32) (x2 : Int32) (x3 : Int32) (x4 : Int32) (σ : ox_S) : Option ((Int32 × Int32 × Int32) ⊕ Int32) :=
  if (σ.1 1) ≤ x4 then
    ox_z x2 <|
    some (.inr x2)
  else
    ox_let (x4 + (1 : Int32)) fun v1 =>
    om_Mo_inCase_h22 x1 x2 x3 x4 v1 σ
noncomputable def om_Mo_inCase_h7 (x1 : Int32) (x2 : Int32) (x3 : Int32) (x4 : Int32) (σ : ox_S) : Option Int32 :=
  ox_w (fun t => om_Mo_inCase_b7 x1 t.1 t.2.1 t.2.2 σ) (x2, x3, x4)
noncomputable def om_Mo_inCase (x1 : Int32) (σ : ox_S) : Option Int32 :=
  om_Mo_inCase_h7 x1 (1 : Int32) (0 : Int32) (0 : Int32) σ
noncomputable def om_Mo_covers_b49 (x2 : Int32) (x3 : Int32) (σ : ox_S) : Option ((Int32 × Int32) ⊕ ((Int32 × Int32 × ox_S) ⊕ (Int32 × ox_S))) :=
  if (σ.1 3) ≤ x3 then
    ox_b2 (om_Mo_nextTour σ) fun r5 s6 =>
    some (.inr (.inl (r5, x2, s6)))
  else
    if x2 = 0 then
      (om_Mo_inCase x3 σ).bind fun r8 =>
      if r8 = 0 then
        ox_let (x3 + (1 : Int32)) fun v9 =>
        some (.inl ((0 : Int32), v9))
      else
        ox_let (x3 + (1 : Int32)) fun v10 =>
        some (.inl ((1 : Int32), v10))
    else
      ox_let (x3 + (1 : Int32)) fun v7 =>
      some (.inl ((1 : Int32), v7))
noncomputable def om_Mo_covers_h49 (x2 : Int32) (x3 : Int32) (σ : ox_S) : Option ((Int32 × Int32 × ox_S) ⊕ (Int32 × ox_S)) :=
  ox_w (fun t => om_Mo_covers_b49 t.1 t.2 σ) (x2, x3)
noncomputable def om_Mo_covers_b30 (x1 : Int32) (x2 : Int32) (σ : ox_S) : Option ((Int32 × Int32 × ox_S) ⊕ (Int32 × ox_S)) :=
  if x1 = 0 then
    ox_z x2 <|
    some (.inr (x2, σ))
  else
    if x2 = 0 then
      ox_z x2 <|
      some (.inr (x2, σ))
    else
      (om_Mo_allowed σ).bind fun r2 =>
      if r2 = 0 then
        ox_b2 (om_Mo_nextTour σ) fun r3 s4 =>
        some (.inl (r3, x2, s4))
      else
        om_Mo_covers_h49 (0 : Int32) (0 : Int32) σ
noncomputable def om_Mo_covers_h30 (x1 : Int32) (x2 : Int32) (σ : ox_S) : Option (Int32 × ox_S) :=
  ox_w (fun t => om_Mo_covers_b30 t.1 t.2.1 t.2.2) (x1, x2, σ)
noncomputable def om_Mo_covers_j12 (y0 : Int32) (σ : ox_S) : Option (Int32 × ox_S) :=
  if (σ.1 1) ≤ 0 then
    (om_Mo_firstTour σ).bind fun s1 =>
    om_Mo_covers_h30 y0 (0 : Int32) s1
  else
    (om_Mo_firstTour σ).bind fun s11 =>
    om_Mo_covers_h30 y0 (1 : Int32) s11
noncomputable def om_Mo_covers  (σ : ox_S) : Option (Int32 × ox_S) :=
  if (σ.1 1) ≤ 0 then
    om_Mo_covers_j12 (0 : Int32) σ
  else
    om_Mo_covers_j12 (1 : Int32) σ
noncomputable def om_Mo_caseBound_b31 (x1 : Int32) (x2 : Int32) (x3 : Int32) (x4 : Int32) (σ : ox_S) : Option ((Int32 × Int32 × ox_S) ⊕ ((Int32 × Int32 × ox_S) ⊕ (Int32 × ox_S))) :=
  if (σ.1 1) ≤ x4 then
    ox_let (x3 + (1 : Int32)) fun v4 =>
    some (.inr (.inl (x2, v4, σ)))
  else
    ox_ix x1 10 fun j5 =>
    (om_Mo_bit (σ.2 5 j5) x2 σ).bind fun r6 =>
    if r6 = (1 : Int32) then
      ox_ix (((8 : Int32) * x3) + x4) 64 fun j17 =>
      ox_let (ox_s2 σ 11 j17 (1 : Int32)) fun s18 =>
      ox_let (x2 + (1 : Int32)) fun v19 =>
      ox_let (x4 + (1 : Int32)) fun v20 =>
      some (.inl (v19, v20, s18))
    else
      ox_ix x1 10 fun j7 =>
      (om_Mo_bit (σ.2 6 j7) x2 σ).bind fun r8 =>
      if r8 = (1 : Int32) then
        ox_ix (((8 : Int32) * x3) + x4) 64 fun j13 =>
        ox_let (ox_s2 σ 11 j13 (2 : Int32)) fun s14 =>
        ox_let (x2 + (1 : Int32)) fun v15 =>
        ox_let (x4 + (1 : Int32)) fun v16 =>
        some (.inl (v15, v16, s14))
      else
        ox_ix (((8 : Int32) * x3) + x4) 64 fun j9 =>
        ox_let (ox_s2 σ 11 j9 (0 : Int32)) fun s10 =>
        ox_let (x2 + (1 : Int32)) fun v11 =>
        ox_let (x4 + (1 : Int32)) fun v12 =>
        some (.inl (v11, v12, s10))
noncomputable def om_Mo_caseBound_h31 (x1 : Int32) (x2 : Int32) (x3 : Int32) (x4 : Int32) (σ : ox_S) : Option ((Int32 × Int32 × ox_S) ⊕ (Int32 × ox_S)) :=
  ox_w (fun t => om_Mo_caseBound_b31 x1 t.1 x3 t.2.1 t.2.2) (x2, x4, σ)
noncomputable def om_Mo_caseBound_b18 (x1 : Int32) (x2 : Int32) (x3 : Int32) (σ : ox_S) : Option ((Int32 × Int32 × ox_S) ⊕ (Int32 × ox_S)) :=
  if (σ.1 1) ≤ x3 then
    ox_b2 (om_Mo_boundNow σ) fun r1 s2 =>
    some (.inr (r1, s2))
  else
    ox_let (x3 + (1 : Int32)) fun v3 =>
    om_Mo_caseBound_h31 x1 x2 x3 v3 σ
noncomputable def om_Mo_caseBound_h18 (x1 : Int32) (x2 : Int32) (x3 : Int32) (σ : ox_S) : Option (Int32 × ox_S) :=
  ox_w (fun t => om_Mo_caseBound_b18 x1 t.1 t.2.1 t.2.2) (x2, x3, σ)
noncomputable def om_Mo_caseBound (x1 : Int32) (σ : ox_S) : Option (Int32 × ox_S) :=
  if x1 < 0 then
    some ((-1 : Int32), σ)
  else
    if x1 < (σ.1 3) then
      om_Mo_caseBound_h18 x1 (0 : Int32) (0 : Int32) σ
    else
      some ((-1 : Int32), σ)
noncomputable def om_Mo_proves_b7 (x1 : Int32) (x2 : Int32) (x3 : Int32) (σ : ox_S) : Option ((Int32 × Int32 × ox_S) ⊕ (Int32 × ox_S)) :=
  if (σ.1 3) ≤ x3 then
    ox_z x2 <|
    some (.inr (x2, σ))
  else
    if x2 = 0 then
      ox_z x2 <|
      some (.inr (x2, σ))
    else
      ox_b2 (om_Mo_caseBound x3 σ) fun r3 s4 =>
      ox_b2 (om_Mo_tree s4) fun r5 s6 =>
      if r5 = 0 then
        ox_let (x3 + (1 : Int32)) fun v7 =>
        some (.inl ((1 : Int32), v7, s6))
      else
        if r3 < x1 then
          ox_let (x3 + (1 : Int32)) fun v8 =>
          some (.inl ((0 : Int32), v8, s6))
        else
          ox_let (x3 + (1 : Int32)) fun v9 =>
          some (.inl ((1 : Int32), v9, s6))
noncomputable def om_Mo_proves_h7 (x1 : Int32) (x2 : Int32) (x3 : Int32) (σ : ox_S) : Option (Int32 × ox_S) :=
  ox_w (fun t => om_Mo_proves_b7 x1 t.1 t.2.1 t.2.2) (x2, x3, σ)
noncomputable def om_Mo_proves (x1 : Int32) (σ : ox_S) : Option (Int32 × ox_S) :=
  ox_b2 (om_Mo_covers σ) fun r1 s2 =>
  om_Mo_proves_h7 x1 r1 (0 : Int32) s2
