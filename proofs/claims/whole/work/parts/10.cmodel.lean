def oc_slen (x : Nat) : Option Int32 := if x < oc_nS then some (nI (oc_sl.getD x 0)) else none
def oc_schar (x : Nat) (k : Int32) : Option Int32 := if x < oc_nS then ox_ix k (oc_sl.getD x 0) (fun j => some (((oc_sb.getD x []).getD j 0 &&& 255).toUInt32 % 65536).toInt32) else none
noncomputable def oc_Text_byteOf (x0 : Int64) (x2 : Int32) (σ : ox_S) : Option Int32 :=
  some ((((x0.toUInt64 >>> (((8 : Int32) * x2).toInt64.toUInt64 &&& Int64.toUInt64 63)).toInt64).toInt32) &&& (255 : Int32))
noncomputable def oc_Text_countGood_b4 (x0 : Int64) (x2 : Int32) (x3 : Int32) (σ : ox_S) : Option ((Int32 × Int32) ⊕ Int32) :=
  if (8 : Int32) ≤ x3 then
    some (.inr x2)
  else
    (oc_Text_byteOf x0 x3 σ).bind fun r1 =>
    if r1 = (10 : Int32) then
      ox_let (x2 + (1 : Int32)) fun v2 =>
      ox_let (x3 + (1 : Int32)) fun v3 =>
      some (.inl (v2, v3))
    else
      if r1 < (32 : Int32) then
        if r1 = 0 then
          ox_let (x3 + (1 : Int32)) fun v4 =>
          some (.inl (x2, v4))
        else
          some (.inr (-1 : Int32))
      else
        if (126 : Int32) < r1 then
          if r1 = 0 then
            ox_let (x3 + (1 : Int32)) fun v5 =>
            some (.inl (x2, v5))
          else
            some (.inr (-1 : Int32))
        else
          ox_let (x2 + (1 : Int32)) fun v6 =>
          ox_let (x3 + (1 : Int32)) fun v7 =>
          some (.inl (v6, v7))
noncomputable def oc_Text_countGood_h4 (x0 : Int64) (x2 : Int32) (x3 : Int32) (σ : ox_S) : Option Int32 :=
  ox_w (fun t => oc_Text_countGood_b4 x0 t.1 t.2 σ) (x2, x3)
noncomputable def oc_Text_countGood (x0 : Int64) (σ : ox_S) : Option Int32 :=
  oc_Text_countGood_h4 x0 (0 : Int32) (0 : Int32) σ
noncomputable def oc_Text_append_b26 (x1 : Int64) (x4 : Int32) (σ : ox_S) : Option ((Int32 × ox_S) ⊕ (Int32 × ox_S)) :=
  if (8 : Int32) ≤ x4 then
    some (.inr ((1 : Int32), σ))
  else
    (oc_Text_byteOf x1 x4 σ).bind fun r2 =>
    if r2 = 0 then
      ox_let (x4 + (1 : Int32)) fun v3 =>
      some (.inl (v3, σ))
    else
      ox_ix (σ.1 0) 480 fun j4 =>
      ox_let (ox_s2 σ 0 j4 (vp_nar .char ((r2.toUInt32 % 65536).toInt32))) fun s5 =>
      ox_let (ox_s1 s5 0 ((s5.1 0) + (1 : Int32))) fun s6 =>
      ox_let (x4 + (1 : Int32)) fun v7 =>
      some (.inl (v7, s6))
noncomputable def oc_Text_append_h26 (x1 : Int64) (x4 : Int32) (σ : ox_S) : Option (Int32 × ox_S) :=
  ox_w (fun t => oc_Text_append_b26 x1 t.1 t.2) (x4, σ)
noncomputable def oc_Text_append (x1 : Int64) (σ : ox_S) : Option (Int32 × ox_S) :=
  (oc_Text_countGood x1 σ).bind fun r1 =>
  if r1 < 0 then
    some ((0 : Int32), σ)
  else
    if ((σ.1 0) + r1) ≤ (480 : Int32) then
      oc_Text_append_h26 x1 (0 : Int32) σ
    else
      some ((0 : Int32), σ)
noncomputable def oc_T_write (x1 : Int64) (σ : ox_S) : Option (Int32 × ox_S) :=
  ox_b2 (oc_Text_append x1 σ) fun r1 s2 =>
  ox_z r1 <|
  some (r1, s2)
noncomputable def oc_T_wipe  (σ : ox_S) : Option ox_S :=
  ox_let (ox_s1 σ 0 (0 : Int32)) fun s1 =>
  some s1
noncomputable def oc_Reader_begin  (σ : ox_S) : Option ox_S :=
  ox_let (ox_s1 σ 4 (0 : Int32)) fun s1 =>
  ox_let (ox_s1 s1 9 (0 : Int32)) fun s2 =>
  ox_let (ox_s1 s2 5 (0 : Int32)) fun s3 =>
  ox_let (ox_s1 s3 6 (0 : Int32)) fun s4 =>
  ox_let (ox_sA s4 5 (fun j => if j < 64 then (0 : Int32) else s4.2 5 j)) fun s5 =>
  some s5
noncomputable def oc_Line_part_j63 (x3 : Int32) (σ : ox_S) : Option ((Int32 × ox_S) ⊕ ox_S) :=
  ox_ix (σ.1 3) 240 fun j6 =>
  ox_let (ox_s2 σ 1 j6 x3) fun s7 =>
  ox_let (ox_s1 s7 3 ((s7.1 3) + (1 : Int32))) fun s8 =>
  ox_ix ((s8.1 3) - (1 : Int32)) 240 fun j9 =>
  ox_let (ox_s2 s8 2 j9 (x3 + (1 : Int32))) fun s10 =>
  ox_let (x3 + (1 : Int32)) fun v11 =>
  some (.inl (v11, s10))
noncomputable def oc_Line_part_b20 (x3 : Int32) (σ : ox_S) : Option ((Int32 × ox_S) ⊕ ox_S) :=
  if (σ.1 2) ≤ x3 then
    some (.inr σ)
  else
    ox_ix x3 480 fun j5 =>
    if (σ.2 0 j5) = (32 : Int32) then
      ox_let (x3 + (1 : Int32)) fun v16 =>
      some (.inl (v16, σ))
    else
      if x3 = (σ.1 1) then
        oc_Line_part_j63 x3 σ
      else
        ox_ix (x3 - (1 : Int32)) 480 fun j12 =>
        if (σ.2 0 j12) = (32 : Int32) then
          oc_Line_part_j63 x3 σ
        else
          ox_ix ((σ.1 3) - (1 : Int32)) 240 fun j13 =>
          ox_let (ox_s2 σ 2 j13 (x3 + (1 : Int32))) fun s14 =>
          ox_let (x3 + (1 : Int32)) fun v15 =>
          some (.inl (v15, s14))
noncomputable def oc_Line_part_h20 (x3 : Int32) (σ : ox_S) : Option ox_S :=
  ox_w (fun t => oc_Line_part_b20 t.1 t.2) (x3, σ)
noncomputable def oc_Line_part (x1 : Int32) (x2 : Int32) (σ : ox_S) : Option ox_S :=
  ox_let (ox_s1 σ 1 x1) fun s1 =>
  ox_let (ox_s1 s1 2 x2) fun s2 =>
  ox_let (ox_s1 s2 3 (0 : Int32)) fun s3 =>
  ox_let (s3.1 1) fun v4 =>
  oc_Line_part_h20 v4 s3
noncomputable def oc_Line_digits_b19 (x2 : Int32) (x3 : Int32) (x4 : Int32) (σ : ox_S) : Option ((Int32 × Int32) ⊕ Int32) :=
  if x2 ≤ x4 then
    some (.inr x3)
  else
    ox_ix x4 480 fun j1 =>
    ox_let (σ.2 0 j1) fun v2 =>
    if v2 < (48 : Int32) then
      some (.inr (-1 : Int32))
    else
      if v2 ≤ (57 : Int32) then
        ox_let (((10 : Int32) * x3) + (v2 - (48 : Int32))) fun v3 =>
        ox_let (x4 + (1 : Int32)) fun v4 =>
        some (.inl (v3, v4))
      else
        some (.inr (-1 : Int32))
noncomputable def oc_Line_digits_h19 (x2 : Int32) (x3 : Int32) (x4 : Int32) (σ : ox_S) : Option Int32 :=
  ox_w (fun t => oc_Line_digits_b19 x2 t.1 t.2 σ) (x3, x4)
noncomputable def oc_Line_digits (x1 : Int32) (x2 : Int32) (σ : ox_S) : Option Int32 :=
  if x2 ≤ x1 then
    some (-1 : Int32)
  else
    if (x2 - x1) ≤ (4 : Int32) then
      oc_Line_digits_h19 x2 (0 : Int32) x1 σ
    else
      some (-1 : Int32)
noncomputable def oc_Line_number_j56 (x1 : Int32) (x2 : Int32) (y0 : Int32) (σ : ox_S) : Option Int32 :=
  ox_ix x1 240 fun j4 =>
  (oc_Line_digits y0 (σ.2 2 j4) σ).bind fun r5 =>
  if 0 ≤ r5 then
    if x2 = 0 then
      some r5
    else
      some (-r5)
  else
    some (-10000 : Int32)
noncomputable def oc_Line_number_j33 (x1 : Int32) (y0 : Int32) (σ : ox_S) : Option Int32 :=
  if y0 = 0 then
    ox_ix x1 240 fun j3 =>
    oc_Line_number_j56 x1 y0 (σ.2 1 j3) σ
  else
    ox_ix x1 240 fun j6 =>
    oc_Line_number_j56 x1 y0 ((σ.2 1 j6) + (1 : Int32)) σ
noncomputable def oc_Line_number (x1 : Int32) (σ : ox_S) : Option Int32 :=
  if x1 < (σ.1 3) then
    ox_ix x1 240 fun j1 =>
    ox_ix (σ.2 1 j1) 480 fun j2 =>
    if (σ.2 0 j2) = (45 : Int32) then
      oc_Line_number_j33 x1 (1 : Int32) σ
    else
      oc_Line_number_j33 x1 (0 : Int32) σ
  else
    some (-10000 : Int32)
noncomputable def oc_Reader_isPlace (x0 : Int32) (σ : ox_S) : Option Int32 :=
  if x0 < (-999 : Int32) then
    some (0 : Int32)
  else
    if (999 : Int32) < x0 then
      some (0 : Int32)
    else
      some (1 : Int32)
noncomputable def oc_Reader_wholeRoot_b6 (x0 : Int32) (x1 : Int32) (x2 : Int32) (σ : ox_S) : Option ((Int32 × Int32) ⊕ Int32) :=
  if x2 ≤ 0 then
    some (.inr x1)
  else
    ox_let (x1 + x2) fun v1 =>
    if x0 < (v1 * v1) then
      ox_let (x2 >>> ((1 : Int32) &&& 31)) fun v2 =>
      some (.inl (x1, v2))
    else
      ox_let (x2 >>> ((1 : Int32) &&& 31)) fun v3 =>
      some (.inl (v1, v3))
noncomputable def oc_Reader_wholeRoot_h6 (x0 : Int32) (x1 : Int32) (x2 : Int32) (σ : ox_S) : Option Int32 :=
  ox_w (fun t => oc_Reader_wholeRoot_b6 x0 t.1 t.2 σ) (x1, x2)
noncomputable def oc_Reader_wholeRoot (x0 : Int32) (σ : ox_S) : Option Int32 :=
  oc_Reader_wholeRoot_h6 x0 (0 : Int32) (2048 : Int32) σ
noncomputable def oc_Reader_apart (x1 : Int32) (x2 : Int32) (σ : ox_S) : Option Int32 :=
  if (σ.1 5) = (4 : Int32) then
    some (x1 + x2)
  else
    ox_let ((x1 * x1) + (x2 * x2)) fun v1 =>
    (oc_Reader_wholeRoot v1 σ).bind fun r2 =>
    if (σ.1 5) = (2 : Int32) then
      ox_let ((r2 * r2) + r2) fun v4 =>
      if v1 ≤ v4 then
        some r2
      else
        some (r2 + (1 : Int32))
    else
      ox_let (r2 * r2) fun v3 =>
      if v1 ≤ v3 then
        some r2
      else
        some (r2 + (1 : Int32))
noncomputable def oc_Line_stands_b2 (x1 : Int32) (x2 : Nat) (x3 : Int32) (σ : ox_S) : Option (Int32 ⊕ Int32) :=
  (oc_slen x2).bind fun r1 =>
  if r1 ≤ x3 then
    some (.inr (1 : Int32))
  else
    ox_ix (x1 + x3) 480 fun j2 =>
    (oc_schar x2 x3).bind fun r3 =>
    if (σ.2 0 j2) = r3 then
      ox_let (x3 + (1 : Int32)) fun v4 =>
      some (.inl v4)
    else
      some (.inr (0 : Int32))
noncomputable def oc_Line_stands_h2 (x1 : Int32) (x2 : Nat) (x3 : Int32) (σ : ox_S) : Option Int32 :=
  ox_w (fun t => oc_Line_stands_b2 x1 x2 t σ) x3
noncomputable def oc_Line_stands (x1 : Int32) (x2 : Nat) (σ : ox_S) : Option Int32 :=
  oc_Line_stands_h2 x1 x2 (0 : Int32) σ
noncomputable def oc_Line_wordIs (x1 : Int32) (x2 : Nat) (σ : ox_S) : Option Int32 :=
  if (σ.1 3) ≤ x1 then
    some (0 : Int32)
  else
    ox_ix x1 240 fun j1 =>
    ox_ix x1 240 fun j2 =>
    (oc_slen x2).bind fun r3 =>
    if ((σ.2 2 j1) - (σ.2 1 j2)) = r3 then
      ox_ix x1 240 fun j4 =>
      (oc_Line_stands (σ.2 1 j4) x2 σ).bind fun r5 =>
      if r5 = 0 then
        some (0 : Int32)
      else
        some (1 : Int32)
    else
      some (0 : Int32)
noncomputable def oc_Reader_acceptsEnd  (σ : ox_S) : Option (Int32 × ox_S) :=
  if (σ.1 3) = (1 : Int32) then
    (oc_Line_wordIs (0 : Int32) 0 σ).bind fun r1 =>
    if r1 = 0 then
      some ((0 : Int32), σ)
    else
      ox_let (ox_s1 σ 4 (2 : Int32)) fun s2 =>
      some ((1 : Int32), s2)
  else
    some ((0 : Int32), σ)
noncomputable def oc_Reader_acceptsPlace_b100 (x1 : Int32) (x2 : Int32) (x3 : Int32) (σ : ox_S) : Option ((Int32 × ox_S) ⊕ (Int32 × ox_S)) :=
  if (σ.1 7) ≤ x3 then
    ox_let (ox_s1 σ 7 ((σ.1 7) + (1 : Int32))) fun s10 =>
    some (.inr ((1 : Int32), s10))
  else
    ox_ix x3 8 fun j11 =>
    ox_ix x3 8 fun j12 =>
    (oc_Reader_apart (if 0 ≤ (x1 - (σ.2 3 j11)) then (x1 - (σ.2 3 j11)) else 0 - (x1 - (σ.2 3 j11))) (if 0 ≤ (x2 - (σ.2 4 j12)) then (x2 - (σ.2 4 j12)) else 0 - (x2 - (σ.2 4 j12))) σ).bind fun r13 =>
    ox_ix (((σ.1 7) * (8 : Int32)) + x3) 64 fun j14 =>
    ox_let (ox_s2 σ 5 j14 r13) fun s15 =>
    ox_ix ((x3 * (8 : Int32)) + (s15.1 7)) 64 fun j16 =>
    ox_let (ox_s2 s15 5 j16 r13) fun s17 =>
    ox_let (x3 + (1 : Int32)) fun v18 =>
    some (.inl (v18, s17))
noncomputable def oc_Reader_acceptsPlace_h100 (x1 : Int32) (x2 : Int32) (x3 : Int32) (σ : ox_S) : Option (Int32 × ox_S) :=
  ox_w (fun t => oc_Reader_acceptsPlace_b100 x1 x2 t.1 t.2) (x3, σ)
noncomputable def oc_Reader_acceptsPlace  (σ : ox_S) : Option (Int32 × ox_S) :=
  if (σ.1 7) < (σ.1 9) then
    (oc_Line_number (1 : Int32) σ).bind fun r1 =>
    (oc_Line_number (2 : Int32) σ).bind fun r2 =>
    if (σ.1 3) = (3 : Int32) then
      (oc_Line_number (0 : Int32) σ).bind fun r3 =>
      if r3 = ((σ.1 7) + (1 : Int32)) then
        (oc_Reader_isPlace r1 σ).bind fun r4 =>
        if r4 = 0 then
          some ((0 : Int32), σ)
        else
          (oc_Reader_isPlace r2 σ).bind fun r5 =>
          if r5 = 0 then
            some ((0 : Int32), σ)
          else
            ox_ix (σ.1 7) 8 fun j6 =>
            ox_let (ox_s2 σ 3 j6 r1) fun s7 =>
            ox_ix (s7.1 7) 8 fun j8 =>
            ox_let (ox_s2 s7 4 j8 r2) fun s9 =>
            oc_Reader_acceptsPlace_h100 r1 r2 (0 : Int32) s9
      else
        some ((0 : Int32), σ)
    else
      some ((0 : Int32), σ)
  else
    ox_b2 (oc_Reader_acceptsEnd σ) fun r19 s20 =>
    ox_z r19 <|
    some (r19, s20)
noncomputable def oc_Reader_rows  (σ : ox_S) : Option Int32 :=
  if (σ.1 6) = (2 : Int32) then
    some ((σ.1 9) - (1 : Int32))
  else
    some (σ.1 9)
noncomputable def oc_Line_unsigned (x1 : Int32) (σ : ox_S) : Option Int32 :=
  if (σ.1 3) ≤ x1 then
    some (-1 : Int32)
  else
    ox_ix x1 240 fun j1 =>
    ox_ix x1 240 fun j2 =>
    (oc_Line_digits (σ.2 1 j1) (σ.2 2 j2) σ).bind fun r3 =>
    some r3
noncomputable def oc_Reader_fits_j45 (x1 : Int32) (y0 : Int32) (σ : ox_S) : Option Int32 :=
  if y0 = 0 then
    some (1 : Int32)
  else
    ox_ix (((σ.1 7) * (8 : Int32)) + (σ.1 8)) 64 fun j1 =>
    if x1 = (σ.2 5 j1) then
      some (1 : Int32)
    else
      some (0 : Int32)
noncomputable def oc_Reader_fits (x1 : Int32) (σ : ox_S) : Option Int32 :=
  if (σ.1 7) = (σ.1 8) then
    if x1 = 0 then
      some (1 : Int32)
    else
      some (0 : Int32)
  else
    if (σ.1 6) = (1 : Int32) then
      if (σ.1 7) ≤ (σ.1 8) then
        oc_Reader_fits_j45 x1 (0 : Int32) σ
      else
        oc_Reader_fits_j45 x1 (1 : Int32) σ
    else
      oc_Reader_fits_j45 x1 (0 : Int32) σ
noncomputable def oc_Reader_lastColumn  (σ : ox_S) : Option Int32 :=
  if (σ.1 6) = (3 : Int32) then
    some (σ.1 7)
  else
    some ((σ.1 9) - (1 : Int32))
noncomputable def oc_Reader_firstColumn  (σ : ox_S) : Option Int32 :=
  if (σ.1 6) = (2 : Int32) then
    some ((σ.1 7) + (1 : Int32))
  else
    some (0 : Int32)
noncomputable def oc_Reader_goToNextCell  (σ : ox_S) : Option ox_S :=
  (oc_Reader_lastColumn σ).bind fun r1 =>
  if r1 ≤ (σ.1 8) then
    ox_let (ox_s1 σ 7 ((σ.1 7) + (1 : Int32))) fun s2 =>
    (oc_Reader_firstColumn s2).bind fun r3 =>
    ox_let (ox_s1 s2 8 r3) fun s4 =>
    some s4
  else
    ox_let (ox_s1 σ 8 ((σ.1 8) + (1 : Int32))) fun s5 =>
    some s5
noncomputable def oc_Reader_acceptsDistances_b28 (x1 : Int32) (σ : ox_S) : Option ((Int32 × ox_S) ⊕ (Int32 × ox_S)) :=
  if (σ.1 3) ≤ x1 then
    some (.inr ((1 : Int32), σ))
  else
    (oc_Line_unsigned x1 σ).bind fun r2 =>
    (oc_Reader_rows σ).bind fun r3 =>
    if r3 ≤ (σ.1 7) then
      some (.inr ((0 : Int32), σ))
    else
      if r2 < 0 then
        some (.inr ((0 : Int32), σ))
      else
        (oc_Reader_fits r2 σ).bind fun r4 =>
        if r4 = 0 then
          some (.inr ((0 : Int32), σ))
        else
          ox_ix (((σ.1 7) * (8 : Int32)) + (σ.1 8)) 64 fun j5 =>
          ox_let (ox_s2 σ 5 j5 r2) fun s6 =>
          ox_ix (((s6.1 8) * (8 : Int32)) + (s6.1 7)) 64 fun j7 =>
          ox_let (ox_s2 s6 5 j7 r2) fun s8 =>
          (oc_Reader_goToNextCell s8).bind fun s9 =>
          ox_let (x1 + (1 : Int32)) fun v10 =>
          some (.inl (v10, s9))
noncomputable def oc_Reader_acceptsDistances_h28 (x1 : Int32) (σ : ox_S) : Option (Int32 × ox_S) :=
  ox_w (fun t => oc_Reader_acceptsDistances_b28 t.1 t.2) (x1, σ)
noncomputable def oc_Reader_acceptsDistances  (σ : ox_S) : Option (Int32 × ox_S) :=
  (oc_Reader_rows σ).bind fun r1 =>
  if (σ.1 7) < r1 then
    oc_Reader_acceptsDistances_h28 (0 : Int32) σ
  else
    if (σ.1 3) ≤ 0 then
      oc_Reader_acceptsDistances_h28 (0 : Int32) σ
    else
      ox_b2 (oc_Reader_acceptsEnd σ) fun r11 s12 =>
      ox_z r11 <|
      some (r11, s12)
noncomputable def oc_Line_beginsWith (x1 : Nat) (σ : ox_S) : Option Int32 :=
  (oc_slen x1).bind fun r1 =>
  if ((σ.1 2) - (σ.1 1)) < r1 then
    some (0 : Int32)
  else
    (oc_Line_stands (σ.1 1) x1 σ).bind fun r2 =>
    if r2 = 0 then
      some (0 : Int32)
    else
      some (1 : Int32)
noncomputable def oc_Reader_acceptsFormat  (σ : ox_S) : Option (Int32 × ox_S) :=
  if (σ.1 5) = (1 : Int32) then
    if (σ.1 6) = 0 then
      (oc_Line_wordIs (1 : Int32) 5 σ).bind fun r1 =>
      if r1 = 0 then
        (oc_Line_wordIs (1 : Int32) 6 σ).bind fun r2 =>
        if r2 = 0 then
          (oc_Line_wordIs (1 : Int32) 7 σ).bind fun r3 =>
          if r3 = 0 then
            if (σ.1 6) = 0 then
              some ((0 : Int32), σ)
            else
              some ((1 : Int32), σ)
          else
            ox_let (ox_s1 σ 6 (3 : Int32)) fun s4 =>
            if (s4.1 6) = 0 then
              some ((0 : Int32), s4)
            else
              some ((1 : Int32), s4)
        else
          ox_let (ox_s1 σ 6 (2 : Int32)) fun s5 =>
          if (s5.1 6) = 0 then
            some ((0 : Int32), s5)
          else
            some ((1 : Int32), s5)
      else
        ox_let (ox_s1 σ 6 (1 : Int32)) fun s6 =>
        if (s6.1 6) = 0 then
          some ((0 : Int32), s6)
        else
          some ((1 : Int32), s6)
    else
      some ((0 : Int32), σ)
  else
    some ((0 : Int32), σ)
noncomputable def oc_Reader_acceptsType  (σ : ox_S) : Option (Int32 × ox_S) :=
  if (σ.1 5) = 0 then
    (oc_Line_wordIs (1 : Int32) 8 σ).bind fun r1 =>
    if r1 = 0 then
      (oc_Line_wordIs (1 : Int32) 9 σ).bind fun r2 =>
      if r2 = 0 then
        (oc_Line_wordIs (1 : Int32) 10 σ).bind fun r3 =>
        if r3 = 0 then
          (oc_Line_wordIs (1 : Int32) 11 σ).bind fun r4 =>
          if r4 = 0 then
            if (σ.1 5) = 0 then
              some ((0 : Int32), σ)
            else
              some ((1 : Int32), σ)
          else
            ox_let (ox_s1 σ 5 (4 : Int32)) fun s5 =>
            if (s5.1 5) = 0 then
              some ((0 : Int32), s5)
            else
              some ((1 : Int32), s5)
        else
          ox_let (ox_s1 σ 5 (3 : Int32)) fun s6 =>
          if (s6.1 5) = 0 then
            some ((0 : Int32), s6)
          else
            some ((1 : Int32), s6)
      else
        ox_let (ox_s1 σ 5 (2 : Int32)) fun s7 =>
        if (s7.1 5) = 0 then
          some ((0 : Int32), s7)
        else
          some ((1 : Int32), s7)
    else
      ox_let (ox_s1 σ 5 (1 : Int32)) fun s8 =>
      if (s8.1 5) = 0 then
        some ((0 : Int32), s8)
      else
        some ((1 : Int32), s8)
  else
    some ((0 : Int32), σ)
noncomputable def oc_Reader_acceptsDimension  (σ : ox_S) : Option (Int32 × ox_S) :=
  (oc_Line_number (1 : Int32) σ).bind fun r1 =>
  if (σ.1 9) = 0 then
    if r1 < (3 : Int32) then
      some ((0 : Int32), σ)
    else
      if r1 ≤ (8 : Int32) then
        ox_let (ox_s1 σ 9 r1) fun s2 =>
        some ((1 : Int32), s2)
      else
        some ((0 : Int32), σ)
  else
    some ((0 : Int32), σ)
noncomputable def oc_Reader_acceptsSection_j46 (y0 : Nat) (σ : ox_S) : Option (Int32 × ox_S) :=
  (oc_Line_wordIs (0 : Int32) y0 σ).bind fun r1 =>
  if r1 = 0 then
    some ((0 : Int32), σ)
  else
    ox_let (ox_s1 σ 4 (1 : Int32)) fun s2 =>
    ox_let (ox_s1 s2 7 (0 : Int32)) fun s3 =>
    (oc_Reader_firstColumn s3).bind fun r4 =>
    ox_let (ox_s1 s3 8 r4) fun s5 =>
    some ((1 : Int32), s5)
noncomputable def oc_Reader_acceptsSection  (σ : ox_S) : Option (Int32 × ox_S) :=
  if (σ.1 9) = 0 then
    some ((0 : Int32), σ)
  else
    if (σ.1 5) = 0 then
      some ((0 : Int32), σ)
    else
      if (σ.1 5) = (1 : Int32) then
        if (σ.1 6) = 0 then
          some ((0 : Int32), σ)
        else
          if (σ.1 5) = (1 : Int32) then
            oc_Reader_acceptsSection_j46 13 σ
          else
            oc_Reader_acceptsSection_j46 12 σ
      else
        if (σ.1 5) = (1 : Int32) then
          oc_Reader_acceptsSection_j46 13 σ
        else
          oc_Reader_acceptsSection_j46 12 σ
noncomputable def oc_Reader_acceptsHead  (σ : ox_S) : Option (Int32 × ox_S) :=
  (oc_Line_beginsWith 1 σ).bind fun r1 =>
  if r1 = 0 then
    if (σ.1 3) = (1 : Int32) then
      ox_b2 (oc_Reader_acceptsSection σ) fun r11 s12 =>
      ox_z r11 <|
      some (r11, s12)
    else
      if (σ.1 3) = (2 : Int32) then
        (oc_Line_wordIs (0 : Int32) 2 σ).bind fun r2 =>
        if r2 = 0 then
          (oc_Line_wordIs (0 : Int32) 3 σ).bind fun r3 =>
          if r3 = 0 then
            (oc_Line_wordIs (0 : Int32) 4 σ).bind fun r4 =>
            if r4 = 0 then
              some ((0 : Int32), σ)
            else
              ox_b2 (oc_Reader_acceptsFormat σ) fun r5 s6 =>
              if r5 = 0 then
                some ((0 : Int32), s6)
              else
                some ((1 : Int32), s6)
          else
            ox_b2 (oc_Reader_acceptsType σ) fun r7 s8 =>
            ox_z r7 <|
            some (r7, s8)
        else
          ox_b2 (oc_Reader_acceptsDimension σ) fun r9 s10 =>
          ox_z r9 <|
          some (r9, s10)
      else
        some ((0 : Int32), σ)
  else
    some ((1 : Int32), σ)
noncomputable def oc_Reader_accepts  (σ : ox_S) : Option (Int32 × ox_S) :=
  if (σ.1 4) = 0 then
    ox_b2 (oc_Reader_acceptsHead σ) fun r5 s6 =>
    ox_z r5 <|
    some (r5, s6)
  else
    if (σ.1 4) = (2 : Int32) then
      some ((0 : Int32), σ)
    else
      if (σ.1 5) = (1 : Int32) then
        ox_b2 (oc_Reader_acceptsDistances σ) fun r3 s4 =>
        ox_z r3 <|
        some (r3, s4)
      else
        ox_b2 (oc_Reader_acceptsPlace σ) fun r1 s2 =>
        ox_z r1 <|
        some (r1, s2)
noncomputable def oc_Reader_read_b10 (x1 : Int32) (x2 : Int32) (x3 : Int32) (σ : ox_S) : Option ((Int32 × Int32 × Int32 × ox_S) ⊕ (Int32 × ox_S)) :=
  if (σ.1 0) ≤ x3 then
    if (σ.1 4) = (2 : Int32) then
      if x2 = (σ.1 0) then
        some (.inr ((0 : Int32), σ))
      else
        some (.inr (-x1, σ))
    else
      some (.inr (-x1, σ))
  else
    ox_ix x3 480 fun j2 =>
    if (σ.2 0 j2) = (10 : Int32) then
      (oc_Line_part x2 x3 σ).bind fun s4 =>
      ox_b2 (oc_Reader_accepts s4) fun r5 s6 =>
      if r5 = 0 then
        some (.inr (-x1, s6))
      else
        ox_let (x1 + (1 : Int32)) fun v7 =>
        ox_let (x3 + (1 : Int32)) fun v8 =>
        ox_let (x3 + (1 : Int32)) fun v9 =>
        some (.inl (v7, v8, v9, s6))
    else
      ox_let (x3 + (1 : Int32)) fun v3 =>
      some (.inl (x1, x2, v3, σ))
noncomputable def oc_Reader_read_h10 (x1 : Int32) (x2 : Int32) (x3 : Int32) (σ : ox_S) : Option (Int32 × ox_S) :=
  ox_w (fun t => oc_Reader_read_b10 t.1 t.2.1 t.2.2.1 t.2.2.2) (x1, x2, x3, σ)
noncomputable def oc_Reader_read  (σ : ox_S) : Option (Int32 × ox_S) :=
  (oc_Reader_begin σ).bind fun s1 =>
  oc_Reader_read_h10 (1 : Int32) (0 : Int32) (0 : Int32) s1
noncomputable def oc_Land_numberEdges_b19 (x1 : Int32) (x2 : Int32) (σ : ox_S) : Option ((Int32 × ox_S) ⊕ ((Int32 × ox_S) ⊕ ox_S)) :=
  if (σ.1 10) ≤ x2 then
    ox_let (x1 + (1 : Int32)) fun v3 =>
    some (.inr (.inl (v3, σ)))
  else
    ox_ix (σ.1 11) 28 fun j4 =>
    ox_let (ox_s2 σ 8 j4 x1) fun s5 =>
    ox_ix (s5.1 11) 28 fun j6 =>
    ox_let (ox_s2 s5 9 j6 x2) fun s7 =>
    ox_ix ((x1 * (8 : Int32)) + x2) 64 fun j8 =>
    ox_let (ox_s2 s7 7 j8 (s7.1 11)) fun s9 =>
    ox_ix ((x2 * (8 : Int32)) + x1) 64 fun j10 =>
    ox_let (ox_s2 s9 7 j10 (s9.1 11)) fun s11 =>
    ox_let (ox_s1 s11 11 ((s11.1 11) + (1 : Int32))) fun s12 =>
    ox_let (x2 + (1 : Int32)) fun v13 =>
    some (.inl (v13, s12))
noncomputable def oc_Land_numberEdges_h19 (x1 : Int32) (x2 : Int32) (σ : ox_S) : Option ((Int32 × ox_S) ⊕ ox_S) :=
  ox_w (fun t => oc_Land_numberEdges_b19 x1 t.1 t.2) (x2, σ)
noncomputable def oc_Land_numberEdges_b7 (x1 : Int32) (σ : ox_S) : Option ((Int32 × ox_S) ⊕ ox_S) :=
  if (σ.1 10) ≤ x1 then
    some (.inr σ)
  else
    ox_let (x1 + (1 : Int32)) fun v2 =>
    oc_Land_numberEdges_h19 x1 v2 σ
noncomputable def oc_Land_numberEdges_h7 (x1 : Int32) (σ : ox_S) : Option ox_S :=
  ox_w (fun t => oc_Land_numberEdges_b7 t.1 t.2) (x1, σ)
noncomputable def oc_Land_numberEdges  (σ : ox_S) : Option ox_S :=
  ox_let (ox_s1 σ 11 (0 : Int32)) fun s1 =>
  oc_Land_numberEdges_h7 (0 : Int32) s1
noncomputable def oc_Land_settle_a14 (x1 : Int32) (σ : ox_S) : Option ox_S :=
  ox_let (ox_s1 σ 10 x1) fun s1 =>
  ox_let (ox_sA s1 6 (va_cpy (s1.2 5) (s1.2 6) 0 0 64)) fun s2 =>
  ox_let (ox_sA s2 10 (fun j => if j < 8 then (0 : Int32) else s2.2 10 j)) fun s3 =>
  ox_let (ox_s1 s3 12 (0 : Int32)) fun s4 =>
  ox_let (ox_s1 s4 13 (0 : Int32)) fun s5 =>
  (oc_Land_numberEdges s5).bind fun s6 =>
  some s6
noncomputable def oc_T_turnRound_a22_b5 (x3 : Int32) (x4 : Int32) (σ : ox_S) : Option ((Int32 × Int32 × ox_S) ⊕ ox_S) :=
  if x4 ≤ x3 then
    some (.inr σ)
  else
    ox_ix x3 8 fun j1 =>
    ox_let (σ.2 13 j1) fun v2 =>
    ox_ix x4 8 fun j3 =>
    ox_ix x3 8 fun j4 =>
    ox_let (ox_s2 σ 13 j4 (σ.2 13 j3)) fun s5 =>
    ox_ix x4 8 fun j6 =>
    ox_let (ox_s2 s5 13 j6 v2) fun s7 =>
    ox_let (x3 + (1 : Int32)) fun v8 =>
    ox_let (x4 + (-1 : Int32)) fun v9 =>
    some (.inl (v8, v9, s7))
noncomputable def oc_T_turnRound_a22_h5 (x3 : Int32) (x4 : Int32) (σ : ox_S) : Option ox_S :=
  ox_w (fun t => oc_T_turnRound_a22_b5 t.1 t.2.1 t.2.2) (x3, x4, σ)
noncomputable def oc_T_turnRound_a22 (x1 : Int32) (x2 : Int32) (σ : ox_S) : Option ox_S :=
  oc_T_turnRound_a22_h5 x1 x2 σ
noncomputable def oc_TourList_goToNextRow_j79 (x1 : Int32) (x2 : Int32) (x3 : Int32) (σ : ox_S) : Option (Int32 × ox_S) :=
  ox_ix x2 8 fun j3 =>
  ox_let (σ.2 13 j3) fun v4 =>
  ox_ix x3 8 fun j5 =>
  ox_ix x2 8 fun j6 =>
  ox_let (ox_s2 σ 13 j6 (σ.2 13 j5)) fun s7 =>
  ox_ix x3 8 fun j8 =>
  ox_let (ox_s2 s7 13 j8 v4) fun s9 =>
  (oc_T_turnRound_a22 (x2 + (1 : Int32)) x1 s9).bind fun s10 =>
  some ((1 : Int32), s10)
noncomputable def oc_TourList_goToNextRow_b51 (x1 : Int32) (x2 : Int32) (x3 : Int32) (σ : ox_S) : Option (Int32 ⊕ (Int32 × ox_S)) :=
  if x3 ≤ (x2 + (1 : Int32)) then
    (oc_TourList_goToNextRow_j79 x1 x2 x3 σ).map (fun t => .inr t)
  else
    ox_ix x3 8 fun j11 =>
    ox_ix x2 8 fun j12 =>
    if (σ.2 13 j12) ≤ (σ.2 13 j11) then
      (oc_TourList_goToNextRow_j79 x1 x2 x3 σ).map (fun t => .inr t)
    else
      ox_let (x3 + (-1 : Int32)) fun v13 =>
      some (.inl v13)
noncomputable def oc_TourList_goToNextRow_h51 (x1 : Int32) (x2 : Int32) (x3 : Int32) (σ : ox_S) : Option (Int32 × ox_S) :=
  ox_w (fun t => oc_TourList_goToNextRow_b51 x1 x2 t σ) x3
noncomputable def oc_TourList_goToNextRow_b14 (x1 : Int32) (x2 : Int32) (σ : ox_S) : Option (Int32 ⊕ (Int32 × ox_S)) :=
  if x2 < (1 : Int32) then
    if (1 : Int32) ≤ x2 then
      (oc_TourList_goToNextRow_h51 x1 x2 x1 σ).map (fun t => .inr t)
    else
      some (.inr ((0 : Int32), σ))
  else
    ox_ix x2 8 fun j14 =>
    ox_ix (x2 + (1 : Int32)) 8 fun j15 =>
    if (σ.2 13 j14) ≤ (σ.2 13 j15) then
      if (1 : Int32) ≤ x2 then
        (oc_TourList_goToNextRow_h51 x1 x2 x1 σ).map (fun t => .inr t)
      else
        some (.inr ((0 : Int32), σ))
    else
      ox_let (x2 + (-1 : Int32)) fun v16 =>
      some (.inl v16)
noncomputable def oc_TourList_goToNextRow_h14 (x1 : Int32) (x2 : Int32) (σ : ox_S) : Option (Int32 × ox_S) :=
  ox_w (fun t => oc_TourList_goToNextRow_b14 x1 t σ) x2
noncomputable def oc_TourList_goToNextRow  (σ : ox_S) : Option (Int32 × ox_S) :=
  ox_let ((σ.1 10) - (1 : Int32)) fun v1 =>
  ox_let (v1 - (1 : Int32)) fun v2 =>
  oc_TourList_goToNextRow_h14 v1 v2 σ
noncomputable def oc_Land_edgeBit (x1 : Int32) (x2 : Int32) (σ : ox_S) : Option Int32 :=
  ox_ix ((x1 * (8 : Int32)) + x2) 64 fun j1 =>
  some ((1 : Int32) <<< ((σ.2 7 j1) &&& 31))
noncomputable def oc_Land_between (x1 : Int32) (x2 : Int32) (σ : ox_S) : Option Int32 :=
  ox_ix ((x1 * (8 : Int32)) + x2) 64 fun j1 =>
  some (σ.2 6 j1)
noncomputable def oc_TourList_append_b22 (x1 : Int32) (x2 : Int32) (x3 : Int32) (x4 : Int32) (σ : ox_S) : Option ((Int32 × Int32 × Int32 × Int32) ⊕ ox_S) :=
  if (σ.1 10) ≤ x4 then
    ox_ix (σ.1 17) 2520 fun j3 =>
    ox_let (ox_s2 σ 14 j3 x1) fun s4 =>
    ox_ix (s4.1 17) 2520 fun j5 =>
    ox_let (ox_s2 s4 15 j5 x2) fun s6 =>
    ox_let (ox_s1 s6 17 ((s6.1 17) + (1 : Int32))) fun s7 =>
    some (.inr s7)
  else
    ox_ix x4 8 fun j8 =>
    (oc_Land_edgeBit x3 (σ.2 13 j8) σ).bind fun r9 =>
    ox_let (x1 ||| r9) fun v10 =>
    ox_ix x4 8 fun j11 =>
    (oc_Land_between x3 (σ.2 13 j11) σ).bind fun r12 =>
    ox_let (x2 + r12) fun v13 =>
    ox_ix x4 8 fun j14 =>
    ox_let (σ.2 13 j14) fun v15 =>
    ox_let (x4 + (1 : Int32)) fun v16 =>
    some (.inl (v10, v13, v15, v16))
noncomputable def oc_TourList_append_h22 (x1 : Int32) (x2 : Int32) (x3 : Int32) (x4 : Int32) (σ : ox_S) : Option ox_S :=
  ox_w (fun t => oc_TourList_append_b22 t.1 t.2.1 t.2.2.1 t.2.2.2 σ) (x1, x2, x3, x4)
noncomputable def oc_TourList_append  (σ : ox_S) : Option ox_S :=
  ox_ix ((σ.1 10) - (1 : Int32)) 8 fun j1 =>
  ox_let (σ.2 13 j1) fun v2 =>
  oc_TourList_append_h22 (0 : Int32) (0 : Int32) v2 (0 : Int32) σ
noncomputable def oc_TourList_listAll_b30 (x1 : Int32) (x2 : Int32) (σ : ox_S) : Option ((Int32 × Int32 × ox_S) ⊕ ox_S) :=
  if (5040 : Int32) ≤ x2 then
    some (.inr σ)
  else
    if x1 = 0 then
      some (.inr σ)
    else
      ox_ix (1 : Int32) 8 fun j2 =>
      ox_ix ((σ.1 10) - (1 : Int32)) 8 fun j3 =>
      if (σ.2 13 j3) ≤ (σ.2 13 j2) then
        ox_b2 (oc_TourList_goToNextRow σ) fun r4 s5 =>
        ox_let (x2 + (1 : Int32)) fun v6 =>
        some (.inl (r4, v6, s5))
      else
        (oc_TourList_append σ).bind fun s7 =>
        ox_b2 (oc_TourList_goToNextRow s7) fun r8 s9 =>
        ox_let (x2 + (1 : Int32)) fun v10 =>
        some (.inl (r8, v10, s9))
noncomputable def oc_TourList_listAll_h30 (x1 : Int32) (x2 : Int32) (σ : ox_S) : Option ox_S :=
  ox_w (fun t => oc_TourList_listAll_b30 t.1 t.2.1 t.2.2) (x1, x2, σ)
noncomputable def oc_TourList_listAll_b7 (x1 : Int32) (σ : ox_S) : Option ((Int32 × ox_S) ⊕ ox_S) :=
  if (8 : Int32) ≤ x1 then
    (oc_TourList_listAll_h30 (1 : Int32) (0 : Int32) σ).map (fun t => .inr t)
  else
    ox_ix x1 8 fun j11 =>
    ox_let (ox_s2 σ 13 j11 x1) fun s12 =>
    ox_let (x1 + (1 : Int32)) fun v13 =>
    some (.inl (v13, s12))
noncomputable def oc_TourList_listAll_h7 (x1 : Int32) (σ : ox_S) : Option ox_S :=
  ox_w (fun t => oc_TourList_listAll_b7 t.1 t.2) (x1, σ)
noncomputable def oc_TourList_listAll  (σ : ox_S) : Option ox_S :=
  ox_let (ox_s1 σ 17 (0 : Int32)) fun s1 =>
  oc_TourList_listAll_h7 (0 : Int32) s1
noncomputable def oc_T_load  (σ : ox_S) : Option (Int32 × ox_S) :=
  ox_b2 (oc_Reader_read σ) fun r1 s2 =>
  if r1 = 0 then
    (oc_Land_settle_a14 (s2.1 9) s2).bind fun s3 =>
    (oc_TourList_listAll s3).bind fun s4 =>
    ox_let (ox_s1 s4 18 (0 : Int32)) fun s5 =>
    ox_let (ox_s1 s5 19 (0 : Int32)) fun s6 =>
    some (r1, s6)
  else
    some (r1, s2)
noncomputable def oc_T_size  (σ : ox_S) : Option Int32 :=
  some (σ.1 10)
noncomputable def oc_Land_isCity (x1 : Int32) (σ : ox_S) : Option Int32 :=
  if x1 < 0 then
    some (0 : Int32)
  else
    if (σ.1 10) ≤ x1 then
      some (0 : Int32)
    else
      some (1 : Int32)
noncomputable def oc_T_distance (x1 : Int32) (x2 : Int32) (σ : ox_S) : Option Int32 :=
  (oc_Land_isCity x1 σ).bind fun r1 =>
  if r1 = 0 then
    some (-1 : Int32)
  else
    (oc_Land_isCity x2 σ).bind fun r2 =>
    if r2 = 0 then
      some (-1 : Int32)
    else
      (oc_Land_between x1 x2 σ).bind fun r3 =>
      some r3
noncomputable def oc_Land_putMark_j23 (x1 : Int32) (x2 : Int32) (y0 : Int32) (σ : ox_S) : Option ox_S :=
  ox_let (ox_s1 σ 12 y0) fun s1 =>
  if x2 = (2 : Int32) then
    ox_let (ox_s1 s1 13 ((s1.1 13) ||| x1)) fun s3 =>
    some s3
  else
    ox_let (ox_s1 s1 13 ((s1.1 13) &&& (x1 ^^^ (-1 : Int32)))) fun s2 =>
    some s2
noncomputable def oc_Land_putMark (x1 : Int32) (x2 : Int32) (σ : ox_S) : Option ox_S :=
  if x2 = (1 : Int32) then
    oc_Land_putMark_j23 x1 x2 ((σ.1 12) ||| x1) σ
  else
    oc_Land_putMark_j23 x1 x2 ((σ.1 12) &&& (x1 ^^^ (-1 : Int32))) σ
noncomputable def oc_T_mark (x1 : Int32) (x2 : Int32) (x3 : Int32) (σ : ox_S) : Option (Int32 × ox_S) :=
  (oc_Land_isCity x1 σ).bind fun r1 =>
  if r1 = 0 then
    some ((0 : Int32), σ)
  else
    (oc_Land_isCity x2 σ).bind fun r2 =>
    if r2 = 0 then
      some ((0 : Int32), σ)
    else
      if x1 = x2 then
        some ((0 : Int32), σ)
      else
        if x3 < 0 then
          some ((0 : Int32), σ)
        else
          if x3 ≤ (2 : Int32) then
            (oc_Land_edgeBit x1 x2 σ).bind fun r3 =>
            (oc_Land_putMark r3 x3 σ).bind fun s4 =>
            some ((1 : Int32), s4)
          else
            some ((0 : Int32), σ)
noncomputable def oc_T_isPotential (x0 : Int32) (σ : ox_S) : Option Int32 :=
  if x0 < (-100000 : Int32) then
    some (0 : Int32)
  else
    if (100000 : Int32) < x0 then
      some (0 : Int32)
    else
      some (1 : Int32)
noncomputable def oc_T_lift (x1 : Int32) (x2 : Int32) (σ : ox_S) : Option (Int32 × ox_S) :=
  (oc_Land_isCity x1 σ).bind fun r1 =>
  if r1 = 0 then
    some ((0 : Int32), σ)
  else
    (oc_T_isPotential x2 σ).bind fun r2 =>
    if r2 = 0 then
      some ((0 : Int32), σ)
    else
      ox_ix x1 8 fun j3 =>
      ox_let (ox_s2 σ 10 j3 x2) fun s4 =>
      some ((1 : Int32), s4)
noncomputable def oc_T_potential (x1 : Int32) (σ : ox_S) : Option Int32 :=
  (oc_Land_isCity x1 σ).bind fun r1 =>
  if r1 = 0 then
    some (0 : Int32)
  else
    ox_ix x1 8 fun j2 =>
    some (σ.2 10 j2)
noncomputable def oc_OneTree_clear_b17 (x1 : Int32) (σ : ox_S) : Option ((Int32 × ox_S) ⊕ ox_S) :=
  if (8 : Int32) ≤ x1 then
    some (.inr σ)
  else
    ox_ix x1 8 fun j4 =>
    ox_let (ox_s2 σ 11 j4 x1) fun s5 =>
    ox_ix x1 8 fun j6 =>
    ox_let (ox_s2 s5 12 j6 (0 : Int32)) fun s7 =>
    ox_let (x1 + (1 : Int32)) fun v8 =>
    some (.inl (v8, s7))
noncomputable def oc_OneTree_clear_h17 (x1 : Int32) (σ : ox_S) : Option ox_S :=
  ox_w (fun t => oc_OneTree_clear_b17 t.1 t.2) (x1, σ)
noncomputable def oc_OneTree_clear  (σ : ox_S) : Option ox_S :=
  ox_let (ox_s1 σ 14 (0 : Int32)) fun s1 =>
  ox_let (ox_s1 s1 15 (0 : Int32)) fun s2 =>
  ox_let (ox_s1 s2 16 (0 : Int32)) fun s3 =>
  oc_OneTree_clear_h17 (0 : Int32) s3
noncomputable def oc_OneTree_weigh (x1 : Int32) (σ : ox_S) : Option Int32 :=
  ox_ix x1 28 fun j1 =>
  ox_let (σ.2 8 j1) fun v2 =>
  ox_ix x1 28 fun j3 =>
  ox_let (σ.2 9 j3) fun v4 =>
  (oc_Land_between v2 v4 σ).bind fun r5 =>
  ox_ix v2 8 fun j6 =>
  ox_ix v4 8 fun j7 =>
  some ((r5 + (σ.2 10 j6)) + (σ.2 10 j7))
noncomputable def oc_OneTree_fits (x1 : Int32) (σ : ox_S) : Option Int32 :=
  ox_ix x1 28 fun j1 =>
  ox_let (σ.2 8 j1) fun v2 =>
  if v2 = 0 then
    ox_ix (0 : Int32) 8 fun j6 =>
    if (2 : Int32) ≤ (σ.2 12 j6) then
      some (0 : Int32)
    else
      some (1 : Int32)
  else
    ox_ix v2 8 fun j3 =>
    ox_ix x1 28 fun j4 =>
    ox_ix (σ.2 9 j4) 8 fun j5 =>
    if (σ.2 11 j3) = (σ.2 11 j5) then
      some (0 : Int32)
    else
      some (1 : Int32)
noncomputable def oc_OneTree_lightest_j47 (x2 : Int32) (x3 : Int32) (x4 : Int32) (y0 : Int32) (σ : ox_S) : Option ((Int32 × Int32) ⊕ Int32) :=
  if y0 = 0 then
    ox_let (x4 + (1 : Int32)) fun v2 =>
    some (.inl (x3, v2))
  else
    if x3 < 0 then
      ox_let (x4 + (1 : Int32)) fun v3 =>
      some (.inl (x4, v3))
    else
      (oc_OneTree_weigh x4 σ).bind fun r4 =>
      (oc_OneTree_weigh x3 σ).bind fun r5 =>
      if r5 ≤ r4 then
        ox_let (x4 + (1 : Int32)) fun v6 =>
        some (.inl (x3, v6))
      else
        ox_let (x4 + (1 : Int32)) fun v7 =>
        some (.inl (x4, v7))
noncomputable def oc_OneTree_lightest_b12 (x2 : Int32) (x3 : Int32) (x4 : Int32) (σ : ox_S) : Option ((Int32 × Int32) ⊕ Int32) :=
  if (σ.1 11) ≤ x4 then
    some (.inr x3)
  else
    if ((x2 >>> (x4 &&& 31)) &&& (1 : Int32)) = 0 then
      (oc_OneTree_fits x4 σ).bind fun r8 =>
      if r8 = 0 then
        oc_OneTree_lightest_j47 x2 x3 x4 (0 : Int32) σ
      else
        oc_OneTree_lightest_j47 x2 x3 x4 (1 : Int32) σ
    else
      oc_OneTree_lightest_j47 x2 x3 x4 (0 : Int32) σ
noncomputable def oc_OneTree_lightest_h12 (x2 : Int32) (x3 : Int32) (x4 : Int32) (σ : ox_S) : Option Int32 :=
  ox_w (fun t => oc_OneTree_lightest_b12 x2 t.1 t.2 σ) (x3, x4)
noncomputable def oc_OneTree_lightest (x1 : Int32) (σ : ox_S) : Option Int32 :=
  ox_let ((σ.1 14) ||| x1) fun v1 =>
  oc_OneTree_lightest_h12 v1 (-1 : Int32) (0 : Int32) σ
noncomputable def oc_OneTree_join_b2 (x1 : Int32) (x2 : Int32) (x3 : Int32) (σ : ox_S) : Option ((Int32 × ox_S) ⊕ ox_S) :=
  if (8 : Int32) ≤ x3 then
    some (.inr σ)
  else
    ox_ix x3 8 fun j1 =>
    if (σ.2 11 j1) = x2 then
      ox_ix x3 8 fun j3 =>
      ox_let (ox_s2 σ 11 j3 x1) fun s4 =>
      ox_let (x3 + (1 : Int32)) fun v5 =>
      some (.inl (v5, s4))
    else
      ox_let (x3 + (1 : Int32)) fun v2 =>
      some (.inl (v2, σ))
noncomputable def oc_OneTree_join_h2 (x1 : Int32) (x2 : Int32) (x3 : Int32) (σ : ox_S) : Option ox_S :=
  ox_w (fun t => oc_OneTree_join_b2 x1 x2 t.1 t.2) (x3, σ)
noncomputable def oc_OneTree_join (x1 : Int32) (x2 : Int32) (σ : ox_S) : Option ox_S :=
  oc_OneTree_join_h2 x1 x2 (0 : Int32) σ
noncomputable def oc_OneTree_take (x1 : Int32) (σ : ox_S) : Option ox_S :=
  ox_ix x1 28 fun j1 =>
  ox_let (σ.2 8 j1) fun v2 =>
  ox_ix x1 28 fun j3 =>
  ox_let (σ.2 9 j3) fun v4 =>
  ox_let (ox_s1 σ 14 ((σ.1 14) ||| ((1 : Int32) <<< (x1 &&& 31)))) fun s5 =>
  ox_let (ox_s1 s5 15 ((s5.1 15) + (1 : Int32))) fun s6 =>
  (oc_OneTree_weigh x1 s6).bind fun r7 =>
  ox_let (ox_s1 s6 16 ((s6.1 16) + r7)) fun s8 =>
  ox_ix v2 8 fun j9 =>
  ox_ix v2 8 fun j10 =>
  ox_let (ox_s2 s8 12 j10 ((s8.2 12 j9) + (1 : Int32))) fun s11 =>
  ox_ix v4 8 fun j12 =>
  ox_ix v4 8 fun j13 =>
  ox_let (ox_s2 s11 12 j13 ((s11.2 12 j12) + (1 : Int32))) fun s14 =>
  if v2 = 0 then
    some s14
  else
    ox_ix v2 8 fun j15 =>
    ox_ix v4 8 fun j16 =>
    (oc_OneTree_join (s14.2 11 j15) (s14.2 11 j16) s14).bind fun s17 =>
    some s17
noncomputable def oc_OneTree_grow_b51 (x2 : Int32) (x3 : Int32) (σ : ox_S) : Option ((Int32 × ox_S) ⊕ (Int32 × ox_S)) :=
  if (σ.1 10) ≤ x3 then
    if (σ.1 10) ≤ 0 then
      some (.inr ((0 : Int32), σ))
    else
      some (.inr ((1 : Int32), σ))
  else
    (oc_OneTree_lightest x2 σ).bind fun r3 =>
    if 0 ≤ r3 then
      (oc_OneTree_take r3 σ).bind fun s4 =>
      ox_let (x3 + (1 : Int32)) fun v5 =>
      some (.inl (v5, s4))
    else
      some (.inr ((0 : Int32), σ))
noncomputable def oc_OneTree_grow_h51 (x2 : Int32) (x3 : Int32) (σ : ox_S) : Option (Int32 × ox_S) :=
  ox_w (fun t => oc_OneTree_grow_b51 x2 t.1 t.2) (x3, σ)
noncomputable def oc_OneTree_grow_b6 (x1 : Int32) (x2 : Int32) (x3 : Int32) (σ : ox_S) : Option ((Int32 × ox_S) ⊕ (Int32 × ox_S)) :=
  if (σ.1 11) ≤ x3 then
    ox_let (σ.1 15) fun v2 =>
    (oc_OneTree_grow_h51 x2 v2 σ).map (fun t => .inr t)
  else
    if ((x1 >>> (x3 &&& 31)) &&& (1 : Int32)) = 0 then
      ox_let (x3 + (1 : Int32)) fun v6 =>
      some (.inl (v6, σ))
    else
      (oc_OneTree_fits x3 σ).bind fun r7 =>
      if r7 = 0 then
        some (.inr ((0 : Int32), σ))
      else
        (oc_OneTree_take x3 σ).bind fun s8 =>
        ox_let (x3 + (1 : Int32)) fun v9 =>
        some (.inl (v9, s8))
noncomputable def oc_OneTree_grow_h6 (x1 : Int32) (x2 : Int32) (x3 : Int32) (σ : ox_S) : Option (Int32 × ox_S) :=
  ox_w (fun t => oc_OneTree_grow_b6 x1 x2 t.1 t.2) (x3, σ)
noncomputable def oc_OneTree_grow (x1 : Int32) (x2 : Int32) (σ : ox_S) : Option (Int32 × ox_S) :=
  (oc_OneTree_clear σ).bind fun s1 =>
  oc_OneTree_grow_h6 x1 x2 (0 : Int32) s1
noncomputable def oc_Land_sumOfPotentials_b4 (x1 : Int32) (x2 : Int32) (σ : ox_S) : Option ((Int32 × Int32) ⊕ Int32) :=
  if (σ.1 10) ≤ x2 then
    some (.inr x1)
  else
    ox_ix x2 8 fun j1 =>
    ox_let (x1 + (σ.2 10 j1)) fun v2 =>
    ox_let (x2 + (1 : Int32)) fun v3 =>
    some (.inl (v2, v3))
noncomputable def oc_Land_sumOfPotentials_h4 (x1 : Int32) (x2 : Int32) (σ : ox_S) : Option Int32 :=
  ox_w (fun t => oc_Land_sumOfPotentials_b4 t.1 t.2 σ) (x1, x2)
noncomputable def oc_Land_sumOfPotentials  (σ : ox_S) : Option Int32 :=
  oc_Land_sumOfPotentials_h4 (0 : Int32) (0 : Int32) σ
noncomputable def oc_OneTree_boundUnder (x1 : Int32) (x2 : Int32) (σ : ox_S) : Option (Int32 × ox_S) :=
  ox_b2 (oc_OneTree_grow x1 x2 σ) fun r1 s2 =>
  if r1 = 0 then
    some ((-2000000 : Int32), s2)
  else
    (oc_Land_sumOfPotentials s2).bind fun r3 =>
    some ((s2.1 16) - ((2 : Int32) * r3), s2)
noncomputable def oc_T_bound  (σ : ox_S) : Option (Int32 × ox_S) :=
  ox_b2 (oc_OneTree_boundUnder (σ.1 12) (σ.1 13) σ) fun r1 s2 =>
  some (r1, s2)
noncomputable def oc_T_degree (x1 : Int32) (σ : ox_S) : Option (Int32 × ox_S) :=
  (oc_Land_isCity x1 σ).bind fun r1 =>
  if r1 = 0 then
    some ((-1 : Int32), σ)
  else
    ox_b2 (oc_OneTree_grow (σ.1 12) (σ.1 13) σ) fun r2 s3 =>
    if r2 = 0 then
      some ((-1 : Int32), s3)
    else
      ox_ix x1 8 fun j4 =>
      some (s3.2 12 j4, s3)
noncomputable def oc_T_ascended (x1 : Int32) (x2 : Int32) (σ : ox_S) : Option Int32 :=
  ox_ix x1 8 fun j1 =>
  ox_ix x1 8 fun j2 =>
  some ((σ.2 10 j1) + (x2 * ((σ.2 12 j2) - (2 : Int32))))
noncomputable def oc_T_ascend_b73 (x1 : Int32) (x2 : Int32) (σ : ox_S) : Option ((Int32 × ox_S) ⊕ (Int32 × ox_S)) :=
  if (σ.1 10) ≤ x2 then
    ox_b2 (oc_T_bound σ) fun r3 s4 =>
    some (.inr (r3, s4))
  else
    (oc_T_ascended x2 x1 σ).bind fun r5 =>
    ox_ix x2 8 fun j6 =>
    ox_let (ox_s2 σ 10 j6 r5) fun s7 =>
    ox_let (x2 + (1 : Int32)) fun v8 =>
    some (.inl (v8, s7))
noncomputable def oc_T_ascend_h73 (x1 : Int32) (x2 : Int32) (σ : ox_S) : Option (Int32 × ox_S) :=
  ox_w (fun t => oc_T_ascend_b73 x1 t.1 t.2) (x2, σ)
noncomputable def oc_T_ascend_b40 (x1 : Int32) (x2 : Int32) (σ : ox_S) : Option (Int32 ⊕ (Int32 × ox_S)) :=
  if (σ.1 10) ≤ x2 then
    (oc_T_ascend_h73 x1 (0 : Int32) σ).map (fun t => .inr t)
  else
    (oc_T_ascended x2 x1 σ).bind fun r9 =>
    (oc_T_isPotential r9 σ).bind fun r10 =>
    if r10 = 0 then
      some (.inr ((-1 : Int32), σ))
    else
      ox_let (x2 + (1 : Int32)) fun v11 =>
      some (.inl v11)
noncomputable def oc_T_ascend_h40 (x1 : Int32) (x2 : Int32) (σ : ox_S) : Option (Int32 × ox_S) :=
  ox_w (fun t => oc_T_ascend_b40 x1 t σ) x2
noncomputable def oc_T_ascend (x1 : Int32) (σ : ox_S) : Option (Int32 × ox_S) :=
  if x1 < (1 : Int32) then
    some ((-1 : Int32), σ)
  else
    if (1000 : Int32) < x1 then
      some ((-1 : Int32), σ)
    else
      ox_b2 (oc_OneTree_grow (σ.1 12) (σ.1 13) σ) fun r1 s2 =>
      if r1 = 0 then
        some ((-1 : Int32), s2)
      else
        oc_T_ascend_h40 x1 (0 : Int32) s2
noncomputable def oc_T_keepsTo (x0 : Int32) (x1 : Int32) (x2 : Int32) (σ : ox_S) : Option Int32 :=
  if (x0 &&& x1) = x1 then
    if (x0 &&& x2) = 0 then
      some (1 : Int32)
    else
      some (0 : Int32)
  else
    some (0 : Int32)
noncomputable def oc_TourList_isAllowed (x1 : Int32) (σ : ox_S) : Option Int32 :=
  ox_ix x1 2520 fun j1 =>
  (oc_T_keepsTo (σ.2 14 j1) (σ.1 12) (σ.1 13) σ).bind fun r2 =>
  ox_z r2 <|
  some r2
noncomputable def oc_TourList_firstLeast_b4 (x1 : Int32) (x2 : Int32) (σ : ox_S) : Option ((Int32 × Int32) ⊕ Int32) :=
  if (σ.1 17) ≤ x2 then
    some (.inr x1)
  else
    (oc_TourList_isAllowed x2 σ).bind fun r1 =>
    if r1 = 0 then
      ox_let (x2 + (1 : Int32)) fun v2 =>
      some (.inl (x1, v2))
    else
      if x1 < 0 then
        ox_let (x2 + (1 : Int32)) fun v3 =>
        some (.inl (x2, v3))
      else
        ox_ix x2 2520 fun j4 =>
        ox_ix x1 2520 fun j5 =>
        if (σ.2 15 j5) ≤ (σ.2 15 j4) then
          ox_let (x2 + (1 : Int32)) fun v6 =>
          some (.inl (x1, v6))
        else
          ox_let (x2 + (1 : Int32)) fun v7 =>
          some (.inl (x2, v7))
noncomputable def oc_TourList_firstLeast_h4 (x1 : Int32) (x2 : Int32) (σ : ox_S) : Option Int32 :=
  ox_w (fun t => oc_TourList_firstLeast_b4 t.1 t.2 σ) (x1, x2)
noncomputable def oc_TourList_firstLeast  (σ : ox_S) : Option Int32 :=
  oc_TourList_firstLeast_h4 (-1 : Int32) (0 : Int32) σ
noncomputable def oc_Round_follow_j65 (x1 : Int32) (x2 : Int32) (x3 : Int32) (x4 : Int32) (y0 : Int32) (σ : ox_S) : Option ((Int32 × ox_S) ⊕ ((Int32 × Int32 × ox_S) ⊕ ox_S)) :=
  if ((x2 >>> (x4 &&& 31)) &&& (1 : Int32)) = 0 then
    if y0 = 0 then
      ox_let (x4 + (-1 : Int32)) fun v11 =>
      some (.inl (v11, σ))
    else
      ox_ix x3 8 fun j12 =>
      ox_let (ox_s2 σ 16 j12 x4) fun s13 =>
      ox_let (x4 + (-1 : Int32)) fun v14 =>
      some (.inl (v14, s13))
  else
    ox_let (x4 + (-1 : Int32)) fun v10 =>
    some (.inl (v10, σ))
noncomputable def oc_Round_follow_b33 (x1 : Int32) (x2 : Int32) (x3 : Int32) (x4 : Int32) (σ : ox_S) : Option ((Int32 × ox_S) ⊕ ((Int32 × Int32 × ox_S) ⊕ ox_S)) :=
  if x4 ≤ 0 then
    ox_ix x3 8 fun j5 =>
    ox_let (x2 ||| ((1 : Int32) <<< ((σ.2 16 j5) &&& 31))) fun v6 =>
    ox_let (x3 + (1 : Int32)) fun v7 =>
    some (.inr (.inl (v6, v7, σ)))
  else
    ox_ix (x3 - (1 : Int32)) 8 fun j8 =>
    (oc_Land_edgeBit (σ.2 16 j8) x4 σ).bind fun r9 =>
    if (x1 &&& r9) = 0 then
      oc_Round_follow_j65 x1 x2 x3 x4 (0 : Int32) σ
    else
      oc_Round_follow_j65 x1 x2 x3 x4 (1 : Int32) σ
noncomputable def oc_Round_follow_h33 (x1 : Int32) (x2 : Int32) (x3 : Int32) (x4 : Int32) (σ : ox_S) : Option ((Int32 × Int32 × ox_S) ⊕ ox_S) :=
  ox_w (fun t => oc_Round_follow_b33 x1 x2 x3 t.1 t.2) (x4, σ)
noncomputable def oc_Round_follow_b11 (x1 : Int32) (x2 : Int32) (x3 : Int32) (σ : ox_S) : Option ((Int32 × Int32 × ox_S) ⊕ ox_S) :=
  if (σ.1 10) ≤ x3 then
    ox_let (ox_s1 σ 18 (1 : Int32)) fun s3 =>
    some (.inr s3)
  else
    ox_let ((σ.1 10) - (1 : Int32)) fun v4 =>
    oc_Round_follow_h33 x1 x2 x3 v4 σ
noncomputable def oc_Round_follow_h11 (x1 : Int32) (x2 : Int32) (x3 : Int32) (σ : ox_S) : Option ox_S :=
  ox_w (fun t => oc_Round_follow_b11 x1 t.1 t.2.1 t.2.2) (x2, x3, σ)
noncomputable def oc_Round_follow (x1 : Int32) (σ : ox_S) : Option ox_S :=
  ox_ix (0 : Int32) 8 fun j1 =>
  ox_let (ox_s2 σ 16 j1 (0 : Int32)) fun s2 =>
  oc_Round_follow_h11 x1 (1 : Int32) (1 : Int32) s2
noncomputable def oc_T_solve  (σ : ox_S) : Option (Int32 × ox_S) :=
  (oc_TourList_firstLeast σ).bind fun r1 =>
  if 0 ≤ r1 then
    ox_ix r1 2520 fun j2 =>
    (oc_Round_follow (σ.2 14 j2) σ).bind fun s3 =>
    ox_ix r1 2520 fun j4 =>
    some (s3.2 15 j4, s3)
  else
    some ((-2000000 : Int32), σ)
noncomputable def oc_TourList_countLeast_b15 (x1 : Int32) (x2 : Int32) (x3 : Int32) (σ : ox_S) : Option ((Int32 × Int32) ⊕ Int32) :=
  if (σ.1 17) ≤ x3 then
    some (.inr x2)
  else
    ox_ix x3 2520 fun j2 =>
    ox_ix x1 2520 fun j3 =>
    if (σ.2 15 j2) = (σ.2 15 j3) then
      (oc_TourList_isAllowed x3 σ).bind fun r5 =>
      if r5 = 0 then
        ox_let (x3 + (1 : Int32)) fun v6 =>
        some (.inl (x2, v6))
      else
        ox_let (x2 + (1 : Int32)) fun v7 =>
        ox_let (x3 + (1 : Int32)) fun v8 =>
        some (.inl (v7, v8))
    else
      ox_let (x3 + (1 : Int32)) fun v4 =>
      some (.inl (x2, v4))
noncomputable def oc_TourList_countLeast_h15 (x1 : Int32) (x2 : Int32) (x3 : Int32) (σ : ox_S) : Option Int32 :=
  ox_w (fun t => oc_TourList_countLeast_b15 x1 t.1 t.2 σ) (x2, x3)
noncomputable def oc_TourList_countLeast  (σ : ox_S) : Option Int32 :=
  (oc_TourList_firstLeast σ).bind fun r1 =>
  if 0 ≤ r1 then
    oc_TourList_countLeast_h15 r1 (0 : Int32) r1 σ
  else
    some (0 : Int32)
noncomputable def oc_T_ties  (σ : ox_S) : Option Int32 :=
  (oc_TourList_countLeast σ).bind fun r1 =>
  some r1
noncomputable def oc_Round_nearest_j31 (x1 : Int32) (x2 : Int32) (x3 : Int32) (x4 : Int32) (y0 : Int32) (σ : ox_S) : Option ((Int32 × Int32) ⊕ Int32) :=
  if y0 = 0 then
    ox_let (x4 + (1 : Int32)) fun v1 =>
    some (.inl (x3, v1))
  else
    if x3 = 0 then
      ox_let (x4 + (1 : Int32)) fun v2 =>
      some (.inl (x4, v2))
    else
      (oc_Land_between x1 x4 σ).bind fun r3 =>
      (oc_Land_between x1 x3 σ).bind fun r4 =>
      if r4 ≤ r3 then
        ox_let (x4 + (1 : Int32)) fun v5 =>
        some (.inl (x3, v5))
      else
        ox_let (x4 + (1 : Int32)) fun v6 =>
        some (.inl (x4, v6))
noncomputable def oc_Round_nearest_b5 (x1 : Int32) (x2 : Int32) (x3 : Int32) (x4 : Int32) (σ : ox_S) : Option ((Int32 × Int32) ⊕ Int32) :=
  if (σ.1 10) ≤ x4 then
    some (.inr x3)
  else
    if ((x2 >>> (x4 &&& 31)) &&& (1 : Int32)) = 0 then
      oc_Round_nearest_j31 x1 x2 x3 x4 (1 : Int32) σ
    else
      oc_Round_nearest_j31 x1 x2 x3 x4 (0 : Int32) σ
noncomputable def oc_Round_nearest_h5 (x1 : Int32) (x2 : Int32) (x3 : Int32) (x4 : Int32) (σ : ox_S) : Option Int32 :=
  ox_w (fun t => oc_Round_nearest_b5 x1 x2 t.1 t.2 σ) (x3, x4)
noncomputable def oc_Round_nearest (x1 : Int32) (x2 : Int32) (σ : ox_S) : Option Int32 :=
  oc_Round_nearest_h5 x1 x2 (0 : Int32) (1 : Int32) σ
noncomputable def oc_Round_goToNearest_b11 (x1 : Int32) (x2 : Int32) (σ : ox_S) : Option ((Int32 × Int32 × ox_S) ⊕ ox_S) :=
  if (σ.1 10) ≤ x2 then
    ox_let (ox_s1 σ 18 (1 : Int32)) fun s3 =>
    some (.inr s3)
  else
    ox_ix (x2 - (1 : Int32)) 8 fun j4 =>
    (oc_Round_nearest (σ.2 16 j4) x1 σ).bind fun r5 =>
    ox_ix x2 8 fun j6 =>
    ox_let (ox_s2 σ 16 j6 r5) fun s7 =>
    ox_ix x2 8 fun j8 =>
    ox_let (x1 ||| ((1 : Int32) <<< ((s7.2 16 j8) &&& 31))) fun v9 =>
    ox_let (x2 + (1 : Int32)) fun v10 =>
    some (.inl (v9, v10, s7))
noncomputable def oc_Round_goToNearest_h11 (x1 : Int32) (x2 : Int32) (σ : ox_S) : Option ox_S :=
  ox_w (fun t => oc_Round_goToNearest_b11 t.1 t.2.1 t.2.2) (x1, x2, σ)
noncomputable def oc_Round_goToNearest  (σ : ox_S) : Option ox_S :=
  ox_ix (0 : Int32) 8 fun j1 =>
  ox_let (ox_s2 σ 16 j1 (0 : Int32)) fun s2 =>
  oc_Round_goToNearest_h11 (1 : Int32) (1 : Int32) s2
noncomputable def oc_Round_gain_j39 (x1 : Int32) (x2 : Int32) (x3 : Int32) (y0 : Int32) (σ : ox_S) : Option Int32 :=
  ox_ix x1 8 fun j4 =>
  (oc_Land_between x3 (σ.2 16 j4) σ).bind fun r5 =>
  ox_ix x2 8 fun j6 =>
  (oc_Land_between (σ.2 16 j6) y0 σ).bind fun r7 =>
  ox_let (r5 + r7) fun v8 =>
  ox_ix x2 8 fun j9 =>
  (oc_Land_between x3 (σ.2 16 j9) σ).bind fun r10 =>
  ox_ix x1 8 fun j11 =>
  (oc_Land_between (σ.2 16 j11) y0 σ).bind fun r12 =>
  ox_let (r10 + r12) fun v13 =>
  some (v8 - v13)
noncomputable def oc_Round_gain (x1 : Int32) (x2 : Int32) (σ : ox_S) : Option Int32 :=
  ox_ix (x1 - (1 : Int32)) 8 fun j1 =>
  ox_let (σ.2 16 j1) fun v2 =>
  if (σ.1 10) ≤ (x2 + (1 : Int32)) then
    ox_ix (0 : Int32) 8 fun j3 =>
    oc_Round_gain_j39 x1 x2 v2 (σ.2 16 j3) σ
  else
    ox_ix (x2 + (1 : Int32)) 8 fun j14 =>
    oc_Round_gain_j39 x1 x2 v2 (σ.2 16 j14) σ
noncomputable def oc_T_turnRound_a25_b5 (x3 : Int32) (x4 : Int32) (σ : ox_S) : Option ((Int32 × Int32 × ox_S) ⊕ ox_S) :=
  if x4 ≤ x3 then
    some (.inr σ)
  else
    ox_ix x3 8 fun j1 =>
    ox_let (σ.2 16 j1) fun v2 =>
    ox_ix x4 8 fun j3 =>
    ox_ix x3 8 fun j4 =>
    ox_let (ox_s2 σ 16 j4 (σ.2 16 j3)) fun s5 =>
    ox_ix x4 8 fun j6 =>
    ox_let (ox_s2 s5 16 j6 v2) fun s7 =>
    ox_let (x3 + (1 : Int32)) fun v8 =>
    ox_let (x4 + (-1 : Int32)) fun v9 =>
    some (.inl (v8, v9, s7))
noncomputable def oc_T_turnRound_a25_h5 (x3 : Int32) (x4 : Int32) (σ : ox_S) : Option ox_S :=
  ox_w (fun t => oc_T_turnRound_a25_b5 t.1 t.2.1 t.2.2) (x3, x4, σ)
noncomputable def oc_T_turnRound_a25 (x1 : Int32) (x2 : Int32) (σ : ox_S) : Option ox_S :=
  oc_T_turnRound_a25_h5 x1 x2 σ
noncomputable def oc_Round_turnOnce_b17 (x1 : Int32) (x2 : Int32) (σ : ox_S) : Option (Int32 ⊕ (Int32 ⊕ (Int32 × ox_S))) :=
  if (σ.1 10) ≤ x2 then
    ox_let (x1 + (1 : Int32)) fun v2 =>
    some (.inr (.inl v2))
  else
    (oc_Round_gain x1 x2 σ).bind fun r3 =>
    if r3 ≤ 0 then
      ox_let (x2 + (1 : Int32)) fun v4 =>
      some (.inl v4)
    else
      (oc_T_turnRound_a25 x1 x2 σ).bind fun s5 =>
      some (.inr (.inr ((1 : Int32), s5)))
noncomputable def oc_Round_turnOnce_h17 (x1 : Int32) (x2 : Int32) (σ : ox_S) : Option (Int32 ⊕ (Int32 × ox_S)) :=
  ox_w (fun t => oc_Round_turnOnce_b17 x1 t σ) x2
noncomputable def oc_Round_turnOnce_b2 (x1 : Int32) (σ : ox_S) : Option (Int32 ⊕ (Int32 × ox_S)) :=
  if (σ.1 10) ≤ x1 then
    some (.inr ((0 : Int32), σ))
  else
    ox_let (x1 + (1 : Int32)) fun v1 =>
    oc_Round_turnOnce_h17 x1 v1 σ
noncomputable def oc_Round_turnOnce_h2 (x1 : Int32) (σ : ox_S) : Option (Int32 × ox_S) :=
  ox_w (fun t => oc_Round_turnOnce_b2 t σ) x1
noncomputable def oc_Round_turnOnce  (σ : ox_S) : Option (Int32 × ox_S) :=
  oc_Round_turnOnce_h2 (1 : Int32) σ
noncomputable def oc_Round_shorten_b4 (x1 : Int32) (x2 : Int32) (σ : ox_S) : Option ((Int32 × Int32 × ox_S) ⊕ ox_S) :=
  if (1000000 : Int32) ≤ x2 then
    some (.inr σ)
  else
    if x1 = 0 then
      some (.inr σ)
    else
      ox_b2 (oc_Round_turnOnce σ) fun r1 s2 =>
      ox_let (x2 + (1 : Int32)) fun v3 =>
      some (.inl (r1, v3, s2))
noncomputable def oc_Round_shorten_h4 (x1 : Int32) (x2 : Int32) (σ : ox_S) : Option ox_S :=
  ox_w (fun t => oc_Round_shorten_b4 t.1 t.2.1 t.2.2) (x1, x2, σ)
noncomputable def oc_Round_shorten  (σ : ox_S) : Option ox_S :=
  oc_Round_shorten_h4 (1 : Int32) (0 : Int32) σ
noncomputable def oc_Round_turnToOrder  (σ : ox_S) : Option ox_S :=
  ox_let ((σ.1 10) - (1 : Int32)) fun v1 =>
  if v1 ≤ (1 : Int32) then
    some σ
  else
    ox_ix (1 : Int32) 8 fun j2 =>
    ox_ix v1 8 fun j3 =>
    if (σ.2 16 j2) ≤ (σ.2 16 j3) then
      some σ
    else
      (oc_T_turnRound_a25 (1 : Int32) v1 σ).bind fun s4 =>
      some s4
noncomputable def oc_Round_measure_j45 (x1 : Int32) (x2 : Int32) (y0 : Int32) (σ : ox_S) : Option ((Int32 × Int32) ⊕ Int32) :=
  ox_ix x2 8 fun j2 =>
  (oc_Land_between (σ.2 16 j2) y0 σ).bind fun r3 =>
  ox_let (x1 + r3) fun v4 =>
  ox_let (x2 + (1 : Int32)) fun v5 =>
  some (.inl (v4, v5))
noncomputable def oc_Round_measure_b4 (x1 : Int32) (x2 : Int32) (σ : ox_S) : Option ((Int32 × Int32) ⊕ Int32) :=
  if (σ.1 10) ≤ x2 then
    some (.inr x1)
  else
    if (σ.1 10) ≤ (x2 + (1 : Int32)) then
      ox_ix (0 : Int32) 8 fun j1 =>
      oc_Round_measure_j45 x1 x2 (σ.2 16 j1) σ
    else
      ox_ix (x2 + (1 : Int32)) 8 fun j6 =>
      oc_Round_measure_j45 x1 x2 (σ.2 16 j6) σ
noncomputable def oc_Round_measure_h4 (x1 : Int32) (x2 : Int32) (σ : ox_S) : Option Int32 :=
  ox_w (fun t => oc_Round_measure_b4 t.1 t.2 σ) (x1, x2)
noncomputable def oc_Round_measure  (σ : ox_S) : Option Int32 :=
  oc_Round_measure_h4 (0 : Int32) (0 : Int32) σ
noncomputable def oc_T_improve  (σ : ox_S) : Option (Int32 × ox_S) :=
  if (σ.1 10) = 0 then
    some ((-2000000 : Int32), σ)
  else
    (oc_Round_goToNearest σ).bind fun s1 =>
    (oc_Round_shorten s1).bind fun s2 =>
    (oc_Round_turnToOrder s2).bind fun s3 =>
    (oc_Round_measure s3).bind fun r4 =>
    some (r4, s3)
noncomputable def oc_T_tour (x1 : Int32) (σ : ox_S) : Option Int32 :=
  if (σ.1 18) = 0 then
    some (-1 : Int32)
  else
    (oc_Land_isCity x1 σ).bind fun r1 =>
    if r1 = 0 then
      some (-1 : Int32)
    else
      ox_ix x1 8 fun j2 =>
      some (σ.2 16 j2)
noncomputable def oc_Land_areEdges (x1 : Int32) (σ : ox_S) : Option Int32 :=
  if ((x1.toUInt32 >>> ((σ.1 11).toUInt32 &&& Int32.toUInt32 31)).toInt32) = 0 then
    some (1 : Int32)
  else
    some (0 : Int32)
noncomputable def oc_Cases_append (x1 : Int32) (x2 : Int32) (σ : ox_S) : Option (Int32 × ox_S) :=
  if (σ.1 19) < (10 : Int32) then
    ox_ix (σ.1 19) 10 fun j1 =>
    ox_let (ox_s2 σ 17 j1 x1) fun s2 =>
    ox_ix (s2.1 19) 10 fun j3 =>
    ox_let (ox_s2 s2 18 j3 x2) fun s4 =>
    ox_let (ox_s1 s4 19 ((s4.1 19) + (1 : Int32))) fun s5 =>
    some ((1 : Int32), s5)
  else
    some ((0 : Int32), σ)
noncomputable def oc_T_add (x1 : Int32) (x2 : Int32) (σ : ox_S) : Option (Int32 × ox_S) :=
  if (σ.1 10) = 0 then
    some ((-1 : Int32), σ)
  else
    (oc_Land_areEdges (x1 ||| x2) σ).bind fun r1 =>
    if r1 = 0 then
      some ((-1 : Int32), σ)
    else
      if (x1 &&& x2) = 0 then
        ox_b2 (oc_Cases_append x1 x2 σ) fun r2 s3 =>
        if r2 = 0 then
          some ((-2000000 : Int32), s3)
        else
          some (s3.1 19, s3)
      else
        some ((-1 : Int32), σ)
noncomputable def oc_T_drop  (σ : ox_S) : Option ox_S :=
  ox_let (ox_s1 σ 19 (0 : Int32)) fun s1 =>
  some s1
noncomputable def oc_Cases_anyHolds_b2 (x1 : Int32) (x2 : Int32) (σ : ox_S) : Option (Int32 ⊕ Int32) :=
  if (σ.1 19) ≤ x2 then
    some (.inr (0 : Int32))
  else
    ox_ix x2 10 fun j1 =>
    ox_ix x2 10 fun j2 =>
    (oc_T_keepsTo x1 (σ.2 17 j1) (σ.2 18 j2) σ).bind fun r3 =>
    if r3 = 0 then
      ox_let (x2 + (1 : Int32)) fun v4 =>
      some (.inl v4)
    else
      some (.inr (1 : Int32))
noncomputable def oc_Cases_anyHolds_h2 (x1 : Int32) (x2 : Int32) (σ : ox_S) : Option Int32 :=
  ox_w (fun t => oc_Cases_anyHolds_b2 x1 t σ) x2
noncomputable def oc_Cases_anyHolds (x1 : Int32) (σ : ox_S) : Option Int32 :=
  oc_Cases_anyHolds_h2 x1 (0 : Int32) σ
noncomputable def oc_T_covers_b14 (x1 : Int32) (σ : ox_S) : Option (Int32 ⊕ Int32) :=
  if (σ.1 17) ≤ x1 then
    some (.inr (1 : Int32))
  else
    (oc_TourList_isAllowed x1 σ).bind fun r1 =>
    if r1 = 0 then
      ox_let (x1 + (1 : Int32)) fun v2 =>
      some (.inl v2)
    else
      ox_ix x1 2520 fun j3 =>
      (oc_Cases_anyHolds (σ.2 14 j3) σ).bind fun r4 =>
      if r4 = 0 then
        some (.inr (0 : Int32))
      else
        ox_let (x1 + (1 : Int32)) fun v5 =>
        some (.inl v5)
noncomputable def oc_T_covers_h14 (x1 : Int32) (σ : ox_S) : Option Int32 :=
  ox_w (fun t => oc_T_covers_b14 t σ) x1
noncomputable def oc_T_covers  (σ : ox_S) : Option Int32 :=
  if (σ.1 10) = 0 then
    some (0 : Int32)
  else
    oc_T_covers_h14 (0 : Int32) σ
noncomputable def oc_T_caseBound (x1 : Int32) (σ : ox_S) : Option (Int32 × ox_S) :=
  if x1 < 0 then
    some ((-1 : Int32), σ)
  else
    if x1 < (σ.1 19) then
      ox_ix x1 10 fun j1 =>
      ox_ix x1 10 fun j2 =>
      ox_b2 (oc_OneTree_boundUnder (σ.2 17 j1) (σ.2 18 j2) σ) fun r3 s4 =>
      some (r3, s4)
    else
      some ((-1 : Int32), σ)
noncomputable def oc_T_proves_b11 (x1 : Int32) (x2 : Int32) (σ : ox_S) : Option ((Int32 × ox_S) ⊕ (Int32 × ox_S)) :=
  if (σ.1 19) ≤ x2 then
    some (.inr ((1 : Int32), σ))
  else
    ox_b2 (oc_T_caseBound x2 σ) fun r2 s3 =>
    if r2 = (-2000000 : Int32) then
      ox_let (x2 + (1 : Int32)) fun v4 =>
      some (.inl (v4, s3))
    else
      if x1 ≤ r2 then
        ox_let (x2 + (1 : Int32)) fun v5 =>
        some (.inl (v5, s3))
      else
        some (.inr ((0 : Int32), s3))
noncomputable def oc_T_proves_h11 (x1 : Int32) (x2 : Int32) (σ : ox_S) : Option (Int32 × ox_S) :=
  ox_w (fun t => oc_T_proves_b11 x1 t.1 t.2) (x2, σ)
noncomputable def oc_T_proves (x1 : Int32) (σ : ox_S) : Option (Int32 × ox_S) :=
  (oc_T_covers σ).bind fun r1 =>
  if r1 = 0 then
    some ((0 : Int32), σ)
  else
    oc_T_proves_h11 x1 (0 : Int32) σ
