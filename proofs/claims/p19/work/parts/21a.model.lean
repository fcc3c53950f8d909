-- the reference of the whole check, as a function alone: a middle between the class and what both are
def f_X2_thrown  (S : RS)  : Option (Int32) :=
  some (S.1 0)
def f_X2_fail  (S : RS) (p1 : Int32) : Option (Int32 × RS) :=
  lt (sI S 0 p1) fun (S1 : RS) =>
  some (0, S1)
def f_X2_isIn   (p0 : Int32) (p1 : Int32) (p2 : Int32) : Option (Int32) :=
  if p0 < p1 then
    some 0
  else
    if p2 < p0 then
      some 0
    else
      some 1
def f_X2_isStation  (S : RS) (p1 : Int32) : Option (Int32) :=
  ob (f_X2_isIn p1 0 ((S.1 1) - 1)) fun v2 =>
  some v2
def f_X2_isPod  (S : RS) (p1 : Int32) : Option (Int32) :=
  ob (f_X2_isIn p1 0 ((S.1 2) - 1)) fun v2 =>
  some v2
def f_X2_po  (S : RS) (p1 : Int32) (p2 : Int32) : Option (Int32) :=
  if ((7 * p1) + p2) < 0 ∨ 84 ≤ ((7 * p1) + p2).toNatClampNeg then none else
  some (S.2 0 ((7 * p1) + p2).toNatClampNeg)
def f_X2_put  (S : RS) (p1 : Int32) (p2 : Int32) (p3 : Int32) : Option (RS) :=
  if ((7 * p1) + p2) < 0 ∨ 84 ≤ ((7 * p1) + p2).toNatClampNeg then none else
  lt (sR S 0 (upd (S.2 0) ((7 * p1) + p2).toNatClampNeg p3)) fun (S2 : RS) =>
  some S2
def f_X2_st  (S : RS) (p1 : Int32) (p2 : Int32) : Option (Int32) :=
  if ((3 * p1) + p2) < 0 ∨ 18 ≤ ((3 * p1) + p2).toNatClampNeg then none else
  some (S.2 1 ((3 * p1) + p2).toNatClampNeg)
def f_X2_pe  (S : RS) (p1 : Int32) (p2 : Int32) (p3 : Int32) : Option (Int32) :=
  if ((3 * ((9 * p1) + p2)) + p3) < 0 ∨ 162 ≤ ((3 * ((9 * p1) + p2)) + p3).toNatClampNeg then none else
  some (S.2 2 ((3 * ((9 * p1) + p2)) + p3).toNatClampNeg)
def f_X2_slotAt_L2  (S : RS) : Nat → Int32 → Int32 → Option (Int32)
  | 0, _, _ => none
  | n + 1, x1, x2 =>
    if (S.1 2) ≤ x2 then
      some (-1)
    else
      ob (f_X2_po S x2 0) fun v3 =>
      if v3 = x1 then
        some x2
      else
        f_X2_slotAt_L2 S n x1 (x2 + 1)
def f_X2_slotAt  (S : RS) (p1 : Int32) : Option (Int32) :=
  f_X2_slotAt_L2 S FU p1 0
def f_X2_inBerth_L2  (S : RS) : Nat → Int32 → Int32 → Int32 → Option (Int32)
  | 0, _, _, _ => none
  | n + 1, x1, x2, x3 =>
    if (S.1 2) ≤ x3 then
      some (-1)
    else
      ob (f_X2_po S x3 1) fun v3 =>
      if v3 = x1 then
        ob (f_X2_po S x3 2) fun v6 =>
        if v6 = x2 then
          some x3
        else
          f_X2_inBerth_L2 S n x1 x2 (x3 + 1)
      else
        f_X2_inBerth_L2 S n x1 x2 (x3 + 1)
def f_X2_inBerth  (S : RS) (p1 : Int32) (p2 : Int32) : Option (Int32) :=
  f_X2_inBerth_L2 S FU p1 p2 0
def f_X2_free_L2  (S : RS) : Nat → Int32 → Int32 → Option (Int32)
  | 0, _, _ => none
  | n + 1, x1, x2 =>
    if 3 ≤ x2 then
      some (-1)
    else
      ob (f_X2_inBerth S x1 x2) fun v3 =>
      if v3 = (-1) then
        some x2
      else
        f_X2_free_L2 S n x1 (x2 + 1)
def f_X2_free  (S : RS) (p1 : Int32) : Option (Int32) :=
  f_X2_free_L2 S FU p1 0
def f_X2_first_L37 (κ2 : Int32 → Int32 → Int32 → Option (Int32)) (S : RS) (y0 : Int32) (x1 : Int32) (x2 : Int32) (x3 : Int32) : Option (Int32) :=
  if y0 = x2 then
    ob (f_X2_inBerth S x1 x3) fun v12 =>
    some v12
  else
    κ2 x1 x2 (x3 + 1)
def f_X2_first_L2  (S : RS) : Nat → Int32 → Int32 → Int32 → Option (Int32)
  | 0, _, _, _ => none
  | n + 1, x1, x2, x3 =>
    if 3 ≤ x3 then
      some (-1)
    else
      ob (f_X2_inBerth S x1 x3) fun v3 =>
      if v3 = (-1) then
        f_X2_first_L2 S n x1 x2 (x3 + 1)
      else
        ob (f_X2_inBerth S x1 x3) fun v6 =>
        ob (f_X2_po S v6 3) fun v8 =>
        if v8 = (-1) then
          f_X2_first_L37 (fun x1 x2 x3 => f_X2_first_L2 S n x1 x2 x3) S 1 x1 x2 x3
        else
          f_X2_first_L37 (fun x1 x2 x3 => f_X2_first_L2 S n x1 x2 x3) S 0 x1 x2 x3
def f_X2_first  (S : RS) (p1 : Int32) (p2 : Int32) : Option (Int32) :=
  f_X2_first_L2 S FU p1 p2 0
def f_X2_build_L25   : Nat → Int32 → Int32 → Int32 → RS → Option (Int32 × RS)
  | 0, _, _, _, _ => none
  | n + 1, x1, x2, x3, S =>
    if (S.1 1) ≤ x3 then
      if (S.1 1) = 6 then
        ob2 (f_X2_fail S 2) fun v10 S9 =>
        some (v10, S9)
      else
        if x2 = 0 then
          if ((3 * (S.1 1)) + 0) < 0 ∨ 18 ≤ ((3 * (S.1 1)) + 0).toNatClampNeg then none else
          lt (sR S 1 (upd (S.2 1) ((3 * (S.1 1)) + 0).toNatClampNeg x1)) fun (S13 : RS) =>
          lt (sI S13 1 ((S13.1 1) + 1)) fun (S14 : RS) =>
          some (((S14.1 1) - 1), S14)
        else
          ob2 (f_X2_fail S 2) fun v17 S16 =>
          some (v17, S16)
    else
      if x2 = 0 then
        ob (f_X2_st S x3 0) fun v20 =>
        if v20 = x1 then
          f_X2_build_L25 n x1 1 (x3 + 1) S
        else
          f_X2_build_L25 n x1 0 (x3 + 1) S
      else
        f_X2_build_L25 n x1 1 (x3 + 1) S
def f_X2_build  (S : RS) (p1 : Int32) : Option (Int32 × RS) :=
  lt (sI S 0 0) fun (S1 : RS) =>
  ob (f_X2_isIn p1 0 23) fun v3 =>
  if v3 = 0 then
    ob2 (f_X2_fail S1 1) fun v24 S23 =>
    some (v24, S23)
  else
    f_X2_build_L25 FU p1 0 0 S1
def f_X2_pod  (S : RS) (p1 : Int32) : Option (Int32 × RS) :=
  lt (sI S 0 0) fun (S1 : RS) =>
  ob (f_X2_isStation S1 p1) fun v3 =>
  if v3 = 0 then
    ob2 (f_X2_fail S1 1) fun v30 S29 =>
    some (v30, S29)
  else
    if (S1.1 2) = 12 then
      ob2 (f_X2_fail S1 2) fun v9 S8 =>
      some (v9, S8)
    else
      ob (f_X2_free S1 p1) fun v11 =>
      if v11 = (-1) then
        ob2 (f_X2_fail S1 2) fun v27 S26 =>
        some (v27, S26)
      else
        lt (upd (fun _ => 0) (0 : Int32).toNatClampNeg (-1)) fun (g14 : Nat → Int32) =>
        lt (upd g14 (1 : Int32).toNatClampNeg p1) fun (g15 : Nat → Int32) =>
        ob (f_X2_free S1 p1) fun v17 =>
        lt (upd g15 (2 : Int32).toNatClampNeg v17) fun (g18 : Nat → Int32) =>
        lt (upd g18 (3 : Int32).toNatClampNeg (-1)) fun (g19 : Nat → Int32) =>
        lt (upd g19 (4 : Int32).toNatClampNeg 0) fun (g20 : Nat → Int32) =>
        lt (upd g20 (5 : Int32).toNatClampNeg 0) fun (g21 : Nat → Int32) =>
        lt (upd g21 (6 : Int32).toNatClampNeg 0) fun (g22 : Nat → Int32) =>
        if cpbad 0 (7 * (S1.1 2)) 7 7 84 then none else
        lt (sR S1 0 (va_cpy g22 (S1.2 0) (0 : Int32).toNatClampNeg (7 * (S1.1 2)).toNatClampNeg (7 : Int32).toNatClampNeg)) fun (S23 : RS) =>
        lt (sI S23 2 ((S23.1 2) + 1)) fun (S24 : RS) =>
        some (((S24.1 2) - 1), S24)
def f_X2_line  (S : RS) (p1 : Int32) (p2 : Int32) (p3 : Int32) : Option (RS) :=
  lt (upd (fun _ => 0) (0 : Int32).toNatClampNeg p2) fun (g2 : Nat → Int32) =>
  lt (upd g2 (1 : Int32).toNatClampNeg 0) fun (g3 : Nat → Int32) =>
  lt (upd g3 (2 : Int32).toNatClampNeg p3) fun (g4 : Nat → Int32) =>
  ob (f_X2_st S p1 1) fun v6 =>
  if cpbad 0 (3 * ((9 * p1) + v6)) 3 3 162 then none else
  lt (sR S 2 (va_cpy g4 (S.2 2) (0 : Int32).toNatClampNeg (3 * ((9 * p1) + v6)).toNatClampNeg (3 : Int32).toNatClampNeg)) fun (S7 : RS) =>
  if ((3 * p1) + 1) < 0 ∨ 18 ≤ ((3 * p1) + 1).toNatClampNeg then none else
  if ((3 * p1) + 1) < 0 ∨ 18 ≤ ((3 * p1) + 1).toNatClampNeg then none else
  lt (sR S7 1 (upd (S7.2 1) ((3 * p1) + 1).toNatClampNeg ((S7.2 1 ((3 * p1) + 1).toNatClampNeg) + 1))) fun (S10 : RS) =>
  some S10
def f_X2_ride  (S : RS) (p1 : Int32) (p2 : Int32) : Option (Int32 × RS) :=
  lt (sI S 0 0) fun (S1 : RS) =>
  ob (f_X2_isStation S1 p1) fun v3 =>
  if v3 = 0 then
    ob2 (f_X2_fail S1 1) fun v8 S7 =>
    some (v8, S7)
  else
    ob (f_X2_isStation S1 p2) fun v10 =>
    if v10 = 0 then
      ob2 (f_X2_fail S1 1) fun v29 S28 =>
      some (v29, S28)
    else
      if p1 = p2 then
        ob2 (f_X2_fail S1 2) fun v26 S25 =>
        some (v26, S25)
      else
        ob (f_X2_st S1 p1 1) fun v15 =>
        if v15 = 9 then
          ob2 (f_X2_fail S1 3) fun v23 S22 =>
          some (v23, S22)
        else
          ob (f_X2_line S1 p1 p2 0) fun S18 =>
          ob (f_X2_st S18 p1 1) fun v20 =>
          some (v20, S18)
def f_X2_on  (S : RS) (p1 : Int32) (p2 : Int32) : Option (Int32) :=
  ob (f_X2_st S p2 0) fun v2 =>
  ob (f_X2_st S p1 0) fun v4 =>
  some (((v2 - v4) + 24) - ((v2 - v4) + 24) / 24 * 24)
def f_X2_send  (S : RS) (p1 : Int32) (p2 : Int32) : Option (Int32 × RS) :=
  lt (sI S 0 0) fun (S1 : RS) =>
  ob (f_X2_isPod S1 p1) fun v3 =>
  if v3 = 0 then
    ob2 (f_X2_fail S1 1) fun v8 S7 =>
    some (v8, S7)
  else
    ob (f_X2_isStation S1 p2) fun v10 =>
    if v10 = 0 then
      ob2 (f_X2_fail S1 1) fun v39 S38 =>
      some (v39, S38)
    else
      ob (f_X2_po S1 p1 1) fun v14 =>
      if v14 = (-1) then
        ob2 (f_X2_fail S1 2) fun v18 S17 =>
        some (v18, S17)
      else
        ob (f_X2_po S1 p1 3) fun v20 =>
        if v20 = (-1) then
          ob (f_X2_po S1 p1 1) fun v26 =>
          if v26 = p2 then
            ob2 (f_X2_fail S1 2) fun v36 S35 =>
            some (v36, S35)
          else
            ob (f_X2_put S1 p1 3 p2) fun S29 =>
            ob (f_X2_po S29 p1 1) fun v31 =>
            ob (f_X2_on S29 v31 p2) fun v33 =>
            some (v33, S29)
        else
          ob2 (f_X2_fail S1 2) fun v24 S23 =>
          some (v24, S23)
def f_X2_podTold  (S : RS) (p1 : Int32) (p2 : Int32) : Option (Int32) :=
  if p2 = 4 then
    ob (f_X2_po S p1 p2) fun v5 =>
    if v5 ≤ 0 then
      ob (f_X2_po S p1 p2) fun v8 =>
      some v8
    else
      some 1
  else
    ob (f_X2_po S p1 p2) fun v3 =>
    some v3
def f_X2_told  (S : RS) (p1 : Int32) (p2 : Int32) : Option (Int32 × RS) :=
  lt (sI S 0 0) fun (S1 : RS) =>
  ob (f_X2_isPod S1 p1) fun v3 =>
  if v3 = 0 then
    ob2 (f_X2_fail S1 1) fun v8 S7 =>
    some (v8, S7)
  else
    ob (f_X2_isIn p2 0 5) fun v10 =>
    if v10 = 0 then
      ob2 (f_X2_fail S1 1) fun v15 S14 =>
      some (v15, S14)
    else
      ob (f_X2_podTold S1 p1 p2) fun v17 =>
      some (v17, S1)
def f_X2_coming_L4  (S : RS) : Nat → Int32 → Int32 → Int32 → Option (Int32)
  | 0, _, _, _ => none
  | n + 1, x1, x2, x3 =>
    if (S.1 2) ≤ x3 then
      some x2
    else
      ob (f_X2_po S x3 3) fun v3 =>
      if v3 = x1 then
        ob (f_X2_po S x3 4) fun v6 =>
        if v6 = 0 then
          f_X2_coming_L4 S n x1 (x2 + 1) (x3 + 1)
        else
          f_X2_coming_L4 S n x1 (x2 + 0) (x3 + 1)
      else
        f_X2_coming_L4 S n x1 (x2 + 0) (x3 + 1)
def f_X2_coming  (S : RS) (p1 : Int32) : Option (Int32) :=
  f_X2_coming_L4 S FU p1 0 0
def f_X2_stationTold_L50  (S : RS) : Nat → Int32 → Int32 → Int32 → Option (Int32)
  | 0, _, _, _ => none
  | n + 1, x1, x3, x4 =>
    if (S.1 2) ≤ x4 then
      some x3
    else
      ob (f_X2_po S x4 1) fun v7 =>
      if v7 = x1 then
        f_X2_stationTold_L50 S n x1 (x3 + 1) (x4 + 1)
      else
        f_X2_stationTold_L50 S n x1 (x3 + 0) (x4 + 1)
def f_X2_stationTold_L89  (S : RS) : Nat → Int32 → Int32 → Int32 → Option (Int32)
  | 0, _, _, _ => none
  | n + 1, x1, x3, x4 =>
    if (S.1 2) ≤ x4 then
      some x3
    else
      ob (f_X2_po S x4 1) fun v12 =>
      if v12 = x1 then
        ob (f_X2_po S x4 3) fun v15 =>
        if v15 = (-1) then
          f_X2_stationTold_L89 S n x1 (x3 + 1) (x4 + 1)
        else
          f_X2_stationTold_L89 S n x1 (x3 + 0) (x4 + 1)
      else
        f_X2_stationTold_L89 S n x1 (x3 + 0) (x4 + 1)
def f_X2_stationTold_L152  (S : RS) : Nat → Int32 → Int32 → Int32 → Option (Int32)
  | 0, _, _, _ => none
  | n + 1, x1, x3, x4 =>
    ob (f_X2_st S x1 1) fun v25 =>
    if v25 ≤ x4 then
      some x3
    else
      ob (f_X2_pe S x1 x4 1) fun v28 =>
      f_X2_stationTold_L152 S n x1 (x3 + v28) (x4 + 1)
def f_X2_stationTold  (S : RS) (p1 : Int32) (p2 : Int32) : Option (Int32) :=
  if p2 = 0 then
    ob (f_X2_st S p1 0) fun v3 =>
    some v3
  else if p2 = 1 then
    f_X2_stationTold_L50 S FU p1 0 0
  else if p2 = 2 then
    f_X2_stationTold_L89 S FU p1 0 0
  else if p2 = 3 then
    ob (f_X2_st S p1 1) fun v19 =>
    some v19
  else if p2 = 4 then
    ob (f_X2_coming S p1) fun v22 =>
    some v22
  else if p2 = 5 then
    f_X2_stationTold_L152 S FU p1 0 0
  else 
    ob (f_X2_st S p1 2) fun v30 =>
    some v30
def f_X2_station  (S : RS) (p1 : Int32) (p2 : Int32) : Option (Int32 × RS) :=
  lt (sI S 0 0) fun (S1 : RS) =>
  ob (f_X2_isStation S1 p1) fun v3 =>
  if v3 = 0 then
    ob2 (f_X2_fail S1 1) fun v8 S7 =>
    some (v8, S7)
  else
    ob (f_X2_isIn p2 0 6) fun v10 =>
    if v10 = 0 then
      ob2 (f_X2_fail S1 1) fun v15 S14 =>
      some (v15, S14)
    else
      ob (f_X2_stationTold S1 p1 p2) fun v17 =>
      some (v17, S1)
def f_X2_rider  (S : RS) (p1 : Int32) (p2 : Int32) : Option (Int32) :=
  ob (f_X2_pe S p1 p2 1) fun v2 =>
  ob (f_X2_pe S p1 p2 0) fun v4 =>
  some ((10 * v2) + v4)
def f_X2_waits  (S : RS) (p1 : Int32) (p2 : Int32) : Option (Int32 × RS) :=
  lt (sI S 0 0) fun (S1 : RS) =>
  ob (f_X2_isStation S1 p1) fun v3 =>
  if v3 = 0 then
    ob2 (f_X2_fail S1 1) fun v8 S7 =>
    some (v8, S7)
  else
    ob (f_X2_st S1 p1 1) fun v10 =>
    ob (f_X2_isIn p2 0 (v10 - 1)) fun v12 =>
    if v12 = 0 then
      ob2 (f_X2_fail S1 1) fun v17 S16 =>
      some (v17, S16)
    else
      ob (f_X2_rider S1 p1 p2) fun v19 =>
      some (v19, S1)
def f_X2_slot  (S : RS) (p1 : Int32) : Option (Int32 × RS) :=
  lt (sI S 0 0) fun (S1 : RS) =>
  ob (f_X2_isIn p1 0 23) fun v3 =>
  if v3 = 0 then
    ob2 (f_X2_fail S1 1) fun v8 S7 =>
    some (v8, S7)
  else
    ob (f_X2_slotAt S1 p1) fun v10 =>
    some (v10, S1)
def f_X2_all_L4  (S : RS) : Nat → Int32 → Int32 → Int32 → Option (Int32)
  | 0, _, _, _ => none
  | n + 1, x1, x2, x3 =>
    if (S.1 1) ≤ x3 then
      some x2
    else
      ob (f_X2_stationTold S x3 x1) fun v3 =>
      f_X2_all_L4 S n x1 (x2 + v3) (x3 + 1)
def f_X2_all  (S : RS) (p1 : Int32) : Option (Int32) :=
  f_X2_all_L4 S FU p1 0 0
def f_X2_counted_L73  (S : RS) : Nat → Int32 → Int32 → Option (Int32)
  | 0, _, _ => none
  | n + 1, x2, x3 =>
    if (S.1 2) ≤ x3 then
      some x2
    else
      ob (f_X2_po S x3 4) fun v10 =>
      if v10 ≤ 0 then
        f_X2_counted_L73 S n (x2 + 0) (x3 + 1)
      else
        f_X2_counted_L73 S n (x2 + 1) (x3 + 1)
def f_X2_counted_L115  (S : RS) : Nat → Int32 → Int32 → Option (Int32)
  | 0, _, _ => none
  | n + 1, x2, x3 =>
    if (S.1 2) ≤ x3 then
      some (24 - x2)
    else
      ob (f_X2_po S x3 0) fun v18 =>
      if v18 = (-1) then
        f_X2_counted_L115 S n (x2 + 0) (x3 + 1)
      else
        f_X2_counted_L115 S n (x2 + 1) (x3 + 1)
def f_X2_counted  (S : RS) (p1 : Int32) : Option (Int32) :=
  if p1 = 0 then
    some (S.2 3 (0 : Int32).toNatClampNeg)
  else if p1 = 1 then
    some (S.1 1)
  else if p1 = 2 then
    some (S.1 2)
  else if p1 = 3 then
    ob (f_X2_all S 3) fun v6 =>
    some v6
  else if p1 = 4 then
    f_X2_counted_L73 S FU 0 0
  else if p1 = 5 then
    ob (f_X2_all S 6) fun v14 =>
    some v14
  else if p1 = 6 then
    f_X2_counted_L115 S FU 0 0
  else if p1 = 7 then
    some (S.2 3 (1 : Int32).toNatClampNeg)
  else 
    some (S.2 3 (2 : Int32).toNatClampNeg)
def f_X2_count  (S : RS) (p1 : Int32) : Option (Int32 × RS) :=
  lt (sI S 0 0) fun (S1 : RS) =>
  ob (f_X2_isIn p1 0 8) fun v3 =>
  if v3 = 0 then
    ob2 (f_X2_fail S1 1) fun v8 S7 =>
    some (v8, S7)
  else
    ob (f_X2_counted S1 p1) fun v10 =>
    some (v10, S1)
def f_X2_off_L100   (x1 : Int32) (x2 : Int32) (x3 : Int32) (S : RS) : Option (RS) :=
  ob (f_X2_put S x2 0 (-1)) fun S19 =>
  ob (f_X2_put S19 x2 1 x1) fun S21 =>
  ob (f_X2_put S21 x2 2 x3) fun S23 =>
  ob (f_X2_put S23 x2 3 (-1)) fun S25 =>
  ob (f_X2_put S25 x2 4 0) fun S27 =>
  ob (f_X2_po S27 x2 6) fun v29 =>
  ob (f_X2_put S27 x2 6 (v29 + 1)) fun S31 =>
  some S31
def f_X2_off_L76   (x1 : Int32) (x2 : Int32) (x3 : Int32) (S : RS) : Option (RS) :=
  ob (f_X2_po S x2 4) fun v16 =>
  if v16 = 2 then
    lt (sR S 3 (upd (S.2 3) (3 : Int32).toNatClampNeg ((S.2 3 (0 : Int32).toNatClampNeg) + 1))) fun (S32 : RS) =>
    f_X2_off_L100 x1 x2 x3 S32
  else
    f_X2_off_L100 x1 x2 x3 S
def f_X2_off  (S : RS) (p1 : Int32) : Option (RS) :=
  ob (f_X2_st S p1 0) fun v2 =>
  ob (f_X2_slotAt S v2) fun v4 =>
  if v4 = (-1) then
    some S
  else
    ob (f_X2_po S v4 3) fun v7 =>
    if v7 = p1 then
      ob (f_X2_free S p1) fun v10 =>
      if v10 = (-1) then
        ob (f_X2_po S v4 5) fun v37 =>
        ob (f_X2_put S v4 5 (v37 + 1)) fun S39 =>
        some S39
      else
        ob (f_X2_po S v4 4) fun v13 =>
        if v13 ≤ 0 then
          f_X2_off_L76 p1 v4 v10 S
        else
          if ((3 * p1) + 2) < 0 ∨ 18 ≤ ((3 * p1) + 2).toNatClampNeg then none else
          if ((3 * p1) + 2) < 0 ∨ 18 ≤ ((3 * p1) + 2).toNatClampNeg then none else
          lt (sR S 1 (upd (S.2 1) ((3 * p1) + 2).toNatClampNeg ((S.2 1 ((3 * p1) + 2).toNatClampNeg) + 1))) fun (S35 : RS) =>
          f_X2_off_L76 p1 v4 v10 S35
    else
      some S
def f_X2_board_L0   : Nat → Int32 → RS → Option (RS)
  | 0, _, _ => none
  | n + 1, x1, S =>
    ob (f_X2_st S x1 1) fun v2 =>
    if v2 ≤ 0 then
      some S
    else
      ob (f_X2_first S x1 1) fun v5 =>
      if v5 = (-1) then
        some S
      else
        ob (f_X2_first S x1 1) fun v8 =>
        ob (f_X2_pe S x1 0 0) fun v10 =>
        ob (f_X2_put S v8 3 v10) fun S12 =>
        ob (f_X2_pe S12 x1 0 2) fun v14 =>
        ob (f_X2_put S12 v8 4 (1 + v14)) fun S16 =>
        ob (f_X2_pe S16 x1 0 1) fun v18 =>
        lt (sR S16 3 (upd (S16.2 3) (2 : Int32).toNatClampNeg ((S16.2 3 (2 : Int32).toNatClampNeg) + v18))) fun (S19 : RS) =>
        ob (f_X2_st S19 x1 1) fun v21 =>
        if ((3 * x1) + 1) < 0 ∨ 18 ≤ ((3 * x1) + 1).toNatClampNeg then none else
        lt (sR S19 1 (upd (S19.2 1) ((3 * x1) + 1).toNatClampNeg (v21 - 1))) fun (S23 : RS) =>
        if cpbad (3 * ((9 * x1) + 1)) (27 * x1) (3 * (v21 - 1)) 162 162 then none else
        lt (sR S23 2 (va_cpy (S23.2 2) (S23.2 2) (3 * ((9 * x1) + 1)).toNatClampNeg (27 * x1).toNatClampNeg (3 * (v21 - 1)).toNatClampNeg)) fun (S24 : RS) =>
        f_X2_board_L0 n x1 S24
def f_X2_board  (S : RS) (p1 : Int32) : Option (RS) :=
  f_X2_board_L0 FU p1 S
def f_X2_answer_L4  (S : RS) : Nat → Int32 → Int32 → Int32 → Option (Int32)
  | 0, _, _, _ => none
  | n + 1, x1, x2, x3 =>
    if (S.1 1) ≤ x3 then
      some x2
    else
      if x3 = x1 then
        f_X2_answer_L4 S n x1 x2 (x3 + 1)
      else
        ob (f_X2_st S x3 1) fun v4 =>
        if v4 = 0 then
          ob (f_X2_first S x3 1) fun v7 =>
          if v7 = (-1) then
            f_X2_answer_L4 S n x1 x2 (x3 + 1)
          else
            if x2 = (-1) then
              f_X2_answer_L4 S n x1 x3 (x3 + 1)
            else
              ob (f_X2_on S x3 x1) fun v11 =>
              ob (f_X2_on S x2 x1) fun v13 =>
              if v13 ≤ v11 then
                f_X2_answer_L4 S n x1 x2 (x3 + 1)
              else
                f_X2_answer_L4 S n x1 x3 (x3 + 1)
        else
          f_X2_answer_L4 S n x1 x2 (x3 + 1)
def f_X2_answer  (S : RS) (p1 : Int32) : Option (Int32) :=
  f_X2_answer_L4 S FU p1 (-1) 0
def f_X2_call  (S : RS) (p1 : Int32) : Option (RS) :=
  ob (f_X2_st S p1 1) fun v2 =>
  ob (f_X2_coming S p1) fun v4 =>
  if v2 ≤ v4 then
    some S
  else
    ob (f_X2_answer S p1) fun v7 =>
    if v7 = (-1) then
      some S
    else
      ob (f_X2_answer S p1) fun v10 =>
      ob (f_X2_first S v10 1) fun v12 =>
      ob (f_X2_put S v12 3 p1) fun S14 =>
      lt (sR S14 3 (upd (S14.2 3) (1 : Int32).toNatClampNeg ((S14.2 3 (1 : Int32).toNatClampNeg) + 1))) fun (S15 : RS) =>
      some S15
def f_X2_merge  (S : RS) (p1 : Int32) : Option (RS) :=
  ob (f_X2_first S p1 0) fun v2 =>
  if v2 = (-1) then
    some S
  else
    ob (f_X2_st S p1 0) fun v5 =>
    ob (f_X2_slotAt S v5) fun v7 =>
    if v7 = (-1) then
      ob (f_X2_st S p1 0) fun v10 =>
      ob (f_X2_put S v2 0 v10) fun S12 =>
      ob (f_X2_put S12 v2 1 (-1)) fun S14 =>
      ob (f_X2_put S14 v2 2 (-1)) fun S16 =>
      some S16
    else
      some S
def f_X2_minuteOn_L139 (κ129 : Int32 → RS → Option (RS))  : Nat → Int32 → Int32 → RS → Option (RS)
  | 0, _, _, _ => none
  | n + 1, x1, x2, S =>
    ob (f_X2_st S x1 1) fun v9 =>
    if v9 ≤ x2 then
      κ129 (x1 + 1) S
    else
      if ((3 * ((9 * x1) + x2)) + 1) < 0 ∨ 162 ≤ ((3 * ((9 * x1) + x2)) + 1).toNatClampNeg then none else
      if ((3 * ((9 * x1) + x2)) + 1) < 0 ∨ 162 ≤ ((3 * ((9 * x1) + x2)) + 1).toNatClampNeg then none else
      lt (sR S 2 (upd (S.2 2) ((3 * ((9 * x1) + x2)) + 1).toNatClampNeg ((S.2 2 ((3 * ((9 * x1) + x2)) + 1).toNatClampNeg) + 1))) fun (S13 : RS) =>
      f_X2_minuteOn_L139 κ129 n x1 (x2 + 1) S13
def f_X2_minuteOn_L129   : Nat → Int32 → RS → Option (RS)
  | 0, _, _ => none
  | n + 1, x1, S =>
    if (S.1 1) ≤ x1 then
      lt (sR S 3 (upd (S.2 3) (0 : Int32).toNatClampNeg ((S.2 3 (0 : Int32).toNatClampNeg) + 1))) fun (S7 : RS) =>
      some S7
    else
      f_X2_minuteOn_L139 (fun x1 S => f_X2_minuteOn_L129 n x1 S) FU x1 0 S
def f_X2_minuteOn_L108   : Nat → Int32 → RS → Option (RS)
  | 0, _, _ => none
  | n + 1, x1, S =>
    if (S.1 1) ≤ x1 then
      f_X2_minuteOn_L129 FU 0 S
    else
      ob (f_X2_merge S x1) fun S15 =>
      f_X2_minuteOn_L108 n (x1 + 1) S15
def f_X2_minuteOn_L87   : Nat → Int32 → RS → Option (RS)
  | 0, _, _ => none
  | n + 1, x1, S =>
    if (S.1 1) ≤ x1 then
      f_X2_minuteOn_L108 FU 0 S
    else
      ob (f_X2_call S x1) fun S17 =>
      f_X2_minuteOn_L87 n (x1 + 1) S17
def f_X2_minuteOn_L66   : Nat → Int32 → RS → Option (RS)
  | 0, _, _ => none
  | n + 1, x1, S =>
    if (S.1 1) ≤ x1 then
      f_X2_minuteOn_L87 FU 0 S
    else
      ob (f_X2_board S x1) fun S19 =>
      f_X2_minuteOn_L66 n (x1 + 1) S19
def f_X2_minuteOn_L45   : Nat → Int32 → RS → Option (RS)
  | 0, _, _ => none
  | n + 1, x1, S =>
    if (S.1 1) ≤ x1 then
      f_X2_minuteOn_L66 FU 0 S
    else
      ob (f_X2_off S x1) fun S21 =>
      f_X2_minuteOn_L45 n (x1 + 1) S21
def f_X2_minuteOn_L2   : Nat → Int32 → RS → Option (RS)
  | 0, _, _ => none
  | n + 1, x1, S =>
    if (S.1 2) ≤ x1 then
      f_X2_minuteOn_L45 FU 0 S
    else
      ob (f_X2_po S x1 0) fun v23 =>
      if v23 = (-1) then
        f_X2_minuteOn_L2 n (x1 + 1) S
      else
        ob (f_X2_po S x1 0) fun v26 =>
        ob (f_X2_put S x1 0 ((v26 + 1) - (v26 + 1) / 24 * 24)) fun S28 =>
        f_X2_minuteOn_L2 n (x1 + 1) S28
def f_X2_minuteOn  (S : RS)  : Option (RS) :=
  f_X2_minuteOn_L2 FU 0 S
def f_X2_minutesOn_L9   : Nat → Int32 → Int32 → Int32 → RS → Option (Int32 × RS)
  | 0, _, _, _, _ => none
  | n + 1, x1, x2, x3, S =>
    if x1 ≤ x3 then
      ob (f_X2_all S 6) fun v5 =>
      some ((v5 - x2), S)
    else
      ob (f_X2_minuteOn S) fun S7 =>
      f_X2_minutesOn_L9 n x1 x2 (x3 + 1) S7
def f_X2_minutesOn  (S : RS) (p1 : Int32) : Option (Int32 × RS) :=
  ob (f_X2_all S 6) fun v2 =>
  f_X2_minutesOn_L9 FU p1 v2 0 S
def f_X2_pass  (S : RS) (p1 : Int32) : Option (Int32 × RS) :=
  lt (sI S 0 0) fun (S1 : RS) =>
  ob (f_X2_isIn p1 1 100) fun v3 =>
  if v3 = 0 then
    ob2 (f_X2_fail S1 1) fun v8 S7 =>
    some (v8, S7)
  else
    ob2 (f_X2_minutesOn S1 p1) fun v11 S10 =>
    some (v11, S10)
def f_X2_answers  (S : RS) (p1 : Int32) : Option (Int32 × RS) :=
  lt (sI S 0 0) fun (S1 : RS) =>
  ob (f_X2_isStation S1 p1) fun v3 =>
  if v3 = 0 then
    ob2 (f_X2_fail S1 1) fun v8 S7 =>
    some (v8, S7)
  else
    ob (f_X2_answer S1 p1) fun v10 =>
    some (v10, S1)
def f_X2_digest_L167   : Nat → Int64 → Int32 → RS → Option (Int64 × RS)
  | 0, _, _, _ => none
  | n + 1, x1, x3, S =>
    if 24 ≤ x3 then
      some (x1, S)
    else
      ob (f_X2_slotAt S x3) fun v7 =>
      f_X2_digest_L167 n ((x1 * 31) + (v7).toInt64) (x3 + 1) S
def f_X2_digest_L131 (κ120 : Int64 → Int32 → RS → Option (Int64 × RS))  : Nat → Int64 → Int32 → Int32 → RS → Option (Int64 × RS)
  | 0, _, _, _, _ => none
  | n + 1, x1, x3, x4, S =>
    if 6 ≤ x4 then
      κ120 x1 (x3 + 1) S
    else
      ob (f_X2_podTold S x3 x4) fun v10 =>
      f_X2_digest_L131 κ120 n ((x1 * 31) + (v10).toInt64) x3 (x4 + 1) S
def f_X2_digest_L120   : Nat → Int64 → Int32 → RS → Option (Int64 × RS)
  | 0, _, _, _ => none
  | n + 1, x1, x3, S =>
    if (S.1 2) ≤ x3 then
      f_X2_digest_L167 FU x1 0 S
    else
      f_X2_digest_L131 (fun x1 x3 S => f_X2_digest_L120 n x1 x3 S) FU x1 x3 0 S
def f_X2_digest_L80 (κ38 : Int64 → Int32 → RS → Option (Int64 × RS))  : Nat → Int64 → Int32 → Int32 → RS → Option (Int64 × RS)
  | 0, _, _, _, _ => none
  | n + 1, x1, x3, x4, S =>
    ob (f_X2_st S x3 1) fun v13 =>
    if v13 ≤ x4 then
      κ38 x1 (x3 + 1) S
    else
      ob (f_X2_rider S x3 x4) fun v16 =>
      f_X2_digest_L80 κ38 n ((x1 * 31) + (v16).toInt64) x3 (x4 + 1) S
def f_X2_digest_L49 (κ38 : Int64 → Int32 → RS → Option (Int64 × RS))  : Nat → Int64 → Int32 → Int32 → RS → Option (Int64 × RS)
  | 0, _, _, _, _ => none
  | n + 1, x1, x3, x4, S =>
    if 7 ≤ x4 then
      f_X2_digest_L80 κ38 FU x1 x3 0 S
    else
      ob (f_X2_stationTold S x3 x4) fun v18 =>
      f_X2_digest_L49 κ38 n ((x1 * 31) + (v18).toInt64) x3 (x4 + 1) S
def f_X2_digest_L38   : Nat → Int64 → Int32 → RS → Option (Int64 × RS)
  | 0, _, _, _ => none
  | n + 1, x1, x3, S =>
    if (S.1 1) ≤ x3 then
      f_X2_digest_L120 FU x1 0 S
    else
      f_X2_digest_L49 (fun x1 x3 S => f_X2_digest_L38 n x1 x3 S) FU x1 x3 0 S
def f_X2_digest_L11   : Nat → Int64 → Int32 → RS → Option (Int64 × RS)
  | 0, _, _, _ => none
  | n + 1, x1, x3, S =>
    if 9 ≤ x3 then
      f_X2_digest_L38 FU x1 0 S
    else
      ob (f_X2_counted S x3) fun v20 =>
      f_X2_digest_L11 n ((x1 * 31) + (v20).toInt64) (x3 + 1) S
def f_X2_digest  (S : RS)  : Option (Int64 × RS) :=
  lt (sI S 0 0) fun (S1 : RS) =>
  f_X2_digest_L11 FU 1399 0 S1
def f_X2_when_L93   (S1 : RS) (y0 : Int32) (S : RS) : Option (Int32 × RS) :=
  lt ((S.1, S1.2) : RS) fun (S16 : RS) =>
  some (y0, S16)
def f_X2_when_L76   (S1 : RS) (x1 : Int32) (x3 : Int32) (x4 : Int32) (S : RS) : Option (Int32 × RS) :=
  ob (f_X2_po S x1 6) fun v14 =>
  if v14 = x3 then
    f_X2_when_L93 S1 (-1) S
  else
    f_X2_when_L93 S1 x4 S
def f_X2_when_L47   (S1 : RS) : Nat → Int32 → Int32 → Int32 → RS → Option (Int32 × RS)
  | 0, _, _, _, _ => none
  | n + 1, x1, x3, x4, S =>
    if 200 ≤ x4 then
      f_X2_when_L76 S1 x1 x3 x4 S
    else
      ob (f_X2_po S x1 6) fun v18 =>
      if v18 = x3 then
        ob (f_X2_minuteOn S) fun S21 =>
        f_X2_when_L47 S1 n x1 x3 (x4 + 1) S21
      else
        f_X2_when_L76 S1 x1 x3 x4 S
def f_X2_when  (S : RS) (p1 : Int32) : Option (Int32 × RS) :=
  lt (sI S 0 0) fun (S1 : RS) =>
  ob (f_X2_isPod S1 p1) fun v3 =>
  if v3 = 0 then
    ob2 (f_X2_fail S1 1) fun v24 S23 =>
    some (v24, S23)
  else
    ob (f_X2_po S1 p1 3) fun v7 =>
    if v7 = (-1) then
      some ((-1), S1)
    else
      ob (f_X2_po S1 p1 6) fun v11 =>
      f_X2_when_L47 S1 FU p1 v11 0 S1
def f_X2_takes_L127   (S1 : RS) (y0 : Int32) (S : RS) : Option (Int32 × RS) :=
  lt ((S.1, S1.2) : RS) fun (S23 : RS) =>
  some (y0, S23)
def f_X2_takes_L101   (S1 : RS) (S : RS) : Option (Int32 × RS) :=
  if (S.2 3 (3 : Int32).toNatClampNeg) = (-1) then
    f_X2_takes_L127 S1 (-1) S
  else
    f_X2_takes_L127 S1 ((S.2 3 (3 : Int32).toNatClampNeg) - ((S1.2 3) (0 : Int32).toNatClampNeg)) S
def f_X2_takes_L73   (S1 : RS) : Nat → Int32 → RS → Option (Int32 × RS)
  | 0, _, _ => none
  | n + 1, x4, S =>
    if 200 ≤ x4 then
      f_X2_takes_L101 S1 S
    else
      if (S.2 3 (3 : Int32).toNatClampNeg) = (-1) then
        ob (f_X2_minuteOn S) fun S26 =>
        f_X2_takes_L73 S1 n (x4 + 1) S26
      else
        f_X2_takes_L101 S1 S
def f_X2_takes  (S : RS) (p1 : Int32) (p2 : Int32) : Option (Int32 × RS) :=
  lt (sI S 0 0) fun (S1 : RS) =>
  ob (f_X2_isStation S1 p1) fun v3 =>
  if v3 = 0 then
    ob2 (f_X2_fail S1 1) fun v8 S7 =>
    some (v8, S7)
  else
    ob (f_X2_isStation S1 p2) fun v10 =>
    if v10 = 0 then
      ob2 (f_X2_fail S1 1) fun v32 S31 =>
      some (v32, S31)
    else
      if p1 = p2 then
        ob2 (f_X2_fail S1 2) fun v29 S28 =>
        some (v29, S28)
      else
        ob (f_X2_st S1 p1 1) fun v15 =>
        if v15 = 9 then
          some ((-1), S1)
        else
          lt (sR S1 3 (upd (S1.2 3) (3 : Int32).toNatClampNeg (-1))) fun (S18 : RS) =>
          ob (f_X2_line S18 p1 p2 1) fun S20 =>
          f_X2_takes_L73 S1 FU 0 S20
def f_X2_foresee  (S : RS) (p1 : Int32) (p2 : Int32) : Option (Int32 × RS) :=
  lt (sI S 0 0) fun (S1 : RS) =>
  ob (f_X2_isIn p1 1 100) fun v3 =>
  if v3 = 0 then
    ob2 (f_X2_fail S1 1) fun v22 S21 =>
    some (v22, S21)
  else
    ob (f_X2_isIn p2 3 7) fun v7 =>
    if v7 = 0 then
      ob2 (f_X2_fail S1 2) fun v19 S18 =>
      some (v19, S18)
    else
      ob2 (f_X2_minutesOn S1 p1) fun v13 S12 =>
      ob (f_X2_counted S12 p2) fun v15 =>
      lt ((S12.1, S1.2) : RS) fun (S16 : RS) =>
      some (v15, S16)
def f_X2_mean (S : RS) : Option (UInt64 × RS) :=
  lt (sI S 0 0) fun (S1 : RS) =>
  ob (f_X2_all S1 3) fun v3 =>
  if v3 = 0 then
    some (FP.dconst0, S1)
  else
    ob (f_X2_all S1 5) fun v5 =>
    ob (f_X2_all S1 3) fun v7 =>
    some (FP.ddiv (FP.i2d v5) (FP.i2d v7), S1)
