theorem lwr_1 {w : Cond} (h : w ∈ wsL_law0_r1) : w ∈ wsL_law := List.mem_append_left _ (List.mem_append_left _ (List.mem_append_left _ (List.mem_append_left _ (List.mem_append_left _ (List.mem_append_left _ (List.mem_append_left _ (List.mem_append_left _ (List.mem_append_left _ h))))))))
theorem lwr_2 {w : Cond} (h : w ∈ wsL_law0_r2) : w ∈ wsL_law := List.mem_append_left _ (List.mem_append_left _ (List.mem_append_left _ (List.mem_append_left _ (List.mem_append_left _ (List.mem_append_left _ (List.mem_append_left _ (List.mem_append_left _ (List.mem_append_right _ (List.mem_append_left _ h)))))))))
theorem lwr_3 {w : Cond} (h : w ∈ wsL_law0_r3) : w ∈ wsL_law := List.mem_append_left _ (List.mem_append_left _ (List.mem_append_left _ (List.mem_append_left _ (List.mem_append_left _ (List.mem_append_left _ (List.mem_append_left _ (List.mem_append_left _ (List.mem_append_right _ (List.mem_append_right _ (List.mem_append_left _ h))))))))))
theorem lwr_4 {w : Cond} (h : w ∈ wsL_law0_r4) : w ∈ wsL_law := List.mem_append_left _ (List.mem_append_left _ (List.mem_append_left _ (List.mem_append_left _ (List.mem_append_left _ (List.mem_append_left _ (List.mem_append_left _ (List.mem_append_left _ (List.mem_append_right _ (List.mem_append_right _ (List.mem_append_right _ (List.mem_append_left _ h)))))))))))
theorem lwr_5 {w : Cond} (h : w ∈ wsL_law0_r5) : w ∈ wsL_law := List.mem_append_left _ (List.mem_append_left _ (List.mem_append_left _ (List.mem_append_left _ (List.mem_append_left _ (List.mem_append_left _ (List.mem_append_left _ (List.mem_append_left _ (List.mem_append_right _ (List.mem_append_right _ (List.mem_append_right _ (List.mem_append_right _ (List.mem_append_left _ h))))))))))))
theorem lwr_6 {w : Cond} (h : w ∈ wsL_law0_r6) : w ∈ wsL_law := List.mem_append_left _ (List.mem_append_left _ (List.mem_append_left _ (List.mem_append_left _ (List.mem_append_left _ (List.mem_append_left _ (List.mem_append_left _ (List.mem_append_left _ (List.mem_append_right _ (List.mem_append_right _ (List.mem_append_right _ (List.mem_append_right _ (List.mem_append_right _ (List.mem_append_left _ h)))))))))))))
theorem lwr_7 {w : Cond} (h : w ∈ wsL_law0_r7) : w ∈ wsL_law := List.mem_append_left _ (List.mem_append_left _ (List.mem_append_left _ (List.mem_append_left _ (List.mem_append_left _ (List.mem_append_left _ (List.mem_append_left _ (List.mem_append_left _ (List.mem_append_right _ (List.mem_append_right _ (List.mem_append_right _ (List.mem_append_right _ (List.mem_append_right _ (List.mem_append_right _ (List.mem_append_left _ h))))))))))))))
theorem lwr_8 {w : Cond} (h : w ∈ wsL_law0_r8) : w ∈ wsL_law := List.mem_append_left _ (List.mem_append_left _ (List.mem_append_left _ (List.mem_append_left _ (List.mem_append_left _ (List.mem_append_left _ (List.mem_append_left _ (List.mem_append_left _ (List.mem_append_right _ (List.mem_append_right _ (List.mem_append_right _ (List.mem_append_right _ (List.mem_append_right _ (List.mem_append_right _ (List.mem_append_right _ (List.mem_append_left _ h)))))))))))))))
theorem lwr_9 {w : Cond} (h : w ∈ wsL_law0_r9) : w ∈ wsL_law := List.mem_append_left _ (List.mem_append_left _ (List.mem_append_left _ (List.mem_append_left _ (List.mem_append_left _ (List.mem_append_left _ (List.mem_append_left _ (List.mem_append_left _ (List.mem_append_right _ (List.mem_append_right _ (List.mem_append_right _ (List.mem_append_right _ (List.mem_append_right _ (List.mem_append_right _ (List.mem_append_right _ (List.mem_append_right _ (List.mem_append_left _ h))))))))))))))))
theorem lwr_10 {w : Cond} (h : w ∈ wsL_law0_r10) : w ∈ wsL_law := List.mem_append_left _ (List.mem_append_left _ (List.mem_append_left _ (List.mem_append_left _ (List.mem_append_left _ (List.mem_append_left _ (List.mem_append_left _ (List.mem_append_left _ (List.mem_append_right _ (List.mem_append_right _ (List.mem_append_right _ (List.mem_append_right _ (List.mem_append_right _ (List.mem_append_right _ (List.mem_append_right _ (List.mem_append_right _ (List.mem_append_right _ (List.mem_append_left _ h)))))))))))))))))
theorem lwr_11 {w : Cond} (h : w ∈ wsL_law0_r11) : w ∈ wsL_law := List.mem_append_left _ (List.mem_append_left _ (List.mem_append_left _ (List.mem_append_left _ (List.mem_append_left _ (List.mem_append_left _ (List.mem_append_left _ (List.mem_append_left _ (List.mem_append_right _ (List.mem_append_right _ (List.mem_append_right _ (List.mem_append_right _ (List.mem_append_right _ (List.mem_append_right _ (List.mem_append_right _ (List.mem_append_right _ (List.mem_append_right _ (List.mem_append_right _ (List.mem_append_left _ h))))))))))))))))))
theorem lwr_12 {w : Cond} (h : w ∈ wsL_law0_r12) : w ∈ wsL_law := List.mem_append_left _ (List.mem_append_left _ (List.mem_append_left _ (List.mem_append_left _ (List.mem_append_left _ (List.mem_append_left _ (List.mem_append_left _ (List.mem_append_left _ (List.mem_append_right _ (List.mem_append_right _ (List.mem_append_right _ (List.mem_append_right _ (List.mem_append_right _ (List.mem_append_right _ (List.mem_append_right _ (List.mem_append_right _ (List.mem_append_right _ (List.mem_append_right _ (List.mem_append_right _ (List.mem_append_left _ h)))))))))))))))))))
theorem lwr_13 {w : Cond} (h : w ∈ wsL_law0_r13) : w ∈ wsL_law := List.mem_append_left _ (List.mem_append_left _ (List.mem_append_left _ (List.mem_append_left _ (List.mem_append_left _ (List.mem_append_left _ (List.mem_append_left _ (List.mem_append_left _ (List.mem_append_right _ (List.mem_append_right _ (List.mem_append_right _ (List.mem_append_right _ (List.mem_append_right _ (List.mem_append_right _ (List.mem_append_right _ (List.mem_append_right _ (List.mem_append_right _ (List.mem_append_right _ (List.mem_append_right _ (List.mem_append_right _ (List.mem_append_left _ h))))))))))))))))))))
theorem lwr_14 {w : Cond} (h : w ∈ wsL_law0_r14) : w ∈ wsL_law := List.mem_append_left _ (List.mem_append_left _ (List.mem_append_left _ (List.mem_append_left _ (List.mem_append_left _ (List.mem_append_left _ (List.mem_append_left _ (List.mem_append_left _ (List.mem_append_right _ (List.mem_append_right _ (List.mem_append_right _ (List.mem_append_right _ (List.mem_append_right _ (List.mem_append_right _ (List.mem_append_right _ (List.mem_append_right _ (List.mem_append_right _ (List.mem_append_right _ (List.mem_append_right _ (List.mem_append_right _ (List.mem_append_right _ (List.mem_append_left _ h)))))))))))))))))))))
theorem lwr_15 {w : Cond} (h : w ∈ wsL_law0_r15) : w ∈ wsL_law := List.mem_append_left _ (List.mem_append_left _ (List.mem_append_left _ (List.mem_append_left _ (List.mem_append_left _ (List.mem_append_left _ (List.mem_append_left _ (List.mem_append_left _ (List.mem_append_right _ (List.mem_append_right _ (List.mem_append_right _ (List.mem_append_right _ (List.mem_append_right _ (List.mem_append_right _ (List.mem_append_right _ (List.mem_append_right _ (List.mem_append_right _ (List.mem_append_right _ (List.mem_append_right _ (List.mem_append_right _ (List.mem_append_right _ (List.mem_append_right _ (List.mem_append_left _ h))))))))))))))))))))))
theorem lwr_16 {w : Cond} (h : w ∈ wsL_law0_r16) : w ∈ wsL_law := List.mem_append_left _ (List.mem_append_left _ (List.mem_append_left _ (List.mem_append_left _ (List.mem_append_left _ (List.mem_append_left _ (List.mem_append_left _ (List.mem_append_left _ (List.mem_append_right _ (List.mem_append_right _ (List.mem_append_right _ (List.mem_append_right _ (List.mem_append_right _ (List.mem_append_right _ (List.mem_append_right _ (List.mem_append_right _ (List.mem_append_right _ (List.mem_append_right _ (List.mem_append_right _ (List.mem_append_right _ (List.mem_append_right _ (List.mem_append_right _ (List.mem_append_right _ (List.mem_append_left _ h)))))))))))))))))))))))
theorem lwr_17 {w : Cond} (h : w ∈ wsL_law0_r17) : w ∈ wsL_law := List.mem_append_left _ (List.mem_append_left _ (List.mem_append_left _ (List.mem_append_left _ (List.mem_append_left _ (List.mem_append_left _ (List.mem_append_left _ (List.mem_append_left _ (List.mem_append_right _ (List.mem_append_right _ (List.mem_append_right _ (List.mem_append_right _ (List.mem_append_right _ (List.mem_append_right _ (List.mem_append_right _ (List.mem_append_right _ (List.mem_append_right _ (List.mem_append_right _ (List.mem_append_right _ (List.mem_append_right _ (List.mem_append_right _ (List.mem_append_right _ (List.mem_append_right _ (List.mem_append_right _ (h))))))))))))))))))))))))
def w_L_law_L658 (Z : Nat → ClassId) (L : Nat) (xs : Nat → Int32) (κ543 : Nat → Int32 → Int32 → Int32 → Nat → Nat → Int32 → Int32 → RS → RS → PH → Prop) (K : Nat → WX → Prop) (x2 : Nat) (x3 : Int32) (x5 : Int32) (x6 : Int32) (x7 : Nat) (x8 : Nat) (x9 : Int32) (x19 : Int32) (x20 : Int32) (x21 : Int32) (S : RS) (T : RS) (h : PH) : Prop :=
  if x20 = 0 then
    κ543 x2 x3 x5 x6 x7 x8 x9 (x19 + 1) S T h
  else
    if x21 = 0 then
      κ543 x2 x3 x5 x6 x7 x8 x9 (x19 + 1) S T h
    else
      okP (f_X1_told S T x19 0) fun v72 =>
      ldI Z h x8 x19 fun v73 =>
      okP (f_X1_station S T v73 0) fun v75 =>
      if v72 = v75 then
        κ543 x2 x3 x5 x6 x7 x8 x9 (x19 + 1) S T h
      else
        False
def w_L_law_L633 (Z : Nat → ClassId) (L : Nat) (xs : Nat → Int32) (κ543 : Nat → Int32 → Int32 → Int32 → Nat → Nat → Int32 → Int32 → RS → RS → PH → Prop) (K : Nat → WX → Prop) (x2 : Nat) (x3 : Int32) (x5 : Int32) (x6 : Int32) (x7 : Nat) (x8 : Nat) (x9 : Int32) (x19 : Int32) (x20 : Int32) (x21 : Int32) (S : RS) (T : RS) (h : PH) : Prop :=
  if x20 = 0 then
    w_L_law_L658 Z L xs κ543 K x2 x3 x5 x6 x7 x8 x9 x19 x20 x21 S T h
  else
    if x21 = 0 then
      okP (f_X1_told S T x19 1) fun v79 =>
      ldI Z h x8 x19 fun v80 =>
      if v79 = v80 then
        w_L_law_L658 Z L xs κ543 K x2 x3 x5 x6 x7 x8 x9 x19 x20 x21 S T h
      else
        False
    else
      w_L_law_L658 Z L xs κ543 K x2 x3 x5 x6 x7 x8 x9 x19 x20 x21 S T h
def w_L_law_L611 (Z : Nat → ClassId) (L : Nat) (xs : Nat → Int32) (κ543 : Nat → Int32 → Int32 → Int32 → Nat → Nat → Int32 → Int32 → RS → RS → PH → Prop) (K : Nat → WX → Prop) (y0 : Int32) (x2 : Nat) (x3 : Int32) (x5 : Int32) (x6 : Int32) (x7 : Nat) (x8 : Nat) (x9 : Int32) (x19 : Int32) (x20 : Int32) (S : RS) (T : RS) (h : PH) : Prop :=
  if x20 = 0 then
    okP (f_X1_told S T x19 3) fun v83 =>
    ldI Z h x8 x19 fun v84 =>
    if v83 = v84 then
      w_L_law_L633 Z L xs κ543 K x2 x3 x5 x6 x7 x8 x9 x19 x20 y0 S T h
    else
      False
  else
    w_L_law_L633 Z L xs κ543 K x2 x3 x5 x6 x7 x8 x9 x19 x20 y0 S T h
def w_L_law_L594 (Z : Nat → ClassId) (L : Nat) (xs : Nat → Int32) (κ543 : Nat → Int32 → Int32 → Int32 → Nat → Nat → Int32 → Int32 → RS → RS → PH → Prop) (K : Nat → WX → Prop) (y0 : Int32) (x2 : Nat) (x3 : Int32) (x5 : Int32) (x6 : Int32) (x7 : Nat) (x8 : Nat) (x9 : Int32) (x19 : Int32) (S : RS) (T : RS) (h : PH) : Prop :=
  okP (f_X1_told S T x19 0) fun v65 =>
  if v65 < 0 then
    w_L_law_L611 Z L xs κ543 K 0 x2 x3 x5 x6 x7 x8 x9 x19 y0 S T h
  else
    w_L_law_L611 Z L xs κ543 K 1 x2 x3 x5 x6 x7 x8 x9 x19 y0 S T h
def w_L_law_L579 (Z : Nat → ClassId) (L : Nat) (xs : Nat → Int32) (κ543 : Nat → Int32 → Int32 → Int32 → Nat → Nat → Int32 → Int32 → RS → RS → PH → Prop) (K : Nat → WX → Prop) (x2 : Nat) (x3 : Int32) (x5 : Int32) (x6 : Int32) (x7 : Nat) (x8 : Nat) (x9 : Int32) (x19 : Int32) (S : RS) (T : RS) (h : PH) : Prop :=
  ldI Z h x7 x19 fun v62 =>
  if v62 = x9 then
    w_L_law_L594 Z L xs κ543 K 1 x2 x3 x5 x6 x7 x8 x9 x19 S T h
  else
    w_L_law_L594 Z L xs κ543 K 0 x2 x3 x5 x6 x7 x8 x9 x19 S T h
def w_L_law_L543 (Z : Nat → ClassId) (L : Nat) (xs : Nat → Int32) (κ204 : Nat → Int32 → Int32 → Int32 → Nat → Nat → Int32 → RS → RS → PH → Prop) (K : Nat → WX → Prop) : Nat → Nat → Int32 → Int32 → Int32 → Nat → Nat → Int32 → Int32 → RS → RS → PH → Prop
  | 0, _, _, _, _, _, _, _, _, _, _, _ => False
  | n + 1, x2, x3, x5, x6, x7, x8, x9, x19, S, T, h =>
    if x5 ≤ x19 then
      κ204 x2 x3 x5 x6 x7 x8 (x9 + 1) S T h
    else
      ldI Z h x8 x19 fun v58 =>
      if v58 < 0 then
        w_L_law_L543 Z L xs κ204 K n x2 x3 x5 x6 x7 x8 x9 (x19 + 1) S T h
      else
        ldI Z h x7 x19 fun v60 =>
        if x9 ≤ v60 then
          w_L_law_L579 Z L xs (fun x2 x3 x5 x6 x7 x8 x9 x19 S T h => w_L_law_L543 Z L xs κ204 K n x2 x3 x5 x6 x7 x8 x9 x19 S T h) K x2 x3 x5 x6 x7 x8 x9 x19 S T h
        else
          ldI Z h x7 x19 fun v86 =>
          if v86 ≤ 0 then
            w_L_law_L579 Z L xs (fun x2 x3 x5 x6 x7 x8 x9 x19 S T h => w_L_law_L543 Z L xs κ204 K n x2 x3 x5 x6 x7 x8 x9 x19 S T h) K x2 x3 x5 x6 x7 x8 x9 x19 S T h
          else
            w_L_law_L543 Z L xs κ204 K n x2 x3 x5 x6 x7 x8 x9 (x19 + 1) S T h
def w_L_law_L422 (Z : Nat → ClassId) (L : Nat) (xs : Nat → Int32) (κ362 : Nat → Int32 → Int32 → Int32 → Nat → Nat → Int32 → Int32 → Int32 → Int32 → Int32 → Int32 → Int32 → Int32 → Int32 → Int32 → RS → RS → PH → Prop) (K : Nat → WX → Prop) (x2 : Nat) (x3 : Int32) (x5 : Int32) (x6 : Int32) (x7 : Nat) (x8 : Nat) (x9 : Int32) (x11 : Int32) (x12 : Int32) (x13 : Int32) (x14 : Int32) (x15 : Int32) (x16 : Int32) (x17 : Int32) (x18 : Int32) (x19 : Int32) (x20 : Int32) (S : RS) (T : RS) (h : PH) : Prop :=
  okP (f_X1_station S T x19 4) fun v98 =>
  if x20 ≤ v98 then
    κ362 x2 x3 x5 x6 x7 x8 x9 x11 x12 x13 x14 x15 x16 x17 x18 (x19 + 1) S T h
  else
    okP (f_X1_answers S T x19) fun v101 =>
    if v101 < 0 then
      κ362 x2 x3 x5 x6 x7 x8 x9 x11 x12 x13 x14 x15 x16 x17 x18 (x19 + 1) S T h
    else
      κ362 x2 x3 x5 x6 x7 x8 x9 x11 x12 x13 x14 x15 x16 x17 (x18 + 1) (x19 + 1) S T h
def w_L_law_L405 (Z : Nat → ClassId) (L : Nat) (xs : Nat → Int32) (κ362 : Nat → Int32 → Int32 → Int32 → Nat → Nat → Int32 → Int32 → Int32 → Int32 → Int32 → Int32 → Int32 → Int32 → Int32 → Int32 → RS → RS → PH → Prop) (K : Nat → WX → Prop) (x2 : Nat) (x3 : Int32) (x5 : Int32) (x6 : Int32) (x7 : Nat) (x8 : Nat) (x9 : Int32) (x11 : Int32) (x12 : Int32) (x13 : Int32) (x14 : Int32) (x15 : Int32) (x16 : Int32) (x17 : Int32) (x18 : Int32) (x19 : Int32) (x20 : Int32) (S : RS) (T : RS) (h : PH) : Prop :=
  if x20 = 0 then
    okP (f_X1_station S T x19 5) fun v104 =>
    if v104 = 0 then
      w_L_law_L422 Z L xs κ362 K x2 x3 x5 x6 x7 x8 x9 x11 x12 x13 x14 x15 x16 x17 x18 x19 x20 S T h
    else
      False
  else
    w_L_law_L422 Z L xs κ362 K x2 x3 x5 x6 x7 x8 x9 x11 x12 x13 x14 x15 x16 x17 x18 x19 x20 S T h
def w_L_law_L362 (Z : Nat → ClassId) (L : Nat) (xs : Nat → Int32) (κ204 : Nat → Int32 → Int32 → Int32 → Nat → Nat → Int32 → RS → RS → PH → Prop) (K : Nat → WX → Prop) : Nat → Nat → Int32 → Int32 → Int32 → Nat → Nat → Int32 → Int32 → Int32 → Int32 → Int32 → Int32 → Int32 → Int32 → Int32 → Int32 → RS → RS → PH → Prop
  | 0, _, _, _, _, _, _, _, _, _, _, _, _, _, _, _, _, _, _, _ => False
  | n + 1, x2, x3, x5, x6, x7, x8, x9, x11, x12, x13, x14, x15, x16, x17, x18, x19, S, T, h =>
    if x6 ≤ x19 then
      okP (f_X1_count S T 8) fun v42 =>
      okP (f_X1_count S T 3) fun v44 =>
      if ((x17 + v42) - x12) = (x11 + v44) then
        okP (f_X1_count S T 5) fun v47 =>
        if v47 = (x14 + x16) then
          if x15 < x16 then
            False
          else
            okP (f_X1_count S T 7) fun v51 =>
            if v51 < x13 then
              False
            else
              okP (f_X1_count S T 7) fun v54 =>
              if v54 ≤ (x13 + x6) then
                if x18 ≤ 0 then
                  w_L_law_L543 Z L xs κ204 K FU x2 x3 x5 x6 x7 x8 x9 0 S T h
                else
                  okP (f_X1_count S T 7) fun v89 =>
                  if v89 = x13 then
                    False
                  else
                    w_L_law_L543 Z L xs κ204 K FU x2 x3 x5 x6 x7 x8 x9 0 S T h
              else
                False
        else
          False
      else
        False
    else
      okP (f_X1_station S T x19 5) fun v92 =>
      okP (f_X1_station S T x19 3) fun v94 =>
      if v94 ≤ 0 then
        w_L_law_L405 Z L xs (fun x2 x3 x5 x6 x7 x8 x9 x11 x12 x13 x14 x15 x16 x17 x18 x19 S T h => w_L_law_L362 Z L xs κ204 K n x2 x3 x5 x6 x7 x8 x9 x11 x12 x13 x14 x15 x16 x17 x18 x19 S T h) K x2 x3 x5 x6 x7 x8 x9 x11 x12 x13 x14 x15 x16 (x17 + v92) x18 x19 v94 S T h
      else
        okP (f_X1_station S T x19 2) fun v107 =>
        if 0 < v107 then
          False
        else
          w_L_law_L405 Z L xs (fun x2 x3 x5 x6 x7 x8 x9 x11 x12 x13 x14 x15 x16 x17 x18 x19 S T h => w_L_law_L362 Z L xs κ204 K n x2 x3 x5 x6 x7 x8 x9 x11 x12 x13 x14 x15 x16 x17 x18 x19 S T h) K x2 x3 x5 x6 x7 x8 x9 x11 x12 x13 x14 x15 x16 (x17 + v92) x18 x19 v94 S T h
def w_L_law_L322 (Z : Nat → ClassId) (L : Nat) (xs : Nat → Int32) (κ204 : Nat → Int32 → Int32 → Int32 → Nat → Nat → Int32 → RS → RS → PH → Prop) (K : Nat → WX → Prop) : Nat → Nat → Int32 → Int32 → Int32 → Nat → Nat → Int32 → Nat → Int32 → Int32 → Int32 → Int32 → Int32 → Int32 → Int32 → RS → RS → PH → Prop
  | 0, _, _, _, _, _, _, _, _, _, _, _, _, _, _, _, _, _, _ => False
  | n + 1, x2, x3, x5, x6, x7, x8, x9, x10, x11, x12, x13, x14, x15, x16, x17, S, T, h =>
    if 8 ≤ x17 then
      w_L_law_L362 Z L xs κ204 K FU x2 x3 x5 x6 x7 x8 x9 x11 x12 x13 x14 x15 x16 0 0 0 S T h
    else
      okP (f_X1_count S T x17) fun v110 =>
      ldI Z h x10 (x17 - 3) fun v111 =>
      if v110 = v111 then
        w_L_law_L322 Z L xs κ204 K n x2 x3 x5 x6 x7 x8 x9 x10 x11 x12 x13 x14 x15 x16 (x17 + 1) S T h
      else
        False
def w_L_law_L252 (Z : Nat → ClassId) (L : Nat) (xs : Nat → Int32) (κ204 : Nat → Int32 → Int32 → Int32 → Nat → Nat → Int32 → RS → RS → PH → Prop) (K : Nat → WX → Prop) : Nat → Nat → Int32 → Int32 → Int32 → Nat → Nat → Int32 → Nat → Int32 → Int32 → RS → RS → PH → Prop
  | 0, _, _, _, _, _, _, _, _, _, _, _, _, _ => False
  | n + 1, x2, x3, x5, x6, x7, x8, x9, x10, x11, x12, S, T, h =>
    if x6 ≤ x12 then
      okP (f_X1_count S T 8) fun v26 =>
      okP (f_X1_count S T 7) fun v28 =>
      okP (f_X1_count S T 5) fun v30 =>
      okP (f_X1_count S T 4) fun v32 =>
      okP3 (f_X1_pass S T 1) fun v34 S35 T36 =>
      rc3 h x2 ∧ w_X3_pass Z x2 (fun v38 h37 =>
        w_L_law_L322 Z L xs κ204 K FU x2 x3 x5 x6 x7 x8 x9 x10 x11 v26 v28 v30 v32 v34 3 S35 T36 h37) h
    else
      okP (f_X1_station S T x12 5) fun v114 =>
      w_L_law_L252 Z L xs κ204 K n x2 x3 x5 x6 x7 x8 x9 x10 (x11 + v114) (x12 + 1) S T h
def w_L_law_L219 (Z : Nat → ClassId) (L : Nat) (xs : Nat → Int32) (κ204 : Nat → Int32 → Int32 → Int32 → Nat → Nat → Int32 → RS → RS → PH → Prop) (K : Nat → WX → Prop) : Nat → Nat → Int32 → Int32 → Int32 → Nat → Nat → Int32 → Nat → Int32 → RS → RS → PH → Prop
  | 0, _, _, _, _, _, _, _, _, _, _, _, _ => False
  | n + 1, x2, x3, x5, x6, x7, x8, x9, x10, x11, S, T, h =>
    if 8 ≤ x11 then
      w_L_law_L252 Z L xs κ204 K FU x2 x3 x5 x6 x7 x8 x9 x10 0 0 S T h
    else
      okP3 (f_X1_foresee S T 1 x11) fun v116 S117 T118 =>
      sA Z h x10 (x11 - 3) v116 fun h119 =>
      w_L_law_L219 Z L xs κ204 K n x2 x3 x5 x6 x7 x8 x9 x10 (x11 + 1) S117 T118 h119
def w_L_law_L204 (Z : Nat → ClassId) (L : Nat) (xs : Nat → Int32) (κ22 : Nat → Int32 → RS → RS → PH → Prop) (K : Nat → WX → Prop) : Nat → Nat → Int32 → Int32 → Int32 → Nat → Nat → Int32 → RS → RS → PH → Prop
  | 0, _, _, _, _, _, _, _, _, _, _ => False
  | n + 1, x2, x3, x5, x6, x7, x8, x9, S, T, h =>
    if 6 < x9 then
      κ22 x2 (x3 + 1) S T h
    else
      nA Z h 5 5 fun b21 h22 =>
      w_L_law_L219 Z L xs (fun x2 x3 x5 x6 x7 x8 x9 S T h => w_L_law_L204 Z L xs κ22 K n x2 x3 x5 x6 x7 x8 x9 S T h) K FU x2 x3 x5 x6 x7 x8 x9 b21 3 S T h22
def w_L_law_L173 (Z : Nat → ClassId) (L : Nat) (xs : Nat → Int32) (κ109 : Nat → Int32 → Int32 → Int32 → Nat → Nat → Int32 → RS → RS → PH → Prop) (K : Nat → WX → Prop) (y0 : Int32) (y1 : Int32) (x2 : Nat) (x3 : Int32) (x5 : Int32) (x6 : Int32) (x7 : Nat) (x8 : Nat) (x9 : Int32) (S : RS) (T : RS) (h : PH) : Prop :=
  if y1 = y0 then
    ldI Z h x8 x9 fun v133 =>
    if 0 ≤ v133 then
      κ109 x2 x3 x5 x6 x7 x8 (x9 + 1) S T h
    else
      ldI Z h x7 x9 fun v135 =>
      if v135 = (-1) then
        κ109 x2 x3 x5 x6 x7 x8 (x9 + 1) S T h
      else
        False
  else
    False
def w_L_law_L172 (Z : Nat → ClassId) (L : Nat) (xs : Nat → Int32) (κ109 : Nat → Int32 → Int32 → Int32 → Nat → Nat → Int32 → RS → RS → PH → Prop) (K : Nat → WX → Prop) (y0 : Int32) (x2 : Nat) (x3 : Int32) (x5 : Int32) (x6 : Int32) (x7 : Nat) (x8 : Nat) (x9 : Int32) (S : RS) (T : RS) (h : PH) : Prop :=
  w_L_law_L173 Z L xs κ109 K 0 y0 x2 x3 x5 x6 x7 x8 x9 S T h
def w_L_law_L152 (Z : Nat → ClassId) (L : Nat) (xs : Nat → Int32) (κ109 : Nat → Int32 → Int32 → Int32 → Nat → Nat → Int32 → RS → RS → PH → Prop) (K : Nat → WX → Prop) (y0 : Int32) (x2 : Nat) (x3 : Int32) (x5 : Int32) (x6 : Int32) (x7 : Nat) (x8 : Nat) (x9 : Int32) (S : RS) (T : RS) (h : PH) : Prop :=
  ldI Z h x7 x9 fun v130 =>
  if 0 ≤ v130 then
    w_L_law_L172 Z L xs κ109 K y0 x2 x3 x5 x6 x7 x8 x9 S T h
  else
    ldI Z h x8 x9 fun v137 =>
    if 0 ≤ v137 then
      w_L_law_L172 Z L xs κ109 K y0 x2 x3 x5 x6 x7 x8 x9 S T h
    else
      w_L_law_L173 Z L xs κ109 K 1 y0 x2 x3 x5 x6 x7 x8 x9 S T h
def w_L_law_L109 (Z : Nat → ClassId) (L : Nat) (xs : Nat → Int32) (κ22 : Nat → Int32 → RS → RS → PH → Prop) (K : Nat → WX → Prop) : Nat → Nat → Int32 → Int32 → Int32 → Nat → Nat → Int32 → RS → RS → PH → Prop
  | 0, _, _, _, _, _, _, _, _, _, _ => False
  | n + 1, x2, x3, x5, x6, x7, x8, x9, S, T, h =>
    if x5 ≤ x9 then
      w_L_law_L204 Z L xs κ22 K 8 x2 x3 x5 x6 x7 x8 1 S T h
    else
      okP3 (f_X1_when S T x9) fun v121 S122 T123 =>
      sA Z h x7 x9 v121 fun h124 =>
      okP (f_X1_told S122 T123 x9 3) fun v126 =>
      sA Z h124 x8 x9 v126 fun h127 =>
      ldI Z h127 x8 x9 fun v128 =>
      if 0 ≤ v128 then
        w_L_law_L152 Z L xs (fun x2 x3 x5 x6 x7 x8 x9 S T h => w_L_law_L109 Z L xs κ22 K n x2 x3 x5 x6 x7 x8 x9 S T h) K 0 x2 x3 x5 x6 x7 x8 x9 S122 T123 h127
      else
        w_L_law_L152 Z L xs (fun x2 x3 x5 x6 x7 x8 x9 S T h => w_L_law_L109 Z L xs κ22 K n x2 x3 x5 x6 x7 x8 x9 S T h) K 1 x2 x3 x5 x6 x7 x8 x9 S122 T123 h127
def w_L_law_L44 (Z : Nat → ClassId) (L : Nat) (xs : Nat → Int32) (κ22 : Nat → Int32 → RS → RS → PH → Prop) (K : Nat → WX → Prop) : Nat → Nat → Int32 → Int32 → Int32 → RS → RS → PH → Prop
  | 0, _, _, _, _, _, _, _ => False
  | n + 1, x2, x3, x4, x5, S, T, h =>
    if 3 ≤ x5 then
      okP (f_X1_count S T 2) fun v12 =>
      okP (f_X1_count S T 1) fun v14 =>
      nA Z h v12 12 fun b15 h16 =>
      nA Z h16 v12 12 fun b17 h18 =>
      w_L_law_L109 Z L xs κ22 K FU x2 x3 v12 v14 b15 b17 0 S T h18
    else
      w_L_act Z x2 ((x4 >>> ((2 * x5) &&& 31)) + (199 * x5)) (fun v143 u142 =>
        if v143 = 0 then
          False
        else
          w_L_law_L44 Z L xs κ22 K n x2 x3 x4 (x5 + 1) u142.1 u142.2.1 u142.2.2) (S, T, h)
def w_L_law_L22 (Z : Nat → ClassId) (L : Nat) (xs : Nat → Int32)  (K : Nat → WX → Prop) : Nat → Nat → Int32 → RS → RS → PH → Prop
  | 0, _, _, _, _, _ => False
  | n + 1, x2, x3, S, T, h =>
    if 14 ≤ x3 then
      K x2 (S, T, h)
    else
      obP (f_L_cell L xs x3) fun v8 =>
      w_L_law_L44 Z L xs (fun x2 x3 S T h => w_L_law_L22 Z L xs K n x2 x3 S T h) K 5 x2 x3 (v8 + (281 * x3)) 0 S T h
def wf_L_law (Z : Nat → ClassId) (L : Nat) (xs : Nat → Int32) (K : Nat → WX → Prop) (S T : RS) (h : PH) : Prop :=
  w_L_build Z L xs (fun r5 u4 =>
    opm r5 (
      False) (fun b6 =>
      w_L_law_L22 Z L xs K 16 b6 0 u4.1 u4.2.1 u4.2.2)) (S, T, h)
set_option maxHeartbeats 8000000 in
set_option maxRecDepth 100000 in
theorem x_L_law {p : Program} {l : Launch} {e : Env} {s : State} {m : MethodId} {below : List Frame} {meth : Method} {c : Code} {A : Nat → Prop} {Q : State → Prop} (D : va_G) (Z : Nat → ClassId) (o : Nat) (a b : Nat → Nat) (bs L : Nat) (xs : Nat → Int32) (K : Nat → WX → Prop) (S T : RS) (h : PH) (cc0 sc0 : Nat) (hcc0 : cc0 ≤ 100) (hsc0 : sc0 ≤ 2000) (H0 : Heap) (locs0 : List Loc) (hf : wf_L_law Z L xs K S T h) (hC : Cx p s m #[Value.ref bs] meth c code RL meth.name 22 ret wsL_law) (hE : sE bs L xs A s) (hA : ∀ q : Nat, s.heap.size ≤ q → A q) (hP : va_P D vwCl (hw (owl Z o a b S T) h) H0) (hK : zK D Z s) (hD : va_D A (hw (owl Z o a b S T) h)) (hS : va_S A s.heap H0 locs0)
    (hEnd : ∀ (x2 : Nat) (u : WX) (cc sc : Nat) (H : Heap) (locs : List Loc) (ls : Array Slot), K x2 u → cc ≤ 1200000 → sc ≤ 5500000 → va_P D vwCl (owx Z o a b u) H → va_D A (owx Z o a b u) → va_S A s.heap H locs → lv_has ls 22 [(0, .ref bs), (1, .ref o), (2, .ref x2)] → W p l e room_1 s m #[Value.ref bs] below meth c H locs cc sc Q (F0 m 708 ls [])) :
    ∀ ls : Array Slot, lv_has ls 22 [(0, .ref bs), (1, .ref o)] → W p l e room_1 s m #[Value.ref bs] below meth c H0 locs0 cc0 sc0 Q (F0 m 8 ls []) := by
  intro ls hl
  obtain ⟨hx, hb, hr, hml, hown, hts, hlk, -⟩ := hC
  have hown : s.vm.findClass RL = some m.cls := hown
  have hO := hE.1.2
  have hin2 : ∀ w ∈ wsX20, w ∈ wsL_law := inlX2
  have hin3 : ∀ w ∈ wsX30, w ∈ wsL_law := inlX3
  have L658 : ∀ (rc rs : Nat), ∀ (κ543 : Nat → Int32 → Int32 → Int32 → Nat → Nat → Int32 → Int32 → RS → RS → PH → Prop), (∀ (x2 : Nat) (x3 : Int32) (x5 : Int32) (x6 : Int32) (x7 : Nat) (x8 : Nat) (x9 : Int32) (x19 : Int32) (S : RS) (T : RS) (h : PH) (cc sc : Nat) (H : Heap) (locs : List Loc), cc + (rc) ≤ 1200000 → sc + (rs) ≤ 5500000 → va_P D vwCl (hw (owl Z o a b S T) h) H → va_D A (hw (owl Z o a b S T) h) → va_S A s.heap H locs → ∀ ls : Array Slot, lv_has ls 22 [(0, .ref bs), (1, .ref o), (2, .ref x2), (3, .int x3), (5, .int x5), (6, .int x6), (7, .ref x7), (8, .ref x8), (9, .int x9), (19, .int x19)] → κ543 x2 x3 x5 x6 x7 x8 x9 x19 S T h → W p l e room_1 s m #[Value.ref bs] below meth c H locs cc sc Q (F0 m 543 ls [])) → ∀ (x2 : Nat) (x3 : Int32) (x5 : Int32) (x6 : Int32) (x7 : Nat) (x8 : Nat) (x9 : Int32) (x19 : Int32) (x20 : Int32) (x21 : Int32) (S : RS) (T : RS) (h : PH) (cc sc : Nat) (H : Heap) (locs : List Loc), cc + (0 + rc) ≤ 1200000 → sc + (0 + rs) ≤ 5500000 → va_P D vwCl (hw (owl Z o a b S T) h) H → va_D A (hw (owl Z o a b S T) h) → va_S A s.heap H locs → ∀ ls : Array Slot, lv_has ls 22 [(0, .ref bs), (1, .ref o), (2, .ref x2), (3, .int x3), (5, .int x5), (6, .int x6), (7, .ref x7), (8, .ref x8), (9, .int x9), (19, .int x19), (20, .int x20), (21, .int x21)] → w_L_law_L658 Z L xs κ543 K x2 x3 x5 x6 x7 x8 x9 x19 x20 x21 S T h → W p l e room_1 s m #[Value.ref bs] below meth c H locs cc sc Q (F0 m 658 ls []) := by
    intro rc rs κ543 hκ543 x2 x3 x5 x6 x7 x8 x9 x19 x20 x21 S T h cc sc H locs hcc hsc hP hD hS ls hl hf
    unfold w_L_law_L658 at hf
    refine lv_iload hx hb dL_law_658 (lv_at hl 10 rfl) ?_
    refine lv_if_eq (tgt := 690) hx hb dL_law_660 (by decide) (fun c69 => ?_) (fun c69 => ?_)
    · have hf := itP hf c69
      refine lv_iinc (v := (x19 + 1)) (lv' := [(19, .int (x19 + 1)), (0, .ref bs), (1, .ref o), (2, .ref x2), (3, .int x3), (5, .int x5), (6, .int x6), (7, .ref x7), (8, .ref x8), (9, .int x9), (20, .int x20), (21, .int x21)]) hx hb dL_law_690 hl (k := 9) rfl rfl (by decide) rfl (fun ls hl => ?_)
      refine lv_goto (tgt := 543) hx hb dL_law_693 (by decide) ?_
      exact hκ543 x2 x3 x5 x6 x7 x8 x9 (x19 + 1) S T h cc sc _ _ (by omega) (by omega) hP hD hS ls (lv_sub hl [1, 2, 3, 4, 5, 6, 7, 8, 9, 0] rfl) hf
    · have hf := ifP hf c69
      refine lv_iload hx hb dL_law_663 (lv_at hl 11 rfl) ?_
      refine lv_if_eq (tgt := 690) hx hb dL_law_665 (by decide) (fun c70 => ?_) (fun c70 => ?_)
      · have hf := itP hf c70
        refine lv_iinc (v := (x19 + 1)) (lv' := [(19, .int (x19 + 1)), (0, .ref bs), (1, .ref o), (2, .ref x2), (3, .int x3), (5, .int x5), (6, .int x6), (7, .ref x7), (8, .ref x8), (9, .int x9), (20, .int x20), (21, .int x21)]) hx hb dL_law_690 hl (k := 9) rfl rfl (by decide) rfl (fun ls hl => ?_)
        refine lv_goto (tgt := 543) hx hb dL_law_693 (by decide) ?_
        exact hκ543 x2 x3 x5 x6 x7 x8 x9 (x19 + 1) S T h cc sc _ _ (by omega) (by omega) hP hD hS ls (lv_sub hl [1, 2, 3, 4, 5, 6, 7, 8, 9, 0] rfl) hf
      · have hf := ifP hf c70
        refine lv_aload_n hx hb dL_law_668 rfl (lv_at hl 1 rfl) ?_
        refine lv_iload hx hb dL_law_669 (lv_at hl 9 rfl) ?_
        refine lv_iconst (v := 0) hx hb dL_law_671 (by decide) ?_
        obtain ⟨v72, hv71, hf⟩ := hf
        refine zc_i (z_VG (As := [.int x19, .int 0]) (rest := []) (q0 := 0) (ci := 1) xE_ok hE.1.1 hS hA ⟨hx, hb, hml, hown, hts⟩ (ok_X1_told l D Z o a b S T x19 0 v72 hv71) gL_law_X1_told rfl rfl rfl hdv_X1_told ⟨Nat.le_of_ble_eq_true rfl, Nat.le_of_ble_eq_true rfl⟩ hK (hw_X hP) (hw_XD hD) rfl rfl rfl rfl hl.1 rfl (Nat.le_of_ble_eq_true rfl) dL_law_672 ⟨(show cc + 0 ≤ 1200172 from by omega), (show sc + 0 ≤ 5500668 from by omega)⟩) hP hS hA (fun H locs hP hS => ?_)
        refine lv_aload_n hx hb dL_law_675 rfl (lv_at hl 1 rfl) ?_
        refine lv_aload hx hb dL_law_676 (lv_at hl 7 rfl) ?_
        refine lv_iload hx hb dL_law_678 (lv_at hl 9 rfl) ?_
        refine z_aI hf hx hb hK hP dL_law_680 (fun v73 hf => ?_)
        refine lv_iconst (v := 0) hx hb dL_law_681 (by decide) ?_
        obtain ⟨v75, hv74, hf⟩ := hf
        refine zc_i (z_VG (As := [.int v73, .int 0]) (rest := [.int v72]) (q0 := 0) (ci := 1) xE_ok hE.1.1 hS hA ⟨hx, hb, hml, hown, hts⟩ (ok_X1_station l D Z o a b S T v73 0 v75 hv74) gL_law_X1_station rfl rfl rfl hdv_X1_station ⟨Nat.le_of_ble_eq_true rfl, Nat.le_of_ble_eq_true rfl⟩ hK (hw_X hP) (hw_XD hD) rfl rfl rfl rfl hl.1 rfl (Nat.le_of_ble_eq_true rfl) dL_law_682 ⟨(show cc + 0 ≤ 1200172 from by omega), (show sc + 0 ≤ 5500668 from by omega)⟩) hP hS hA (fun H locs hP hS => ?_)
        refine lv_icmp_eq (tgt := 690) hx hb dL_law_685 (by decide) (fun c76 => ?_) (fun c76 => ?_)
        · have hf := itP hf c76
          refine lv_iinc (v := (x19 + 1)) (lv' := [(19, .int (x19 + 1)), (0, .ref bs), (1, .ref o), (2, .ref x2), (3, .int x3), (5, .int x5), (6, .int x6), (7, .ref x7), (8, .ref x8), (9, .int x9), (20, .int x20), (21, .int x21)]) hx hb dL_law_690 hl (k := 9) rfl rfl (by decide) rfl (fun ls hl => ?_)
          refine lv_goto (tgt := 543) hx hb dL_law_693 (by decide) ?_
          exact hκ543 x2 x3 x5 x6 x7 x8 x9 (x19 + 1) S T h cc sc _ _ (by omega) (by omega) hP hD hS ls (lv_sub hl [1, 2, 3, 4, 5, 6, 7, 8, 9, 0] rfl) hf
        · have hf := ifP hf c76
          refine lv_iconst (v := 0) hx hb dL_law_688 (by decide) ?_
          exact hf.elim
  have L633 : ∀ (rc rs : Nat), ∀ (κ543 : Nat → Int32 → Int32 → Int32 → Nat → Nat → Int32 → Int32 → RS → RS → PH → Prop), (∀ (x2 : Nat) (x3 : Int32) (x5 : Int32) (x6 : Int32) (x7 : Nat) (x8 : Nat) (x9 : Int32) (x19 : Int32) (S : RS) (T : RS) (h : PH) (cc sc : Nat) (H : Heap) (locs : List Loc), cc + (rc) ≤ 1200000 → sc + (rs) ≤ 5500000 → va_P D vwCl (hw (owl Z o a b S T) h) H → va_D A (hw (owl Z o a b S T) h) → va_S A s.heap H locs → ∀ ls : Array Slot, lv_has ls 22 [(0, .ref bs), (1, .ref o), (2, .ref x2), (3, .int x3), (5, .int x5), (6, .int x6), (7, .ref x7), (8, .ref x8), (9, .int x9), (19, .int x19)] → κ543 x2 x3 x5 x6 x7 x8 x9 x19 S T h → W p l e room_1 s m #[Value.ref bs] below meth c H locs cc sc Q (F0 m 543 ls [])) → ∀ (x2 : Nat) (x3 : Int32) (x5 : Int32) (x6 : Int32) (x7 : Nat) (x8 : Nat) (x9 : Int32) (x19 : Int32) (x20 : Int32) (x21 : Int32) (S : RS) (T : RS) (h : PH) (cc sc : Nat) (H : Heap) (locs : List Loc), cc + (0 + rc) ≤ 1200000 → sc + (0 + rs) ≤ 5500000 → va_P D vwCl (hw (owl Z o a b S T) h) H → va_D A (hw (owl Z o a b S T) h) → va_S A s.heap H locs → ∀ ls : Array Slot, lv_has ls 22 [(0, .ref bs), (1, .ref o), (2, .ref x2), (3, .int x3), (5, .int x5), (6, .int x6), (7, .ref x7), (8, .ref x8), (9, .int x9), (19, .int x19), (20, .int x20), (21, .int x21)] → w_L_law_L633 Z L xs κ543 K x2 x3 x5 x6 x7 x8 x9 x19 x20 x21 S T h → W p l e room_1 s m #[Value.ref bs] below meth c H locs cc sc Q (F0 m 633 ls []) := by
    intro rc rs κ543 hκ543 x2 x3 x5 x6 x7 x8 x9 x19 x20 x21 S T h cc sc H locs hcc hsc hP hD hS ls hl hf
    unfold w_L_law_L633 at hf
    refine lv_iload hx hb dL_law_633 (lv_at hl 10 rfl) ?_
    refine lv_if_eq (tgt := 658) hx hb dL_law_635 (by decide) (fun c68 => ?_) (fun c68 => ?_)
    · have hf := itP hf c68
      exact L658 rc rs κ543 hκ543 x2 x3 x5 x6 x7 x8 x9 x19 x20 x21 S T h cc sc _ _ (by omega) (by omega) hP hD hS ls (lv_sub hl [0, 1, 2, 3, 4, 5, 6, 7, 8, 9, 10, 11] rfl) hf
    · have hf := ifP hf c68
      refine lv_iload hx hb dL_law_638 (lv_at hl 11 rfl) ?_
      refine lv_if_ne (tgt := 658) hx hb dL_law_640 (by decide) (fun c77 => ?_) (fun c77 => ?_)
      · have hf := ifP hf c77
        exact L658 rc rs κ543 hκ543 x2 x3 x5 x6 x7 x8 x9 x19 x20 x21 S T h cc sc _ _ (by omega) (by omega) hP hD hS ls (lv_sub hl [0, 1, 2, 3, 4, 5, 6, 7, 8, 9, 10, 11] rfl) hf
      · have hf := itP hf c77
        refine lv_aload_n hx hb dL_law_643 rfl (lv_at hl 1 rfl) ?_
        refine lv_iload hx hb dL_law_644 (lv_at hl 9 rfl) ?_
        refine lv_iconst (v := 1) hx hb dL_law_646 (by decide) ?_
        obtain ⟨v79, hv78, hf⟩ := hf
        refine zc_i (z_VG (As := [.int x19, .int 1]) (rest := []) (q0 := 0) (ci := 1) xE_ok hE.1.1 hS hA ⟨hx, hb, hml, hown, hts⟩ (ok_X1_told l D Z o a b S T x19 1 v79 hv78) gL_law_X1_told rfl rfl rfl hdv_X1_told ⟨Nat.le_of_ble_eq_true rfl, Nat.le_of_ble_eq_true rfl⟩ hK (hw_X hP) (hw_XD hD) rfl rfl rfl rfl hl.1 rfl (Nat.le_of_ble_eq_true rfl) dL_law_647 ⟨(show cc + 0 ≤ 1200172 from by omega), (show sc + 0 ≤ 5500668 from by omega)⟩) hP hS hA (fun H locs hP hS => ?_)
        refine lv_aload hx hb dL_law_650 (lv_at hl 7 rfl) ?_
        refine lv_iload hx hb dL_law_652 (lv_at hl 9 rfl) ?_
        refine z_aI hf hx hb hK hP dL_law_654 (fun v80 hf => ?_)
        refine lv_icmp_ne (tgt := 688) hx hb dL_law_655 (by decide) (fun c81 => ?_) (fun c81 => ?_)
        · have hf := ifP hf c81
          refine lv_iconst (v := 0) hx hb dL_law_688 (by decide) ?_
          exact hf.elim
        · have hf := itP hf c81
          exact L658 rc rs κ543 hκ543 x2 x3 x5 x6 x7 x8 x9 x19 x20 x21 S T h cc sc _ _ (by omega) (by omega) hP hD hS ls (lv_sub hl [0, 1, 2, 3, 4, 5, 6, 7, 8, 9, 10, 11] rfl) hf
  have L611 : ∀ (rc rs : Nat), ∀ (κ543 : Nat → Int32 → Int32 → Int32 → Nat → Nat → Int32 → Int32 → RS → RS → PH → Prop), (∀ (x2 : Nat) (x3 : Int32) (x5 : Int32) (x6 : Int32) (x7 : Nat) (x8 : Nat) (x9 : Int32) (x19 : Int32) (S : RS) (T : RS) (h : PH) (cc sc : Nat) (H : Heap) (locs : List Loc), cc + (rc) ≤ 1200000 → sc + (rs) ≤ 5500000 → va_P D vwCl (hw (owl Z o a b S T) h) H → va_D A (hw (owl Z o a b S T) h) → va_S A s.heap H locs → ∀ ls : Array Slot, lv_has ls 22 [(0, .ref bs), (1, .ref o), (2, .ref x2), (3, .int x3), (5, .int x5), (6, .int x6), (7, .ref x7), (8, .ref x8), (9, .int x9), (19, .int x19)] → κ543 x2 x3 x5 x6 x7 x8 x9 x19 S T h → W p l e room_1 s m #[Value.ref bs] below meth c H locs cc sc Q (F0 m 543 ls [])) → ∀ (y0 : Int32) (x2 : Nat) (x3 : Int32) (x5 : Int32) (x6 : Int32) (x7 : Nat) (x8 : Nat) (x9 : Int32) (x19 : Int32) (x20 : Int32) (S : RS) (T : RS) (h : PH) (cc sc : Nat) (H : Heap) (locs : List Loc), cc + (0 + rc) ≤ 1200000 → sc + (0 + rs) ≤ 5500000 → va_P D vwCl (hw (owl Z o a b S T) h) H → va_D A (hw (owl Z o a b S T) h) → va_S A s.heap H locs → ∀ ls : Array Slot, lv_has ls 22 [(0, .ref bs), (1, .ref o), (2, .ref x2), (3, .int x3), (5, .int x5), (6, .int x6), (7, .ref x7), (8, .ref x8), (9, .int x9), (19, .int x19), (20, .int x20)] → w_L_law_L611 Z L xs κ543 K y0 x2 x3 x5 x6 x7 x8 x9 x19 x20 S T h → W p l e room_1 s m #[Value.ref bs] below meth c H locs cc sc Q (F0 m 611 ls [.int y0]) := by
    intro rc rs κ543 hκ543 y0 x2 x3 x5 x6 x7 x8 x9 x19 x20 S T h cc sc H locs hcc hsc hP hD hS ls hl hf
    unfold w_L_law_L611 at hf
    refine lv_istore (lv' := [(21, .int y0), (0, .ref bs), (1, .ref o), (2, .ref x2), (3, .int x3), (5, .int x5), (6, .int x6), (7, .ref x7), (8, .ref x8), (9, .int x9), (19, .int x19), (20, .int x20)]) hx hb dL_law_611 hl (by decide) rfl (fun ls hl => ?_)
    refine lv_iload hx hb dL_law_613 (lv_at hl 11 rfl) ?_
    refine lv_if_ne (tgt := 633) hx hb dL_law_615 (by decide) (fun c67 => ?_) (fun c67 => ?_)
    · have hf := ifP hf c67
      exact L633 rc rs κ543 hκ543 x2 x3 x5 x6 x7 x8 x9 x19 x20 y0 S T h cc sc _ _ (by omega) (by omega) hP hD hS ls (lv_sub hl [1, 2, 3, 4, 5, 6, 7, 8, 9, 10, 11, 0] rfl) hf
    · have hf := itP hf c67
      refine lv_aload_n hx hb dL_law_618 rfl (lv_at hl 2 rfl) ?_
      refine lv_iload hx hb dL_law_619 (lv_at hl 10 rfl) ?_
      refine lv_iconst (v := 3) hx hb dL_law_621 (by decide) ?_
      obtain ⟨v83, hv82, hf⟩ := hf
      refine zc_i (z_VG (As := [.int x19, .int 3]) (rest := []) (q0 := 0) (ci := 1) xE_ok hE.1.1 hS hA ⟨hx, hb, hml, hown, hts⟩ (ok_X1_told l D Z o a b S T x19 3 v83 hv82) gL_law_X1_told rfl rfl rfl hdv_X1_told ⟨Nat.le_of_ble_eq_true rfl, Nat.le_of_ble_eq_true rfl⟩ hK (hw_X hP) (hw_XD hD) rfl rfl rfl rfl hl.1 rfl (Nat.le_of_ble_eq_true rfl) dL_law_622 ⟨(show cc + 0 ≤ 1200172 from by omega), (show sc + 0 ≤ 5500668 from by omega)⟩) hP hS hA (fun H locs hP hS => ?_)
      refine lv_aload hx hb dL_law_625 (lv_at hl 8 rfl) ?_
      refine lv_iload hx hb dL_law_627 (lv_at hl 10 rfl) ?_
      refine z_aI hf hx hb hK hP dL_law_629 (fun v84 hf => ?_)
      refine lv_icmp_ne (tgt := 688) hx hb dL_law_630 (by decide) (fun c85 => ?_) (fun c85 => ?_)
      · have hf := ifP hf c85
        refine lv_iconst (v := 0) hx hb dL_law_688 (by decide) ?_
        exact hf.elim
      · have hf := itP hf c85
        exact L633 rc rs κ543 hκ543 x2 x3 x5 x6 x7 x8 x9 x19 x20 y0 S T h cc sc _ _ (by omega) (by omega) hP hD hS ls (lv_sub hl [1, 2, 3, 4, 5, 6, 7, 8, 9, 10, 11, 0] rfl) hf
  have L594 : ∀ (rc rs : Nat), ∀ (κ543 : Nat → Int32 → Int32 → Int32 → Nat → Nat → Int32 → Int32 → RS → RS → PH → Prop), (∀ (x2 : Nat) (x3 : Int32) (x5 : Int32) (x6 : Int32) (x7 : Nat) (x8 : Nat) (x9 : Int32) (x19 : Int32) (S : RS) (T : RS) (h : PH) (cc sc : Nat) (H : Heap) (locs : List Loc), cc + (rc) ≤ 1200000 → sc + (rs) ≤ 5500000 → va_P D vwCl (hw (owl Z o a b S T) h) H → va_D A (hw (owl Z o a b S T) h) → va_S A s.heap H locs → ∀ ls : Array Slot, lv_has ls 22 [(0, .ref bs), (1, .ref o), (2, .ref x2), (3, .int x3), (5, .int x5), (6, .int x6), (7, .ref x7), (8, .ref x8), (9, .int x9), (19, .int x19)] → κ543 x2 x3 x5 x6 x7 x8 x9 x19 S T h → W p l e room_1 s m #[Value.ref bs] below meth c H locs cc sc Q (F0 m 543 ls [])) → ∀ (y0 : Int32) (x2 : Nat) (x3 : Int32) (x5 : Int32) (x6 : Int32) (x7 : Nat) (x8 : Nat) (x9 : Int32) (x19 : Int32) (S : RS) (T : RS) (h : PH) (cc sc : Nat) (H : Heap) (locs : List Loc), cc + (0 + rc) ≤ 1200000 → sc + (0 + rs) ≤ 5500000 → va_P D vwCl (hw (owl Z o a b S T) h) H → va_D A (hw (owl Z o a b S T) h) → va_S A s.heap H locs → ∀ ls : Array Slot, lv_has ls 22 [(0, .ref bs), (1, .ref o), (2, .ref x2), (3, .int x3), (5, .int x5), (6, .int x6), (7, .ref x7), (8, .ref x8), (9, .int x9), (19, .int x19)] → w_L_law_L594 Z L xs κ543 K y0 x2 x3 x5 x6 x7 x8 x9 x19 S T h → W p l e room_1 s m #[Value.ref bs] below meth c H locs cc sc Q (F0 m 594 ls [.int y0]) := by
    intro rc rs κ543 hκ543 y0 x2 x3 x5 x6 x7 x8 x9 x19 S T h cc sc H locs hcc hsc hP hD hS ls hl hf
    unfold w_L_law_L594 at hf
    refine lv_istore (lv' := [(20, .int y0), (0, .ref bs), (1, .ref o), (2, .ref x2), (3, .int x3), (5, .int x5), (6, .int x6), (7, .ref x7), (8, .ref x8), (9, .int x9), (19, .int x19)]) hx hb dL_law_594 hl (by decide) rfl (fun ls hl => ?_)
    refine lv_aload_n hx hb dL_law_596 rfl (lv_at hl 2 rfl) ?_
    refine lv_iload hx hb dL_law_597 (lv_at hl 10 rfl) ?_
    refine lv_iconst (v := 0) hx hb dL_law_599 (by decide) ?_
    obtain ⟨v65, hv64, hf⟩ := hf
    refine zc_i (z_VG (As := [.int x19, .int 0]) (rest := []) (q0 := 0) (ci := 1) xE_ok hE.1.1 hS hA ⟨hx, hb, hml, hown, hts⟩ (ok_X1_told l D Z o a b S T x19 0 v65 hv64) gL_law_X1_told rfl rfl rfl hdv_X1_told ⟨Nat.le_of_ble_eq_true rfl, Nat.le_of_ble_eq_true rfl⟩ hK (hw_X hP) (hw_XD hD) rfl rfl rfl rfl hl.1 rfl (Nat.le_of_ble_eq_true rfl) dL_law_600 ⟨(show cc + 0 ≤ 1200172 from by omega), (show sc + 0 ≤ 5500668 from by omega)⟩) hP hS hA (fun H locs hP hS => ?_)
    refine lv_if_lt (tgt := 610) hx hb dL_law_603 (by decide) (fun c66 => ?_) (fun c66 => ?_)
    · have hf := itP hf c66
      refine lv_iconst (v := 0) hx hb dL_law_610 (by decide) ?_
      exact L611 rc rs κ543 hκ543 0 x2 x3 x5 x6 x7 x8 x9 x19 y0 S T h cc sc _ _ (by omega) (by omega) hP hD hS ls (lv_sub hl [1, 2, 3, 4, 5, 6, 7, 8, 9, 10, 0] rfl) hf
    · have hf := ifP hf c66
      refine lv_iconst (v := 1) hx hb dL_law_606 (by decide) ?_
      refine lv_goto (tgt := 611) hx hb dL_law_607 (by decide) ?_
      exact L611 rc rs κ543 hκ543 1 x2 x3 x5 x6 x7 x8 x9 x19 y0 S T h cc sc _ _ (by omega) (by omega) hP hD hS ls (lv_sub hl [1, 2, 3, 4, 5, 6, 7, 8, 9, 10, 0] rfl) hf
  have L579 : ∀ (rc rs : Nat), ∀ (κ543 : Nat → Int32 → Int32 → Int32 → Nat → Nat → Int32 → Int32 → RS → RS → PH → Prop), (∀ (x2 : Nat) (x3 : Int32) (x5 : Int32) (x6 : Int32) (x7 : Nat) (x8 : Nat) (x9 : Int32) (x19 : Int32) (S : RS) (T : RS) (h : PH) (cc sc : Nat) (H : Heap) (locs : List Loc), cc + (rc) ≤ 1200000 → sc + (rs) ≤ 5500000 → va_P D vwCl (hw (owl Z o a b S T) h) H → va_D A (hw (owl Z o a b S T) h) → va_S A s.heap H locs → ∀ ls : Array Slot, lv_has ls 22 [(0, .ref bs), (1, .ref o), (2, .ref x2), (3, .int x3), (5, .int x5), (6, .int x6), (7, .ref x7), (8, .ref x8), (9, .int x9), (19, .int x19)] → κ543 x2 x3 x5 x6 x7 x8 x9 x19 S T h → W p l e room_1 s m #[Value.ref bs] below meth c H locs cc sc Q (F0 m 543 ls [])) → ∀ (x2 : Nat) (x3 : Int32) (x5 : Int32) (x6 : Int32) (x7 : Nat) (x8 : Nat) (x9 : Int32) (x19 : Int32) (S : RS) (T : RS) (h : PH) (cc sc : Nat) (H : Heap) (locs : List Loc), cc + (0 + rc) ≤ 1200000 → sc + (0 + rs) ≤ 5500000 → va_P D vwCl (hw (owl Z o a b S T) h) H → va_D A (hw (owl Z o a b S T) h) → va_S A s.heap H locs → ∀ ls : Array Slot, lv_has ls 22 [(0, .ref bs), (1, .ref o), (2, .ref x2), (3, .int x3), (5, .int x5), (6, .int x6), (7, .ref x7), (8, .ref x8), (9, .int x9), (19, .int x19)] → w_L_law_L579 Z L xs κ543 K x2 x3 x5 x6 x7 x8 x9 x19 S T h → W p l e room_1 s m #[Value.ref bs] below meth c H locs cc sc Q (F0 m 579 ls []) := by
    intro rc rs κ543 hκ543 x2 x3 x5 x6 x7 x8 x9 x19 S T h cc sc H locs hcc hsc hP hD hS ls hl hf
    unfold w_L_law_L579 at hf
    refine lv_aload hx hb dL_law_579 (lv_at hl 6 rfl) ?_
    refine lv_iload hx hb dL_law_581 (lv_at hl 9 rfl) ?_
    refine z_aI hf hx hb hK hP dL_law_583 (fun v62 hf => ?_)
    refine lv_iload hx hb dL_law_584 (lv_at hl 8 rfl) ?_
    refine lv_icmp_ne (tgt := 593) hx hb dL_law_586 (by decide) (fun c63 => ?_) (fun c63 => ?_)
    · have hf := ifP hf c63
      refine lv_iconst (v := 0) hx hb dL_law_593 (by decide) ?_
      exact L594 rc rs κ543 hκ543 0 x2 x3 x5 x6 x7 x8 x9 x19 S T h cc sc _ _ (by omega) (by omega) hP hD hS ls (lv_sub hl [0, 1, 2, 3, 4, 5, 6, 7, 8, 9] rfl) hf
    · have hf := itP hf c63
      refine lv_iconst (v := 1) hx hb dL_law_589 (by decide) ?_
      refine lv_goto (tgt := 594) hx hb dL_law_590 (by decide) ?_
      exact L594 rc rs κ543 hκ543 1 x2 x3 x5 x6 x7 x8 x9 x19 S T h cc sc _ _ (by omega) (by omega) hP hD hS ls (lv_sub hl [0, 1, 2, 3, 4, 5, 6, 7, 8, 9] rfl) hf
  have L543 : ∀ (rc rs : Nat), ∀ (κ204 : Nat → Int32 → Int32 → Int32 → Nat → Nat → Int32 → RS → RS → PH → Prop), (∀ (x2 : Nat) (x3 : Int32) (x5 : Int32) (x6 : Int32) (x7 : Nat) (x8 : Nat) (x9 : Int32) (S : RS) (T : RS) (h : PH) (cc sc : Nat) (H : Heap) (locs : List Loc), cc + (rc) ≤ 1200000 → sc + (rs) ≤ 5500000 → va_P D vwCl (hw (owl Z o a b S T) h) H → va_D A (hw (owl Z o a b S T) h) → va_S A s.heap H locs → ∀ ls : Array Slot, lv_has ls 22 [(0, .ref bs), (1, .ref o), (2, .ref x2), (3, .int x3), (5, .int x5), (6, .int x6), (7, .ref x7), (8, .ref x8), (9, .int x9)] → κ204 x2 x3 x5 x6 x7 x8 x9 S T h → W p l e room_1 s m #[Value.ref bs] below meth c H locs cc sc Q (F0 m 204 ls [])) → ∀ (n : Nat) (x2 : Nat) (x3 : Int32) (x5 : Int32) (x6 : Int32) (x7 : Nat) (x8 : Nat) (x9 : Int32) (x19 : Int32) (S : RS) (T : RS) (h : PH) (cc sc : Nat) (H : Heap) (locs : List Loc), cc + (0 + rc) ≤ 1200000 → sc + (0 + rs) ≤ 5500000 → va_P D vwCl (hw (owl Z o a b S T) h) H → va_D A (hw (owl Z o a b S T) h) → va_S A s.heap H locs → ∀ ls : Array Slot, lv_has ls 22 [(0, .ref bs), (1, .ref o), (2, .ref x2), (3, .int x3), (5, .int x5), (6, .int x6), (7, .ref x7), (8, .ref x8), (9, .int x9), (19, .int x19)] → w_L_law_L543 Z L xs κ204 K n x2 x3 x5 x6 x7 x8 x9 x19 S T h → W p l e room_1 s m #[Value.ref bs] below meth c H locs cc sc Q (F0 m 543 ls []) := by
    intro rc rs κ204 hκ204 n
    induction n with
    | zero =>
      intro x2 x3 x5 x6 x7 x8 x9 x19 S T h cc sc  H locs hcc hsc hP hD hS ls hl hf
      exact hf.elim
    | succ n ih =>
      intro x2 x3 x5 x6 x7 x8 x9 x19 S T h cc sc  H locs hcc hsc hP hD hS ls hl hf
      rw [w_L_law_L543] at hf
      refine lv_iload hx hb dL_law_543 (lv_at hl 9 rfl) ?_
      refine lv_iload hx hb dL_law_545 (lv_at hl 4 rfl) ?_
      refine lv_icmp_ge (tgt := 696) hx hb dL_law_547 (by decide) (fun c57 => ?_) (fun c57 => ?_)
      · have hf := itP hf c57
        refine lv_iinc (v := (x9 + 1)) (lv' := [(9, .int (x9 + 1)), (0, .ref bs), (1, .ref o), (2, .ref x2), (3, .int x3), (5, .int x5), (6, .int x6), (7, .ref x7), (8, .ref x8), (19, .int x19)]) hx hb dL_law_696 hl (k := 8) rfl rfl (by decide) rfl (fun ls hl => ?_)
        refine lv_goto (tgt := 204) hx hb dL_law_699 (by decide) ?_
        exact hκ204 x2 x3 x5 x6 x7 x8 (x9 + 1) S T h cc sc _ _ (by omega) (by omega) hP hD hS ls (lv_sub hl [1, 2, 3, 4, 5, 6, 7, 8, 0] rfl) hf
      · have hf := ifP hf c57
        refine lv_aload hx hb dL_law_550 (lv_at hl 7 rfl) ?_
        refine lv_iload hx hb dL_law_552 (lv_at hl 9 rfl) ?_
        refine z_aI hf hx hb hK hP dL_law_554 (fun v58 hf => ?_)
        refine lv_if_lt (tgt := 690) hx hb dL_law_555 (by decide) (fun c59 => ?_) (fun c59 => ?_)
        · have hf := itP hf c59
          refine lv_iinc (v := (x19 + 1)) (lv' := [(19, .int (x19 + 1)), (0, .ref bs), (1, .ref o), (2, .ref x2), (3, .int x3), (5, .int x5), (6, .int x6), (7, .ref x7), (8, .ref x8), (9, .int x9)]) hx hb dL_law_690 hl (k := 9) rfl rfl (by decide) rfl (fun ls hl => ?_)
          refine lv_goto (tgt := 543) hx hb dL_law_693 (by decide) ?_
          exact ih x2 x3 x5 x6 x7 x8 x9 (x19 + 1) S T h cc sc _ _ (by omega) (by omega) hP hD hS ls (lv_sub hl [1, 2, 3, 4, 5, 6, 7, 8, 9, 0] rfl) hf
        · have hf := ifP hf c59
          refine lv_aload hx hb dL_law_558 (lv_at hl 6 rfl) ?_
          refine lv_iload hx hb dL_law_560 (lv_at hl 9 rfl) ?_
          refine z_aI hf hx hb hK hP dL_law_562 (fun v60 hf => ?_)
          refine lv_iload hx hb dL_law_563 (lv_at hl 8 rfl) ?_
          refine lv_icmp_ge (tgt := 579) hx hb dL_law_565 (by decide) (fun c61 => ?_) (fun c61 => ?_)
          · have hf := itP hf c61
            exact L579 (0 + rc) (0 + rs) _ ih x2 x3 x5 x6 x7 x8 x9 x19 S T h cc sc _ _ (by omega) (by omega) hP hD hS ls (lv_sub hl [0, 1, 2, 3, 4, 5, 6, 7, 8, 9] rfl) hf
          · have hf := ifP hf c61
            refine lv_aload hx hb dL_law_568 (lv_at hl 6 rfl) ?_
            refine lv_iload hx hb dL_law_570 (lv_at hl 9 rfl) ?_
            refine z_aI hf hx hb hK hP dL_law_572 (fun v86 hf => ?_)
            refine lv_if_le (tgt := 579) hx hb dL_law_573 (by decide) (fun c87 => ?_) (fun c87 => ?_)
            · have hf := itP hf c87
              exact L579 (0 + rc) (0 + rs) _ ih x2 x3 x5 x6 x7 x8 x9 x19 S T h cc sc _ _ (by omega) (by omega) hP hD hS ls (lv_sub hl [0, 1, 2, 3, 4, 5, 6, 7, 8, 9] rfl) hf
            · have hf := ifP hf c87
              refine lv_goto (tgt := 690) hx hb dL_law_576 (by decide) ?_
              refine lv_iinc (v := (x19 + 1)) (lv' := [(19, .int (x19 + 1)), (0, .ref bs), (1, .ref o), (2, .ref x2), (3, .int x3), (5, .int x5), (6, .int x6), (7, .ref x7), (8, .ref x8), (9, .int x9)]) hx hb dL_law_690 hl (k := 9) rfl rfl (by decide) rfl (fun ls hl => ?_)
              refine lv_goto (tgt := 543) hx hb dL_law_693 (by decide) ?_
              exact ih x2 x3 x5 x6 x7 x8 x9 (x19 + 1) S T h cc sc _ _ (by omega) (by omega) hP hD hS ls (lv_sub hl [1, 2, 3, 4, 5, 6, 7, 8, 9, 0] rfl) hf
  have L422 : ∀ (rc rs : Nat), ∀ (κ362 : Nat → Int32 → Int32 → Int32 → Nat → Nat → Int32 → Int32 → Int32 → Int32 → Int32 → Int32 → Int32 → Int32 → Int32 → Int32 → RS → RS → PH → Prop), (∀ (x2 : Nat) (x3 : Int32) (x5 : Int32) (x6 : Int32) (x7 : Nat) (x8 : Nat) (x9 : Int32) (x11 : Int32) (x12 : Int32) (x13 : Int32) (x14 : Int32) (x15 : Int32) (x16 : Int32) (x17 : Int32) (x18 : Int32) (x19 : Int32) (S : RS) (T : RS) (h : PH) (cc sc : Nat) (H : Heap) (locs : List Loc), cc + (rc) ≤ 1200000 → sc + (rs) ≤ 5500000 → va_P D vwCl (hw (owl Z o a b S T) h) H → va_D A (hw (owl Z o a b S T) h) → va_S A s.heap H locs → ∀ ls : Array Slot, lv_has ls 22 [(0, .ref bs), (1, .ref o), (2, .ref x2), (3, .int x3), (5, .int x5), (6, .int x6), (7, .ref x7), (8, .ref x8), (9, .int x9), (11, .int x11), (12, .int x12), (13, .int x13), (14, .int x14), (15, .int x15), (16, .int x16), (17, .int x17), (18, .int x18), (19, .int x19)] → κ362 x2 x3 x5 x6 x7 x8 x9 x11 x12 x13 x14 x15 x16 x17 x18 x19 S T h → W p l e room_1 s m #[Value.ref bs] below meth c H locs cc sc Q (F0 m 362 ls [])) → ∀ (x2 : Nat) (x3 : Int32) (x5 : Int32) (x6 : Int32) (x7 : Nat) (x8 : Nat) (x9 : Int32) (x11 : Int32) (x12 : Int32) (x13 : Int32) (x14 : Int32) (x15 : Int32) (x16 : Int32) (x17 : Int32) (x18 : Int32) (x19 : Int32) (x20 : Int32) (S : RS) (T : RS) (h : PH) (cc sc : Nat) (H : Heap) (locs : List Loc), cc + (0 + rc) ≤ 1200000 → sc + (0 + rs) ≤ 5500000 → va_P D vwCl (hw (owl Z o a b S T) h) H → va_D A (hw (owl Z o a b S T) h) → va_S A s.heap H locs → ∀ ls : Array Slot, lv_has ls 22 [(0, .ref bs), (1, .ref o), (2, .ref x2), (3, .int x3), (5, .int x5), (6, .int x6), (7, .ref x7), (8, .ref x8), (9, .int x9), (11, .int x11), (12, .int x12), (13, .int x13), (14, .int x14), (15, .int x15), (16, .int x16), (17, .int x17), (18, .int x18), (19, .int x19), (20, .int x20)] → w_L_law_L422 Z L xs κ362 K x2 x3 x5 x6 x7 x8 x9 x11 x12 x13 x14 x15 x16 x17 x18 x19 x20 S T h → W p l e room_1 s m #[Value.ref bs] below meth c H locs cc sc Q (F0 m 422 ls []) := by
    intro rc rs κ362 hκ362 x2 x3 x5 x6 x7 x8 x9 x11 x12 x13 x14 x15 x16 x17 x18 x19 x20 S T h cc sc H locs hcc hsc hP hD hS ls hl hf
    unfold w_L_law_L422 at hf
    refine lv_iload hx hb dL_law_422 (lv_at hl 18 rfl) ?_
    refine lv_aload_n hx hb dL_law_424 rfl (lv_at hl 1 rfl) ?_
    refine lv_iload hx hb dL_law_425 (lv_at hl 17 rfl) ?_
    refine lv_iconst (v := 4) hx hb dL_law_427 (by decide) ?_
    obtain ⟨v98, hv97, hf⟩ := hf
    refine zc_i (z_VG (As := [.int x19, .int 4]) (rest := [.int x20]) (q0 := 0) (ci := 1) xE_ok hE.1.1 hS hA ⟨hx, hb, hml, hown, hts⟩ (ok_X1_station l D Z o a b S T x19 4 v98 hv97) gL_law_X1_station rfl rfl rfl hdv_X1_station ⟨Nat.le_of_ble_eq_true rfl, Nat.le_of_ble_eq_true rfl⟩ hK (hw_X hP) (hw_XD hD) rfl rfl rfl rfl hl.1 rfl (Nat.le_of_ble_eq_true rfl) dL_law_428 ⟨(show cc + 0 ≤ 1200172 from by omega), (show sc + 0 ≤ 5500668 from by omega)⟩) hP hS hA (fun H locs hP hS => ?_)
    refine lv_icmp_le (tgt := 446) hx hb dL_law_431 (by decide) (fun c99 => ?_) (fun c99 => ?_)
    · have hf := itP hf c99
      refine lv_iinc (v := (x19 + 1)) (lv' := [(19, .int (x19 + 1)), (0, .ref bs), (1, .ref o), (2, .ref x2), (3, .int x3), (5, .int x5), (6, .int x6), (7, .ref x7), (8, .ref x8), (9, .int x9), (11, .int x11), (12, .int x12), (13, .int x13), (14, .int x14), (15, .int x15), (16, .int x16), (17, .int x17), (18, .int x18), (20, .int x20)]) hx hb dL_law_446 hl (k := 17) rfl rfl (by decide) rfl (fun ls hl => ?_)
      refine lv_goto (tgt := 362) hx hb dL_law_449 (by decide) ?_
      exact hκ362 x2 x3 x5 x6 x7 x8 x9 x11 x12 x13 x14 x15 x16 x17 x18 (x19 + 1) S T h cc sc _ _ (by omega) (by omega) hP hD hS ls (lv_sub hl [1, 2, 3, 4, 5, 6, 7, 8, 9, 10, 11, 12, 13, 14, 15, 16, 17, 0] rfl) hf
    · have hf := ifP hf c99
      refine lv_aload_n hx hb dL_law_434 rfl (lv_at hl 1 rfl) ?_
      refine lv_iload hx hb dL_law_435 (lv_at hl 17 rfl) ?_
      obtain ⟨v101, hv100, hf⟩ := hf
      refine zc_i (z_VG (As := [.int x19]) (rest := []) (q0 := 0) (ci := 1) xE_ok hE.1.1 hS hA ⟨hx, hb, hml, hown, hts⟩ (ok_X1_answers l D Z o a b S T x19 v101 hv100) gL_law_X1_answers rfl rfl rfl hdv_X1_answers ⟨Nat.le_of_ble_eq_true rfl, Nat.le_of_ble_eq_true rfl⟩ hK (hw_X hP) (hw_XD hD) rfl rfl rfl rfl hl.1 rfl (Nat.le_of_ble_eq_true rfl) dL_law_437 ⟨(show cc + 0 ≤ 1200172 from by omega), (show sc + 0 ≤ 5500668 from by omega)⟩) hP hS hA (fun H locs hP hS => ?_)
      refine lv_if_lt (tgt := 446) hx hb dL_law_440 (by decide) (fun c102 => ?_) (fun c102 => ?_)
      · have hf := itP hf c102
        refine lv_iinc (v := (x19 + 1)) (lv' := [(19, .int (x19 + 1)), (0, .ref bs), (1, .ref o), (2, .ref x2), (3, .int x3), (5, .int x5), (6, .int x6), (7, .ref x7), (8, .ref x8), (9, .int x9), (11, .int x11), (12, .int x12), (13, .int x13), (14, .int x14), (15, .int x15), (16, .int x16), (17, .int x17), (18, .int x18), (20, .int x20)]) hx hb dL_law_446 hl (k := 17) rfl rfl (by decide) rfl (fun ls hl => ?_)
        refine lv_goto (tgt := 362) hx hb dL_law_449 (by decide) ?_
        exact hκ362 x2 x3 x5 x6 x7 x8 x9 x11 x12 x13 x14 x15 x16 x17 x18 (x19 + 1) S T h cc sc _ _ (by omega) (by omega) hP hD hS ls (lv_sub hl [1, 2, 3, 4, 5, 6, 7, 8, 9, 10, 11, 12, 13, 14, 15, 16, 17, 0] rfl) hf
      · have hf := ifP hf c102
        refine lv_iinc (v := (x18 + 1)) (lv' := [(18, .int (x18 + 1)), (0, .ref bs), (1, .ref o), (2, .ref x2), (3, .int x3), (5, .int x5), (6, .int x6), (7, .ref x7), (8, .ref x8), (9, .int x9), (11, .int x11), (12, .int x12), (13, .int x13), (14, .int x14), (15, .int x15), (16, .int x16), (17, .int x17), (19, .int x19), (20, .int x20)]) hx hb dL_law_443 hl (k := 16) rfl rfl (by decide) rfl (fun ls hl => ?_)
        refine lv_iinc (v := (x19 + 1)) (lv' := [(19, .int (x19 + 1)), (18, .int (x18 + 1)), (0, .ref bs), (1, .ref o), (2, .ref x2), (3, .int x3), (5, .int x5), (6, .int x6), (7, .ref x7), (8, .ref x8), (9, .int x9), (11, .int x11), (12, .int x12), (13, .int x13), (14, .int x14), (15, .int x15), (16, .int x16), (17, .int x17), (20, .int x20)]) hx hb dL_law_446 hl (k := 17) rfl rfl (by decide) rfl (fun ls hl => ?_)
        refine lv_goto (tgt := 362) hx hb dL_law_449 (by decide) ?_
        exact hκ362 x2 x3 x5 x6 x7 x8 x9 x11 x12 x13 x14 x15 x16 x17 (x18 + 1) (x19 + 1) S T h cc sc _ _ (by omega) (by omega) hP hD hS ls (lv_sub hl [2, 3, 4, 5, 6, 7, 8, 9, 10, 11, 12, 13, 14, 15, 16, 17, 1, 0] rfl) hf
  have L405 : ∀ (rc rs : Nat), ∀ (κ362 : Nat → Int32 → Int32 → Int32 → Nat → Nat → Int32 → Int32 → Int32 → Int32 → Int32 → Int32 → Int32 → Int32 → Int32 → Int32 → RS → RS → PH → Prop), (∀ (x2 : Nat) (x3 : Int32) (x5 : Int32) (x6 : Int32) (x7 : Nat) (x8 : Nat) (x9 : Int32) (x11 : Int32) (x12 : Int32) (x13 : Int32) (x14 : Int32) (x15 : Int32) (x16 : Int32) (x17 : Int32) (x18 : Int32) (x19 : Int32) (S : RS) (T : RS) (h : PH) (cc sc : Nat) (H : Heap) (locs : List Loc), cc + (rc) ≤ 1200000 → sc + (rs) ≤ 5500000 → va_P D vwCl (hw (owl Z o a b S T) h) H → va_D A (hw (owl Z o a b S T) h) → va_S A s.heap H locs → ∀ ls : Array Slot, lv_has ls 22 [(0, .ref bs), (1, .ref o), (2, .ref x2), (3, .int x3), (5, .int x5), (6, .int x6), (7, .ref x7), (8, .ref x8), (9, .int x9), (11, .int x11), (12, .int x12), (13, .int x13), (14, .int x14), (15, .int x15), (16, .int x16), (17, .int x17), (18, .int x18), (19, .int x19)] → κ362 x2 x3 x5 x6 x7 x8 x9 x11 x12 x13 x14 x15 x16 x17 x18 x19 S T h → W p l e room_1 s m #[Value.ref bs] below meth c H locs cc sc Q (F0 m 362 ls [])) → ∀ (x2 : Nat) (x3 : Int32) (x5 : Int32) (x6 : Int32) (x7 : Nat) (x8 : Nat) (x9 : Int32) (x11 : Int32) (x12 : Int32) (x13 : Int32) (x14 : Int32) (x15 : Int32) (x16 : Int32) (x17 : Int32) (x18 : Int32) (x19 : Int32) (x20 : Int32) (S : RS) (T : RS) (h : PH) (cc sc : Nat) (H : Heap) (locs : List Loc), cc + (0 + rc) ≤ 1200000 → sc + (0 + rs) ≤ 5500000 → va_P D vwCl (hw (owl Z o a b S T) h) H → va_D A (hw (owl Z o a b S T) h) → va_S A s.heap H locs → ∀ ls : Array Slot, lv_has ls 22 [(0, .ref bs), (1, .ref o), (2, .ref x2), (3, .int x3), (5, .int x5), (6, .int x6), (7, .ref x7), (8, .ref x8), (9, .int x9), (11, .int x11), (12, .int x12), (13, .int x13), (14, .int x14), (15, .int x15), (16, .int x16), (17, .int x17), (18, .int x18), (19, .int x19), (20, .int x20)] → w_L_law_L405 Z L xs κ362 K x2 x3 x5 x6 x7 x8 x9 x11 x12 x13 x14 x15 x16 x17 x18 x19 x20 S T h → W p l e room_1 s m #[Value.ref bs] below meth c H locs cc sc Q (F0 m 405 ls []) := by
    intro rc rs κ362 hκ362 x2 x3 x5 x6 x7 x8 x9 x11 x12 x13 x14 x15 x16 x17 x18 x19 x20 S T h cc sc H locs hcc hsc hP hD hS ls hl hf
    unfold w_L_law_L405 at hf
    refine lv_iload hx hb dL_law_405 (lv_at hl 18 rfl) ?_
    refine lv_if_ne (tgt := 422) hx hb dL_law_407 (by decide) (fun c96 => ?_) (fun c96 => ?_)
    · have hf := ifP hf c96
      exact L422 rc rs κ362 hκ362 x2 x3 x5 x6 x7 x8 x9 x11 x12 x13 x14 x15 x16 x17 x18 x19 x20 S T h cc sc _ _ (by omega) (by omega) hP hD hS ls (lv_sub hl [0, 1, 2, 3, 4, 5, 6, 7, 8, 9, 10, 11, 12, 13, 14, 15, 16, 17, 18] rfl) hf
    · have hf := itP hf c96
      refine lv_aload_n hx hb dL_law_410 rfl (lv_at hl 1 rfl) ?_
      refine lv_iload hx hb dL_law_411 (lv_at hl 17 rfl) ?_
      refine lv_iconst (v := 5) hx hb dL_law_413 (by decide) ?_
      obtain ⟨v104, hv103, hf⟩ := hf
      refine zc_i (z_VG (As := [.int x19, .int 5]) (rest := []) (q0 := 0) (ci := 1) xE_ok hE.1.1 hS hA ⟨hx, hb, hml, hown, hts⟩ (ok_X1_station l D Z o a b S T x19 5 v104 hv103) gL_law_X1_station rfl rfl rfl hdv_X1_station ⟨Nat.le_of_ble_eq_true rfl, Nat.le_of_ble_eq_true rfl⟩ hK (hw_X hP) (hw_XD hD) rfl rfl rfl rfl hl.1 rfl (Nat.le_of_ble_eq_true rfl) dL_law_414 ⟨(show cc + 0 ≤ 1200172 from by omega), (show sc + 0 ≤ 5500668 from by omega)⟩) hP hS hA (fun H locs hP hS => ?_)
      refine lv_if_eq (tgt := 422) hx hb dL_law_417 (by decide) (fun c105 => ?_) (fun c105 => ?_)
      · have hf := itP hf c105
        exact L422 rc rs κ362 hκ362 x2 x3 x5 x6 x7 x8 x9 x11 x12 x13 x14 x15 x16 x17 x18 x19 x20 S T h cc sc _ _ (by omega) (by omega) hP hD hS ls (lv_sub hl [0, 1, 2, 3, 4, 5, 6, 7, 8, 9, 10, 11, 12, 13, 14, 15, 16, 17, 18] rfl) hf
      · have hf := ifP hf c105
        refine lv_iconst (v := 0) hx hb dL_law_420 (by decide) ?_
        exact hf.elim
  have L362 : ∀ (rc rs : Nat), ∀ (κ204 : Nat → Int32 → Int32 → Int32 → Nat → Nat → Int32 → RS → RS → PH → Prop), (∀ (x2 : Nat) (x3 : Int32) (x5 : Int32) (x6 : Int32) (x7 : Nat) (x8 : Nat) (x9 : Int32) (S : RS) (T : RS) (h : PH) (cc sc : Nat) (H : Heap) (locs : List Loc), cc + (rc) ≤ 1200000 → sc + (rs) ≤ 5500000 → va_P D vwCl (hw (owl Z o a b S T) h) H → va_D A (hw (owl Z o a b S T) h) → va_S A s.heap H locs → ∀ ls : Array Slot, lv_has ls 22 [(0, .ref bs), (1, .ref o), (2, .ref x2), (3, .int x3), (5, .int x5), (6, .int x6), (7, .ref x7), (8, .ref x8), (9, .int x9)] → κ204 x2 x3 x5 x6 x7 x8 x9 S T h → W p l e room_1 s m #[Value.ref bs] below meth c H locs cc sc Q (F0 m 204 ls [])) → ∀ (n : Nat) (x2 : Nat) (x3 : Int32) (x5 : Int32) (x6 : Int32) (x7 : Nat) (x8 : Nat) (x9 : Int32) (x11 : Int32) (x12 : Int32) (x13 : Int32) (x14 : Int32) (x15 : Int32) (x16 : Int32) (x17 : Int32) (x18 : Int32) (x19 : Int32) (S : RS) (T : RS) (h : PH) (cc sc : Nat) (H : Heap) (locs : List Loc), cc + (0 + rc) ≤ 1200000 → sc + (0 + rs) ≤ 5500000 → va_P D vwCl (hw (owl Z o a b S T) h) H → va_D A (hw (owl Z o a b S T) h) → va_S A s.heap H locs → ∀ ls : Array Slot, lv_has ls 22 [(0, .ref bs), (1, .ref o), (2, .ref x2), (3, .int x3), (5, .int x5), (6, .int x6), (7, .ref x7), (8, .ref x8), (9, .int x9), (11, .int x11), (12, .int x12), (13, .int x13), (14, .int x14), (15, .int x15), (16, .int x16), (17, .int x17), (18, .int x18), (19, .int x19)] → w_L_law_L362 Z L xs κ204 K n x2 x3 x5 x6 x7 x8 x9 x11 x12 x13 x14 x15 x16 x17 x18 x19 S T h → W p l e room_1 s m #[Value.ref bs] below meth c H locs cc sc Q (F0 m 362 ls []) := by
    intro rc rs κ204 hκ204 n
    induction n with
    | zero =>
      intro x2 x3 x5 x6 x7 x8 x9 x11 x12 x13 x14 x15 x16 x17 x18 x19 S T h cc sc  H locs hcc hsc hP hD hS ls hl hf
      exact hf.elim
    | succ n ih =>
      intro x2 x3 x5 x6 x7 x8 x9 x11 x12 x13 x14 x15 x16 x17 x18 x19 S T h cc sc  H locs hcc hsc hP hD hS ls hl hf
      rw [w_L_law_L362] at hf
      refine lv_iload hx hb dL_law_362 (lv_at hl 17 rfl) ?_
      refine lv_iload hx hb dL_law_364 (lv_at hl 5 rfl) ?_
      refine lv_icmp_ge (tgt := 452) hx hb dL_law_366 (by decide) (fun c40 => ?_) (fun c40 => ?_)
      · have hf := itP hf c40
        refine lv_iload hx hb dL_law_452 (lv_at hl 15 rfl) ?_
        refine lv_aload_n hx hb dL_law_454 rfl (lv_at hl 1 rfl) ?_
        refine lv_bipush (v := 8) hx hb dL_law_455 (by decide) ?_
        obtain ⟨v42, hv41, hf⟩ := hf
        refine zc_i (z_VG (As := [.int 8]) (rest := [.int x17]) (q0 := 0) (ci := 1) xE_ok hE.1.1 hS hA ⟨hx, hb, hml, hown, hts⟩ (ok_X1_count l D Z o a b S T 8 v42 hv41) gL_law_X1_count rfl rfl rfl hdv_X1_count ⟨Nat.le_of_ble_eq_true rfl, Nat.le_of_ble_eq_true rfl⟩ hK (hw_X hP) (hw_XD hD) rfl rfl rfl rfl hl.1 rfl (Nat.le_of_ble_eq_true rfl) dL_law_457 ⟨(show cc + 0 ≤ 1200172 from by omega), (show sc + 0 ≤ 5500668 from by omega)⟩) hP hS hA (fun H locs hP hS => ?_)
        refine lv_iadd hx hb dL_law_460 ?_
        refine lv_iload hx hb dL_law_461 (lv_at hl 10 rfl) ?_
        refine lv_isub hx hb dL_law_463 ?_
        refine lv_iload hx hb dL_law_464 (lv_at hl 9 rfl) ?_
        refine lv_aload_n hx hb dL_law_466 rfl (lv_at hl 1 rfl) ?_
        refine lv_iconst (v := 3) hx hb dL_law_467 (by decide) ?_
        obtain ⟨v44, hv43, hf⟩ := hf
        refine zc_i (z_VG (As := [.int 3]) (rest := [.int x11, .int ((x17 + v42) - x12)]) (q0 := 0) (ci := 1) xE_ok hE.1.1 hS hA ⟨hx, hb, hml, hown, hts⟩ (ok_X1_count l D Z o a b S T 3 v44 hv43) gL_law_X1_count rfl rfl rfl hdv_X1_count ⟨Nat.le_of_ble_eq_true rfl, Nat.le_of_ble_eq_true rfl⟩ hK (hw_X hP) (hw_XD hD) rfl rfl rfl rfl hl.1 rfl (Nat.le_of_ble_eq_true rfl) dL_law_468 ⟨(show cc + 0 ≤ 1200172 from by omega), (show sc + 0 ≤ 5500668 from by omega)⟩) hP hS hA (fun H locs hP hS => ?_)
        refine lv_iadd hx hb dL_law_471 ?_
        refine lv_icmp_ne (tgt := 520) hx hb dL_law_472 (by decide) (fun c45 => ?_) (fun c45 => ?_)
        · have hf := ifP hf c45
          refine lv_iconst (v := 0) hx hb dL_law_520 (by decide) ?_
          exact hf.elim
        · have hf := itP hf c45
          refine lv_aload_n hx hb dL_law_475 rfl (lv_at hl 1 rfl) ?_
          refine lv_iconst (v := 5) hx hb dL_law_476 (by decide) ?_
          obtain ⟨v47, hv46, hf⟩ := hf
          refine zc_i (z_VG (As := [.int 5]) (rest := []) (q0 := 0) (ci := 1) xE_ok hE.1.1 hS hA ⟨hx, hb, hml, hown, hts⟩ (ok_X1_count l D Z o a b S T 5 v47 hv46) gL_law_X1_count rfl rfl rfl hdv_X1_count ⟨Nat.le_of_ble_eq_true rfl, Nat.le_of_ble_eq_true rfl⟩ hK (hw_X hP) (hw_XD hD) rfl rfl rfl rfl hl.1 rfl (Nat.le_of_ble_eq_true rfl) dL_law_477 ⟨(show cc + 0 ≤ 1200172 from by omega), (show sc + 0 ≤ 5500668 from by omega)⟩) hP hS hA (fun H locs hP hS => ?_)
          refine lv_iload hx hb dL_law_480 (lv_at hl 12 rfl) ?_
          refine lv_iload hx hb dL_law_482 (lv_at hl 14 rfl) ?_
          refine lv_iadd hx hb dL_law_484 ?_
          refine lv_icmp_ne (tgt := 520) hx hb dL_law_485 (by decide) (fun c48 => ?_) (fun c48 => ?_)
          · have hf := ifP hf c48
            refine lv_iconst (v := 0) hx hb dL_law_520 (by decide) ?_
            exact hf.elim
          · have hf := itP hf c48
            refine lv_iload hx hb dL_law_488 (lv_at hl 14 rfl) ?_
            refine lv_iload hx hb dL_law_490 (lv_at hl 13 rfl) ?_
            refine lv_icmp_gt (tgt := 520) hx hb dL_law_492 (by decide) (fun c49 => ?_) (fun c49 => ?_)
            · have hf := itP hf c49
              refine lv_iconst (v := 0) hx hb dL_law_520 (by decide) ?_
              exact hf.elim
            · have hf := ifP hf c49
              refine lv_aload_n hx hb dL_law_495 rfl (lv_at hl 1 rfl) ?_
              refine lv_bipush (v := 7) hx hb dL_law_496 (by decide) ?_
              obtain ⟨v51, hv50, hf⟩ := hf
              refine zc_i (z_VG (As := [.int 7]) (rest := []) (q0 := 0) (ci := 1) xE_ok hE.1.1 hS hA ⟨hx, hb, hml, hown, hts⟩ (ok_X1_count l D Z o a b S T 7 v51 hv50) gL_law_X1_count rfl rfl rfl hdv_X1_count ⟨Nat.le_of_ble_eq_true rfl, Nat.le_of_ble_eq_true rfl⟩ hK (hw_X hP) (hw_XD hD) rfl rfl rfl rfl hl.1 rfl (Nat.le_of_ble_eq_true rfl) dL_law_498 ⟨(show cc + 0 ≤ 1200172 from by omega), (show sc + 0 ≤ 5500668 from by omega)⟩) hP hS hA (fun H locs hP hS => ?_)
              refine lv_iload hx hb dL_law_501 (lv_at hl 11 rfl) ?_
              refine lv_icmp_lt (tgt := 520) hx hb dL_law_503 (by decide) (fun c52 => ?_) (fun c52 => ?_)
              · have hf := itP hf c52
                refine lv_iconst (v := 0) hx hb dL_law_520 (by decide) ?_
                exact hf.elim
              · have hf := ifP hf c52
                refine lv_aload_n hx hb dL_law_506 rfl (lv_at hl 1 rfl) ?_
                refine lv_bipush (v := 7) hx hb dL_law_507 (by decide) ?_
                obtain ⟨v54, hv53, hf⟩ := hf
                refine zc_i (z_VG (As := [.int 7]) (rest := []) (q0 := 0) (ci := 1) xE_ok hE.1.1 hS hA ⟨hx, hb, hml, hown, hts⟩ (ok_X1_count l D Z o a b S T 7 v54 hv53) gL_law_X1_count rfl rfl rfl hdv_X1_count ⟨Nat.le_of_ble_eq_true rfl, Nat.le_of_ble_eq_true rfl⟩ hK (hw_X hP) (hw_XD hD) rfl rfl rfl rfl hl.1 rfl (Nat.le_of_ble_eq_true rfl) dL_law_509 ⟨(show cc + 0 ≤ 1200172 from by omega), (show sc + 0 ≤ 5500668 from by omega)⟩) hP hS hA (fun H locs hP hS => ?_)
                refine lv_iload hx hb dL_law_512 (lv_at hl 11 rfl) ?_
                refine lv_iload hx hb dL_law_514 (lv_at hl 5 rfl) ?_
                refine lv_iadd hx hb dL_law_516 ?_
                refine lv_icmp_le (tgt := 522) hx hb dL_law_517 (by decide) (fun c55 => ?_) (fun c55 => ?_)
                · have hf := itP hf c55
                  refine lv_iload hx hb dL_law_522 (lv_at hl 16 rfl) ?_
                  refine lv_if_le (tgt := 540) hx hb dL_law_524 (by decide) (fun c56 => ?_) (fun c56 => ?_)
                  · have hf := itP hf c56
                    refine lv_iconst (v := 0) hx hb dL_law_540 (by decide) ?_
                    refine lv_istore (lv' := [(19, .int 0), (0, .ref bs), (1, .ref o), (2, .ref x2), (3, .int x3), (5, .int x5), (6, .int x6), (7, .ref x7), (8, .ref x8), (9, .int x9), (11, .int x11), (12, .int x12), (13, .int x13), (14, .int x14), (15, .int x15), (16, .int x16), (17, .int x17), (18, .int x18)]) hx hb dL_law_541 hl (by decide) rfl (fun ls hl => ?_)
                    exact L543 rc rs κ204 hκ204 FU x2 x3 x5 x6 x7 x8 x9 0 S T h cc sc _ _ (by omega) (by omega) hP hD hS ls (lv_sub hl [1, 2, 3, 4, 5, 6, 7, 8, 9, 0] rfl) hf
                  · have hf := ifP hf c56
                    refine lv_aload_n hx hb dL_law_527 rfl (lv_at hl 1 rfl) ?_
                    refine lv_bipush (v := 7) hx hb dL_law_528 (by decide) ?_
                    obtain ⟨v89, hv88, hf⟩ := hf
                    refine zc_i (z_VG (As := [.int 7]) (rest := []) (q0 := 0) (ci := 1) xE_ok hE.1.1 hS hA ⟨hx, hb, hml, hown, hts⟩ (ok_X1_count l D Z o a b S T 7 v89 hv88) gL_law_X1_count rfl rfl rfl hdv_X1_count ⟨Nat.le_of_ble_eq_true rfl, Nat.le_of_ble_eq_true rfl⟩ hK (hw_X hP) (hw_XD hD) rfl rfl rfl rfl hl.1 rfl (Nat.le_of_ble_eq_true rfl) dL_law_530 ⟨(show cc + 0 ≤ 1200172 from by omega), (show sc + 0 ≤ 5500668 from by omega)⟩) hP hS hA (fun H locs hP hS => ?_)
                    refine lv_iload hx hb dL_law_533 (lv_at hl 11 rfl) ?_
                    refine lv_icmp_ne (tgt := 540) hx hb dL_law_535 (by decide) (fun c90 => ?_) (fun c90 => ?_)
                    · have hf := ifP hf c90
                      refine lv_iconst (v := 0) hx hb dL_law_540 (by decide) ?_
                      refine lv_istore (lv' := [(19, .int 0), (0, .ref bs), (1, .ref o), (2, .ref x2), (3, .int x3), (5, .int x5), (6, .int x6), (7, .ref x7), (8, .ref x8), (9, .int x9), (11, .int x11), (12, .int x12), (13, .int x13), (14, .int x14), (15, .int x15), (16, .int x16), (17, .int x17), (18, .int x18)]) hx hb dL_law_541 hl (by decide) rfl (fun ls hl => ?_)
                      exact L543 rc rs κ204 hκ204 FU x2 x3 x5 x6 x7 x8 x9 0 S T h cc sc _ _ (by omega) (by omega) hP hD hS ls (lv_sub hl [1, 2, 3, 4, 5, 6, 7, 8, 9, 0] rfl) hf
                    · have hf := itP hf c90
                      refine lv_iconst (v := 0) hx hb dL_law_538 (by decide) ?_
                      exact hf.elim
                · have hf := ifP hf c55
                  refine lv_iconst (v := 0) hx hb dL_law_520 (by decide) ?_
                  exact hf.elim
      · have hf := ifP hf c40
        refine lv_iload hx hb dL_law_369 (lv_at hl 15 rfl) ?_
        refine lv_aload_n hx hb dL_law_371 rfl (lv_at hl 1 rfl) ?_
        refine lv_iload hx hb dL_law_372 (lv_at hl 17 rfl) ?_
        refine lv_iconst (v := 5) hx hb dL_law_374 (by decide) ?_
        obtain ⟨v92, hv91, hf⟩ := hf
        refine zc_i (z_VG (As := [.int x19, .int 5]) (rest := [.int x17]) (q0 := 0) (ci := 1) xE_ok hE.1.1 hS hA ⟨hx, hb, hml, hown, hts⟩ (ok_X1_station l D Z o a b S T x19 5 v92 hv91) gL_law_X1_station rfl rfl rfl hdv_X1_station ⟨Nat.le_of_ble_eq_true rfl, Nat.le_of_ble_eq_true rfl⟩ hK (hw_X hP) (hw_XD hD) rfl rfl rfl rfl hl.1 rfl (Nat.le_of_ble_eq_true rfl) dL_law_375 ⟨(show cc + 0 ≤ 1200172 from by omega), (show sc + 0 ≤ 5500668 from by omega)⟩) hP hS hA (fun H locs hP hS => ?_)
        refine lv_iadd hx hb dL_law_378 ?_
        refine lv_istore (lv' := [(17, .int (x17 + v92)), (0, .ref bs), (1, .ref o), (2, .ref x2), (3, .int x3), (5, .int x5), (6, .int x6), (7, .ref x7), (8, .ref x8), (9, .int x9), (11, .int x11), (12, .int x12), (13, .int x13), (14, .int x14), (15, .int x15), (16, .int x16), (18, .int x18), (19, .int x19)]) hx hb dL_law_379 hl (by decide) rfl (fun ls hl => ?_)
        refine lv_aload_n hx hb dL_law_381 rfl (lv_at hl 2 rfl) ?_
        refine lv_iload hx hb dL_law_382 (lv_at hl 17 rfl) ?_
        refine lv_iconst (v := 3) hx hb dL_law_384 (by decide) ?_
        obtain ⟨v94, hv93, hf⟩ := hf
        refine zc_i (z_VG (As := [.int x19, .int 3]) (rest := []) (q0 := 0) (ci := 1) xE_ok hE.1.1 hS hA ⟨hx, hb, hml, hown, hts⟩ (ok_X1_station l D Z o a b S T x19 3 v94 hv93) gL_law_X1_station rfl rfl rfl hdv_X1_station ⟨Nat.le_of_ble_eq_true rfl, Nat.le_of_ble_eq_true rfl⟩ hK (hw_X hP) (hw_XD hD) rfl rfl rfl rfl hl.1 rfl (Nat.le_of_ble_eq_true rfl) dL_law_385 ⟨(show cc + 0 ≤ 1200172 from by omega), (show sc + 0 ≤ 5500668 from by omega)⟩) hP hS hA (fun H locs hP hS => ?_)
        refine lv_istore (lv' := [(20, .int v94), (17, .int (x17 + v92)), (0, .ref bs), (1, .ref o), (2, .ref x2), (3, .int x3), (5, .int x5), (6, .int x6), (7, .ref x7), (8, .ref x8), (9, .int x9), (11, .int x11), (12, .int x12), (13, .int x13), (14, .int x14), (15, .int x15), (16, .int x16), (18, .int x18), (19, .int x19)]) hx hb dL_law_388 hl (by decide) rfl (fun ls hl => ?_)
        refine lv_iload hx hb dL_law_390 (lv_at hl 0 rfl) ?_
        refine lv_if_le (tgt := 405) hx hb dL_law_392 (by decide) (fun c95 => ?_) (fun c95 => ?_)
        · have hf := itP hf c95
          exact L405 (0 + rc) (0 + rs) _ ih x2 x3 x5 x6 x7 x8 x9 x11 x12 x13 x14 x15 x16 (x17 + v92) x18 x19 v94 S T h cc sc _ _ (by omega) (by omega) hP hD hS ls (lv_sub hl [2, 3, 4, 5, 6, 7, 8, 9, 10, 11, 12, 13, 14, 15, 16, 1, 17, 18, 0] rfl) hf
        · have hf := ifP hf c95
          refine lv_aload_n hx hb dL_law_395 rfl (lv_at hl 3 rfl) ?_
          refine lv_iload hx hb dL_law_396 (lv_at hl 18 rfl) ?_
          refine lv_iconst (v := 2) hx hb dL_law_398 (by decide) ?_
          obtain ⟨v107, hv106, hf⟩ := hf
          refine zc_i (z_VG (As := [.int x19, .int 2]) (rest := []) (q0 := 0) (ci := 1) xE_ok hE.1.1 hS hA ⟨hx, hb, hml, hown, hts⟩ (ok_X1_station l D Z o a b S T x19 2 v107 hv106) gL_law_X1_station rfl rfl rfl hdv_X1_station ⟨Nat.le_of_ble_eq_true rfl, Nat.le_of_ble_eq_true rfl⟩ hK (hw_X hP) (hw_XD hD) rfl rfl rfl rfl hl.1 rfl (Nat.le_of_ble_eq_true rfl) dL_law_399 ⟨(show cc + 0 ≤ 1200172 from by omega), (show sc + 0 ≤ 5500668 from by omega)⟩) hP hS hA (fun H locs hP hS => ?_)
          refine lv_if_gt (tgt := 420) hx hb dL_law_402 (by decide) (fun c108 => ?_) (fun c108 => ?_)
          · have hf := itP hf c108
            refine lv_iconst (v := 0) hx hb dL_law_420 (by decide) ?_
            exact hf.elim
          · have hf := ifP hf c108
            exact L405 (0 + rc) (0 + rs) _ ih x2 x3 x5 x6 x7 x8 x9 x11 x12 x13 x14 x15 x16 (x17 + v92) x18 x19 v94 S T h cc sc _ _ (by omega) (by omega) hP hD hS ls (lv_sub hl [2, 3, 4, 5, 6, 7, 8, 9, 10, 11, 12, 13, 14, 15, 16, 1, 17, 18, 0] rfl) hf
  have L322 : ∀ (rc rs : Nat), ∀ (κ204 : Nat → Int32 → Int32 → Int32 → Nat → Nat → Int32 → RS → RS → PH → Prop), (∀ (x2 : Nat) (x3 : Int32) (x5 : Int32) (x6 : Int32) (x7 : Nat) (x8 : Nat) (x9 : Int32) (S : RS) (T : RS) (h : PH) (cc sc : Nat) (H : Heap) (locs : List Loc), cc + (rc) ≤ 1200000 → sc + (rs) ≤ 5500000 → va_P D vwCl (hw (owl Z o a b S T) h) H → va_D A (hw (owl Z o a b S T) h) → va_S A s.heap H locs → ∀ ls : Array Slot, lv_has ls 22 [(0, .ref bs), (1, .ref o), (2, .ref x2), (3, .int x3), (5, .int x5), (6, .int x6), (7, .ref x7), (8, .ref x8), (9, .int x9)] → κ204 x2 x3 x5 x6 x7 x8 x9 S T h → W p l e room_1 s m #[Value.ref bs] below meth c H locs cc sc Q (F0 m 204 ls [])) → ∀ (n : Nat) (x2 : Nat) (x3 : Int32) (x5 : Int32) (x6 : Int32) (x7 : Nat) (x8 : Nat) (x9 : Int32) (x10 : Nat) (x11 : Int32) (x12 : Int32) (x13 : Int32) (x14 : Int32) (x15 : Int32) (x16 : Int32) (x17 : Int32) (S : RS) (T : RS) (h : PH) (cc sc : Nat) (H : Heap) (locs : List Loc), cc + (0 + rc) ≤ 1200000 → sc + (0 + rs) ≤ 5500000 → va_P D vwCl (hw (owl Z o a b S T) h) H → va_D A (hw (owl Z o a b S T) h) → va_S A s.heap H locs → ∀ ls : Array Slot, lv_has ls 22 [(0, .ref bs), (1, .ref o), (2, .ref x2), (3, .int x3), (5, .int x5), (6, .int x6), (7, .ref x7), (8, .ref x8), (9, .int x9), (10, .ref x10), (11, .int x11), (12, .int x12), (13, .int x13), (14, .int x14), (15, .int x15), (16, .int x16), (17, .int x17)] → w_L_law_L322 Z L xs κ204 K n x2 x3 x5 x6 x7 x8 x9 x10 x11 x12 x13 x14 x15 x16 x17 S T h → W p l e room_1 s m #[Value.ref bs] below meth c H locs cc sc Q (F0 m 322 ls []) := by
    intro rc rs κ204 hκ204 n
    induction n with
    | zero =>
      intro x2 x3 x5 x6 x7 x8 x9 x10 x11 x12 x13 x14 x15 x16 x17 S T h cc sc  H locs hcc hsc hP hD hS ls hl hf
      exact hf.elim
    | succ n ih =>
      intro x2 x3 x5 x6 x7 x8 x9 x10 x11 x12 x13 x14 x15 x16 x17 S T h cc sc  H locs hcc hsc hP hD hS ls hl hf
      rw [w_L_law_L322] at hf
      refine lv_iload hx hb dL_law_322 (lv_at hl 16 rfl) ?_
      refine lv_bipush (v := 8) hx hb dL_law_324 (by decide) ?_
      refine lv_icmp_ge (tgt := 353) hx hb dL_law_326 (by decide) (fun c39 => ?_) (fun c39 => ?_)
      · have hf := itP hf c39
        refine lv_iconst (v := 0) hx hb dL_law_353 (by decide) ?_
        refine lv_istore (lv' := [(17, .int 0), (0, .ref bs), (1, .ref o), (2, .ref x2), (3, .int x3), (5, .int x5), (6, .int x6), (7, .ref x7), (8, .ref x8), (9, .int x9), (10, .ref x10), (11, .int x11), (12, .int x12), (13, .int x13), (14, .int x14), (15, .int x15), (16, .int x16)]) hx hb dL_law_354 hl (by decide) rfl (fun ls hl => ?_)
        refine lv_iconst (v := 0) hx hb dL_law_356 (by decide) ?_
        refine lv_istore (lv' := [(18, .int 0), (17, .int 0), (0, .ref bs), (1, .ref o), (2, .ref x2), (3, .int x3), (5, .int x5), (6, .int x6), (7, .ref x7), (8, .ref x8), (9, .int x9), (10, .ref x10), (11, .int x11), (12, .int x12), (13, .int x13), (14, .int x14), (15, .int x15), (16, .int x16)]) hx hb dL_law_357 hl (by decide) rfl (fun ls hl => ?_)
        refine lv_iconst (v := 0) hx hb dL_law_359 (by decide) ?_
        refine lv_istore (lv' := [(19, .int 0), (18, .int 0), (17, .int 0), (0, .ref bs), (1, .ref o), (2, .ref x2), (3, .int x3), (5, .int x5), (6, .int x6), (7, .ref x7), (8, .ref x8), (9, .int x9), (10, .ref x10), (11, .int x11), (12, .int x12), (13, .int x13), (14, .int x14), (15, .int x15), (16, .int x16)]) hx hb dL_law_360 hl (by decide) rfl (fun ls hl => ?_)
        exact L362 rc rs κ204 hκ204 FU x2 x3 x5 x6 x7 x8 x9 x11 x12 x13 x14 x15 x16 0 0 0 S T h cc sc _ _ (by omega) (by omega) hP hD hS ls (lv_sub hl [3, 4, 5, 6, 7, 8, 9, 10, 11, 13, 14, 15, 16, 17, 18, 2, 1, 0] rfl) hf
      · have hf := ifP hf c39
        refine lv_aload_n hx hb dL_law_329 rfl (lv_at hl 1 rfl) ?_
        refine lv_iload hx hb dL_law_330 (lv_at hl 16 rfl) ?_
        obtain ⟨v110, hv109, hf⟩ := hf
        refine zc_i (z_VG (As := [.int x17]) (rest := []) (q0 := 0) (ci := 1) xE_ok hE.1.1 hS hA ⟨hx, hb, hml, hown, hts⟩ (ok_X1_count l D Z o a b S T x17 v110 hv109) gL_law_X1_count rfl rfl rfl hdv_X1_count ⟨Nat.le_of_ble_eq_true rfl, Nat.le_of_ble_eq_true rfl⟩ hK (hw_X hP) (hw_XD hD) rfl rfl rfl rfl hl.1 rfl (Nat.le_of_ble_eq_true rfl) dL_law_332 ⟨(show cc + 0 ≤ 1200172 from by omega), (show sc + 0 ≤ 5500668 from by omega)⟩) hP hS hA (fun H locs hP hS => ?_)
        refine lv_aload hx hb dL_law_335 (lv_at hl 9 rfl) ?_
        refine lv_iload hx hb dL_law_337 (lv_at hl 16 rfl) ?_
        refine lv_iconst (v := 3) hx hb dL_law_339 (by decide) ?_
        refine lv_isub hx hb dL_law_340 ?_
        refine z_aI hf hx hb hK hP dL_law_341 (fun v111 hf => ?_)
        refine lv_icmp_eq (tgt := 347) hx hb dL_law_342 (by decide) (fun c112 => ?_) (fun c112 => ?_)
        · have hf := itP hf c112
          refine lv_iinc (v := (x17 + 1)) (lv' := [(17, .int (x17 + 1)), (0, .ref bs), (1, .ref o), (2, .ref x2), (3, .int x3), (5, .int x5), (6, .int x6), (7, .ref x7), (8, .ref x8), (9, .int x9), (10, .ref x10), (11, .int x11), (12, .int x12), (13, .int x13), (14, .int x14), (15, .int x15), (16, .int x16)]) hx hb dL_law_347 hl (k := 16) rfl rfl (by decide) rfl (fun ls hl => ?_)
          refine lv_goto (tgt := 322) hx hb dL_law_350 (by decide) ?_
          exact ih x2 x3 x5 x6 x7 x8 x9 x10 x11 x12 x13 x14 x15 x16 (x17 + 1) S T h cc sc _ _ (by omega) (by omega) hP hD hS ls (lv_sub hl [1, 2, 3, 4, 5, 6, 7, 8, 9, 10, 11, 12, 13, 14, 15, 16, 0] rfl) hf
        · have hf := ifP hf c112
          refine lv_iconst (v := 0) hx hb dL_law_345 (by decide) ?_
          exact hf.elim
  have L252 : ∀ (rc rs : Nat), ∀ (κ204 : Nat → Int32 → Int32 → Int32 → Nat → Nat → Int32 → RS → RS → PH → Prop), (∀ (x2 : Nat) (x3 : Int32) (x5 : Int32) (x6 : Int32) (x7 : Nat) (x8 : Nat) (x9 : Int32) (S : RS) (T : RS) (h : PH) (cc sc : Nat) (H : Heap) (locs : List Loc), cc + (rc) ≤ 1200000 → sc + (rs) ≤ 5500000 → va_P D vwCl (hw (owl Z o a b S T) h) H → va_D A (hw (owl Z o a b S T) h) → va_S A s.heap H locs → ∀ ls : Array Slot, lv_has ls 22 [(0, .ref bs), (1, .ref o), (2, .ref x2), (3, .int x3), (5, .int x5), (6, .int x6), (7, .ref x7), (8, .ref x8), (9, .int x9)] → κ204 x2 x3 x5 x6 x7 x8 x9 S T h → W p l e room_1 s m #[Value.ref bs] below meth c H locs cc sc Q (F0 m 204 ls [])) → ∀ (n : Nat) (x2 : Nat) (x3 : Int32) (x5 : Int32) (x6 : Int32) (x7 : Nat) (x8 : Nat) (x9 : Int32) (x10 : Nat) (x11 : Int32) (x12 : Int32) (S : RS) (T : RS) (h : PH) (cc sc : Nat) (H : Heap) (locs : List Loc), cc + (40 + rc) ≤ 1200000 → sc + (320 + rs) ≤ 5500000 → va_P D vwCl (hw (owl Z o a b S T) h) H → va_D A (hw (owl Z o a b S T) h) → va_S A s.heap H locs → ∀ ls : Array Slot, lv_has ls 22 [(0, .ref bs), (1, .ref o), (2, .ref x2), (3, .int x3), (5, .int x5), (6, .int x6), (7, .ref x7), (8, .ref x8), (9, .int x9), (10, .ref x10), (11, .int x11), (12, .int x12)] → w_L_law_L252 Z L xs κ204 K n x2 x3 x5 x6 x7 x8 x9 x10 x11 x12 S T h → W p l e room_1 s m #[Value.ref bs] below meth c H locs cc sc Q (F0 m 252 ls []) := by
    intro rc rs κ204 hκ204 n
    induction n with
    | zero =>
      intro x2 x3 x5 x6 x7 x8 x9 x10 x11 x12 S T h cc sc  H locs hcc hsc hP hD hS ls hl hf
      exact hf.elim
    | succ n ih =>
      intro x2 x3 x5 x6 x7 x8 x9 x10 x11 x12 S T h cc sc  H locs hcc hsc hP hD hS ls hl hf
      rw [w_L_law_L252] at hf
      refine lv_iload hx hb dL_law_252 (lv_at hl 11 rfl) ?_
      refine lv_iload hx hb dL_law_254 (lv_at hl 5 rfl) ?_
      refine lv_icmp_ge (tgt := 277) hx hb dL_law_256 (by decide) (fun c24 => ?_) (fun c24 => ?_)
      · have hf := itP hf c24
        refine lv_aload_n hx hb dL_law_277 rfl (lv_at hl 1 rfl) ?_
        refine lv_bipush (v := 8) hx hb dL_law_278 (by decide) ?_
        obtain ⟨v26, hv25, hf⟩ := hf
        refine zc_i (z_VG (As := [.int 8]) (rest := []) (q0 := 0) (ci := 1) xE_ok hE.1.1 hS hA ⟨hx, hb, hml, hown, hts⟩ (ok_X1_count l D Z o a b S T 8 v26 hv25) gL_law_X1_count rfl rfl rfl hdv_X1_count ⟨Nat.le_of_ble_eq_true rfl, Nat.le_of_ble_eq_true rfl⟩ hK (hw_X hP) (hw_XD hD) rfl rfl rfl rfl hl.1 rfl (Nat.le_of_ble_eq_true rfl) dL_law_280 ⟨(show cc + 0 ≤ 1200172 from by omega), (show sc + 0 ≤ 5500668 from by omega)⟩) hP hS hA (fun H locs hP hS => ?_)
        refine lv_istore (lv' := [(12, .int v26), (0, .ref bs), (1, .ref o), (2, .ref x2), (3, .int x3), (5, .int x5), (6, .int x6), (7, .ref x7), (8, .ref x8), (9, .int x9), (10, .ref x10), (11, .int x11)]) hx hb dL_law_283 hl (by decide) rfl (fun ls hl => ?_)
        refine lv_aload_n hx hb dL_law_285 rfl (lv_at hl 2 rfl) ?_
        refine lv_bipush (v := 7) hx hb dL_law_286 (by decide) ?_
        obtain ⟨v28, hv27, hf⟩ := hf
        refine zc_i (z_VG (As := [.int 7]) (rest := []) (q0 := 0) (ci := 1) xE_ok hE.1.1 hS hA ⟨hx, hb, hml, hown, hts⟩ (ok_X1_count l D Z o a b S T 7 v28 hv27) gL_law_X1_count rfl rfl rfl hdv_X1_count ⟨Nat.le_of_ble_eq_true rfl, Nat.le_of_ble_eq_true rfl⟩ hK (hw_X hP) (hw_XD hD) rfl rfl rfl rfl hl.1 rfl (Nat.le_of_ble_eq_true rfl) dL_law_288 ⟨(show cc + 0 ≤ 1200172 from by omega), (show sc + 0 ≤ 5500668 from by omega)⟩) hP hS hA (fun H locs hP hS => ?_)
        refine lv_istore (lv' := [(13, .int v28), (12, .int v26), (0, .ref bs), (1, .ref o), (2, .ref x2), (3, .int x3), (5, .int x5), (6, .int x6), (7, .ref x7), (8, .ref x8), (9, .int x9), (10, .ref x10), (11, .int x11)]) hx hb dL_law_291 hl (by decide) rfl (fun ls hl => ?_)
        refine lv_aload_n hx hb dL_law_293 rfl (lv_at hl 3 rfl) ?_
        refine lv_iconst (v := 5) hx hb dL_law_294 (by decide) ?_
        obtain ⟨v30, hv29, hf⟩ := hf
        refine zc_i (z_VG (As := [.int 5]) (rest := []) (q0 := 0) (ci := 1) xE_ok hE.1.1 hS hA ⟨hx, hb, hml, hown, hts⟩ (ok_X1_count l D Z o a b S T 5 v30 hv29) gL_law_X1_count rfl rfl rfl hdv_X1_count ⟨Nat.le_of_ble_eq_true rfl, Nat.le_of_ble_eq_true rfl⟩ hK (hw_X hP) (hw_XD hD) rfl rfl rfl rfl hl.1 rfl (Nat.le_of_ble_eq_true rfl) dL_law_295 ⟨(show cc + 0 ≤ 1200172 from by omega), (show sc + 0 ≤ 5500668 from by omega)⟩) hP hS hA (fun H locs hP hS => ?_)
        refine lv_istore (lv' := [(14, .int v30), (13, .int v28), (12, .int v26), (0, .ref bs), (1, .ref o), (2, .ref x2), (3, .int x3), (5, .int x5), (6, .int x6), (7, .ref x7), (8, .ref x8), (9, .int x9), (10, .ref x10), (11, .int x11)]) hx hb dL_law_298 hl (by decide) rfl (fun ls hl => ?_)
        refine lv_aload_n hx hb dL_law_300 rfl (lv_at hl 4 rfl) ?_
        refine lv_iconst (v := 4) hx hb dL_law_301 (by decide) ?_
        obtain ⟨v32, hv31, hf⟩ := hf
        refine zc_i (z_VG (As := [.int 4]) (rest := []) (q0 := 0) (ci := 1) xE_ok hE.1.1 hS hA ⟨hx, hb, hml, hown, hts⟩ (ok_X1_count l D Z o a b S T 4 v32 hv31) gL_law_X1_count rfl rfl rfl hdv_X1_count ⟨Nat.le_of_ble_eq_true rfl, Nat.le_of_ble_eq_true rfl⟩ hK (hw_X hP) (hw_XD hD) rfl rfl rfl rfl hl.1 rfl (Nat.le_of_ble_eq_true rfl) dL_law_302 ⟨(show cc + 0 ≤ 1200172 from by omega), (show sc + 0 ≤ 5500668 from by omega)⟩) hP hS hA (fun H locs hP hS => ?_)
        refine lv_istore (lv' := [(15, .int v32), (14, .int v30), (13, .int v28), (12, .int v26), (0, .ref bs), (1, .ref o), (2, .ref x2), (3, .int x3), (5, .int x5), (6, .int x6), (7, .ref x7), (8, .ref x8), (9, .int x9), (10, .ref x10), (11, .int x11)]) hx hb dL_law_305 hl (by decide) rfl (fun ls hl => ?_)
        refine lv_aload_n hx hb dL_law_307 rfl (lv_at hl 5 rfl) ?_
        refine lv_iconst (v := 1) hx hb dL_law_308 (by decide) ?_
        obtain ⟨v34, S35, T36, hv33, hf⟩ := hf
        refine zk_ci (z_VG (As := [.int 1]) (rest := []) (q0 := 0) (ci := 1) xE_ok hE.1.1 hS hA ⟨hx, hb, hml, hown, hts⟩ (ok_X1_pass l D Z o a b S T 1 v34 S35 T36 hv33) gL_law_X1_pass rfl rfl rfl hdv_X1_pass ⟨Nat.le_of_ble_eq_true rfl, Nat.le_of_ble_eq_true rfl⟩ hK (hw_X hP) (hw_XD hD) rfl rfl rfl rfl hl.1 rfl (Nat.le_of_ble_eq_true rfl) dL_law_309 ⟨(show cc + 0 ≤ 1200172 from by omega), (show sc + 0 ≤ 5500668 from by omega)⟩) hP hD hS hA (fun H locs hP hD hS => ?_)
        refine lv_istore (lv' := [(16, .int v34), (15, .int v32), (14, .int v30), (13, .int v28), (12, .int v26), (0, .ref bs), (1, .ref o), (2, .ref x2), (3, .int x3), (5, .int x5), (6, .int x6), (7, .ref x7), (8, .ref x8), (9, .int x9), (10, .ref x10), (11, .int x11)]) hx hb dL_law_312 hl (by decide) rfl (fun ls hl => ?_)
        refine lv_aload_n hx hb dL_law_314 rfl (lv_at hl 7 rfl) ?_
        obtain ⟨hrc3, hf⟩ := hf
        refine zk_i hwX_owl (z_VP (As := []) (rest := []) hrc3 pE_ok hE.1 hS hA ⟨hx, hb, hml, hown, hts⟩ (m_X3_pass l D Z x2 _ h hf) gL_law_X3_pass rfl rfl rfl hdv_X3_pass ⟨Nat.le_of_ble_eq_true rfl, Nat.le_of_ble_eq_true rfl⟩ hK hP hD rfl hl.1 rfl (Nat.le_of_ble_eq_true rfl) dL_law_315 ⟨(show cc + 40 ≤ 1200172 from by omega), (show sc + 320 ≤ 5500668 from by omega)⟩) hP hD hS hA (fun v38 h37 H locs hf hP hD hS => ?_)
        refine lv_pop hx hb dL_law_318 rfl ?_
        refine lv_iconst (v := 3) hx hb dL_law_319 (by decide) ?_
        refine lv_istore (lv' := [(17, .int 3), (16, .int v34), (15, .int v32), (14, .int v30), (13, .int v28), (12, .int v26), (0, .ref bs), (1, .ref o), (2, .ref x2), (3, .int x3), (5, .int x5), (6, .int x6), (7, .ref x7), (8, .ref x8), (9, .int x9), (10, .ref x10), (11, .int x11)]) hx hb dL_law_320 hl (by decide) rfl (fun ls hl => ?_)
        exact L322 rc rs κ204 hκ204 FU x2 x3 x5 x6 x7 x8 x9 x10 x11 v26 v28 v30 v32 v34 3 S35 T36 h37 (cc + 40) (sc + 320) _ _ (by omega) (by omega) hP hD hS ls (lv_sub hl [6, 7, 8, 9, 10, 11, 12, 13, 14, 15, 16, 5, 4, 3, 2, 1, 0] rfl) hf
      · have hf := ifP hf c24
        refine lv_iload hx hb dL_law_259 (lv_at hl 10 rfl) ?_
        refine lv_aload_n hx hb dL_law_261 rfl (lv_at hl 1 rfl) ?_
        refine lv_iload hx hb dL_law_262 (lv_at hl 11 rfl) ?_
        refine lv_iconst (v := 5) hx hb dL_law_264 (by decide) ?_
        obtain ⟨v114, hv113, hf⟩ := hf
        refine zc_i (z_VG (As := [.int x12, .int 5]) (rest := [.int x11]) (q0 := 0) (ci := 1) xE_ok hE.1.1 hS hA ⟨hx, hb, hml, hown, hts⟩ (ok_X1_station l D Z o a b S T x12 5 v114 hv113) gL_law_X1_station rfl rfl rfl hdv_X1_station ⟨Nat.le_of_ble_eq_true rfl, Nat.le_of_ble_eq_true rfl⟩ hK (hw_X hP) (hw_XD hD) rfl rfl rfl rfl hl.1 rfl (Nat.le_of_ble_eq_true rfl) dL_law_265 ⟨(show cc + 0 ≤ 1200172 from by omega), (show sc + 0 ≤ 5500668 from by omega)⟩) hP hS hA (fun H locs hP hS => ?_)
        refine lv_iadd hx hb dL_law_268 ?_
        refine lv_istore (lv' := [(11, .int (x11 + v114)), (0, .ref bs), (1, .ref o), (2, .ref x2), (3, .int x3), (5, .int x5), (6, .int x6), (7, .ref x7), (8, .ref x8), (9, .int x9), (10, .ref x10), (12, .int x12)]) hx hb dL_law_269 hl (by decide) rfl (fun ls hl => ?_)
        refine lv_iinc (v := (x12 + 1)) (lv' := [(12, .int (x12 + 1)), (11, .int (x11 + v114)), (0, .ref bs), (1, .ref o), (2, .ref x2), (3, .int x3), (5, .int x5), (6, .int x6), (7, .ref x7), (8, .ref x8), (9, .int x9), (10, .ref x10)]) hx hb dL_law_271 hl (k := 11) rfl rfl (by decide) rfl (fun ls hl => ?_)
        refine lv_goto (tgt := 252) hx hb dL_law_274 (by decide) ?_
        exact ih x2 x3 x5 x6 x7 x8 x9 x10 (x11 + v114) (x12 + 1) S T h cc sc _ _ (by omega) (by omega) hP hD hS ls (lv_sub hl [2, 3, 4, 5, 6, 7, 8, 9, 10, 11, 1, 0] rfl) hf
  have L219 : ∀ (rc rs : Nat), ∀ (κ204 : Nat → Int32 → Int32 → Int32 → Nat → Nat → Int32 → RS → RS → PH → Prop), (∀ (x2 : Nat) (x3 : Int32) (x5 : Int32) (x6 : Int32) (x7 : Nat) (x8 : Nat) (x9 : Int32) (S : RS) (T : RS) (h : PH) (cc sc : Nat) (H : Heap) (locs : List Loc), cc + (rc) ≤ 1200000 → sc + (rs) ≤ 5500000 → va_P D vwCl (hw (owl Z o a b S T) h) H → va_D A (hw (owl Z o a b S T) h) → va_S A s.heap H locs → ∀ ls : Array Slot, lv_has ls 22 [(0, .ref bs), (1, .ref o), (2, .ref x2), (3, .int x3), (5, .int x5), (6, .int x6), (7, .ref x7), (8, .ref x8), (9, .int x9)] → κ204 x2 x3 x5 x6 x7 x8 x9 S T h → W p l e room_1 s m #[Value.ref bs] below meth c H locs cc sc Q (F0 m 204 ls [])) → ∀ (n : Nat) (x2 : Nat) (x3 : Int32) (x5 : Int32) (x6 : Int32) (x7 : Nat) (x8 : Nat) (x9 : Int32) (x10 : Nat) (x11 : Int32) (S : RS) (T : RS) (h : PH) (cc sc : Nat) (H : Heap) (locs : List Loc), cc + (40 + rc) ≤ 1200000 → sc + (320 + rs) ≤ 5500000 → va_P D vwCl (hw (owl Z o a b S T) h) H → va_D A (hw (owl Z o a b S T) h) → va_S A s.heap H locs → ∀ ls : Array Slot, lv_has ls 22 [(0, .ref bs), (1, .ref o), (2, .ref x2), (3, .int x3), (5, .int x5), (6, .int x6), (7, .ref x7), (8, .ref x8), (9, .int x9), (10, .ref x10), (11, .int x11)] → w_L_law_L219 Z L xs κ204 K n x2 x3 x5 x6 x7 x8 x9 x10 x11 S T h → W p l e room_1 s m #[Value.ref bs] below meth c H locs cc sc Q (F0 m 219 ls []) := by
    intro rc rs κ204 hκ204 n
    induction n with
    | zero =>
      intro x2 x3 x5 x6 x7 x8 x9 x10 x11 S T h cc sc  H locs hcc hsc hP hD hS ls hl hf
      exact hf.elim
    | succ n ih =>
      intro x2 x3 x5 x6 x7 x8 x9 x10 x11 S T h cc sc  H locs hcc hsc hP hD hS ls hl hf
      rw [w_L_law_L219] at hf
      refine lv_iload hx hb dL_law_219 (lv_at hl 10 rfl) ?_
      refine lv_bipush (v := 8) hx hb dL_law_221 (by decide) ?_
      refine lv_icmp_ge (tgt := 246) hx hb dL_law_223 (by decide) (fun c23 => ?_) (fun c23 => ?_)
      · have hf := itP hf c23
        refine lv_iconst (v := 0) hx hb dL_law_246 (by decide) ?_
        refine lv_istore (lv' := [(11, .int 0), (0, .ref bs), (1, .ref o), (2, .ref x2), (3, .int x3), (5, .int x5), (6, .int x6), (7, .ref x7), (8, .ref x8), (9, .int x9), (10, .ref x10)]) hx hb dL_law_247 hl (by decide) rfl (fun ls hl => ?_)
        refine lv_iconst (v := 0) hx hb dL_law_249 (by decide) ?_
        refine lv_istore (lv' := [(12, .int 0), (11, .int 0), (0, .ref bs), (1, .ref o), (2, .ref x2), (3, .int x3), (5, .int x5), (6, .int x6), (7, .ref x7), (8, .ref x8), (9, .int x9), (10, .ref x10)]) hx hb dL_law_250 hl (by decide) rfl (fun ls hl => ?_)
        exact L252 rc rs κ204 hκ204 FU x2 x3 x5 x6 x7 x8 x9 x10 0 0 S T h cc sc _ _ (by omega) (by omega) hP hD hS ls (lv_sub hl [2, 3, 4, 5, 6, 7, 8, 9, 10, 11, 1, 0] rfl) hf
      · have hf := ifP hf c23
        refine lv_aload hx hb dL_law_226 (lv_at hl 9 rfl) ?_
        refine lv_iload hx hb dL_law_228 (lv_at hl 10 rfl) ?_
        refine lv_iconst (v := 3) hx hb dL_law_230 (by decide) ?_
        refine lv_isub hx hb dL_law_231 ?_
        refine lv_aload_n hx hb dL_law_232 rfl (lv_at hl 1 rfl) ?_
        refine lv_iconst (v := 1) hx hb dL_law_233 (by decide) ?_
        refine lv_iload hx hb dL_law_234 (lv_at hl 10 rfl) ?_
        obtain ⟨v116, S117, T118, hv115, hf⟩ := hf
        refine zk_ci (z_VG (As := [.int 1, .int x11]) (rest := [.int (x11 - 3), .ref x10]) (q0 := 0) (ci := 1) xE_ok hE.1.1 hS hA ⟨hx, hb, hml, hown, hts⟩ (ok_X1_foresee l D Z o a b S T 1 x11 v116 S117 T118 hv115) gL_law_X1_foresee rfl rfl rfl hdv_X1_foresee ⟨Nat.le_of_ble_eq_true rfl, Nat.le_of_ble_eq_true rfl⟩ hK (hw_X hP) (hw_XD hD) rfl rfl rfl rfl hl.1 rfl (Nat.le_of_ble_eq_true rfl) dL_law_236 ⟨(show cc + 0 ≤ 1200172 from by omega), (show sc + 0 ≤ 5500668 from by omega)⟩) hP hD hS hA (fun H locs hP hD hS => ?_)
        refine z_sA hf hx hb hK hP hD hS dL_law_239 (fun h119 H locs hf hP hD hS => ?_)
        refine lv_iinc (v := (x11 + 1)) (lv' := [(11, .int (x11 + 1)), (0, .ref bs), (1, .ref o), (2, .ref x2), (3, .int x3), (5, .int x5), (6, .int x6), (7, .ref x7), (8, .ref x8), (9, .int x9), (10, .ref x10)]) hx hb dL_law_240 hl (k := 10) rfl rfl (by decide) rfl (fun ls hl => ?_)
        refine lv_goto (tgt := 219) hx hb dL_law_243 (by decide) ?_
        exact ih x2 x3 x5 x6 x7 x8 x9 x10 (x11 + 1) S117 T118 h119 cc sc _ _ (by omega) (by omega) hP hD hS ls (lv_sub hl [1, 2, 3, 4, 5, 6, 7, 8, 9, 10, 0] rfl) hf
  have L204 : ∀ (rc rs : Nat), ∀ (κ22 : Nat → Int32 → RS → RS → PH → Prop), (∀ (x2 : Nat) (x3 : Int32) (S : RS) (T : RS) (h : PH) (cc sc : Nat) (H : Heap) (locs : List Loc), cc + (rc) ≤ 1200000 → sc + (rs) ≤ 5500000 → va_P D vwCl (hw (owl Z o a b S T) h) H → va_D A (hw (owl Z o a b S T) h) → va_S A s.heap H locs → ∀ ls : Array Slot, lv_has ls 22 [(0, .ref bs), (1, .ref o), (2, .ref x2), (3, .int x3)] → κ22 x2 x3 S T h → W p l e room_1 s m #[Value.ref bs] below meth c H locs cc sc Q (F0 m 22 ls [])) → ∀ (n : Nat) (x2 : Nat) (x3 : Int32) (x5 : Int32) (x6 : Int32) (x7 : Nat) (x8 : Nat) (x9 : Int32) (S : RS) (T : RS) (h : PH) (cc sc : Nat) (H : Heap) (locs : List Loc), cc + (41 * n + 0 + rc) ≤ 1200000 → sc + (325 * n + 0 + rs) ≤ 5500000 → va_P D vwCl (hw (owl Z o a b S T) h) H → va_D A (hw (owl Z o a b S T) h) → va_S A s.heap H locs → ∀ ls : Array Slot, lv_has ls 22 [(0, .ref bs), (1, .ref o), (2, .ref x2), (3, .int x3), (5, .int x5), (6, .int x6), (7, .ref x7), (8, .ref x8), (9, .int x9)] → w_L_law_L204 Z L xs κ22 K n x2 x3 x5 x6 x7 x8 x9 S T h → W p l e room_1 s m #[Value.ref bs] below meth c H locs cc sc Q (F0 m 204 ls []) := by
    intro rc rs κ22 hκ22 n
    induction n with
    | zero =>
      intro x2 x3 x5 x6 x7 x8 x9 S T h cc sc  H locs hcc hsc hP hD hS ls hl hf
      exact hf.elim
    | succ n ih =>
      intro x2 x3 x5 x6 x7 x8 x9 S T h cc sc  H locs hcc hsc hP hD hS ls hl hf
      rw [w_L_law_L204] at hf
      refine lv_iload hx hb dL_law_204 (lv_at hl 8 rfl) ?_
      refine lv_bipush (v := 6) hx hb dL_law_206 (by decide) ?_
      refine lv_icmp_gt (tgt := 702) hx hb dL_law_208 (by decide) (fun c20 => ?_) (fun c20 => ?_)
      · have hf := itP hf c20
        refine lv_iinc (v := (x3 + 1)) (lv' := [(3, .int (x3 + 1)), (0, .ref bs), (1, .ref o), (2, .ref x2), (5, .int x5), (6, .int x6), (7, .ref x7), (8, .ref x8), (9, .int x9)]) hx hb dL_law_702 hl (k := 3) rfl rfl (by decide) rfl (fun ls hl => ?_)
        refine lv_goto (tgt := 22) hx hb dL_law_705 (by decide) ?_
        exact hκ22 x2 (x3 + 1) S T h cc sc _ _ (by omega) (by omega) hP hD hS ls (lv_sub hl [1, 2, 3, 0] rfl) hf
      · have hf := ifP hf c20
        refine lv_iconst (v := 5) hx hb dL_law_211 (by decide) ?_
        refine z_nA hf (by decide) hx hb (hts (.arrayClass .int) (lwr_1 (List.mem_of_getElem? (i := 3) rfl))) hK hP hD hS hA (show cc + 1 ≤ 1200172 from by omega) (show sc + 5 ≤ 5500668 from by omega) dL_law_212 (fun b21 h22 H hf hP hD hS => ?_)
        refine lv_astore (lv' := [(10, .ref b21), (0, .ref bs), (1, .ref o), (2, .ref x2), (3, .int x3), (5, .int x5), (6, .int x6), (7, .ref x7), (8, .ref x8), (9, .int x9)]) hx hb dL_law_214 hl (by decide) rfl (fun ls hl => ?_)
        refine lv_iconst (v := 3) hx hb dL_law_216 (by decide) ?_
        refine lv_istore (lv' := [(11, .int 3), (10, .ref b21), (0, .ref bs), (1, .ref o), (2, .ref x2), (3, .int x3), (5, .int x5), (6, .int x6), (7, .ref x7), (8, .ref x8), (9, .int x9)]) hx hb dL_law_217 hl (by decide) rfl (fun ls hl => ?_)
        exact L219 (41 * n + 0 + rc) (325 * n + 0 + rs) _ ih FU x2 x3 x5 x6 x7 x8 x9 b21 3 S T h22 (cc + 1) (sc + 5) _ _ (by omega) (by omega) hP hD hS ls (lv_sub hl [2, 3, 4, 5, 6, 7, 8, 9, 10, 1, 0] rfl) hf
  have L173 : ∀ (rc rs : Nat), ∀ (κ109 : Nat → Int32 → Int32 → Int32 → Nat → Nat → Int32 → RS → RS → PH → Prop), (∀ (x2 : Nat) (x3 : Int32) (x5 : Int32) (x6 : Int32) (x7 : Nat) (x8 : Nat) (x9 : Int32) (S : RS) (T : RS) (h : PH) (cc sc : Nat) (H : Heap) (locs : List Loc), cc + (rc) ≤ 1200000 → sc + (rs) ≤ 5500000 → va_P D vwCl (hw (owl Z o a b S T) h) H → va_D A (hw (owl Z o a b S T) h) → va_S A s.heap H locs → ∀ ls : Array Slot, lv_has ls 22 [(0, .ref bs), (1, .ref o), (2, .ref x2), (3, .int x3), (5, .int x5), (6, .int x6), (7, .ref x7), (8, .ref x8), (9, .int x9)] → κ109 x2 x3 x5 x6 x7 x8 x9 S T h → W p l e room_1 s m #[Value.ref bs] below meth c H locs cc sc Q (F0 m 109 ls [])) → ∀ (y0 : Int32) (y1 : Int32) (x2 : Nat) (x3 : Int32) (x5 : Int32) (x6 : Int32) (x7 : Nat) (x8 : Nat) (x9 : Int32) (S : RS) (T : RS) (h : PH) (cc sc : Nat) (H : Heap) (locs : List Loc), cc + (0 + rc) ≤ 1200000 → sc + (0 + rs) ≤ 5500000 → va_P D vwCl (hw (owl Z o a b S T) h) H → va_D A (hw (owl Z o a b S T) h) → va_S A s.heap H locs → ∀ ls : Array Slot, lv_has ls 22 [(0, .ref bs), (1, .ref o), (2, .ref x2), (3, .int x3), (5, .int x5), (6, .int x6), (7, .ref x7), (8, .ref x8), (9, .int x9)] → w_L_law_L173 Z L xs κ109 K y0 y1 x2 x3 x5 x6 x7 x8 x9 S T h → W p l e room_1 s m #[Value.ref bs] below meth c H locs cc sc Q (F0 m 173 ls [.int y0, .int y1]) := by
    intro rc rs κ109 hκ109 y0 y1 x2 x3 x5 x6 x7 x8 x9 S T h cc sc H locs hcc hsc hP hD hS ls hl hf
    unfold w_L_law_L173 at hf
    refine lv_icmp_ne (tgt := 193) hx hb dL_law_173 (by decide) (fun c132 => ?_) (fun c132 => ?_)
    · have hf := ifP hf c132
      refine lv_iconst (v := 0) hx hb dL_law_193 (by decide) ?_
      exact hf.elim
    · have hf := itP hf c132
      refine lv_aload hx hb dL_law_176 (lv_at hl 7 rfl) ?_
      refine lv_iload hx hb dL_law_178 (lv_at hl 8 rfl) ?_
      refine z_aI hf hx hb hK hP dL_law_180 (fun v133 hf => ?_)
      refine lv_if_ge (tgt := 195) hx hb dL_law_181 (by decide) (fun c134 => ?_) (fun c134 => ?_)
      · have hf := itP hf c134
        refine lv_iinc (v := (x9 + 1)) (lv' := [(9, .int (x9 + 1)), (0, .ref bs), (1, .ref o), (2, .ref x2), (3, .int x3), (5, .int x5), (6, .int x6), (7, .ref x7), (8, .ref x8)]) hx hb dL_law_195 hl (k := 8) rfl rfl (by decide) rfl (fun ls hl => ?_)
        refine lv_goto (tgt := 109) hx hb dL_law_198 (by decide) ?_
        exact hκ109 x2 x3 x5 x6 x7 x8 (x9 + 1) S T h cc sc _ _ (by omega) (by omega) hP hD hS ls (lv_sub hl [1, 2, 3, 4, 5, 6, 7, 8, 0] rfl) hf
      · have hf := ifP hf c134
        refine lv_aload hx hb dL_law_184 (lv_at hl 6 rfl) ?_
        refine lv_iload hx hb dL_law_186 (lv_at hl 8 rfl) ?_
        refine z_aI hf hx hb hK hP dL_law_188 (fun v135 hf => ?_)
        refine lv_iconst (v := (-1)) hx hb dL_law_189 (by decide) ?_
        refine lv_icmp_eq (tgt := 195) hx hb dL_law_190 (by decide) (fun c136 => ?_) (fun c136 => ?_)
        · have hf := itP hf c136
          refine lv_iinc (v := (x9 + 1)) (lv' := [(9, .int (x9 + 1)), (0, .ref bs), (1, .ref o), (2, .ref x2), (3, .int x3), (5, .int x5), (6, .int x6), (7, .ref x7), (8, .ref x8)]) hx hb dL_law_195 hl (k := 8) rfl rfl (by decide) rfl (fun ls hl => ?_)
          refine lv_goto (tgt := 109) hx hb dL_law_198 (by decide) ?_
          exact hκ109 x2 x3 x5 x6 x7 x8 (x9 + 1) S T h cc sc _ _ (by omega) (by omega) hP hD hS ls (lv_sub hl [1, 2, 3, 4, 5, 6, 7, 8, 0] rfl) hf
        · have hf := ifP hf c136
          refine lv_iconst (v := 0) hx hb dL_law_193 (by decide) ?_
          exact hf.elim
  have L172 : ∀ (rc rs : Nat), ∀ (κ109 : Nat → Int32 → Int32 → Int32 → Nat → Nat → Int32 → RS → RS → PH → Prop), (∀ (x2 : Nat) (x3 : Int32) (x5 : Int32) (x6 : Int32) (x7 : Nat) (x8 : Nat) (x9 : Int32) (S : RS) (T : RS) (h : PH) (cc sc : Nat) (H : Heap) (locs : List Loc), cc + (rc) ≤ 1200000 → sc + (rs) ≤ 5500000 → va_P D vwCl (hw (owl Z o a b S T) h) H → va_D A (hw (owl Z o a b S T) h) → va_S A s.heap H locs → ∀ ls : Array Slot, lv_has ls 22 [(0, .ref bs), (1, .ref o), (2, .ref x2), (3, .int x3), (5, .int x5), (6, .int x6), (7, .ref x7), (8, .ref x8), (9, .int x9)] → κ109 x2 x3 x5 x6 x7 x8 x9 S T h → W p l e room_1 s m #[Value.ref bs] below meth c H locs cc sc Q (F0 m 109 ls [])) → ∀ (y0 : Int32) (x2 : Nat) (x3 : Int32) (x5 : Int32) (x6 : Int32) (x7 : Nat) (x8 : Nat) (x9 : Int32) (S : RS) (T : RS) (h : PH) (cc sc : Nat) (H : Heap) (locs : List Loc), cc + (0 + rc) ≤ 1200000 → sc + (0 + rs) ≤ 5500000 → va_P D vwCl (hw (owl Z o a b S T) h) H → va_D A (hw (owl Z o a b S T) h) → va_S A s.heap H locs → ∀ ls : Array Slot, lv_has ls 22 [(0, .ref bs), (1, .ref o), (2, .ref x2), (3, .int x3), (5, .int x5), (6, .int x6), (7, .ref x7), (8, .ref x8), (9, .int x9)] → w_L_law_L172 Z L xs κ109 K y0 x2 x3 x5 x6 x7 x8 x9 S T h → W p l e room_1 s m #[Value.ref bs] below meth c H locs cc sc Q (F0 m 172 ls [.int y0]) := by
    intro rc rs κ109 hκ109 y0 x2 x3 x5 x6 x7 x8 x9 S T h cc sc H locs hcc hsc hP hD hS ls hl hf
    unfold w_L_law_L172 at hf
    refine lv_iconst (v := 0) hx hb dL_law_172 (by decide) ?_
    exact L173 rc rs κ109 hκ109 0 y0 x2 x3 x5 x6 x7 x8 x9 S T h cc sc _ _ (by omega) (by omega) hP hD hS ls (lv_sub hl [0, 1, 2, 3, 4, 5, 6, 7, 8] rfl) hf
  have L152 : ∀ (rc rs : Nat), ∀ (κ109 : Nat → Int32 → Int32 → Int32 → Nat → Nat → Int32 → RS → RS → PH → Prop), (∀ (x2 : Nat) (x3 : Int32) (x5 : Int32) (x6 : Int32) (x7 : Nat) (x8 : Nat) (x9 : Int32) (S : RS) (T : RS) (h : PH) (cc sc : Nat) (H : Heap) (locs : List Loc), cc + (rc) ≤ 1200000 → sc + (rs) ≤ 5500000 → va_P D vwCl (hw (owl Z o a b S T) h) H → va_D A (hw (owl Z o a b S T) h) → va_S A s.heap H locs → ∀ ls : Array Slot, lv_has ls 22 [(0, .ref bs), (1, .ref o), (2, .ref x2), (3, .int x3), (5, .int x5), (6, .int x6), (7, .ref x7), (8, .ref x8), (9, .int x9)] → κ109 x2 x3 x5 x6 x7 x8 x9 S T h → W p l e room_1 s m #[Value.ref bs] below meth c H locs cc sc Q (F0 m 109 ls [])) → ∀ (y0 : Int32) (x2 : Nat) (x3 : Int32) (x5 : Int32) (x6 : Int32) (x7 : Nat) (x8 : Nat) (x9 : Int32) (S : RS) (T : RS) (h : PH) (cc sc : Nat) (H : Heap) (locs : List Loc), cc + (0 + rc) ≤ 1200000 → sc + (0 + rs) ≤ 5500000 → va_P D vwCl (hw (owl Z o a b S T) h) H → va_D A (hw (owl Z o a b S T) h) → va_S A s.heap H locs → ∀ ls : Array Slot, lv_has ls 22 [(0, .ref bs), (1, .ref o), (2, .ref x2), (3, .int x3), (5, .int x5), (6, .int x6), (7, .ref x7), (8, .ref x8), (9, .int x9)] → w_L_law_L152 Z L xs κ109 K y0 x2 x3 x5 x6 x7 x8 x9 S T h → W p l e room_1 s m #[Value.ref bs] below meth c H locs cc sc Q (F0 m 152 ls [.int y0]) := by
    intro rc rs κ109 hκ109 y0 x2 x3 x5 x6 x7 x8 x9 S T h cc sc H locs hcc hsc hP hD hS ls hl hf
    unfold w_L_law_L152 at hf
    refine lv_aload hx hb dL_law_152 (lv_at hl 6 rfl) ?_
    refine lv_iload hx hb dL_law_154 (lv_at hl 8 rfl) ?_
    refine z_aI hf hx hb hK hP dL_law_156 (fun v130 hf => ?_)
    refine lv_if_ge (tgt := 172) hx hb dL_law_157 (by decide) (fun c131 => ?_) (fun c131 => ?_)
    · have hf := itP hf c131
      exact L172 rc rs κ109 hκ109 y0 x2 x3 x5 x6 x7 x8 x9 S T h cc sc _ _ (by omega) (by omega) hP hD hS ls (lv_sub hl [0, 1, 2, 3, 4, 5, 6, 7, 8] rfl) hf
    · have hf := ifP hf c131
      refine lv_aload hx hb dL_law_160 (lv_at hl 7 rfl) ?_
      refine lv_iload hx hb dL_law_162 (lv_at hl 8 rfl) ?_
      refine z_aI hf hx hb hK hP dL_law_164 (fun v137 hf => ?_)
      refine lv_if_ge (tgt := 172) hx hb dL_law_165 (by decide) (fun c138 => ?_) (fun c138 => ?_)
      · have hf := itP hf c138
        exact L172 rc rs κ109 hκ109 y0 x2 x3 x5 x6 x7 x8 x9 S T h cc sc _ _ (by omega) (by omega) hP hD hS ls (lv_sub hl [0, 1, 2, 3, 4, 5, 6, 7, 8] rfl) hf
      · have hf := ifP hf c138
        refine lv_iconst (v := 1) hx hb dL_law_168 (by decide) ?_
        refine lv_goto (tgt := 173) hx hb dL_law_169 (by decide) ?_
        exact L173 rc rs κ109 hκ109 1 y0 x2 x3 x5 x6 x7 x8 x9 S T h cc sc _ _ (by omega) (by omega) hP hD hS ls (lv_sub hl [0, 1, 2, 3, 4, 5, 6, 7, 8] rfl) hf
  have L109 : ∀ (rc rs : Nat), ∀ (κ22 : Nat → Int32 → RS → RS → PH → Prop), (∀ (x2 : Nat) (x3 : Int32) (S : RS) (T : RS) (h : PH) (cc sc : Nat) (H : Heap) (locs : List Loc), cc + (rc) ≤ 1200000 → sc + (rs) ≤ 5500000 → va_P D vwCl (hw (owl Z o a b S T) h) H → va_D A (hw (owl Z o a b S T) h) → va_S A s.heap H locs → ∀ ls : Array Slot, lv_has ls 22 [(0, .ref bs), (1, .ref o), (2, .ref x2), (3, .int x3)] → κ22 x2 x3 S T h → W p l e room_1 s m #[Value.ref bs] below meth c H locs cc sc Q (F0 m 22 ls [])) → ∀ (n : Nat) (x2 : Nat) (x3 : Int32) (x5 : Int32) (x6 : Int32) (x7 : Nat) (x8 : Nat) (x9 : Int32) (S : RS) (T : RS) (h : PH) (cc sc : Nat) (H : Heap) (locs : List Loc), cc + (328 + rc) ≤ 1200000 → sc + (2600 + rs) ≤ 5500000 → va_P D vwCl (hw (owl Z o a b S T) h) H → va_D A (hw (owl Z o a b S T) h) → va_S A s.heap H locs → ∀ ls : Array Slot, lv_has ls 22 [(0, .ref bs), (1, .ref o), (2, .ref x2), (3, .int x3), (5, .int x5), (6, .int x6), (7, .ref x7), (8, .ref x8), (9, .int x9)] → w_L_law_L109 Z L xs κ22 K n x2 x3 x5 x6 x7 x8 x9 S T h → W p l e room_1 s m #[Value.ref bs] below meth c H locs cc sc Q (F0 m 109 ls []) := by
    intro rc rs κ22 hκ22 n
    induction n with
    | zero =>
      intro x2 x3 x5 x6 x7 x8 x9 S T h cc sc  H locs hcc hsc hP hD hS ls hl hf
      exact hf.elim
    | succ n ih =>
      intro x2 x3 x5 x6 x7 x8 x9 S T h cc sc  H locs hcc hsc hP hD hS ls hl hf
      rw [w_L_law_L109] at hf
      refine lv_iload hx hb dL_law_109 (lv_at hl 8 rfl) ?_
      refine lv_iload hx hb dL_law_111 (lv_at hl 4 rfl) ?_
      refine lv_icmp_ge (tgt := 201) hx hb dL_law_113 (by decide) (fun c19 => ?_) (fun c19 => ?_)
      · have hf := itP hf c19
        refine lv_iconst (v := 1) hx hb dL_law_201 (by decide) ?_
        refine lv_istore (lv' := [(9, .int 1), (0, .ref bs), (1, .ref o), (2, .ref x2), (3, .int x3), (5, .int x5), (6, .int x6), (7, .ref x7), (8, .ref x8)]) hx hb dL_law_202 hl (by decide) rfl (fun ls hl => ?_)
        exact L204 rc rs κ22 hκ22 8 x2 x3 x5 x6 x7 x8 1 S T h cc sc _ _ (by omega) (by omega) hP hD hS ls (lv_sub hl [1, 2, 3, 4, 5, 6, 7, 8, 0] rfl) hf
      · have hf := ifP hf c19
        refine lv_aload hx hb dL_law_116 (lv_at hl 6 rfl) ?_
        refine lv_iload hx hb dL_law_118 (lv_at hl 8 rfl) ?_
        refine lv_aload_n hx hb dL_law_120 rfl (lv_at hl 1 rfl) ?_
        refine lv_iload hx hb dL_law_121 (lv_at hl 8 rfl) ?_
        obtain ⟨v121, S122, T123, hv120, hf⟩ := hf
        refine zk_ci (z_VG (As := [.int x9]) (rest := [.int x9, .ref x7]) (q0 := 0) (ci := 1) xE_ok hE.1.1 hS hA ⟨hx, hb, hml, hown, hts⟩ (ok_X1_when l D Z o a b S T x9 v121 S122 T123 hv120) gL_law_X1_when rfl rfl rfl hdv_X1_when ⟨Nat.le_of_ble_eq_true rfl, Nat.le_of_ble_eq_true rfl⟩ hK (hw_X hP) (hw_XD hD) rfl rfl rfl rfl hl.1 rfl (Nat.le_of_ble_eq_true rfl) dL_law_123 ⟨(show cc + 0 ≤ 1200172 from by omega), (show sc + 0 ≤ 5500668 from by omega)⟩) hP hD hS hA (fun H locs hP hD hS => ?_)
        refine z_sA hf hx hb hK hP hD hS dL_law_126 (fun h124 H locs hf hP hD hS => ?_)
        refine lv_aload hx hb dL_law_127 (lv_at hl 7 rfl) ?_
        refine lv_iload hx hb dL_law_129 (lv_at hl 8 rfl) ?_
        refine lv_aload_n hx hb dL_law_131 rfl (lv_at hl 1 rfl) ?_
        refine lv_iload hx hb dL_law_132 (lv_at hl 8 rfl) ?_
        refine lv_iconst (v := 3) hx hb dL_law_134 (by decide) ?_
        obtain ⟨v126, hv125, hf⟩ := hf
        refine zc_i (z_VG (As := [.int x9, .int 3]) (rest := [.int x9, .ref x8]) (q0 := 0) (ci := 1) xE_ok hE.1.1 hS hA ⟨hx, hb, hml, hown, hts⟩ (ok_X1_told l D Z o a b S122 T123 x9 3 v126 hv125) gL_law_X1_told rfl rfl rfl hdv_X1_told ⟨Nat.le_of_ble_eq_true rfl, Nat.le_of_ble_eq_true rfl⟩ hK (hw_X hP) (hw_XD hD) rfl rfl rfl rfl hl.1 rfl (Nat.le_of_ble_eq_true rfl) dL_law_135 ⟨(show cc + 0 ≤ 1200172 from by omega), (show sc + 0 ≤ 5500668 from by omega)⟩) hP hS hA (fun H locs hP hS => ?_)
        refine z_sA hf hx hb hK hP hD hS dL_law_138 (fun h127 H locs hf hP hD hS => ?_)
        refine lv_aload hx hb dL_law_139 (lv_at hl 7 rfl) ?_
        refine lv_iload hx hb dL_law_141 (lv_at hl 8 rfl) ?_
        refine z_aI hf hx hb hK hP dL_law_143 (fun v128 hf => ?_)
        refine lv_if_ge (tgt := 151) hx hb dL_law_144 (by decide) (fun c129 => ?_) (fun c129 => ?_)
        · have hf := itP hf c129
          refine lv_iconst (v := 0) hx hb dL_law_151 (by decide) ?_
          exact L152 (328 + rc) (2600 + rs) _ ih 0 x2 x3 x5 x6 x7 x8 x9 S122 T123 h127 cc sc _ _ (by omega) (by omega) hP hD hS ls (lv_sub hl [0, 1, 2, 3, 4, 5, 6, 7, 8] rfl) hf
        · have hf := ifP hf c129
          refine lv_iconst (v := 1) hx hb dL_law_147 (by decide) ?_
          refine lv_goto (tgt := 152) hx hb dL_law_148 (by decide) ?_
          exact L152 (328 + rc) (2600 + rs) _ ih 1 x2 x3 x5 x6 x7 x8 x9 S122 T123 h127 cc sc _ _ (by omega) (by omega) hP hD hS ls (lv_sub hl [0, 1, 2, 3, 4, 5, 6, 7, 8] rfl) hf
  have L44 : ∀ (rc rs : Nat), ∀ (κ22 : Nat → Int32 → RS → RS → PH → Prop), (∀ (x2 : Nat) (x3 : Int32) (S : RS) (T : RS) (h : PH) (cc sc : Nat) (H : Heap) (locs : List Loc), cc + (rc) ≤ 1200000 → sc + (rs) ≤ 5500000 → va_P D vwCl (hw (owl Z o a b S T) h) H → va_D A (hw (owl Z o a b S T) h) → va_S A s.heap H locs → ∀ ls : Array Slot, lv_has ls 22 [(0, .ref bs), (1, .ref o), (2, .ref x2), (3, .int x3)] → κ22 x2 x3 S T h → W p l e room_1 s m #[Value.ref bs] below meth c H locs cc sc Q (F0 m 22 ls [])) → ∀ (n : Nat) (x2 : Nat) (x3 : Int32) (x4 : Int32) (x5 : Int32) (S : RS) (T : RS) (h : PH) (cc sc : Nat) (H : Heap) (locs : List Loc), cc + (4 * n + 330 + rc) ≤ 1200000 → sc + (19 * n + 2624 + rs) ≤ 5500000 → va_P D vwCl (hw (owl Z o a b S T) h) H → va_D A (hw (owl Z o a b S T) h) → va_S A s.heap H locs → ∀ ls : Array Slot, lv_has ls 22 [(0, .ref bs), (1, .ref o), (2, .ref x2), (3, .int x3), (4, .int x4), (5, .int x5)] → w_L_law_L44 Z L xs κ22 K n x2 x3 x4 x5 S T h → W p l e room_1 s m #[Value.ref bs] below meth c H locs cc sc Q (F0 m 44 ls []) := by
    intro rc rs κ22 hκ22 n
    induction n with
    | zero =>
      intro x2 x3 x4 x5 S T h cc sc  H locs hcc hsc hP hD hS ls hl hf
      exact hf.elim
    | succ n ih =>
      intro x2 x3 x4 x5 S T h cc sc  H locs hcc hsc hP hD hS ls hl hf
      rw [w_L_law_L44] at hf
      refine lv_iload hx hb dL_law_44 (lv_at hl 5 rfl) ?_
      refine lv_iconst (v := 3) hx hb dL_law_46 (by decide) ?_
      refine lv_icmp_ge (tgt := 80) hx hb dL_law_47 (by decide) (fun c10 => ?_) (fun c10 => ?_)
      · have hf := itP hf c10
        refine lv_aload_n hx hb dL_law_80 rfl (lv_at hl 1 rfl) ?_
        refine lv_iconst (v := 2) hx hb dL_law_81 (by decide) ?_
        obtain ⟨v12, hv11, hf⟩ := hf
        refine zc_i (z_VG (As := [.int 2]) (rest := []) (q0 := 0) (ci := 1) xE_ok hE.1.1 hS hA ⟨hx, hb, hml, hown, hts⟩ (ok_X1_count l D Z o a b S T 2 v12 hv11) gL_law_X1_count rfl rfl rfl hdv_X1_count ⟨Nat.le_of_ble_eq_true rfl, Nat.le_of_ble_eq_true rfl⟩ hK (hw_X hP) (hw_XD hD) rfl rfl rfl rfl hl.1 rfl (Nat.le_of_ble_eq_true rfl) dL_law_82 ⟨(show cc + 0 ≤ 1200172 from by omega), (show sc + 0 ≤ 5500668 from by omega)⟩) hP hS hA (fun H locs hP hS => ?_)
        refine lv_istore (lv' := [(5, .int v12), (0, .ref bs), (1, .ref o), (2, .ref x2), (3, .int x3), (4, .int x4)]) hx hb dL_law_85 hl (by decide) rfl (fun ls hl => ?_)
        refine lv_aload_n hx hb dL_law_87 rfl (lv_at hl 2 rfl) ?_
        refine lv_iconst (v := 1) hx hb dL_law_88 (by decide) ?_
        obtain ⟨v14, hv13, hf⟩ := hf
        refine zc_i (z_VG (As := [.int 1]) (rest := []) (q0 := 0) (ci := 1) xE_ok hE.1.1 hS hA ⟨hx, hb, hml, hown, hts⟩ (ok_X1_count l D Z o a b S T 1 v14 hv13) gL_law_X1_count rfl rfl rfl hdv_X1_count ⟨Nat.le_of_ble_eq_true rfl, Nat.le_of_ble_eq_true rfl⟩ hK (hw_X hP) (hw_XD hD) rfl rfl rfl rfl hl.1 rfl (Nat.le_of_ble_eq_true rfl) dL_law_89 ⟨(show cc + 0 ≤ 1200172 from by omega), (show sc + 0 ≤ 5500668 from by omega)⟩) hP hS hA (fun H locs hP hS => ?_)
        refine lv_istore (lv' := [(6, .int v14), (5, .int v12), (0, .ref bs), (1, .ref o), (2, .ref x2), (3, .int x3), (4, .int x4)]) hx hb dL_law_92 hl (by decide) rfl (fun ls hl => ?_)
        refine lv_iload hx hb dL_law_94 (lv_at hl 1 rfl) ?_
        refine z_nA hf (by decide) hx hb (hts (.arrayClass .int) (lwr_1 (List.mem_of_getElem? (i := 3) rfl))) hK hP hD hS hA (show cc + 1 ≤ 1200172 from by omega) (show sc + 12 ≤ 5500668 from by omega) dL_law_96 (fun b15 h16 H hf hP hD hS => ?_)
        refine lv_astore (lv' := [(7, .ref b15), (6, .int v14), (5, .int v12), (0, .ref bs), (1, .ref o), (2, .ref x2), (3, .int x3), (4, .int x4)]) hx hb dL_law_98 hl (by decide) rfl (fun ls hl => ?_)
        refine lv_iload hx hb dL_law_100 (lv_at hl 2 rfl) ?_
        refine z_nA hf (by decide) hx hb (hts (.arrayClass .int) (lwr_1 (List.mem_of_getElem? (i := 3) rfl))) hK hP hD hS hA (show (cc + 1) + 1 ≤ 1200172 from by omega) (show (sc + 12) + 12 ≤ 5500668 from by omega) dL_law_102 (fun b17 h18 H hf hP hD hS => ?_)
        refine lv_astore (lv' := [(8, .ref b17), (7, .ref b15), (6, .int v14), (5, .int v12), (0, .ref bs), (1, .ref o), (2, .ref x2), (3, .int x3), (4, .int x4)]) hx hb dL_law_104 hl (by decide) rfl (fun ls hl => ?_)
        refine lv_iconst (v := 0) hx hb dL_law_106 (by decide) ?_
        refine lv_istore (lv' := [(9, .int 0), (8, .ref b17), (7, .ref b15), (6, .int v14), (5, .int v12), (0, .ref bs), (1, .ref o), (2, .ref x2), (3, .int x3), (4, .int x4)]) hx hb dL_law_107 hl (by decide) rfl (fun ls hl => ?_)
        exact L109 rc rs κ22 hκ22 FU x2 x3 v12 v14 b15 b17 0 S T h18 (cc + 2) (sc + 24) _ _ (by omega) (by omega) hP hD hS ls (lv_sub hl [5, 6, 7, 8, 4, 3, 2, 1, 0] rfl) hf
      · have hf := ifP hf c10
        refine lv_aload_n hx hb dL_law_50 rfl (lv_at hl 1 rfl) ?_
        refine lv_aload_n hx hb dL_law_51 rfl (lv_at hl 2 rfl) ?_
        refine lv_iload hx hb dL_law_52 (lv_at hl 4 rfl) ?_
        refine lv_iconst (v := 2) hx hb dL_law_54 (by decide) ?_
        refine lv_iload hx hb dL_law_55 (lv_at hl 5 rfl) ?_
        refine lv_imul hx hb dL_law_57 ?_
        refine lv_ishr hx hb dL_law_58 ?_
        refine lv_sipush (v := 199) hx hb dL_law_59 (by decide) ?_
        refine lv_iload hx hb dL_law_62 (lv_at hl 5 rfl) ?_
        refine lv_imul hx hb dL_law_64 ?_
        refine lv_iadd hx hb dL_law_65 ?_
        refine zk_i0 (z_SG (w0 := owx Z o a b (S, T, h)) (As := [.ref o, .ref x2, .int ((x4 >>> ((2 * x5) &&& 31)) + (199 * x5))]) (rest := []) pE_ok hE.1 hS hA ⟨hx, hb, hml, hown, hts⟩ (m_L_act l D Z o a b x2 ((x4 >>> ((2 * x5) &&& 31)) + (199 * x5)) _ (S, T, h) hf) gL_law_L_act rfl rfl rfl hds_L_act ⟨Nat.le_of_ble_eq_true rfl, Nat.le_of_ble_eq_true rfl⟩ hK hP hD rfl hl.1 rfl (Nat.le_of_ble_eq_true rfl) dL_law_66 ⟨(show cc + 4 ≤ 1200172 from by omega), (show sc + 19 ≤ 5500668 from by omega)⟩) hD hS hA (fun v143 u142 H locs hf hP hD hS => ?_)
        have hP : va_P D vwCl (hw (owl Z o a b u142.1 u142.2.1) u142.2.2) H := hP
        have hD : va_D A (hw (owl Z o a b u142.1 u142.2.1) u142.2.2) := hD
        refine lv_if_ne (tgt := 74) hx hb dL_law_69 (by decide) (fun c144 => ?_) (fun c144 => ?_)
        · have hf := ifP hf c144
          refine lv_iinc (v := (x5 + 1)) (lv' := [(5, .int (x5 + 1)), (0, .ref bs), (1, .ref o), (2, .ref x2), (3, .int x3), (4, .int x4)]) hx hb dL_law_74 hl (k := 5) rfl rfl (by decide) rfl (fun ls hl => ?_)
          refine lv_goto (tgt := 44) hx hb dL_law_77 (by decide) ?_
          exact ih x2 x3 x4 (x5 + 1) u142.1 u142.2.1 u142.2.2 (cc + 4) (sc + 19) _ _ (by omega) (by omega) hP hD hS ls (lv_sub hl [1, 2, 3, 4, 5, 0] rfl) hf
        · have hf := itP hf c144
          refine lv_iconst (v := 0) hx hb dL_law_72 (by decide) ?_
          exact hf.elim
  have L22 : ∀ (n : Nat) (x2 : Nat) (x3 : Int32) (S : RS) (T : RS) (h : PH) (cc sc : Nat) (H : Heap) (locs : List Loc), cc + (350 * n + 0) ≤ 1200000 → sc + (2900 * n + 0) ≤ 5500000 → va_P D vwCl (hw (owl Z o a b S T) h) H → va_D A (hw (owl Z o a b S T) h) → va_S A s.heap H locs → ∀ ls : Array Slot, lv_has ls 22 [(0, .ref bs), (1, .ref o), (2, .ref x2), (3, .int x3)] → w_L_law_L22 Z L xs K n x2 x3 S T h → W p l e room_1 s m #[Value.ref bs] below meth c H locs cc sc Q (F0 m 22 ls []) := by
    intro n
    induction n with
    | zero =>
      intro x2 x3 S T h cc sc  H locs hcc hsc hP hD hS ls hl hf
      exact hf.elim
    | succ n ih =>
      intro x2 x3 S T h cc sc  H locs hcc hsc hP hD hS ls hl hf
      rw [w_L_law_L22] at hf
      refine lv_iload_n hx hb dL_law_22 rfl (lv_at hl 3 rfl) ?_
      refine lv_bipush (v := 14) hx hb dL_law_23 (by decide) ?_
      refine lv_icmp_ge (tgt := 708) hx hb dL_law_25 (by decide) (fun c7 => ?_) (fun c7 => ?_)
      · have hf := itP hf c7
        exact hEnd x2 (S, T, h) cc sc _ _ _ hf (by omega) (by omega) hP hD hS (lv_sub hl [0, 1, 2] rfl)
      · have hf := ifP hf c7
        refine lv_aload_n hx hb dL_law_28 rfl (lv_at hl 0 rfl) ?_
        refine lv_iload_n hx hb dL_law_29 rfl (lv_at hl 3 rfl) ?_
        obtain ⟨v8, hv9, hf⟩ := hf
        refine zc_i (z_SG (w0 := []) (As := [.ref bs, .int x3]) (rest := []) sE_ok hE hS hA ⟨hx, hb, hml, hown, hts⟩ (m_L_cell l D Z bs L xs x3 v8 hv9) gL_law_L_cell rfl rfl rfl hds_L_cell ⟨Nat.le_of_ble_eq_true rfl, Nat.le_of_ble_eq_true rfl⟩ hK z_nilP (A := A) z_nilD rfl hl.1 rfl (Nat.le_of_ble_eq_true rfl) dL_law_30 ⟨(show cc + 0 ≤ 1200172 from by omega), (show sc + 0 ≤ 5500668 from by omega)⟩) hP hS hA (fun H locs hP hS => ?_)
        refine lv_sipush (v := 281) hx hb dL_law_33 (by decide) ?_
        refine lv_iload_n hx hb dL_law_36 rfl (lv_at hl 3 rfl) ?_
        refine lv_imul hx hb dL_law_37 ?_
        refine lv_iadd hx hb dL_law_38 ?_
        refine lv_istore (lv' := [(4, .int (v8 + (281 * x3))), (0, .ref bs), (1, .ref o), (2, .ref x2), (3, .int x3)]) hx hb dL_law_39 hl (by decide) rfl (fun ls hl => ?_)
        refine lv_iconst (v := 0) hx hb dL_law_41 (by decide) ?_
        refine lv_istore (lv' := [(5, .int 0), (4, .int (v8 + (281 * x3))), (0, .ref bs), (1, .ref o), (2, .ref x2), (3, .int x3)]) hx hb dL_law_42 hl (by decide) rfl (fun ls hl => ?_)
        exact L44 (350 * n + 0) (2900 * n + 0) _ ih 5 x2 x3 (v8 + (281 * x3)) 0 S T h cc sc _ _ (by omega) (by omega) hP hD hS ls (lv_sub hl [2, 3, 4, 5, 1, 0] rfl) hf
  unfold wf_L_law at hf
  refine lv_aload_n hx hb dL_law_8 rfl (lv_at hl 1 rfl) ?_
  refine lv_aload_n hx hb dL_law_9 rfl (lv_at hl 0 rfl) ?_
  refine zk_q0 (z_SG (w0 := owx Z o a b (S, T, h)) (As := [.ref o, .ref bs]) (rest := []) sE_ok hE hS hA ⟨hx, hb, hml, hown, hts⟩ (m_L_build l D Z o a b bs L xs _ (S, T, h) hf) gL_law_L_build rfl rfl rfl hds_L_build ⟨Nat.le_of_ble_eq_true rfl, Nat.le_of_ble_eq_true rfl⟩ hK hP hD rfl hl.1 rfl (Nat.le_of_ble_eq_true rfl) dL_law_10 ⟨(show cc0 + 1765 ≤ 1200172 from by omega), (show sc0 + 13568 ≤ 5500668 from by omega)⟩) hD hS hA (fun r5 u4 H locs hf hP hD hS => ?_)
  have hP : va_P D vwCl (hw (owl Z o a b u4.1 u4.2.1) u4.2.2) H := hP
  have hD : va_D A (hw (owl Z o a b u4.1 u4.2.1) u4.2.2) := hD
  rcases r5 with _ | b6
  · have hf := opm_n hf
    refine lv_astore_nN (lv' := [(2, .null), (0, .ref bs), (1, .ref o)]) hx hb dL_law_13 rfl hl (by decide) rfl (fun ls hl => ?_)
    refine lv_aload_nN hx hb dL_law_14 rfl (lv_at hl 0 rfl) ?_
    refine lv_ifnonnullN hx hb dL_law_15 ?_
    refine lv_iconst (v := 0) hx hb dL_law_18 (by decide) ?_
    exact hf.elim
  · have hf := opm_s hf
    refine lv_astore_n (lv' := [(2, .ref b6), (0, .ref bs), (1, .ref o)]) hx hb dL_law_13 rfl hl (by decide) rfl (fun ls hl => ?_)
    refine lv_aload_n hx hb dL_law_14 rfl (lv_at hl 0 rfl) ?_
    refine lv_ifnonnull (tgt := 20) hx hb dL_law_15 (by decide) ?_
    refine lv_iconst (v := 0) hx hb dL_law_20 (by decide) ?_
    refine lv_istore_n (lv' := [(3, .int 0), (2, .ref b6), (0, .ref bs), (1, .ref o)]) hx hb dL_law_21 rfl hl (by decide) rfl (fun ls hl => ?_)
    exact L22 16 b6 0 u4.1 u4.2.1 u4.2.2 (cc0 + 1765) (sc0 + 13568) _ _ (by omega) (by omega) hP hD hS ls (lv_sub hl [2, 3, 1, 0] rfl) hf

