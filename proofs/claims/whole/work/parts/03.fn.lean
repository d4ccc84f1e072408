/-! the pure functions, a method each: none where the machine itself would throw or a loop has no fuel -/
def tk_T (j : Nat) : Int32 := ([1, 1, 2, 2, 3, 2, 2, 1, 0, 2, 2, 2, 2, 2, 2, 2, 2, 2, 2, 2, 2, 2, 2, 2, 1, 1, 1, 1, 1, 1, 2, 2, 1, 1, 0, 0, 0, 1, 0, 1, 0, 2, 0, 0, 0, 0, 0, 0, 0, 0, 0, 0, 0] : List Int32).getD j 0
def tk_G (j : Nat) : Int32 := ([2, 0, 2, 3, 3, 1, 3, 2, 1, 1, 1, 1, 1, 1, 1, 1, 1, 1, 1, 1, 1, 1, 1, 1, 1, 1, 1, 1, 1, 1, 0, 0, 0, 0, 0, 0, 0, 0, 0, 0, 0, 0, 0, 1, 0, 0, 0, 0, 0, 1, 0, 0, 0] : List Int32).getD j 0
def fnX0_opAt (Code_ops : Nat → Int32) (p0 : Int32) : Option (Int32) :=
  if p0 < 0 then
    some (52 : Int32)
  else
    if (200 : Int32) ≤ p0 then
      some (52 : Int32)
    else
      bd1 (ga 200 Code_ops p0) fun x_3 =>
        some x_3
def fnX0_argAt (Code_args : Nat → Int32) (p0 : Int32) : Option (Int32) :=
  if p0 < 0 then
    some (0 : Int32)
  else
    if (200 : Int32) ≤ p0 then
      some (0 : Int32)
    else
      bd1 (ga 200 Code_args p0) fun x_3 =>
        some x_3
def fnX0_set (Code_ops : Nat → Int32) (Code_args : Nat → Int32) (p0 : Int32) (p1 : Int32) (p2 : Int32) : Option ((Nat → Int32) × (Nat → Int32)) :=
  if p0 < 0 then
    some (Code_ops, Code_args)
  else
    if (200 : Int32) ≤ p0 then
      some (Code_ops, Code_args)
    else
      bd1 (sa 200 Code_ops p0 p1) fun f_3 =>
        bd1 (sa 200 Code_args p0 p2) fun f_6 =>
        some (f_3, f_6)
def fnX0_lead (Code_args : Nat → Int32) (p0 : Int32) (p1 : Int32) : Option ((Nat → Int32)) :=
  if p0 < 0 then
    some Code_args
  else
    if (200 : Int32) ≤ p0 then
      some Code_args
    else
      bd1 (sa 200 Code_args p0 p1) fun f_3 =>
        some f_3
def fnX1_size (Dictionary_size : Int32)  : Option (Int32) :=
  some Dictionary_size
def fnX1_has (Dictionary_size : Int32) (p0 : Int32) : Option (Int32) :=
  if p0 < 0 then
    some (0 : Int32)
  else
    if Dictionary_size ≤ p0 then
      some (0 : Int32)
    else
      some (1 : Int32)
def fnX1_keyOf (Dictionary_keys : Nat → Int64) (p0 : Int32) : Option (Int64) :=
  if p0 < 0 then
    some (0 : Int64)
  else
    if (20 : Int32) ≤ p0 then
      some (0 : Int64)
    else
      bd1 (ga 20 Dictionary_keys p0) fun x_3 =>
        some x_3
def fnX1_startOf (Dictionary_starts : Nat → Int32) (p0 : Int32) : Option (Int32) :=
  if p0 < 0 then
    some (0 : Int32)
  else
    if (21 : Int32) ≤ p0 then
      some (0 : Int32)
    else
      bd1 (ga 21 Dictionary_starts p0) fun x_3 =>
        some x_3
def fnX1_endOf (Dictionary_starts : Nat → Int32) (p0 : Int32) : Option (Int32) :=
  if p0 < 0 then
    some (0 : Int32)
  else
    if ((21 : Int32) - (1 : Int32)) ≤ p0 then
      some (0 : Int32)
    else
      bd1 (ga 21 Dictionary_starts (p0 + (1 : Int32))) fun x_3 =>
        some x_3
def fnX1_find_7 (Dictionary_keys : Nat → Int64) (Dictionary_size : Int32)  : Nat → Int64 → Int32 → Option (Int32)
  | 0, _, _ => none
  | n + 1, x1, x3 =>
    if x3 < 0 then
      some (-1 : Int32)
    else
      bd1 (fnX1_keyOf Dictionary_keys x3) fun r_2 =>
        if (lg_cmp r_2 x1) = 0 then
        some x3
      else
        (fnX1_find_7 Dictionary_keys Dictionary_size n) x1 (x3 + (-1 : Int32))
def fnX1_find (Dictionary_keys : Nat → Int64) (Dictionary_size : Int32) (p0 : Int64) : Option (Int32) :=
  fnX1_find_7 Dictionary_keys Dictionary_size fuel_ p0 (Dictionary_size - (1 : Int32))
def fnX1_forgetFrom (Dictionary_size : Int32) (p0 : Int32) : Option (Int32) :=
  if p0 < 0 then
    some Dictionary_size
  else
    if Dictionary_size ≤ p0 then
      some Dictionary_size
    else
      some p0
def fnX1_openBody (Dictionary_openLength : Int32)  : Option (Int32) :=
  some (0 : Int32)
def fnX1_addWord (Code_ops : Nat → Int32) (Code_args : Nat → Int32) (Dictionary_starts : Nat → Int32) (Dictionary_size : Int32) (Dictionary_openLength : Int32) (p0 : Int32) (p1 : Int32) : Option ((Nat → Int32) × (Nat → Int32) × Int32) :=
  bd1 (fnX1_startOf Dictionary_starts Dictionary_size) fun r_1 =>
    bd2 (fnX0_set Code_ops Code_args (r_1 + Dictionary_openLength) p0 p1) fun Code_ops_2 Code_args_2 =>
    some (Code_ops_2, Code_args_2, Dictionary_openLength + (1 : Int32))
def fnX2_begin (Linker_waiting : Nat → Int32) (Linker_open : Int32) (Linker_openLoops : Int32) (p0 : Int32) (p1 : Int32) : Option (Int32 × (Nat → Int32) × Int32 × Int32) :=
  if Linker_open < 0 then
    some ((0 : Int32), Linker_waiting, Linker_open, Linker_openLoops)
  else
    if Linker_open < (8 : Int32) then
      bd1 (sa 8 Linker_waiting Linker_open p0) fun f_3 =>
        if p1 = (41 : Int32) then
        some ((1 : Int32), f_3, Linker_open + (1 : Int32), Linker_openLoops + (1 : Int32))
      else
        some ((1 : Int32), f_3, Linker_open + (1 : Int32), Linker_openLoops)
    else
      some ((0 : Int32), Linker_waiting, Linker_open, Linker_openLoops)
def fnX2_divide (Code_ops : Nat → Int32) (Code_args : Nat → Int32) (Linker_waiting : Nat → Int32) (Linker_open : Int32) (p0 : Int32) (p1 : Int32) : Option (Int32 × (Nat → Int32) × (Nat → Int32)) :=
  if Linker_open ≤ 0 then
    some ((0 : Int32), Code_args, Linker_waiting)
  else
    if Linker_open ≤ (8 : Int32) then
      bd1 (ga 8 Linker_waiting (Linker_open - (1 : Int32))) fun x_3 =>
        bd1 (sa 8 Linker_waiting (Linker_open - (1 : Int32)) p0) fun f_6 =>
        if p1 = (34 : Int32) then
        bd1 (fnX0_lead Code_args x_3 (p0 + (1 : Int32))) fun Code_args_13 =>
          bd1 (fnX0_opAt Code_ops x_3) fun r_14 =>
          if r_14 = (33 : Int32) then
          some ((1 : Int32), Code_args_13, f_6)
        else
          some ((0 : Int32), Code_args_13, f_6)
      else
        bd1 (fnX0_lead Code_args p0 (x_3 + (1 : Int32))) fun Code_args_10 =>
          bd1 (fnX0_opAt Code_ops x_3) fun r_11 =>
          if r_11 = (36 : Int32) then
          some ((1 : Int32), Code_args_10, f_6)
        else
          some ((0 : Int32), Code_args_10, f_6)
    else
      some ((0 : Int32), Code_args, Linker_waiting)
def fnX2_close (Code_ops : Nat → Int32) (Code_args : Nat → Int32) (Linker_waiting : Nat → Int32) (Linker_open : Int32) (Linker_openLoops : Int32) (p0 : Int32) (p1 : Int32) : Option (Int32 × (Nat → Int32) × Int32 × Int32) :=
  if Linker_open ≤ 0 then
    some ((0 : Int32), Code_args, Linker_open, Linker_openLoops)
  else
    if Linker_open ≤ (8 : Int32) then
      bd1 (ga 8 Linker_waiting (Linker_open - (1 : Int32))) fun x_3 =>
        bd1 (fnX0_opAt Code_ops x_3) fun r_6 =>
        if p1 = (35 : Int32) then
        bd1 (fnX0_lead Code_args x_3 (p0 + (1 : Int32))) fun Code_args_8 =>
          if r_6 = (33 : Int32) then
          some ((1 : Int32), Code_args_8, Linker_open - (1 : Int32), Linker_openLoops)
        else
          if r_6 = (34 : Int32) then
            some ((1 : Int32), Code_args_8, Linker_open - (1 : Int32), Linker_openLoops)
          else
            some ((0 : Int32), Code_args_8, Linker_open - (1 : Int32), Linker_openLoops)
      else if p1 = (40 : Int32) then
        bd1 (fnX0_argAt Code_args x_3) fun r_12 =>
          bd1 (fnX0_lead Code_args p0 r_12) fun Code_args_13 =>
          bd1 (fnX0_lead Code_args_13 x_3 (p0 + (1 : Int32))) fun Code_args_14 =>
          if r_6 = (39 : Int32) then
          some ((1 : Int32), Code_args_14, Linker_open - (1 : Int32), Linker_openLoops)
        else
          some ((0 : Int32), Code_args_14, Linker_open - (1 : Int32), Linker_openLoops)
      else if p1 = (42 : Int32) then
        bd1 (fnX0_lead Code_args p0 (x_3 + (1 : Int32))) fun Code_args_17 =>
          if r_6 = (41 : Int32) then
          some ((1 : Int32), Code_args_17, Linker_open - (1 : Int32), Linker_openLoops - (1 : Int32))
        else
          some ((0 : Int32), Code_args_17, Linker_open - (1 : Int32), Linker_openLoops - (1 : Int32))
      else 
        bd1 (fnX0_lead Code_args p0 (x_3 + (1 : Int32))) fun Code_args_19 =>
          if r_6 = (36 : Int32) then
          some ((1 : Int32), Code_args_19, Linker_open - (1 : Int32), Linker_openLoops)
        else
          some ((0 : Int32), Code_args_19, Linker_open - (1 : Int32), Linker_openLoops)
    else
      some ((0 : Int32), Code_args, Linker_open, Linker_openLoops)
def fnX2_link_148 (Code_ops : Nat → Int32) (k15 : Int32 → Int32 → Int32 → (Nat → Int32) → (Nat → Int32) → Int32 → Int32 → Option (Int32 × (Nat → Int32) × (Nat → Int32) × Int32 × Int32)) (x2 : Int32) (x3 : Int32) (x4 : Int32) (Code_args : Nat → Int32) (Linker_waiting : Nat → Int32) (Linker_open : Int32) (Linker_openLoops : Int32) : Option (Int32 × (Nat → Int32) × (Nat → Int32) × Int32 × Int32) :=
  k15 x2 x3 (x4 + (1 : Int32)) Code_args Linker_waiting Linker_open Linker_openLoops
def fnX2_link_96 (Code_ops : Nat → Int32) (k15 : Int32 → Int32 → Int32 → (Nat → Int32) → (Nat → Int32) → Int32 → Int32 → Option (Int32 × (Nat → Int32) × (Nat → Int32) × Int32 × Int32)) (x2 : Int32) (x4 : Int32) (x5 : Int32) (Code_args : Nat → Int32) (Linker_waiting : Nat → Int32) (Linker_open : Int32) (Linker_openLoops : Int32) : Option (Int32 × (Nat → Int32) × (Nat → Int32) × Int32 × Int32) :=
  bd4 (fnX2_begin Linker_waiting Linker_open Linker_openLoops x4 x5) fun r_1 Linker_waiting_1 Linker_open_1 Linker_openLoops_1 =>
    fnX2_link_148 Code_ops k15 x2 r_1 x4 Code_args Linker_waiting_1 Linker_open_1 Linker_openLoops_1
def fnX2_link_108 (Code_ops : Nat → Int32) (k15 : Int32 → Int32 → Int32 → (Nat → Int32) → (Nat → Int32) → Int32 → Int32 → Option (Int32 × (Nat → Int32) × (Nat → Int32) × Int32 × Int32)) (x2 : Int32) (x4 : Int32) (x5 : Int32) (Code_args : Nat → Int32) (Linker_waiting : Nat → Int32) (Linker_open : Int32) (Linker_openLoops : Int32) : Option (Int32 × (Nat → Int32) × (Nat → Int32) × Int32 × Int32) :=
  bd3 (fnX2_divide Code_ops Code_args Linker_waiting Linker_open x4 x5) fun r_2 Code_args_2 Linker_waiting_2 =>
    fnX2_link_148 Code_ops k15 x2 r_2 x4 Code_args_2 Linker_waiting_2 Linker_open Linker_openLoops
def fnX2_link_120 (Code_ops : Nat → Int32) (k15 : Int32 → Int32 → Int32 → (Nat → Int32) → (Nat → Int32) → Int32 → Int32 → Option (Int32 × (Nat → Int32) × (Nat → Int32) × Int32 × Int32)) (x2 : Int32) (x4 : Int32) (x5 : Int32) (Code_args : Nat → Int32) (Linker_waiting : Nat → Int32) (Linker_open : Int32) (Linker_openLoops : Int32) : Option (Int32 × (Nat → Int32) × (Nat → Int32) × Int32 × Int32) :=
  bd4 (fnX2_close Code_ops Code_args Linker_waiting Linker_open Linker_openLoops x4 x5) fun r_3 Code_args_3 Linker_open_3 Linker_openLoops_3 =>
    fnX2_link_148 Code_ops k15 x2 r_3 x4 Code_args_3 Linker_waiting Linker_open_3 Linker_openLoops_3
def fnX2_link_144 (Code_ops : Nat → Int32) (k15 : Int32 → Int32 → Int32 → (Nat → Int32) → (Nat → Int32) → Int32 → Int32 → Option (Int32 × (Nat → Int32) × (Nat → Int32) × Int32 × Int32)) (x2 : Int32) (x4 : Int32) (z0 : Int32) (Code_args : Nat → Int32) (Linker_waiting : Nat → Int32) (Linker_open : Int32) (Linker_openLoops : Int32) : Option (Int32 × (Nat → Int32) × (Nat → Int32) × Int32 × Int32) :=
  fnX2_link_148 Code_ops k15 x2 z0 x4 Code_args Linker_waiting Linker_open Linker_openLoops
def fnX2_link_154 (Code_ops : Nat → Int32)  (x3 : Int32) (Code_args : Nat → Int32) (Linker_waiting : Nat → Int32) (Linker_open : Int32) (Linker_openLoops : Int32) : Option (Int32 × (Nat → Int32) × (Nat → Int32) × Int32 × Int32) :=
  if x3 = 0 then
    some ((0 : Int32), Code_args, Linker_waiting, Linker_open, Linker_openLoops)
  else
    if Linker_open = 0 then
      some ((1 : Int32), Code_args, Linker_waiting, Linker_open, Linker_openLoops)
    else
      some ((0 : Int32), Code_args, Linker_waiting, Linker_open, Linker_openLoops)
def fnX2_link_15 (Code_ops : Nat → Int32)  : Nat → Int32 → Int32 → Int32 → (Nat → Int32) → (Nat → Int32) → Int32 → Int32 → Option (Int32 × (Nat → Int32) × (Nat → Int32) × Int32 × Int32)
  | 0, _, _, _, _, _, _, _ => none
  | n + 1, x2, x3, x4, Code_args, Linker_waiting, Linker_open, Linker_openLoops =>
    if x2 ≤ x4 then
      fnX2_link_154 Code_ops x3 Code_args Linker_waiting Linker_open Linker_openLoops
    else
      if x3 = 0 then
        fnX2_link_154 Code_ops x3 Code_args Linker_waiting Linker_open Linker_openLoops
      else
        bd1 (fnX0_opAt Code_ops x4) fun r_8 =>
          if r_8 = (33 : Int32) then
          fnX2_link_96 Code_ops (fnX2_link_15 Code_ops n) x2 x4 r_8 Code_args Linker_waiting Linker_open Linker_openLoops
        else if r_8 = (34 : Int32) then
          fnX2_link_108 Code_ops (fnX2_link_15 Code_ops n) x2 x4 r_8 Code_args Linker_waiting Linker_open Linker_openLoops
        else if r_8 = (35 : Int32) then
          fnX2_link_120 Code_ops (fnX2_link_15 Code_ops n) x2 x4 r_8 Code_args Linker_waiting Linker_open Linker_openLoops
        else if r_8 = (36 : Int32) then
          fnX2_link_96 Code_ops (fnX2_link_15 Code_ops n) x2 x4 r_8 Code_args Linker_waiting Linker_open Linker_openLoops
        else if r_8 = (37 : Int32) then
          fnX2_link_120 Code_ops (fnX2_link_15 Code_ops n) x2 x4 r_8 Code_args Linker_waiting Linker_open Linker_openLoops
        else if r_8 = (38 : Int32) then
          fnX2_link_120 Code_ops (fnX2_link_15 Code_ops n) x2 x4 r_8 Code_args Linker_waiting Linker_open Linker_openLoops
        else if r_8 = (39 : Int32) then
          fnX2_link_108 Code_ops (fnX2_link_15 Code_ops n) x2 x4 r_8 Code_args Linker_waiting Linker_open Linker_openLoops
        else if r_8 = (40 : Int32) then
          fnX2_link_120 Code_ops (fnX2_link_15 Code_ops n) x2 x4 r_8 Code_args Linker_waiting Linker_open Linker_openLoops
        else if r_8 = (41 : Int32) then
          fnX2_link_96 Code_ops (fnX2_link_15 Code_ops n) x2 x4 r_8 Code_args Linker_waiting Linker_open Linker_openLoops
        else if r_8 = (42 : Int32) then
          fnX2_link_120 Code_ops (fnX2_link_15 Code_ops n) x2 x4 r_8 Code_args Linker_waiting Linker_open Linker_openLoops
        else if r_8 = (43 : Int32) then
          if Linker_openLoops ≤ 0 then
            fnX2_link_144 Code_ops (fnX2_link_15 Code_ops n) x2 x4 (0 : Int32) Code_args Linker_waiting Linker_open Linker_openLoops
          else
            fnX2_link_144 Code_ops (fnX2_link_15 Code_ops n) x2 x4 (1 : Int32) Code_args Linker_waiting Linker_open Linker_openLoops
        else 
          fnX2_link_148 Code_ops (fnX2_link_15 Code_ops n) x2 x3 x4 Code_args Linker_waiting Linker_open Linker_openLoops
def fnX2_link (Code_ops : Nat → Int32) (Code_args : Nat → Int32) (Linker_waiting : Nat → Int32) (Linker_open : Int32) (Linker_openLoops : Int32) (p0 : Int32) (p1 : Int32) : Option (Int32 × (Nat → Int32) × (Nat → Int32) × Int32 × Int32) :=
  fnX2_link_15 Code_ops fuel_ p1 (1 : Int32) p0 Code_args Linker_waiting (0 : Int32) (0 : Int32)
def fnX1_closeBody (Code_ops : Nat → Int32) (Code_args : Nat → Int32) (Dictionary_keys : Nat → Int64) (Dictionary_starts : Nat → Int32) (Dictionary_size : Int32) (Dictionary_openLength : Int32) (Linker_waiting : Nat → Int32) (Linker_open : Int32) (Linker_openLoops : Int32) (p0 : Int64) : Option (Int32 × (Nat → Int32) × (Nat → Int64) × (Nat → Int32) × Int32 × (Nat → Int32) × Int32 × Int32) :=
  bd1 (fnX1_startOf Dictionary_starts Dictionary_size) fun r_1 =>
    if Dictionary_size < 0 then
    some ((9 : Int32), Code_args, Dictionary_keys, Dictionary_starts, Dictionary_size, Linker_waiting, Linker_open, Linker_openLoops)
  else
    if (20 : Int32) ≤ Dictionary_size then
      some ((9 : Int32), Code_args, Dictionary_keys, Dictionary_starts, Dictionary_size, Linker_waiting, Linker_open, Linker_openLoops)
    else
      if (r_1 + Dictionary_openLength) ≤ (200 : Int32) then
        bd5 (fnX2_link Code_ops Code_args Linker_waiting Linker_open Linker_openLoops r_1 (r_1 + Dictionary_openLength)) fun r_5 Code_args_5 Linker_waiting_5 Linker_open_5 Linker_openLoops_5 =>
          if r_5 = 0 then
          some ((2 : Int32), Code_args_5, Dictionary_keys, Dictionary_starts, Dictionary_size, Linker_waiting_5, Linker_open_5, Linker_openLoops_5)
        else
          bd1 (sl 20 Dictionary_keys Dictionary_size p0) fun f_7 =>
            bd1 (sa 21 Dictionary_starts (Dictionary_size + (1 : Int32)) (r_1 + Dictionary_openLength)) fun f_10 =>
            some ((0 : Int32), Code_args_5, f_7, f_10, Dictionary_size + (1 : Int32), Linker_waiting_5, Linker_open_5, Linker_openLoops_5)
      else
        some ((9 : Int32), Code_args, Dictionary_keys, Dictionary_starts, Dictionary_size, Linker_waiting, Linker_open, Linker_openLoops)
def fnX3_faultPlace (Loader_faultPlace : Int32)  : Option (Int32) :=
  some Loader_faultPlace
def fnX4_closeDownTo (Loops_open : Int32) (p0 : Int32) : Option (Int32) :=
  if p0 < 0 then
    some Loops_open
  else
    if Loops_open ≤ p0 then
      some Loops_open
    else
      some p0
def fnX5_begin (Loops_open : Int32) (Machine_bodies : Int32) (Machine_steps : Int32)  : Option (Int32 × Int32 × Int32) :=
  bd1 (fnX4_closeDownTo Loops_open (0 : Int32)) fun Loops_open_1 =>
    some (Loops_open_1, (0 : Int32), (0 : Int32))
def fnX9_rewind (Text_wordEnd : Int32) (Text_wordPlace : Int32)  : Option (Int32 × Int32) :=
  some ((0 : Int32), (-1 : Int32))
def fnX9_charAt (Text_codes : Nat → Int32) (Text_length : Int32) (p0 : Int32) : Option (Int32) :=
  if p0 < 0 then
    some (32 : Int32)
  else
    if Text_length ≤ p0 then
      some (32 : Int32)
    else
      if (300 : Int32) ≤ p0 then
        some (32 : Int32)
      else
        bd1 (ga 300 Text_codes p0) fun x_4 =>
          gd_ (vp_nar .char x_4 = x_4) (some x_4)
def fnX9_advance_90 (Text_codes : Nat → Int32) (Text_length : Int32)  (Text_wordStart : Int32) (Text_wordEnd : Int32) (Text_wordPlace : Int32) : Option (Int32 × Int32 × Int32 × Int32) :=
  if Text_wordEnd ≤ Text_wordStart then
    some ((0 : Int32), Text_wordStart, Text_wordEnd, Text_wordPlace + (1 : Int32))
  else
    some ((1 : Int32), Text_wordStart, Text_wordEnd, Text_wordPlace + (1 : Int32))
def fnX9_advance_53 (Text_codes : Nat → Int32) (Text_length : Int32)  : Nat → Int32 → Int32 → Int32 → Option (Int32 × Int32 × Int32 × Int32)
  | 0, _, _, _ => none
  | n + 1, Text_wordStart, Text_wordEnd, Text_wordPlace =>
    if Text_length ≤ Text_wordEnd then
      fnX9_advance_90 Text_codes Text_length Text_wordStart Text_wordEnd Text_wordPlace
    else
      bd1 (fnX9_charAt Text_codes Text_length Text_wordEnd) fun r_3 =>
        if r_3 = (32 : Int32) then
        fnX9_advance_90 Text_codes Text_length Text_wordStart Text_wordEnd Text_wordPlace
      else
        (fnX9_advance_53 Text_codes Text_length n) Text_wordStart (Text_wordEnd + (1 : Int32)) Text_wordPlace
def fnX9_advance_45 (Text_codes : Nat → Int32) (Text_length : Int32)  (Text_wordStart : Int32) (Text_wordEnd : Int32) (Text_wordPlace : Int32) : Option (Int32 × Int32 × Int32 × Int32) :=
  fnX9_advance_53 Text_codes Text_length fuel_ Text_wordStart Text_wordStart Text_wordPlace
def fnX9_advance_8 (Text_codes : Nat → Int32) (Text_length : Int32)  : Nat → Int32 → Int32 → Int32 → Option (Int32 × Int32 × Int32 × Int32)
  | 0, _, _, _ => none
  | n + 1, Text_wordStart, Text_wordEnd, Text_wordPlace =>
    if Text_length ≤ Text_wordStart then
      fnX9_advance_45 Text_codes Text_length Text_wordStart Text_wordEnd Text_wordPlace
    else
      bd1 (fnX9_charAt Text_codes Text_length Text_wordStart) fun r_6 =>
        if r_6 = (32 : Int32) then
        (fnX9_advance_8 Text_codes Text_length n) (Text_wordStart + (1 : Int32)) Text_wordEnd Text_wordPlace
      else
        fnX9_advance_45 Text_codes Text_length Text_wordStart Text_wordEnd Text_wordPlace
def fnX9_advance (Text_codes : Nat → Int32) (Text_length : Int32) (Text_wordStart : Int32) (Text_wordEnd : Int32) (Text_wordPlace : Int32)  : Option (Int32 × Int32 × Int32 × Int32) :=
  fnX9_advance_8 Text_codes Text_length fuel_ Text_wordEnd Text_wordEnd Text_wordPlace
def fnX9_firstDigit (Text_codes : Nat → Int32) (Text_length : Int32) (Text_wordStart : Int32)  : Option (Int32) :=
  bd1 (fnX9_charAt Text_codes Text_length Text_wordStart) fun r_1 =>
    if r_1 = (45 : Int32) then
    some (Text_wordStart + (1 : Int32))
  else
    some Text_wordStart
def fnX9_isNumber_28 (Text_codes : Nat → Int32) (Text_length : Int32) (Text_wordStart : Int32) (Text_wordEnd : Int32)  : Nat → Int32 → Option (Int32)
  | 0, _ => none
  | n + 1, x2 =>
    if Text_wordEnd ≤ x2 then
      some (1 : Int32)
    else
      bd1 (fnX9_charAt Text_codes Text_length x2) fun r_2 =>
        if r_2 < (48 : Int32) then
        some (0 : Int32)
      else
        bd1 (fnX9_charAt Text_codes Text_length x2) fun r_4 =>
          if r_4 ≤ (57 : Int32) then
          (fnX9_isNumber_28 Text_codes Text_length Text_wordStart Text_wordEnd n) (x2 + (1 : Int32))
        else
          some (0 : Int32)
def fnX9_isNumber (Text_codes : Nat → Int32) (Text_length : Int32) (Text_wordStart : Int32) (Text_wordEnd : Int32)  : Option (Int32) :=
  bd1 (fnX9_firstDigit Text_codes Text_length Text_wordStart) fun r_6 =>
    if Text_wordEnd ≤ r_6 then
    some (0 : Int32)
  else
    if (Text_wordEnd - r_6) ≤ (9 : Int32) then
      fnX9_isNumber_28 Text_codes Text_length Text_wordStart Text_wordEnd fuel_ r_6
    else
      some (0 : Int32)
def fnX9_wordKey_25 (Text_codes : Nat → Int32) (Text_length : Int32) (Text_wordStart : Int32) (Text_wordEnd : Int32)  : Nat → Int64 → Int32 → Option (Int64)
  | 0, _, _ => none
  | n + 1, x1, x3 =>
    if Text_wordEnd ≤ x3 then
      some x1
    else
      bd1 (fnX9_charAt Text_codes Text_length x3) fun r_2 =>
        (fnX9_wordKey_25 Text_codes Text_length Text_wordStart Text_wordEnd n) ((x1 * (128 : Int64)) + r_2.toInt64) (x3 + (1 : Int32))
def fnX9_wordKey (Text_codes : Nat → Int32) (Text_length : Int32) (Text_wordStart : Int32) (Text_wordEnd : Int32)  : Option (Int64) :=
  if (Text_wordEnd - Text_wordStart) ≤ (7 : Int32) then
    fnX9_wordKey_25 Text_codes Text_length Text_wordStart Text_wordEnd fuel_ (0 : Int64) Text_wordStart
  else
    some (-1 : Int64)
def fnX10_find_2 (Vocabulary_keys : Nat → Int64)  : Nat → Int64 → Int32 → Option (Int32)
  | 0, _, _ => none
  | n + 1, x1, x3 =>
    if (49 : Int32) ≤ x3 then
      some (52 : Int32)
    else
      bd1 (ga 49 Vocabulary_keys x3) fun x_2 =>
        if (lg_cmp x_2 x1) = 0 then
        some x3
      else
        (fnX10_find_2 Vocabulary_keys n) x1 (x3 + (1 : Int32))
def fnX10_find (Vocabulary_keys : Nat → Int64) (p0 : Int64) : Option (Int32) :=
  fnX10_find_2 Vocabulary_keys fuel_ p0 (0 : Int32)
def fnX3_opOfWord (Dictionary_keys : Nat → Int64) (Dictionary_size : Int32) (Text_codes : Nat → Int32) (Text_length : Int32) (Text_wordStart : Int32) (Text_wordEnd : Int32) (Vocabulary_keys : Nat → Int64)  : Option (Int32) :=
  bd1 (fnX9_isNumber Text_codes Text_length Text_wordStart Text_wordEnd) fun r_1 =>
    if r_1 = 0 then
    bd1 (fnX9_wordKey Text_codes Text_length Text_wordStart Text_wordEnd) fun r_3 =>
      bd1 (fnX10_find Vocabulary_keys r_3) fun r_4 =>
      if r_4 = (52 : Int32) then
      bd1 (fnX1_find Dictionary_keys Dictionary_size r_3) fun r_6 =>
        if r_6 = (-1 : Int32) then
        some r_4
      else
        some (50 : Int32)
    else
      some r_4
  else
    some (49 : Int32)
def fnX9_wordLength (Text_wordStart : Int32) (Text_wordEnd : Int32)  : Option (Int32) :=
  some (Text_wordEnd - Text_wordStart)
def fnX3_canBeName_12 (Text_wordStart : Int32) (Text_wordEnd : Int32)   : Option (Int32) :=
  bd1 (fnX9_wordLength Text_wordStart Text_wordEnd) fun r_1 =>
    if (6 : Int32) < r_1 then
    some (0 : Int32)
  else
    some (1 : Int32)
def fnX3_canBeName (Text_wordStart : Int32) (Text_wordEnd : Int32) (p0 : Int32) : Option (Int32) :=
  if p0 = (50 : Int32) then
    fnX3_canBeName_12 Text_wordStart Text_wordEnd
  else
    if p0 = (52 : Int32) then
      fnX3_canBeName_12 Text_wordStart Text_wordEnd
    else
      some (0 : Int32)
def fnX9_numberValue_9 (Text_codes : Nat → Int32) (Text_length : Int32) (Text_wordStart : Int32) (Text_wordEnd : Int32)  : Nat → Int32 → Int32 → Int32 → Option (Int32)
  | 0, _, _, _ => none
  | n + 1, x1, x2, x3 =>
    if Text_wordEnd ≤ x3 then
      if x1 ≤ Text_wordStart then
        some x2
      else
        some (-x2)
    else
      bd1 (fnX9_charAt Text_codes Text_length x3) fun r_3 =>
        (fnX9_numberValue_9 Text_codes Text_length Text_wordStart Text_wordEnd n) x1 ((x2 * (10 : Int32)) + (r_3 - (48 : Int32))) (x3 + (1 : Int32))
def fnX9_numberValue (Text_codes : Nat → Int32) (Text_length : Int32) (Text_wordStart : Int32) (Text_wordEnd : Int32)  : Option (Int32) :=
  bd1 (fnX9_firstDigit Text_codes Text_length Text_wordStart) fun r_4 =>
    fnX9_numberValue_9 Text_codes Text_length Text_wordStart Text_wordEnd fuel_ r_4 (0 : Int32) r_4
def fnX3_argOfWord (Dictionary_keys : Nat → Int64) (Dictionary_size : Int32) (Text_codes : Nat → Int32) (Text_length : Int32) (Text_wordStart : Int32) (Text_wordEnd : Int32) (p0 : Int32) : Option (Int32) :=
  if p0 = (45 : Int32) then
    bd1 (fnX1_size Dictionary_size) fun r_2 =>
      some r_2
  else if p0 = (49 : Int32) then
    bd1 (fnX9_numberValue Text_codes Text_length Text_wordStart Text_wordEnd) fun r_4 =>
      some r_4
  else if p0 = (50 : Int32) then
    bd1 (fnX9_wordKey Text_codes Text_length Text_wordStart Text_wordEnd) fun r_6 =>
      bd1 (fnX1_find Dictionary_keys Dictionary_size r_6) fun r_7 =>
      some r_7
  else 
    some (0 : Int32)
def fnX3_define_43 (Text_codes : Nat → Int32) (Text_length : Int32) (Vocabulary_keys : Nat → Int64)  : Nat → Int64 → Int32 → (Nat → Int32) → (Nat → Int32) → (Nat → Int64) → (Nat → Int32) → Int32 → Int32 → (Nat → Int32) → Int32 → Int32 → Int32 → Int32 → Int32 → Option (Int32 × (Nat → Int32) × (Nat → Int32) × (Nat → Int64) × (Nat → Int32) × Int32 × Int32 × (Nat → Int32) × Int32 × Int32 × Int32 × Int32 × Int32)
  | 0, _, _, _, _, _, _, _, _, _, _, _, _, _, _ => none
  | n + 1, x1, x3, Code_ops, Code_args, Dictionary_keys, Dictionary_starts, Dictionary_size, Dictionary_openLength, Linker_waiting, Linker_open, Linker_openLoops, Text_wordStart, Text_wordEnd, Text_wordPlace =>
    if (300 : Int32) ≤ x3 then
      some ((1 : Int32), Code_ops, Code_args, Dictionary_keys, Dictionary_starts, Dictionary_size, Dictionary_openLength, Linker_waiting, Linker_open, Linker_openLoops, Text_wordStart, Text_wordEnd, Text_wordPlace)
    else
      bd4 (fnX9_advance Text_codes Text_length Text_wordStart Text_wordEnd Text_wordPlace) fun r_2 Text_wordStart_2 Text_wordEnd_2 Text_wordPlace_2 =>
        if r_2 = 0 then
        some ((1 : Int32), Code_ops, Code_args, Dictionary_keys, Dictionary_starts, Dictionary_size, Dictionary_openLength, Linker_waiting, Linker_open, Linker_openLoops, Text_wordStart_2, Text_wordEnd_2, Text_wordPlace_2)
      else
        bd1 (fnX3_opOfWord Dictionary_keys Dictionary_size Text_codes Text_length Text_wordStart_2 Text_wordEnd_2 Vocabulary_keys) fun r_4 =>
          if r_4 = (47 : Int32) then
          bd8 (fnX1_closeBody Code_ops Code_args Dictionary_keys Dictionary_starts Dictionary_size Dictionary_openLength Linker_waiting Linker_open Linker_openLoops x1) fun r_11 Code_args_11 Dictionary_keys_11 Dictionary_starts_11 Dictionary_size_11 Linker_waiting_11 Linker_open_11 Linker_openLoops_11 =>
            some (r_11, Code_ops, Code_args_11, Dictionary_keys_11, Dictionary_starts_11, Dictionary_size_11, Dictionary_openLength, Linker_waiting_11, Linker_open_11, Linker_openLoops_11, Text_wordStart_2, Text_wordEnd_2, Text_wordPlace_2)
        else
          if r_4 = (46 : Int32) then
            some ((1 : Int32), Code_ops, Code_args, Dictionary_keys, Dictionary_starts, Dictionary_size, Dictionary_openLength, Linker_waiting, Linker_open, Linker_openLoops, Text_wordStart_2, Text_wordEnd_2, Text_wordPlace_2)
          else
            if r_4 = (48 : Int32) then
              some ((1 : Int32), Code_ops, Code_args, Dictionary_keys, Dictionary_starts, Dictionary_size, Dictionary_openLength, Linker_waiting, Linker_open, Linker_openLoops, Text_wordStart_2, Text_wordEnd_2, Text_wordPlace_2)
            else
              if r_4 = (52 : Int32) then
                some ((1 : Int32), Code_ops, Code_args, Dictionary_keys, Dictionary_starts, Dictionary_size, Dictionary_openLength, Linker_waiting, Linker_open, Linker_openLoops, Text_wordStart_2, Text_wordEnd_2, Text_wordPlace_2)
              else
                bd1 (fnX3_argOfWord Dictionary_keys Dictionary_size Text_codes Text_length Text_wordStart_2 Text_wordEnd_2 r_4) fun r_9 =>
                  bd3 (fnX1_addWord Code_ops Code_args Dictionary_starts Dictionary_size Dictionary_openLength r_4 r_9) fun Code_ops_10 Code_args_10 Dictionary_openLength_10 =>
                  (fnX3_define_43 Text_codes Text_length Vocabulary_keys n) x1 (x3 + (1 : Int32)) Code_ops_10 Code_args_10 Dictionary_keys Dictionary_starts Dictionary_size Dictionary_openLength_10 Linker_waiting Linker_open Linker_openLoops Text_wordStart_2 Text_wordEnd_2 Text_wordPlace_2
def fnX3_define (Code_ops : Nat → Int32) (Code_args : Nat → Int32) (Dictionary_keys : Nat → Int64) (Dictionary_starts : Nat → Int32) (Dictionary_size : Int32) (Dictionary_openLength : Int32) (Linker_waiting : Nat → Int32) (Linker_open : Int32) (Linker_openLoops : Int32) (Text_codes : Nat → Int32) (Text_length : Int32) (Text_wordStart : Int32) (Text_wordEnd : Int32) (Text_wordPlace : Int32) (Vocabulary_keys : Nat → Int64)  : Option (Int32 × (Nat → Int32) × (Nat → Int32) × (Nat → Int64) × (Nat → Int32) × Int32 × Int32 × (Nat → Int32) × Int32 × Int32 × Int32 × Int32 × Int32) :=
  bd4 (fnX9_advance Text_codes Text_length Text_wordStart Text_wordEnd Text_wordPlace) fun r_12 Text_wordStart_12 Text_wordEnd_12 Text_wordPlace_12 =>
    if r_12 = 0 then
    some ((1 : Int32), Code_ops, Code_args, Dictionary_keys, Dictionary_starts, Dictionary_size, Dictionary_openLength, Linker_waiting, Linker_open, Linker_openLoops, Text_wordStart_12, Text_wordEnd_12, Text_wordPlace_12)
  else
    bd1 (fnX3_opOfWord Dictionary_keys Dictionary_size Text_codes Text_length Text_wordStart_12 Text_wordEnd_12 Vocabulary_keys) fun r_14 =>
      bd1 (fnX3_canBeName Text_wordStart_12 Text_wordEnd_12 r_14) fun r_15 =>
      if r_15 = 0 then
      some ((9 : Int32), Code_ops, Code_args, Dictionary_keys, Dictionary_starts, Dictionary_size, Dictionary_openLength, Linker_waiting, Linker_open, Linker_openLoops, Text_wordStart_12, Text_wordEnd_12, Text_wordPlace_12)
    else
      bd1 (fnX9_wordKey Text_codes Text_length Text_wordStart_12 Text_wordEnd_12) fun r_17 =>
        bd1 (fnX1_openBody Dictionary_openLength) fun Dictionary_openLength_18 =>
        fnX3_define_43 Text_codes Text_length Vocabulary_keys fuel_ r_17 (0 : Int32) Code_ops Code_args Dictionary_keys Dictionary_starts Dictionary_size Dictionary_openLength_18 Linker_waiting Linker_open Linker_openLoops Text_wordStart_12 Text_wordEnd_12 Text_wordPlace_12
def fnX3_forget (Dictionary_keys : Nat → Int64) (Dictionary_size : Int32) (Text_codes : Nat → Int32) (Text_length : Int32) (Text_wordStart : Int32) (Text_wordEnd : Int32) (Text_wordPlace : Int32) (Vocabulary_keys : Nat → Int64)  : Option (Int32 × Int32 × Int32 × Int32 × Int32) :=
  bd4 (fnX9_advance Text_codes Text_length Text_wordStart Text_wordEnd Text_wordPlace) fun r_1 Text_wordStart_1 Text_wordEnd_1 Text_wordPlace_1 =>
    if r_1 = 0 then
    some ((1 : Int32), Dictionary_size, Text_wordStart_1, Text_wordEnd_1, Text_wordPlace_1)
  else
    bd1 (fnX3_opOfWord Dictionary_keys Dictionary_size Text_codes Text_length Text_wordStart_1 Text_wordEnd_1 Vocabulary_keys) fun r_3 =>
      if r_3 = (50 : Int32) then
      bd1 (fnX9_wordKey Text_codes Text_length Text_wordStart_1 Text_wordEnd_1) fun r_5 =>
        bd1 (fnX1_find Dictionary_keys Dictionary_size r_5) fun r_6 =>
        bd1 (fnX1_forgetFrom Dictionary_size r_6) fun Dictionary_size_7 =>
        some ((0 : Int32), Dictionary_size_7, Text_wordStart_1, Text_wordEnd_1, Text_wordPlace_1)
    else
      some ((1 : Int32), Dictionary_size, Text_wordStart_1, Text_wordEnd_1, Text_wordPlace_1)
def fnX6_isPlain  (p0 : Int32) : Option (Int32) :=
  if p0 < 0 then
    some (0 : Int32)
  else
    if (32 : Int32) < p0 then
      some (0 : Int32)
    else
      some (1 : Int32)
def fnX6_isStep  (p0 : Int32) : Option (Int32) :=
  if p0 = (34 : Int32) then
    some (0 : Int32)
  else
    if p0 = (35 : Int32) then
      some (0 : Int32)
    else
      if p0 = (36 : Int32) then
        some (0 : Int32)
      else
        some (1 : Int32)
def fnX7_fromTop (Stack_values : Nat → Int32) (Stack_size : Int32) (p0 : Int32) : Option (Int32) :=
  if p0 < 0 then
    some (0 : Int32)
  else
    if Stack_size ≤ p0 then
      some (0 : Int32)
    else
      if (32 : Int32) < Stack_size then
        some (0 : Int32)
      else
        bd1 (ga 32 Stack_values ((Stack_size - (1 : Int32)) - p0)) fun x_4 =>
          some x_4
def fnX7_size (Stack_size : Int32)  : Option (Int32) :=
  some Stack_size
def fnX6_takes  (p0 : Int32) : Option (Int32) :=
  if p0 < 0 then
    some (0 : Int32)
  else
    if (53 : Int32) ≤ p0 then
      some (0 : Int32)
    else
      bd1 (ga 53 tk_T p0) fun x_3 =>
        some x_3
def fnX5_hasCell  (p0 : Int32) : Option (Int32) :=
  if p0 < 0 then
    some (0 : Int32)
  else
    if (16 : Int32) ≤ p0 then
      some (0 : Int32)
    else
      some (1 : Int32)
def fnX4_openCount (Loops_open : Int32)  : Option (Int32) :=
  some Loops_open
def fnX6_gives  (p0 : Int32) : Option (Int32) :=
  if p0 < 0 then
    some (0 : Int32)
  else
    if (53 : Int32) ≤ p0 then
      some (0 : Int32)
    else
      bd1 (ga 53 tk_G p0) fun x_3 =>
        some x_3
def fnX5_faultOf_157 (Loops_open : Int32) (Machine_bodies : Int32) (Machine_steps : Int32) (Stack_values : Nat → Int32) (Stack_size : Int32)  (x1 : Int32) (z0 : Int32) : Option (Int32) :=
  bd1 (fnX7_size Stack_size) fun r_1 =>
    bd1 (fnX6_takes x1) fun r_2 =>
    if ((r_1 - r_2) + z0) ≤ (32 : Int32) then
    some (0 : Int32)
  else
    some (4 : Int32)
def fnX5_faultOf_144 (Loops_open : Int32) (Machine_bodies : Int32) (Machine_steps : Int32) (Stack_values : Nat → Int32) (Stack_size : Int32)  (x1 : Int32) (z0 : Int32) : Option (Int32) :=
  if z0 = 0 then
    bd1 (fnX6_gives x1) fun r_5 =>
      fnX5_faultOf_157 Loops_open Machine_bodies Machine_steps Stack_values Stack_size x1 r_5
  else
    fnX5_faultOf_157 Loops_open Machine_bodies Machine_steps Stack_values Stack_size x1 (1 : Int32)
def fnX5_faultOf_143 (Loops_open : Int32) (Machine_bodies : Int32) (Machine_steps : Int32) (Stack_values : Nat → Int32) (Stack_size : Int32)  (x1 : Int32) : Option (Int32) :=
  fnX5_faultOf_144 Loops_open Machine_bodies Machine_steps Stack_values Stack_size x1 (0 : Int32)
def fnX5_faultOf_129 (Loops_open : Int32) (Machine_bodies : Int32) (Machine_steps : Int32) (Stack_values : Nat → Int32) (Stack_size : Int32)  (x1 : Int32) (x2 : Int32) : Option (Int32) :=
  if x1 = (7 : Int32) then
    if x2 = 0 then
      fnX5_faultOf_144 Loops_open Machine_bodies Machine_steps Stack_values Stack_size x1 (1 : Int32)
    else
      fnX5_faultOf_143 Loops_open Machine_bodies Machine_steps Stack_values Stack_size x1
  else
    fnX5_faultOf_143 Loops_open Machine_bodies Machine_steps Stack_values Stack_size x1
def fnX5_faultOf_108 (Loops_open : Int32) (Machine_bodies : Int32) (Machine_steps : Int32) (Stack_values : Nat → Int32) (Stack_size : Int32)  (x1 : Int32) (x2 : Int32) : Option (Int32) :=
  if x1 = (41 : Int32) then
    bd1 (fnX4_openCount Loops_open) fun r_9 =>
      if r_9 < (12 : Int32) then
      fnX5_faultOf_129 Loops_open Machine_bodies Machine_steps Stack_values Stack_size x1 x2
    else
      some (7 : Int32)
  else
    fnX5_faultOf_129 Loops_open Machine_bodies Machine_steps Stack_values Stack_size x1 x2
def fnX5_faultOf_96 (Loops_open : Int32) (Machine_bodies : Int32) (Machine_steps : Int32) (Stack_values : Nat → Int32) (Stack_size : Int32)  (x1 : Int32) (x2 : Int32) : Option (Int32) :=
  if Machine_bodies < (12 : Int32) then
    fnX5_faultOf_108 Loops_open Machine_bodies Machine_steps Stack_values Stack_size x1 x2
  else
    some (7 : Int32)
def fnX5_faultOf_84 (Loops_open : Int32) (Machine_bodies : Int32) (Machine_steps : Int32) (Stack_values : Nat → Int32) (Stack_size : Int32)  (x1 : Int32) (x2 : Int32) : Option (Int32) :=
  if x1 = (50 : Int32) then
    fnX5_faultOf_96 Loops_open Machine_bodies Machine_steps Stack_values Stack_size x1 x2
  else
    if x1 = (45 : Int32) then
      fnX5_faultOf_96 Loops_open Machine_bodies Machine_steps Stack_values Stack_size x1 x2
    else
      fnX5_faultOf_108 Loops_open Machine_bodies Machine_steps Stack_values Stack_size x1 x2
def fnX5_faultOf_78 (Loops_open : Int32) (Machine_bodies : Int32) (Machine_steps : Int32) (Stack_values : Nat → Int32) (Stack_size : Int32)  (x1 : Int32) (x2 : Int32) : Option (Int32) :=
  if x2 = 0 then
    some (5 : Int32)
  else
    fnX5_faultOf_84 Loops_open Machine_bodies Machine_steps Stack_values Stack_size x1 x2
def fnX5_faultOf_66 (Loops_open : Int32) (Machine_bodies : Int32) (Machine_steps : Int32) (Stack_values : Nat → Int32) (Stack_size : Int32)  (x1 : Int32) (x2 : Int32) : Option (Int32) :=
  if x1 = (12 : Int32) then
    fnX5_faultOf_78 Loops_open Machine_bodies Machine_steps Stack_values Stack_size x1 x2
  else
    if x1 = (13 : Int32) then
      fnX5_faultOf_78 Loops_open Machine_bodies Machine_steps Stack_values Stack_size x1 x2
    else
      fnX5_faultOf_84 Loops_open Machine_bodies Machine_steps Stack_values Stack_size x1 x2
def fnX5_faultOf_56 (Loops_open : Int32) (Machine_bodies : Int32) (Machine_steps : Int32) (Stack_values : Nat → Int32) (Stack_size : Int32)  (x1 : Int32) (x2 : Int32) : Option (Int32) :=
  bd1 (fnX5_hasCell x2) fun r_17 =>
    if r_17 = 0 then
    some (6 : Int32)
  else
    fnX5_faultOf_66 Loops_open Machine_bodies Machine_steps Stack_values Stack_size x1 x2
def fnX5_faultOf (Loops_open : Int32) (Machine_bodies : Int32) (Machine_steps : Int32) (Stack_values : Nat → Int32) (Stack_size : Int32) (p0 : Int32) : Option (Int32) :=
  bd1 (fnX7_fromTop Stack_values Stack_size (0 : Int32)) fun r_19 =>
    if Machine_steps < (1000 : Int32) then
    bd1 (fnX7_size Stack_size) fun r_21 =>
      bd1 (fnX6_takes p0) fun r_22 =>
      if r_22 ≤ r_21 then
      if p0 = (29 : Int32) then
        fnX5_faultOf_56 Loops_open Machine_bodies Machine_steps Stack_values Stack_size p0 r_19
      else
        if p0 = (30 : Int32) then
          fnX5_faultOf_56 Loops_open Machine_bodies Machine_steps Stack_values Stack_size p0 r_19
        else
          if p0 = (31 : Int32) then
            fnX5_faultOf_56 Loops_open Machine_bodies Machine_steps Stack_values Stack_size p0 r_19
          else
            fnX5_faultOf_66 Loops_open Machine_bodies Machine_steps Stack_values Stack_size p0 r_19
    else
      some (3 : Int32)
  else
    some (8 : Int32)
def fnX6_isStackWord  (p0 : Int32) : Option (Int32) :=
  if p0 < 0 then
    some (0 : Int32)
  else
    if (8 : Int32) < p0 then
      some (0 : Int32)
    else
      some (1 : Int32)
def fnX7_put (Stack_values : Nat → Int32) (Stack_size : Int32) (p0 : Int32) : Option (Int32 × (Nat → Int32) × Int32) :=
  if Stack_size < 0 then
    some ((0 : Int32), Stack_values, Stack_size)
  else
    if Stack_size < (32 : Int32) then
      bd1 (sa 32 Stack_values Stack_size p0) fun f_3 =>
        some ((1 : Int32), f_3, Stack_size + (1 : Int32))
    else
      some ((0 : Int32), Stack_values, Stack_size)
def fnX7_drop (Stack_size : Int32) (p0 : Int32) : Option (Int32) :=
  if p0 < 0 then
    some Stack_size
  else
    if Stack_size < p0 then
      some Stack_size
    else
      some (Stack_size - p0)
def fnX5_arrange (Stack_values : Nat → Int32) (Stack_size : Int32) (p0 : Int32) : Option ((Nat → Int32) × Int32) :=
  bd1 (fnX7_fromTop Stack_values Stack_size (0 : Int32)) fun r_1 =>
    bd1 (fnX7_fromTop Stack_values Stack_size (1 : Int32)) fun r_2 =>
    bd1 (fnX7_fromTop Stack_values Stack_size (2 : Int32)) fun r_3 =>
    if p0 = (0 : Int32) then
    bd3 (fnX7_put Stack_values Stack_size r_1) fun r_5 Stack_values_5 Stack_size_5 =>
      some (Stack_values_5, Stack_size_5)
  else if p0 = (1 : Int32) then
    bd1 (fnX7_drop Stack_size (1 : Int32)) fun Stack_size_7 =>
      some (Stack_values, Stack_size_7)
  else if p0 = (2 : Int32) then
    bd1 (fnX7_drop Stack_size (2 : Int32)) fun Stack_size_9 =>
      bd3 (fnX7_put Stack_values Stack_size_9 r_1) fun r_10 Stack_values_10 Stack_size_10 =>
      bd3 (fnX7_put Stack_values_10 Stack_size_10 r_2) fun r_11 Stack_values_11 Stack_size_11 =>
      some (Stack_values_11, Stack_size_11)
  else if p0 = (3 : Int32) then
    bd3 (fnX7_put Stack_values Stack_size r_2) fun r_13 Stack_values_13 Stack_size_13 =>
      some (Stack_values_13, Stack_size_13)
  else if p0 = (4 : Int32) then
    bd1 (fnX7_drop Stack_size (3 : Int32)) fun Stack_size_15 =>
      bd3 (fnX7_put Stack_values Stack_size_15 r_2) fun r_16 Stack_values_16 Stack_size_16 =>
      bd3 (fnX7_put Stack_values_16 Stack_size_16 r_1) fun r_17 Stack_values_17 Stack_size_17 =>
      bd3 (fnX7_put Stack_values_17 Stack_size_17 r_3) fun r_18 Stack_values_18 Stack_size_18 =>
      some (Stack_values_18, Stack_size_18)
  else if p0 = (5 : Int32) then
    bd1 (fnX7_drop Stack_size (2 : Int32)) fun Stack_size_20 =>
      bd3 (fnX7_put Stack_values Stack_size_20 r_1) fun r_21 Stack_values_21 Stack_size_21 =>
      some (Stack_values_21, Stack_size_21)
  else if p0 = (6 : Int32) then
    bd1 (fnX7_drop Stack_size (2 : Int32)) fun Stack_size_23 =>
      bd3 (fnX7_put Stack_values Stack_size_23 r_1) fun r_24 Stack_values_24 Stack_size_24 =>
      bd3 (fnX7_put Stack_values_24 Stack_size_24 r_2) fun r_25 Stack_values_25 Stack_size_25 =>
      bd3 (fnX7_put Stack_values_25 Stack_size_25 r_1) fun r_26 Stack_values_26 Stack_size_26 =>
      some (Stack_values_26, Stack_size_26)
  else if p0 = (7 : Int32) then
    if r_1 = 0 then
      some (Stack_values, Stack_size)
    else
      bd3 (fnX7_put Stack_values Stack_size r_1) fun r_29 Stack_values_29 Stack_size_29 =>
        some (Stack_values_29, Stack_size_29)
  else 
    bd1 (fnX7_size Stack_size) fun r_30 =>
      bd3 (fnX7_put Stack_values Stack_size r_30) fun r_31 Stack_values_31 Stack_size_31 =>
      some (Stack_values_31, Stack_size_31)
def fnX6_isPairWord  (p0 : Int32) : Option (Int32) :=
  if p0 < (9 : Int32) then
    some (0 : Int32)
  else
    if (23 : Int32) < p0 then
      some (0 : Int32)
    else
      some (1 : Int32)
def fnX7_take (Stack_values : Nat → Int32) (Stack_size : Int32)  : Option (Int32 × Int32) :=
  if Stack_size ≤ 0 then
    some ((0 : Int32), Stack_size)
  else
    if Stack_size ≤ (32 : Int32) then
      bd1 (ga 32 Stack_values (Stack_size - (1 : Int32))) fun x_3 =>
        some (x_3, Stack_size - (1 : Int32))
    else
      some ((0 : Int32), Stack_size)
def fnJ9_floorDiv_7cf53  (p0 : Int32) (p1 : Int32) : Option (Int32) :=
  nz_ (p1 = 0) (if 0 ≤ (p0 ^^^ p1) then
    some (p0 / p1)
  else
    if ((p0 / p1) * p1) = p0 then
      some (p0 / p1)
    else
      some ((p0 / p1) - (1 : Int32)))
def fnX5_flag  (p0 : Int32) : Option (Int32) :=
  if p0 = 0 then
    some (0 : Int32)
  else
    some (-1 : Int32)
def fnX5_ofPair_164   (z0 : Int32) : Option (Int32) :=
  bd1 (fnX5_flag z0) fun r_1 =>
    some r_1
def fnX5_ofPair_178   (z0 : Int32) : Option (Int32) :=
  bd1 (fnX5_flag z0) fun r_2 =>
    some r_2
def fnX5_ofPair_192   (z0 : Int32) : Option (Int32) :=
  bd1 (fnX5_flag z0) fun r_3 =>
    some r_3
def fnX5_ofPair  (p0 : Int32) (p1 : Int32) (p2 : Int32) : Option (Int32) :=
  if p0 = (9 : Int32) then
    some (p1 + p2)
  else if p0 = (10 : Int32) then
    some (p1 - p2)
  else if p0 = (11 : Int32) then
    some (p1 * p2)
  else if p0 = (12 : Int32) then
    if p2 = 0 then
      some (0 : Int32)
    else
      bd1 (fnJ9_floorDiv_7cf53 p1 p2) fun r_9 =>
        some r_9
  else if p0 = (13 : Int32) then
    if p2 = 0 then
      some (0 : Int32)
    else
      bd1 (fnJ9_floorDiv_7cf53 p1 p2) fun r_12 =>
        some (p1 - (p2 * r_12))
  else if p0 = (14 : Int32) then
    some (if p2 < p1 then p2 else p1)
  else if p0 = (15 : Int32) then
    some (if p1 < p2 then p2 else p1)
  else if p0 = (16 : Int32) then
    some (p1 &&& p2)
  else if p0 = (17 : Int32) then
    some (p1 ||| p2)
  else if p0 = (18 : Int32) then
    some (p1 ^^^ p2)
  else if p0 = (19 : Int32) then
    some (p1 <<< ((p2 &&& (31 : Int32)) &&& 31))
  else if p0 = (20 : Int32) then
    some ((p1.toUInt32 >>> ((p2 &&& (31 : Int32)).toUInt32 &&& Int32.toUInt32 31)).toInt32)
  else if p0 = (21 : Int32) then
    if p1 = p2 then
      fnX5_ofPair_164 (1 : Int32)
    else
      fnX5_ofPair_164 (0 : Int32)
  else if p0 = (22 : Int32) then
    if p2 ≤ p1 then
      fnX5_ofPair_178 (0 : Int32)
    else
      fnX5_ofPair_178 (1 : Int32)
  else 
    if p1 ≤ p2 then
      fnX5_ofPair_192 (0 : Int32)
    else
      fnX5_ofPair_192 (1 : Int32)
def fnX6_isLoneWord  (p0 : Int32) : Option (Int32) :=
  if p0 < (24 : Int32) then
    some (0 : Int32)
  else
    if (28 : Int32) < p0 then
      some (0 : Int32)
    else
      some (1 : Int32)
def fnX5_ofOne_59   (z0 : Int32) : Option (Int32) :=
  bd1 (fnX5_flag z0) fun r_1 =>
    some r_1
def fnX5_ofOne_72   (z0 : Int32) : Option (Int32) :=
  bd1 (fnX5_flag z0) fun r_2 =>
    some r_2
def fnX5_ofOne  (p0 : Int32) (p1 : Int32) : Option (Int32) :=
  if p0 = (24 : Int32) then
    some (-p1)
  else if p0 = (25 : Int32) then
    if 0 ≤ p1 then
      some p1
    else
      some (-p1)
  else if p0 = (26 : Int32) then
    some (p1 ^^^ (-1 : Int32))
  else if p0 = (27 : Int32) then
    if p1 = 0 then
      fnX5_ofOne_59 (1 : Int32)
    else
      fnX5_ofOne_59 (0 : Int32)
  else 
    if 0 ≤ p1 then
      fnX5_ofOne_72 (0 : Int32)
    else
      fnX5_ofOne_72 (1 : Int32)
def fnX6_isStoreWord  (p0 : Int32) : Option (Int32) :=
  if p0 < (29 : Int32) then
    some (0 : Int32)
  else
    if (32 : Int32) < p0 then
      some (0 : Int32)
    else
      some (1 : Int32)
def fnX5_readCell (Machine_cells : Nat → Int32) (p0 : Int32) : Option (Int32) :=
  if p0 < 0 then
    some (0 : Int32)
  else
    if (16 : Int32) ≤ p0 then
      some (0 : Int32)
    else
      bd1 (ga 16 Machine_cells p0) fun x_3 =>
        some x_3
def fnX5_writeCell (Machine_cells : Nat → Int32) (p0 : Int32) (p1 : Int32) : Option ((Nat → Int32)) :=
  if p0 < 0 then
    some Machine_cells
  else
    if (16 : Int32) ≤ p0 then
      some Machine_cells
    else
      bd1 (sa 16 Machine_cells p0 p1) fun f_3 =>
        some f_3
def fnX8_add (Tape_latest : Nat → Int32) (Tape_count : Int32) (p0 : Int32) : Option ((Nat → Int32) × Int32) :=
  bd1 (sa 16 Tape_latest (Tape_count &&& (15 : Int32)) p0) fun f_1 =>
    some (f_1, Tape_count + (1 : Int32))
def fnX5_store (Machine_cells : Nat → Int32) (Stack_values : Nat → Int32) (Stack_size : Int32) (Tape_latest : Nat → Int32) (Tape_count : Int32) (p0 : Int32) : Option ((Nat → Int32) × (Nat → Int32) × Int32 × (Nat → Int32) × Int32) :=
  bd2 (fnX7_take Stack_values Stack_size) fun r_1 Stack_size_1 =>
    if p0 = (29 : Int32) then
    bd1 (fnX5_readCell Machine_cells r_1) fun r_3 =>
      bd3 (fnX7_put Stack_values Stack_size_1 r_3) fun r_4 Stack_values_4 Stack_size_4 =>
      some (Machine_cells, Stack_values_4, Stack_size_4, Tape_latest, Tape_count)
  else if p0 = (30 : Int32) then
    bd2 (fnX7_take Stack_values Stack_size_1) fun r_6 Stack_size_6 =>
      bd1 (fnX5_writeCell Machine_cells r_1 r_6) fun Machine_cells_7 =>
      some (Machine_cells_7, Stack_values, Stack_size_6, Tape_latest, Tape_count)
  else if p0 = (31 : Int32) then
    bd1 (fnX5_readCell Machine_cells r_1) fun r_9 =>
      bd2 (fnX7_take Stack_values Stack_size_1) fun r_10 Stack_size_10 =>
      bd1 (fnX5_writeCell Machine_cells r_1 (r_9 + r_10)) fun Machine_cells_11 =>
      some (Machine_cells_11, Stack_values, Stack_size_10, Tape_latest, Tape_count)
  else 
    bd2 (fnX8_add Tape_latest Tape_count r_1) fun Tape_latest_12 Tape_count_12 =>
      some (Machine_cells, Stack_values, Stack_size_1, Tape_latest_12, Tape_count_12)
def fnX5_enter (Dictionary_starts : Nat → Int32) (Loops_open : Int32) (Machine_ends : Nat → Int32) (Machine_returns : Nat → Int32) (Machine_loopsBefore : Nat → Int32) (Machine_bodies : Int32) (Machine_place : Int32) (p0 : Int32) : Option ((Nat → Int32) × (Nat → Int32) × (Nat → Int32) × Int32 × Int32) :=
  if Machine_bodies < 0 then
    some (Machine_ends, Machine_returns, Machine_loopsBefore, Machine_bodies, Machine_place)
  else
    if (12 : Int32) ≤ Machine_bodies then
      some (Machine_ends, Machine_returns, Machine_loopsBefore, Machine_bodies, Machine_place)
    else
      bd1 (fnX1_endOf Dictionary_starts p0) fun r_3 =>
        bd1 (sa 12 Machine_ends Machine_bodies r_3) fun f_4 =>
        bd1 (sa 12 Machine_returns Machine_bodies Machine_place) fun f_7 =>
        bd1 (fnX4_openCount Loops_open) fun r_10 =>
        bd1 (sa 12 Machine_loopsBefore Machine_bodies r_10) fun f_11 =>
        bd1 (fnX1_startOf Dictionary_starts p0) fun r_14 =>
        some (f_4, f_7, f_11, Machine_bodies + (1 : Int32), r_14)
def fnX5_leave (Loops_open : Int32) (Machine_returns : Nat → Int32) (Machine_loopsBefore : Nat → Int32) (Machine_bodies : Int32) (Machine_place : Int32)  : Option (Int32 × Int32 × Int32) :=
  if Machine_bodies ≤ 0 then
    some (Loops_open, Machine_bodies, Machine_place)
  else
    if (12 : Int32) < Machine_bodies then
      some (Loops_open, Machine_bodies, Machine_place)
    else
      bd1 (ga 12 Machine_returns (Machine_bodies - (1 : Int32))) fun x_3 =>
        bd1 (ga 12 Machine_loopsBefore (Machine_bodies - (1 : Int32))) fun x_6 =>
        bd1 (fnX4_closeDownTo Loops_open x_6) fun Loops_open_9 =>
        some (Loops_open_9, Machine_bodies - (1 : Int32), x_3)
def fnX4_innermostCount (Loops_counts : Nat → Int32) (Loops_open : Int32)  : Option (Int32) :=
  if Loops_open ≤ 0 then
    some (0 : Int32)
  else
    if (12 : Int32) < Loops_open then
      some (0 : Int32)
    else
      bd1 (ga 12 Loops_counts (Loops_open - (1 : Int32))) fun x_3 =>
        some x_3
def fnX4_begin (Loops_counts : Nat → Int32) (Loops_limits : Nat → Int32) (Loops_open : Int32) (p0 : Int32) (p1 : Int32) : Option ((Nat → Int32) × (Nat → Int32) × Int32) :=
  if Loops_open < 0 then
    some (Loops_counts, Loops_limits, Loops_open)
  else
    if (12 : Int32) ≤ Loops_open then
      some (Loops_counts, Loops_limits, Loops_open)
    else
      bd1 (sa 12 Loops_limits Loops_open p0) fun f_3 =>
        bd1 (sa 12 Loops_counts Loops_open p1) fun f_6 =>
        some (f_6, f_3, Loops_open + (1 : Int32))
def fnX4_goesRound (Loops_counts : Nat → Int32) (Loops_limits : Nat → Int32) (Loops_open : Int32)  : Option (Int32 × (Nat → Int32) × Int32) :=
  if Loops_open ≤ 0 then
    some ((0 : Int32), Loops_counts, Loops_open)
  else
    if Loops_open ≤ (12 : Int32) then
      bd1 (ga 12 Loops_counts (Loops_open - (1 : Int32))) fun x_3 =>
        bd1 (sa 12 Loops_counts (Loops_open - (1 : Int32)) (x_3 + (1 : Int32))) fun f_6 =>
        bd1 (ga 12 f_6 (Loops_open - (1 : Int32))) fun x_9 =>
        bd1 (ga 12 Loops_limits (Loops_open - (1 : Int32))) fun x_12 =>
        if x_9 = x_12 then
        some ((0 : Int32), f_6, Loops_open - (1 : Int32))
      else
        some ((1 : Int32), f_6, Loops_open)
    else
      some ((0 : Int32), Loops_counts, Loops_open)
def fnX5_leads_56 (Loops_limits : Nat → Int32) (Stack_values : Nat → Int32)  (Loops_counts : Nat → Int32) (Loops_open : Int32) (Stack_size : Int32) : Option (Int32 × (Nat → Int32) × Int32 × Int32) :=
  bd2 (fnX7_take Stack_values Stack_size) fun r_1 Stack_size_1 =>
    if r_1 = 0 then
    some ((1 : Int32), Loops_counts, Loops_open, Stack_size_1)
  else
    some ((0 : Int32), Loops_counts, Loops_open, Stack_size_1)
def fnX5_leads_80 (Loops_limits : Nat → Int32) (Stack_values : Nat → Int32)  (x1 : Int32) (Loops_counts : Nat → Int32) (Loops_open : Int32) (Stack_size : Int32) : Option (Int32 × (Nat → Int32) × Int32 × Int32) :=
  if x1 = (34 : Int32) then
    some ((1 : Int32), Loops_counts, Loops_open, Stack_size)
  else
    if x1 = (38 : Int32) then
      some ((1 : Int32), Loops_counts, Loops_open, Stack_size)
    else
      if x1 = (40 : Int32) then
        some ((1 : Int32), Loops_counts, Loops_open, Stack_size)
      else
        some ((0 : Int32), Loops_counts, Loops_open, Stack_size)
def fnX5_leads (Loops_counts : Nat → Int32) (Loops_limits : Nat → Int32) (Loops_open : Int32) (Stack_values : Nat → Int32) (Stack_size : Int32) (p0 : Int32) : Option (Int32 × (Nat → Int32) × Int32 × Int32) :=
  if p0 = (33 : Int32) then
    fnX5_leads_56 Loops_limits Stack_values Loops_counts Loops_open Stack_size
  else if p0 = (34 : Int32) then
    fnX5_leads_80 Loops_limits Stack_values p0 Loops_counts Loops_open Stack_size
  else if p0 = (35 : Int32) then
    fnX5_leads_80 Loops_limits Stack_values p0 Loops_counts Loops_open Stack_size
  else if p0 = (36 : Int32) then
    fnX5_leads_80 Loops_limits Stack_values p0 Loops_counts Loops_open Stack_size
  else if p0 = (37 : Int32) then
    fnX5_leads_56 Loops_limits Stack_values Loops_counts Loops_open Stack_size
  else if p0 = (38 : Int32) then
    fnX5_leads_80 Loops_limits Stack_values p0 Loops_counts Loops_open Stack_size
  else if p0 = (39 : Int32) then
    fnX5_leads_56 Loops_limits Stack_values Loops_counts Loops_open Stack_size
  else if p0 = (40 : Int32) then
    fnX5_leads_80 Loops_limits Stack_values p0 Loops_counts Loops_open Stack_size
  else if p0 = (41 : Int32) then
    fnX5_leads_80 Loops_limits Stack_values p0 Loops_counts Loops_open Stack_size
  else if p0 = (42 : Int32) then
    bd3 (fnX4_goesRound Loops_counts Loops_limits Loops_open) fun r_16 Loops_counts_16 Loops_open_16 =>
      gd_ (r_16 = 0 ∨ r_16 = 1) (some (r_16, Loops_counts_16, Loops_open_16, Stack_size))
  else 
    fnX5_leads_80 Loops_limits Stack_values p0 Loops_counts Loops_open Stack_size
def fnX5_control_72 (Dictionary_starts : Nat → Int32)  (x2 : Int32) (Loops_counts : Nat → Int32) (Loops_limits : Nat → Int32) (Loops_open : Int32) (Machine_ends : Nat → Int32) (Machine_returns : Nat → Int32) (Machine_loopsBefore : Nat → Int32) (Machine_bodies : Int32) (Machine_place : Int32) (Stack_values : Nat → Int32) (Stack_size : Int32) : Option ((Nat → Int32) × (Nat → Int32) × Int32 × (Nat → Int32) × (Nat → Int32) × (Nat → Int32) × Int32 × Int32 × (Nat → Int32) × Int32) :=
  bd5 (fnX5_enter Dictionary_starts Loops_open Machine_ends Machine_returns Machine_loopsBefore Machine_bodies Machine_place x2) fun Machine_ends_1 Machine_returns_1 Machine_loopsBefore_1 Machine_bodies_1 Machine_place_1 =>
    some (Loops_counts, Loops_limits, Loops_open, Machine_ends_1, Machine_returns_1, Machine_loopsBefore_1, Machine_bodies_1, Machine_place_1, Stack_values, Stack_size)
def fnX5_control_80 (Dictionary_starts : Nat → Int32)  (Loops_counts : Nat → Int32) (Loops_limits : Nat → Int32) (Loops_open : Int32) (Machine_ends : Nat → Int32) (Machine_returns : Nat → Int32) (Machine_loopsBefore : Nat → Int32) (Machine_bodies : Int32) (Machine_place : Int32) (Stack_values : Nat → Int32) (Stack_size : Int32) : Option ((Nat → Int32) × (Nat → Int32) × Int32 × (Nat → Int32) × (Nat → Int32) × (Nat → Int32) × Int32 × Int32 × (Nat → Int32) × Int32) :=
  bd3 (fnX5_leave Loops_open Machine_returns Machine_loopsBefore Machine_bodies Machine_place) fun Loops_open_2 Machine_bodies_2 Machine_place_2 =>
    some (Loops_counts, Loops_limits, Loops_open_2, Machine_ends, Machine_returns, Machine_loopsBefore, Machine_bodies_2, Machine_place_2, Stack_values, Stack_size)
def fnX5_control_131 (Dictionary_starts : Nat → Int32)  (x1 : Int32) (x2 : Int32) (Loops_counts : Nat → Int32) (Loops_limits : Nat → Int32) (Loops_open : Int32) (Machine_ends : Nat → Int32) (Machine_returns : Nat → Int32) (Machine_loopsBefore : Nat → Int32) (Machine_bodies : Int32) (Machine_place : Int32) (Stack_values : Nat → Int32) (Stack_size : Int32) : Option ((Nat → Int32) × (Nat → Int32) × Int32 × (Nat → Int32) × (Nat → Int32) × (Nat → Int32) × Int32 × Int32 × (Nat → Int32) × Int32) :=
  bd4 (fnX5_leads Loops_counts Loops_limits Loops_open Stack_values Stack_size x1) fun r_3 Loops_counts_3 Loops_open_3 Stack_size_3 =>
    if r_3 = 0 then
    some (Loops_counts_3, Loops_limits, Loops_open_3, Machine_ends, Machine_returns, Machine_loopsBefore, Machine_bodies, Machine_place, Stack_values, Stack_size_3)
  else
    some (Loops_counts_3, Loops_limits, Loops_open_3, Machine_ends, Machine_returns, Machine_loopsBefore, Machine_bodies, x2, Stack_values, Stack_size_3)
def fnX5_control (Dictionary_starts : Nat → Int32) (Loops_counts : Nat → Int32) (Loops_limits : Nat → Int32) (Loops_open : Int32) (Machine_ends : Nat → Int32) (Machine_returns : Nat → Int32) (Machine_loopsBefore : Nat → Int32) (Machine_bodies : Int32) (Machine_place : Int32) (Stack_values : Nat → Int32) (Stack_size : Int32) (p0 : Int32) (p1 : Int32) : Option ((Nat → Int32) × (Nat → Int32) × Int32 × (Nat → Int32) × (Nat → Int32) × (Nat → Int32) × Int32 × Int32 × (Nat → Int32) × Int32) :=
  if p0 = (41 : Int32) then
    bd2 (fnX7_take Stack_values Stack_size) fun r_6 Stack_size_6 =>
      bd2 (fnX7_take Stack_values Stack_size_6) fun r_7 Stack_size_7 =>
      bd3 (fnX4_begin Loops_counts Loops_limits Loops_open r_7 r_6) fun Loops_counts_8 Loops_limits_8 Loops_open_8 =>
      some (Loops_counts_8, Loops_limits_8, Loops_open_8, Machine_ends, Machine_returns, Machine_loopsBefore, Machine_bodies, Machine_place, Stack_values, Stack_size_7)
  else if p0 = (42 : Int32) then
    fnX5_control_131 Dictionary_starts p0 p1 Loops_counts Loops_limits Loops_open Machine_ends Machine_returns Machine_loopsBefore Machine_bodies Machine_place Stack_values Stack_size
  else if p0 = (43 : Int32) then
    bd1 (fnX4_innermostCount Loops_counts Loops_open) fun r_11 =>
      bd3 (fnX7_put Stack_values Stack_size r_11) fun r_12 Stack_values_12 Stack_size_12 =>
      some (Loops_counts, Loops_limits, Loops_open, Machine_ends, Machine_returns, Machine_loopsBefore, Machine_bodies, Machine_place, Stack_values_12, Stack_size_12)
  else if p0 = (44 : Int32) then
    fnX5_control_80 Dictionary_starts Loops_counts Loops_limits Loops_open Machine_ends Machine_returns Machine_loopsBefore Machine_bodies Machine_place Stack_values Stack_size
  else if p0 = (45 : Int32) then
    fnX5_control_72 Dictionary_starts p1 Loops_counts Loops_limits Loops_open Machine_ends Machine_returns Machine_loopsBefore Machine_bodies Machine_place Stack_values Stack_size
  else if p0 = (46 : Int32) then
    fnX5_control_131 Dictionary_starts p0 p1 Loops_counts Loops_limits Loops_open Machine_ends Machine_returns Machine_loopsBefore Machine_bodies Machine_place Stack_values Stack_size
  else if p0 = (47 : Int32) then
    fnX5_control_131 Dictionary_starts p0 p1 Loops_counts Loops_limits Loops_open Machine_ends Machine_returns Machine_loopsBefore Machine_bodies Machine_place Stack_values Stack_size
  else if p0 = (48 : Int32) then
    fnX5_control_131 Dictionary_starts p0 p1 Loops_counts Loops_limits Loops_open Machine_ends Machine_returns Machine_loopsBefore Machine_bodies Machine_place Stack_values Stack_size
  else if p0 = (49 : Int32) then
    bd3 (fnX7_put Stack_values Stack_size p1) fun r_19 Stack_values_19 Stack_size_19 =>
      some (Loops_counts, Loops_limits, Loops_open, Machine_ends, Machine_returns, Machine_loopsBefore, Machine_bodies, Machine_place, Stack_values_19, Stack_size_19)
  else if p0 = (50 : Int32) then
    fnX5_control_72 Dictionary_starts p1 Loops_counts Loops_limits Loops_open Machine_ends Machine_returns Machine_loopsBefore Machine_bodies Machine_place Stack_values Stack_size
  else if p0 = (51 : Int32) then
    fnX5_control_80 Dictionary_starts Loops_counts Loops_limits Loops_open Machine_ends Machine_returns Machine_loopsBefore Machine_bodies Machine_place Stack_values Stack_size
  else 
    fnX5_control_131 Dictionary_starts p0 p1 Loops_counts Loops_limits Loops_open Machine_ends Machine_returns Machine_loopsBefore Machine_bodies Machine_place Stack_values Stack_size
def fnX5_doWord_29 (Dictionary_starts : Nat → Int32)  (x1 : Int32) (x2 : Int32) (Loops_counts : Nat → Int32) (Loops_limits : Nat → Int32) (Loops_open : Int32) (Machine_cells : Nat → Int32) (Machine_ends : Nat → Int32) (Machine_returns : Nat → Int32) (Machine_loopsBefore : Nat → Int32) (Machine_bodies : Int32) (Machine_place : Int32) (Machine_steps : Int32) (Stack_values : Nat → Int32) (Stack_size : Int32) (Tape_latest : Nat → Int32) (Tape_count : Int32) : Option (Int32 × (Nat → Int32) × (Nat → Int32) × Int32 × (Nat → Int32) × (Nat → Int32) × (Nat → Int32) × (Nat → Int32) × Int32 × Int32 × Int32 × (Nat → Int32) × Int32 × (Nat → Int32) × Int32) :=
  bd1 (fnX6_isStackWord x1) fun r_1 =>
    if r_1 = 0 then
    bd1 (fnX6_isPairWord x1) fun r_3 =>
      if r_3 = 0 then
      bd1 (fnX6_isLoneWord x1) fun r_5 =>
        if r_5 = 0 then
        bd1 (fnX6_isStoreWord x1) fun r_7 =>
          if r_7 = 0 then
          bd10 (fnX5_control Dictionary_starts Loops_counts Loops_limits Loops_open Machine_ends Machine_returns Machine_loopsBefore Machine_bodies Machine_place Stack_values Stack_size x1 x2) fun Loops_counts_9 Loops_limits_9 Loops_open_9 Machine_ends_9 Machine_returns_9 Machine_loopsBefore_9 Machine_bodies_9 Machine_place_9 Stack_values_9 Stack_size_9 =>
            some ((0 : Int32), Loops_counts_9, Loops_limits_9, Loops_open_9, Machine_cells, Machine_ends_9, Machine_returns_9, Machine_loopsBefore_9, Machine_bodies_9, Machine_place_9, Machine_steps, Stack_values_9, Stack_size_9, Tape_latest, Tape_count)
        else
          bd5 (fnX5_store Machine_cells Stack_values Stack_size Tape_latest Tape_count x1) fun Machine_cells_10 Stack_values_10 Stack_size_10 Tape_latest_10 Tape_count_10 =>
            some ((0 : Int32), Loops_counts, Loops_limits, Loops_open, Machine_cells_10, Machine_ends, Machine_returns, Machine_loopsBefore, Machine_bodies, Machine_place, Machine_steps, Stack_values_10, Stack_size_10, Tape_latest_10, Tape_count_10)
      else
        bd2 (fnX7_take Stack_values Stack_size) fun r_11 Stack_size_11 =>
          bd1 (fnX5_ofOne x1 r_11) fun r_12 =>
          bd3 (fnX7_put Stack_values Stack_size_11 r_12) fun r_13 Stack_values_13 Stack_size_13 =>
          some ((0 : Int32), Loops_counts, Loops_limits, Loops_open, Machine_cells, Machine_ends, Machine_returns, Machine_loopsBefore, Machine_bodies, Machine_place, Machine_steps, Stack_values_13, Stack_size_13, Tape_latest, Tape_count)
    else
      bd2 (fnX7_take Stack_values Stack_size) fun r_14 Stack_size_14 =>
        bd2 (fnX7_take Stack_values Stack_size_14) fun r_15 Stack_size_15 =>
        bd1 (fnX5_ofPair x1 r_15 r_14) fun r_16 =>
        bd3 (fnX7_put Stack_values Stack_size_15 r_16) fun r_17 Stack_values_17 Stack_size_17 =>
        some ((0 : Int32), Loops_counts, Loops_limits, Loops_open, Machine_cells, Machine_ends, Machine_returns, Machine_loopsBefore, Machine_bodies, Machine_place, Machine_steps, Stack_values_17, Stack_size_17, Tape_latest, Tape_count)
  else
    bd2 (fnX5_arrange Stack_values Stack_size x1) fun Stack_values_18 Stack_size_18 =>
      some ((0 : Int32), Loops_counts, Loops_limits, Loops_open, Machine_cells, Machine_ends, Machine_returns, Machine_loopsBefore, Machine_bodies, Machine_place, Machine_steps, Stack_values_18, Stack_size_18, Tape_latest, Tape_count)
def fnX5_doWord (Dictionary_starts : Nat → Int32) (Loops_counts : Nat → Int32) (Loops_limits : Nat → Int32) (Loops_open : Int32) (Machine_cells : Nat → Int32) (Machine_ends : Nat → Int32) (Machine_returns : Nat → Int32) (Machine_loopsBefore : Nat → Int32) (Machine_bodies : Int32) (Machine_place : Int32) (Machine_steps : Int32) (Stack_values : Nat → Int32) (Stack_size : Int32) (Tape_latest : Nat → Int32) (Tape_count : Int32) (p0 : Int32) (p1 : Int32) : Option (Int32 × (Nat → Int32) × (Nat → Int32) × Int32 × (Nat → Int32) × (Nat → Int32) × (Nat → Int32) × (Nat → Int32) × Int32 × Int32 × Int32 × (Nat → Int32) × Int32 × (Nat → Int32) × Int32) :=
  bd1 (fnX6_isStep p0) fun r_19 =>
    if r_19 = 0 then
    fnX5_doWord_29 Dictionary_starts p0 p1 Loops_counts Loops_limits Loops_open Machine_cells Machine_ends Machine_returns Machine_loopsBefore Machine_bodies Machine_place Machine_steps Stack_values Stack_size Tape_latest Tape_count
  else
    bd1 (fnX5_faultOf Loops_open Machine_bodies Machine_steps Stack_values Stack_size p0) fun r_21 =>
      if r_21 = 0 then
      fnX5_doWord_29 Dictionary_starts p0 p1 Loops_counts Loops_limits Loops_open Machine_cells Machine_ends Machine_returns Machine_loopsBefore Machine_bodies Machine_place (Machine_steps + (1 : Int32)) Stack_values Stack_size Tape_latest Tape_count
    else
      some (r_21, Loops_counts, Loops_limits, Loops_open, Machine_cells, Machine_ends, Machine_returns, Machine_loopsBefore, Machine_bodies, Machine_place, Machine_steps, Stack_values, Stack_size, Tape_latest, Tape_count)
def fnX5_atBodyEnd (Machine_ends : Nat → Int32) (Machine_bodies : Int32) (p0 : Int32) : Option (Int32) :=
  if Machine_bodies ≤ 0 then
    some (1 : Int32)
  else
    if (12 : Int32) < Machine_bodies then
      some (1 : Int32)
    else
      bd1 (ga 12 Machine_ends (Machine_bodies - (1 : Int32))) fun x_3 =>
        if p0 < x_3 then
        some (0 : Int32)
      else
        some (1 : Int32)
def fnX5_obey_83 (Code_ops : Nat → Int32) (Code_args : Nat → Int32) (Dictionary_starts : Nat → Int32) (k10 : Int32 → Int32 → (Nat → Int32) → (Nat → Int32) → Int32 → (Nat → Int32) → (Nat → Int32) → (Nat → Int32) → (Nat → Int32) → Int32 → Int32 → Int32 → (Nat → Int32) → Int32 → (Nat → Int32) → Int32 → Option (Int32 × (Nat → Int32) × (Nat → Int32) × Int32 × (Nat → Int32) × (Nat → Int32) × (Nat → Int32) × (Nat → Int32) × Int32 × Int32 × Int32 × (Nat → Int32) × Int32 × (Nat → Int32) × Int32)) (x4 : Int32) (z0 : Int32) (Loops_counts : Nat → Int32) (Loops_limits : Nat → Int32) (Loops_open : Int32) (Machine_cells : Nat → Int32) (Machine_ends : Nat → Int32) (Machine_returns : Nat → Int32) (Machine_loopsBefore : Nat → Int32) (Machine_bodies : Int32) (Machine_place : Int32) (Machine_steps : Int32) (Stack_values : Nat → Int32) (Stack_size : Int32) (Tape_latest : Nat → Int32) (Tape_count : Int32) : Option (Int32 × (Nat → Int32) × (Nat → Int32) × Int32 × (Nat → Int32) × (Nat → Int32) × (Nat → Int32) × (Nat → Int32) × Int32 × Int32 × Int32 × (Nat → Int32) × Int32 × (Nat → Int32) × Int32) :=
  k10 z0 (x4 + (1 : Int32)) Loops_counts Loops_limits Loops_open Machine_cells Machine_ends Machine_returns Machine_loopsBefore Machine_bodies Machine_place Machine_steps Stack_values Stack_size Tape_latest Tape_count
def fnX5_obey_10 (Code_ops : Nat → Int32) (Code_args : Nat → Int32) (Dictionary_starts : Nat → Int32)  : Nat → Int32 → Int32 → (Nat → Int32) → (Nat → Int32) → Int32 → (Nat → Int32) → (Nat → Int32) → (Nat → Int32) → (Nat → Int32) → Int32 → Int32 → Int32 → (Nat → Int32) → Int32 → (Nat → Int32) → Int32 → Option (Int32 × (Nat → Int32) × (Nat → Int32) × Int32 × (Nat → Int32) × (Nat → Int32) × (Nat → Int32) × (Nat → Int32) × Int32 × Int32 × Int32 × (Nat → Int32) × Int32 × (Nat → Int32) × Int32)
  | 0, _, _, _, _, _, _, _, _, _, _, _, _, _, _, _, _ => none
  | n + 1, x3, x4, Loops_counts, Loops_limits, Loops_open, Machine_cells, Machine_ends, Machine_returns, Machine_loopsBefore, Machine_bodies, Machine_place, Machine_steps, Stack_values, Stack_size, Tape_latest, Tape_count =>
    if (201201 : Int32) ≤ x4 then
      some (x3, Loops_counts, Loops_limits, Loops_open, Machine_cells, Machine_ends, Machine_returns, Machine_loopsBefore, Machine_bodies, Machine_place, Machine_steps, Stack_values, Stack_size, Tape_latest, Tape_count)
    else
      if Machine_bodies ≤ 0 then
        some (x3, Loops_counts, Loops_limits, Loops_open, Machine_cells, Machine_ends, Machine_returns, Machine_loopsBefore, Machine_bodies, Machine_place, Machine_steps, Stack_values, Stack_size, Tape_latest, Tape_count)
      else
        if x3 = 0 then
          bd1 (fnX5_atBodyEnd Machine_ends Machine_bodies Machine_place) fun r_4 =>
            if r_4 = 0 then
            bd1 (fnX0_opAt Code_ops Machine_place) fun r_6 =>
              bd1 (fnX0_argAt Code_args Machine_place) fun r_7 =>
              bd15 (fnX5_doWord Dictionary_starts Loops_counts Loops_limits Loops_open Machine_cells Machine_ends Machine_returns Machine_loopsBefore Machine_bodies (Machine_place + (1 : Int32)) Machine_steps Stack_values Stack_size Tape_latest Tape_count r_6 r_7) fun r_8 Loops_counts_8 Loops_limits_8 Loops_open_8 Machine_cells_8 Machine_ends_8 Machine_returns_8 Machine_loopsBefore_8 Machine_bodies_8 Machine_place_8 Machine_steps_8 Stack_values_8 Stack_size_8 Tape_latest_8 Tape_count_8 =>
              fnX5_obey_83 Code_ops Code_args Dictionary_starts (fnX5_obey_10 Code_ops Code_args Dictionary_starts n) x4 r_8 Loops_counts_8 Loops_limits_8 Loops_open_8 Machine_cells_8 Machine_ends_8 Machine_returns_8 Machine_loopsBefore_8 Machine_bodies_8 Machine_place_8 Machine_steps_8 Stack_values_8 Stack_size_8 Tape_latest_8 Tape_count_8
          else
            bd15 (fnX5_doWord Dictionary_starts Loops_counts Loops_limits Loops_open Machine_cells Machine_ends Machine_returns Machine_loopsBefore Machine_bodies (Machine_place + (1 : Int32)) Machine_steps Stack_values Stack_size Tape_latest Tape_count (51 : Int32) (0 : Int32)) fun r_9 Loops_counts_9 Loops_limits_9 Loops_open_9 Machine_cells_9 Machine_ends_9 Machine_returns_9 Machine_loopsBefore_9 Machine_bodies_9 Machine_place_9 Machine_steps_9 Stack_values_9 Stack_size_9 Tape_latest_9 Tape_count_9 =>
              fnX5_obey_83 Code_ops Code_args Dictionary_starts (fnX5_obey_10 Code_ops Code_args Dictionary_starts n) x4 r_9 Loops_counts_9 Loops_limits_9 Loops_open_9 Machine_cells_9 Machine_ends_9 Machine_returns_9 Machine_loopsBefore_9 Machine_bodies_9 Machine_place_9 Machine_steps_9 Stack_values_9 Stack_size_9 Tape_latest_9 Tape_count_9
        else
          some (x3, Loops_counts, Loops_limits, Loops_open, Machine_cells, Machine_ends, Machine_returns, Machine_loopsBefore, Machine_bodies, Machine_place, Machine_steps, Stack_values, Stack_size, Tape_latest, Tape_count)
def fnX5_obey (Code_ops : Nat → Int32) (Code_args : Nat → Int32) (Dictionary_starts : Nat → Int32) (Loops_counts : Nat → Int32) (Loops_limits : Nat → Int32) (Loops_open : Int32) (Machine_cells : Nat → Int32) (Machine_ends : Nat → Int32) (Machine_returns : Nat → Int32) (Machine_loopsBefore : Nat → Int32) (Machine_bodies : Int32) (Machine_place : Int32) (Machine_steps : Int32) (Stack_values : Nat → Int32) (Stack_size : Int32) (Tape_latest : Nat → Int32) (Tape_count : Int32) (p0 : Int32) (p1 : Int32) : Option (Int32 × (Nat → Int32) × (Nat → Int32) × Int32 × (Nat → Int32) × (Nat → Int32) × (Nat → Int32) × (Nat → Int32) × Int32 × Int32 × Int32 × (Nat → Int32) × Int32 × (Nat → Int32) × Int32) :=
  bd15 (fnX5_doWord Dictionary_starts Loops_counts Loops_limits Loops_open Machine_cells Machine_ends Machine_returns Machine_loopsBefore Machine_bodies Machine_place Machine_steps Stack_values Stack_size Tape_latest Tape_count p0 p1) fun r_10 Loops_counts_10 Loops_limits_10 Loops_open_10 Machine_cells_10 Machine_ends_10 Machine_returns_10 Machine_loopsBefore_10 Machine_bodies_10 Machine_place_10 Machine_steps_10 Stack_values_10 Stack_size_10 Tape_latest_10 Tape_count_10 =>
    fnX5_obey_10 Code_ops Code_args Dictionary_starts fuel_ r_10 (0 : Int32) Loops_counts_10 Loops_limits_10 Loops_open_10 Machine_cells_10 Machine_ends_10 Machine_returns_10 Machine_loopsBefore_10 Machine_bodies_10 Machine_place_10 Machine_steps_10 Stack_values_10 Stack_size_10 Tape_latest_10 Tape_count_10
def fnX3_takeWord_46 (Text_codes : Nat → Int32) (Text_length : Int32) (Vocabulary_keys : Nat → Int64)  (x1 : Int32) (Code_ops : Nat → Int32) (Code_args : Nat → Int32) (Dictionary_keys : Nat → Int64) (Dictionary_starts : Nat → Int32) (Dictionary_size : Int32) (Dictionary_openLength : Int32) (Linker_waiting : Nat → Int32) (Linker_open : Int32) (Linker_openLoops : Int32) (Loops_counts : Nat → Int32) (Loops_limits : Nat → Int32) (Loops_open : Int32) (Machine_cells : Nat → Int32) (Machine_ends : Nat → Int32) (Machine_returns : Nat → Int32) (Machine_loopsBefore : Nat → Int32) (Machine_bodies : Int32) (Machine_place : Int32) (Machine_steps : Int32) (Stack_values : Nat → Int32) (Stack_size : Int32) (Tape_latest : Nat → Int32) (Tape_count : Int32) (Text_wordStart : Int32) (Text_wordEnd : Int32) (Text_wordPlace : Int32) : Option (Int32 × (Nat → Int32) × (Nat → Int32) × (Nat → Int64) × (Nat → Int32) × Int32 × Int32 × (Nat → Int32) × Int32 × Int32 × (Nat → Int32) × (Nat → Int32) × Int32 × (Nat → Int32) × (Nat → Int32) × (Nat → Int32) × (Nat → Int32) × Int32 × Int32 × Int32 × (Nat → Int32) × Int32 × (Nat → Int32) × Int32 × Int32 × Int32 × Int32) :=
  bd1 (fnX3_argOfWord Dictionary_keys Dictionary_size Text_codes Text_length Text_wordStart Text_wordEnd x1) fun r_1 =>
    bd15 (fnX5_obey Code_ops Code_args Dictionary_starts Loops_counts Loops_limits Loops_open Machine_cells Machine_ends Machine_returns Machine_loopsBefore Machine_bodies Machine_place Machine_steps Stack_values Stack_size Tape_latest Tape_count x1 r_1) fun r_2 Loops_counts_2 Loops_limits_2 Loops_open_2 Machine_cells_2 Machine_ends_2 Machine_returns_2 Machine_loopsBefore_2 Machine_bodies_2 Machine_place_2 Machine_steps_2 Stack_values_2 Stack_size_2 Tape_latest_2 Tape_count_2 =>
    some (r_2, Code_ops, Code_args, Dictionary_keys, Dictionary_starts, Dictionary_size, Dictionary_openLength, Linker_waiting, Linker_open, Linker_openLoops, Loops_counts_2, Loops_limits_2, Loops_open_2, Machine_cells_2, Machine_ends_2, Machine_returns_2, Machine_loopsBefore_2, Machine_bodies_2, Machine_place_2, Machine_steps_2, Stack_values_2, Stack_size_2, Tape_latest_2, Tape_count_2, Text_wordStart, Text_wordEnd, Text_wordPlace)
def fnX3_takeWord (Code_ops : Nat → Int32) (Code_args : Nat → Int32) (Dictionary_keys : Nat → Int64) (Dictionary_starts : Nat → Int32) (Dictionary_size : Int32) (Dictionary_openLength : Int32) (Linker_waiting : Nat → Int32) (Linker_open : Int32) (Linker_openLoops : Int32) (Loops_counts : Nat → Int32) (Loops_limits : Nat → Int32) (Loops_open : Int32) (Machine_cells : Nat → Int32) (Machine_ends : Nat → Int32) (Machine_returns : Nat → Int32) (Machine_loopsBefore : Nat → Int32) (Machine_bodies : Int32) (Machine_place : Int32) (Machine_steps : Int32) (Stack_values : Nat → Int32) (Stack_size : Int32) (Tape_latest : Nat → Int32) (Tape_count : Int32) (Text_codes : Nat → Int32) (Text_length : Int32) (Text_wordStart : Int32) (Text_wordEnd : Int32) (Text_wordPlace : Int32) (Vocabulary_keys : Nat → Int64)  : Option (Int32 × (Nat → Int32) × (Nat → Int32) × (Nat → Int64) × (Nat → Int32) × Int32 × Int32 × (Nat → Int32) × Int32 × Int32 × (Nat → Int32) × (Nat → Int32) × Int32 × (Nat → Int32) × (Nat → Int32) × (Nat → Int32) × (Nat → Int32) × Int32 × Int32 × Int32 × (Nat → Int32) × Int32 × (Nat → Int32) × Int32 × Int32 × Int32 × Int32) :=
  bd1 (fnX3_opOfWord Dictionary_keys Dictionary_size Text_codes Text_length Text_wordStart Text_wordEnd Vocabulary_keys) fun r_3 =>
    if r_3 = (46 : Int32) then
    bd13 (fnX3_define Code_ops Code_args Dictionary_keys Dictionary_starts Dictionary_size Dictionary_openLength Linker_waiting Linker_open Linker_openLoops Text_codes Text_length Text_wordStart Text_wordEnd Text_wordPlace Vocabulary_keys) fun r_11 Code_ops_11 Code_args_11 Dictionary_keys_11 Dictionary_starts_11 Dictionary_size_11 Dictionary_openLength_11 Linker_waiting_11 Linker_open_11 Linker_openLoops_11 Text_wordStart_11 Text_wordEnd_11 Text_wordPlace_11 =>
      some (r_11, Code_ops_11, Code_args_11, Dictionary_keys_11, Dictionary_starts_11, Dictionary_size_11, Dictionary_openLength_11, Linker_waiting_11, Linker_open_11, Linker_openLoops_11, Loops_counts, Loops_limits, Loops_open, Machine_cells, Machine_ends, Machine_returns, Machine_loopsBefore, Machine_bodies, Machine_place, Machine_steps, Stack_values, Stack_size, Tape_latest, Tape_count, Text_wordStart_11, Text_wordEnd_11, Text_wordPlace_11)
  else
    if r_3 = (48 : Int32) then
      bd5 (fnX3_forget Dictionary_keys Dictionary_size Text_codes Text_length Text_wordStart Text_wordEnd Text_wordPlace Vocabulary_keys) fun r_10 Dictionary_size_10 Text_wordStart_10 Text_wordEnd_10 Text_wordPlace_10 =>
        some (r_10, Code_ops, Code_args, Dictionary_keys, Dictionary_starts, Dictionary_size_10, Dictionary_openLength, Linker_waiting, Linker_open, Linker_openLoops, Loops_counts, Loops_limits, Loops_open, Machine_cells, Machine_ends, Machine_returns, Machine_loopsBefore, Machine_bodies, Machine_place, Machine_steps, Stack_values, Stack_size, Tape_latest, Tape_count, Text_wordStart_10, Text_wordEnd_10, Text_wordPlace_10)
    else
      bd1 (fnX6_isPlain r_3) fun r_6 =>
        if r_6 = 0 then
        if r_3 = (49 : Int32) then
          fnX3_takeWord_46 Text_codes Text_length Vocabulary_keys r_3 Code_ops Code_args Dictionary_keys Dictionary_starts Dictionary_size Dictionary_openLength Linker_waiting Linker_open Linker_openLoops Loops_counts Loops_limits Loops_open Machine_cells Machine_ends Machine_returns Machine_loopsBefore Machine_bodies Machine_place Machine_steps Stack_values Stack_size Tape_latest Tape_count Text_wordStart Text_wordEnd Text_wordPlace
        else
          if r_3 = (50 : Int32) then
            fnX3_takeWord_46 Text_codes Text_length Vocabulary_keys r_3 Code_ops Code_args Dictionary_keys Dictionary_starts Dictionary_size Dictionary_openLength Linker_waiting Linker_open Linker_openLoops Loops_counts Loops_limits Loops_open Machine_cells Machine_ends Machine_returns Machine_loopsBefore Machine_bodies Machine_place Machine_steps Stack_values Stack_size Tape_latest Tape_count Text_wordStart Text_wordEnd Text_wordPlace
          else
            some ((1 : Int32), Code_ops, Code_args, Dictionary_keys, Dictionary_starts, Dictionary_size, Dictionary_openLength, Linker_waiting, Linker_open, Linker_openLoops, Loops_counts, Loops_limits, Loops_open, Machine_cells, Machine_ends, Machine_returns, Machine_loopsBefore, Machine_bodies, Machine_place, Machine_steps, Stack_values, Stack_size, Tape_latest, Tape_count, Text_wordStart, Text_wordEnd, Text_wordPlace)
      else
        fnX3_takeWord_46 Text_codes Text_length Vocabulary_keys r_3 Code_ops Code_args Dictionary_keys Dictionary_starts Dictionary_size Dictionary_openLength Linker_waiting Linker_open Linker_openLoops Loops_counts Loops_limits Loops_open Machine_cells Machine_ends Machine_returns Machine_loopsBefore Machine_bodies Machine_place Machine_steps Stack_values Stack_size Tape_latest Tape_count Text_wordStart Text_wordEnd Text_wordPlace
def fnX9_wordPlace (Text_wordPlace : Int32)  : Option (Int32) :=
  some Text_wordPlace
def fnX7_empty (Stack_size : Int32)  : Option (Int32) :=
  some (0 : Int32)
def fnX5_emptyStack (Stack_size : Int32)  : Option (Int32) :=
  bd1 (fnX7_empty Stack_size) fun Stack_size_1 =>
    some Stack_size_1
def fnX3_loadText_66 (Text_codes : Nat → Int32) (Text_length : Int32) (Vocabulary_keys : Nat → Int64)  (x1 : Int32) (z0 : Int32) (Code_ops : Nat → Int32) (Code_args : Nat → Int32) (Dictionary_keys : Nat → Int64) (Dictionary_starts : Nat → Int32) (Dictionary_size : Int32) (Dictionary_openLength : Int32) (Linker_waiting : Nat → Int32) (Linker_open : Int32) (Linker_openLoops : Int32) (Loader_faultPlace : Int32) (Loops_counts : Nat → Int32) (Loops_limits : Nat → Int32) (Loops_open : Int32) (Machine_cells : Nat → Int32) (Machine_ends : Nat → Int32) (Machine_returns : Nat → Int32) (Machine_loopsBefore : Nat → Int32) (Machine_bodies : Int32) (Machine_place : Int32) (Machine_steps : Int32) (Stack_values : Nat → Int32) (Stack_size : Int32) (Tape_latest : Nat → Int32) (Tape_count : Int32) (Text_wordStart : Int32) (Text_wordEnd : Int32) (Text_wordPlace : Int32) : Option (Int32 × (Nat → Int32) × (Nat → Int32) × (Nat → Int64) × (Nat → Int32) × Int32 × Int32 × (Nat → Int32) × Int32 × Int32 × Int32 × (Nat → Int32) × (Nat → Int32) × Int32 × (Nat → Int32) × (Nat → Int32) × (Nat → Int32) × (Nat → Int32) × Int32 × Int32 × Int32 × (Nat → Int32) × Int32 × (Nat → Int32) × Int32 × Int32 × Int32 × Int32) :=
  if x1 = 0 then
    some (x1, Code_ops, Code_args, Dictionary_keys, Dictionary_starts, Dictionary_size, Dictionary_openLength, Linker_waiting, Linker_open, Linker_openLoops, z0, Loops_counts, Loops_limits, Loops_open, Machine_cells, Machine_ends, Machine_returns, Machine_loopsBefore, Machine_bodies, Machine_place, Machine_steps, Stack_values, Stack_size, Tape_latest, Tape_count, Text_wordStart, Text_wordEnd, Text_wordPlace)
  else
    bd1 (fnX5_emptyStack Stack_size) fun Stack_size_2 =>
      some (x1, Code_ops, Code_args, Dictionary_keys, Dictionary_starts, Dictionary_size, Dictionary_openLength, Linker_waiting, Linker_open, Linker_openLoops, z0, Loops_counts, Loops_limits, Loops_open, Machine_cells, Machine_ends, Machine_returns, Machine_loopsBefore, Machine_bodies, Machine_place, Machine_steps, Stack_values, Stack_size_2, Tape_latest, Tape_count, Text_wordStart, Text_wordEnd, Text_wordPlace)
def fnX3_loadText_50 (Text_codes : Nat → Int32) (Text_length : Int32) (Vocabulary_keys : Nat → Int64)  (x1 : Int32) (Code_ops : Nat → Int32) (Code_args : Nat → Int32) (Dictionary_keys : Nat → Int64) (Dictionary_starts : Nat → Int32) (Dictionary_size : Int32) (Dictionary_openLength : Int32) (Linker_waiting : Nat → Int32) (Linker_open : Int32) (Linker_openLoops : Int32) (Loader_faultPlace : Int32) (Loops_counts : Nat → Int32) (Loops_limits : Nat → Int32) (Loops_open : Int32) (Machine_cells : Nat → Int32) (Machine_ends : Nat → Int32) (Machine_returns : Nat → Int32) (Machine_loopsBefore : Nat → Int32) (Machine_bodies : Int32) (Machine_place : Int32) (Machine_steps : Int32) (Stack_values : Nat → Int32) (Stack_size : Int32) (Tape_latest : Nat → Int32) (Tape_count : Int32) (Text_wordStart : Int32) (Text_wordEnd : Int32) (Text_wordPlace : Int32) : Option (Int32 × (Nat → Int32) × (Nat → Int32) × (Nat → Int64) × (Nat → Int32) × Int32 × Int32 × (Nat → Int32) × Int32 × Int32 × Int32 × (Nat → Int32) × (Nat → Int32) × Int32 × (Nat → Int32) × (Nat → Int32) × (Nat → Int32) × (Nat → Int32) × Int32 × Int32 × Int32 × (Nat → Int32) × Int32 × (Nat → Int32) × Int32 × Int32 × Int32 × Int32) :=
  if x1 = 0 then
    fnX3_loadText_66 Text_codes Text_length Vocabulary_keys x1 (-1 : Int32) Code_ops Code_args Dictionary_keys Dictionary_starts Dictionary_size Dictionary_openLength Linker_waiting Linker_open Linker_openLoops Loader_faultPlace Loops_counts Loops_limits Loops_open Machine_cells Machine_ends Machine_returns Machine_loopsBefore Machine_bodies Machine_place Machine_steps Stack_values Stack_size Tape_latest Tape_count Text_wordStart Text_wordEnd Text_wordPlace
  else
    bd1 (fnX9_wordPlace Text_wordPlace) fun r_4 =>
      fnX3_loadText_66 Text_codes Text_length Vocabulary_keys x1 r_4 Code_ops Code_args Dictionary_keys Dictionary_starts Dictionary_size Dictionary_openLength Linker_waiting Linker_open Linker_openLoops Loader_faultPlace Loops_counts Loops_limits Loops_open Machine_cells Machine_ends Machine_returns Machine_loopsBefore Machine_bodies Machine_place Machine_steps Stack_values Stack_size Tape_latest Tape_count Text_wordStart Text_wordEnd Text_wordPlace
def fnX3_loadText_18 (Text_codes : Nat → Int32) (Text_length : Int32) (Vocabulary_keys : Nat → Int64)  : Nat → Int32 → Int32 → (Nat → Int32) → (Nat → Int32) → (Nat → Int64) → (Nat → Int32) → Int32 → Int32 → (Nat → Int32) → Int32 → Int32 → Int32 → (Nat → Int32) → (Nat → Int32) → Int32 → (Nat → Int32) → (Nat → Int32) → (Nat → Int32) → (Nat → Int32) → Int32 → Int32 → Int32 → (Nat → Int32) → Int32 → (Nat → Int32) → Int32 → Int32 → Int32 → Int32 → Option (Int32 × (Nat → Int32) × (Nat → Int32) × (Nat → Int64) × (Nat → Int32) × Int32 × Int32 × (Nat → Int32) × Int32 × Int32 × Int32 × (Nat → Int32) × (Nat → Int32) × Int32 × (Nat → Int32) × (Nat → Int32) × (Nat → Int32) × (Nat → Int32) × Int32 × Int32 × Int32 × (Nat → Int32) × Int32 × (Nat → Int32) × Int32 × Int32 × Int32 × Int32)
  | 0, _, _, _, _, _, _, _, _, _, _, _, _, _, _, _, _, _, _, _, _, _, _, _, _, _, _, _, _, _ => none
  | n + 1, x1, x2, Code_ops, Code_args, Dictionary_keys, Dictionary_starts, Dictionary_size, Dictionary_openLength, Linker_waiting, Linker_open, Linker_openLoops, Loader_faultPlace, Loops_counts, Loops_limits, Loops_open, Machine_cells, Machine_ends, Machine_returns, Machine_loopsBefore, Machine_bodies, Machine_place, Machine_steps, Stack_values, Stack_size, Tape_latest, Tape_count, Text_wordStart, Text_wordEnd, Text_wordPlace =>
    if (300 : Int32) ≤ x2 then
      fnX3_loadText_50 Text_codes Text_length Vocabulary_keys x1 Code_ops Code_args Dictionary_keys Dictionary_starts Dictionary_size Dictionary_openLength Linker_waiting Linker_open Linker_openLoops Loader_faultPlace Loops_counts Loops_limits Loops_open Machine_cells Machine_ends Machine_returns Machine_loopsBefore Machine_bodies Machine_place Machine_steps Stack_values Stack_size Tape_latest Tape_count Text_wordStart Text_wordEnd Text_wordPlace
    else
      if x1 = 0 then
        bd4 (fnX9_advance Text_codes Text_length Text_wordStart Text_wordEnd Text_wordPlace) fun r_7 Text_wordStart_7 Text_wordEnd_7 Text_wordPlace_7 =>
          if r_7 = 0 then
          fnX3_loadText_50 Text_codes Text_length Vocabulary_keys x1 Code_ops Code_args Dictionary_keys Dictionary_starts Dictionary_size Dictionary_openLength Linker_waiting Linker_open Linker_openLoops Loader_faultPlace Loops_counts Loops_limits Loops_open Machine_cells Machine_ends Machine_returns Machine_loopsBefore Machine_bodies Machine_place Machine_steps Stack_values Stack_size Tape_latest Tape_count Text_wordStart_7 Text_wordEnd_7 Text_wordPlace_7
        else
          bd27 (fnX3_takeWord Code_ops Code_args Dictionary_keys Dictionary_starts Dictionary_size Dictionary_openLength Linker_waiting Linker_open Linker_openLoops Loops_counts Loops_limits Loops_open Machine_cells Machine_ends Machine_returns Machine_loopsBefore Machine_bodies Machine_place Machine_steps Stack_values Stack_size Tape_latest Tape_count Text_codes Text_length Text_wordStart_7 Text_wordEnd_7 Text_wordPlace_7 Vocabulary_keys) fun r_9 Code_ops_9 Code_args_9 Dictionary_keys_9 Dictionary_starts_9 Dictionary_size_9 Dictionary_openLength_9 Linker_waiting_9 Linker_open_9 Linker_openLoops_9 Loops_counts_9 Loops_limits_9 Loops_open_9 Machine_cells_9 Machine_ends_9 Machine_returns_9 Machine_loopsBefore_9 Machine_bodies_9 Machine_place_9 Machine_steps_9 Stack_values_9 Stack_size_9 Tape_latest_9 Tape_count_9 Text_wordStart_9 Text_wordEnd_9 Text_wordPlace_9 =>
            (fnX3_loadText_18 Text_codes Text_length Vocabulary_keys n) r_9 (x2 + (1 : Int32)) Code_ops_9 Code_args_9 Dictionary_keys_9 Dictionary_starts_9 Dictionary_size_9 Dictionary_openLength_9 Linker_waiting_9 Linker_open_9 Linker_openLoops_9 Loader_faultPlace Loops_counts_9 Loops_limits_9 Loops_open_9 Machine_cells_9 Machine_ends_9 Machine_returns_9 Machine_loopsBefore_9 Machine_bodies_9 Machine_place_9 Machine_steps_9 Stack_values_9 Stack_size_9 Tape_latest_9 Tape_count_9 Text_wordStart_9 Text_wordEnd_9 Text_wordPlace_9
      else
        fnX3_loadText_50 Text_codes Text_length Vocabulary_keys x1 Code_ops Code_args Dictionary_keys Dictionary_starts Dictionary_size Dictionary_openLength Linker_waiting Linker_open Linker_openLoops Loader_faultPlace Loops_counts Loops_limits Loops_open Machine_cells Machine_ends Machine_returns Machine_loopsBefore Machine_bodies Machine_place Machine_steps Stack_values Stack_size Tape_latest Tape_count Text_wordStart Text_wordEnd Text_wordPlace
def fnX3_loadText (Code_ops : Nat → Int32) (Code_args : Nat → Int32) (Dictionary_keys : Nat → Int64) (Dictionary_starts : Nat → Int32) (Dictionary_size : Int32) (Dictionary_openLength : Int32) (Linker_waiting : Nat → Int32) (Linker_open : Int32) (Linker_openLoops : Int32) (Loader_faultPlace : Int32) (Loops_counts : Nat → Int32) (Loops_limits : Nat → Int32) (Loops_open : Int32) (Machine_cells : Nat → Int32) (Machine_ends : Nat → Int32) (Machine_returns : Nat → Int32) (Machine_loopsBefore : Nat → Int32) (Machine_bodies : Int32) (Machine_place : Int32) (Machine_steps : Int32) (Stack_values : Nat → Int32) (Stack_size : Int32) (Tape_latest : Nat → Int32) (Tape_count : Int32) (Text_codes : Nat → Int32) (Text_length : Int32) (Text_wordStart : Int32) (Text_wordEnd : Int32) (Text_wordPlace : Int32) (Vocabulary_keys : Nat → Int64)  : Option (Int32 × (Nat → Int32) × (Nat → Int32) × (Nat → Int64) × (Nat → Int32) × Int32 × Int32 × (Nat → Int32) × Int32 × Int32 × Int32 × (Nat → Int32) × (Nat → Int32) × Int32 × (Nat → Int32) × (Nat → Int32) × (Nat → Int32) × (Nat → Int32) × Int32 × Int32 × Int32 × (Nat → Int32) × Int32 × (Nat → Int32) × Int32 × Int32 × Int32 × Int32) :=
  bd3 (fnX5_begin Loops_open Machine_bodies Machine_steps) fun Loops_open_10 Machine_bodies_10 Machine_steps_10 =>
    bd2 (fnX9_rewind Text_wordEnd Text_wordPlace) fun Text_wordEnd_11 Text_wordPlace_11 =>
    fnX3_loadText_18 Text_codes Text_length Vocabulary_keys fuel_ (0 : Int32) (0 : Int32) Code_ops Code_args Dictionary_keys Dictionary_starts Dictionary_size Dictionary_openLength Linker_waiting Linker_open Linker_openLoops Loader_faultPlace Loops_counts Loops_limits Loops_open_10 Machine_cells Machine_ends Machine_returns Machine_loopsBefore Machine_bodies_10 Machine_place Machine_steps_10 Stack_values Stack_size Tape_latest Tape_count Text_wordStart Text_wordEnd_11 Text_wordPlace_11
def fnX5_stepCount (Machine_steps : Int32)  : Option (Int32) :=
  some Machine_steps
def fnX7_has (Stack_size : Int32) (p0 : Int32) : Option (Int32) :=
  if p0 < 0 then
    some (0 : Int32)
  else
    if Stack_size ≤ p0 then
      some (0 : Int32)
    else
      some (1 : Int32)
def fnX8_count (Tape_count : Int32)  : Option (Int32) :=
  some Tape_count
def fnX8_has (Tape_count : Int32) (p0 : Int32) : Option (Int32) :=
  if p0 < 0 then
    some (0 : Int32)
  else
    if (16 : Int32) ≤ p0 then
      some (0 : Int32)
    else
      if Tape_count ≤ p0 then
        some (0 : Int32)
      else
        some (1 : Int32)
def fnX8_fromLatest (Tape_latest : Nat → Int32) (Tape_count : Int32) (p0 : Int32) : Option (Int32) :=
  bd1 (ga 16 Tape_latest (((Tape_count - (1 : Int32)) - p0) &&& (15 : Int32))) fun x_1 =>
    some x_1
def fnX9_erase (Text_length : Int32)  : Option (Int32) :=
  some (0 : Int32)
def fnX9_codeOf  (p0 : Int32) (p1 : Int32) : Option (Int32) :=
  some ((p0 >>> (((8 : Int32) * p1) &&& 31)) &&& (255 : Int32))
def fnX9_append_68   : Nat → Int32 → Int32 → Int32 → (Nat → Int32) → Int32 → Option (Int32 × (Nat → Int32) × Int32)
  | 0, _, _, _, _, _ => none
  | n + 1, x1, x2, x3, Text_codes, Text_length =>
    if x2 ≤ x3 then
      some (x2, Text_codes, Text_length + x2)
    else
      bd1 (fnX9_codeOf x1 x3) fun r_2 =>
        bd1 (sc 300 Text_codes (Text_length + x3) ((r_2.toUInt32 % 65536).toInt32)) fun f_3 =>
        (fnX9_append_68 n) x1 x2 (x3 + (1 : Int32)) f_3 Text_length
def fnX9_append_43   (x1 : Int32) (x2 : Int32) (Text_codes : Nat → Int32) (Text_length : Int32) : Option (Int32 × (Nat → Int32) × Int32) :=
  if Text_length < 0 then
    some ((-1 : Int32), Text_codes, Text_length)
  else
    if (Text_length + x2) ≤ (300 : Int32) then
      fnX9_append_68 fuel_ x1 x2 (0 : Int32) Text_codes Text_length
    else
      some ((-1 : Int32), Text_codes, Text_length)
def fnX9_append_2   : Nat → Int32 → Int32 → (Nat → Int32) → Int32 → Option (Int32 × (Nat → Int32) × Int32)
  | 0, _, _, _, _ => none
  | n + 1, x1, x2, Text_codes, Text_length =>
    if (4 : Int32) ≤ x2 then
      fnX9_append_43 x1 x2 Text_codes Text_length
    else
      bd1 (fnX9_codeOf x1 x2) fun r_9 =>
        if r_9 = 0 then
        fnX9_append_43 x1 x2 Text_codes Text_length
      else
        bd1 (fnX9_codeOf x1 x2) fun r_11 =>
          if r_11 < (32 : Int32) then
          some ((-1 : Int32), Text_codes, Text_length)
        else
          bd1 (fnX9_codeOf x1 x2) fun r_13 =>
            if r_13 ≤ (126 : Int32) then
            (fnX9_append_2 n) x1 (x2 + (1 : Int32)) Text_codes Text_length
          else
            some ((-1 : Int32), Text_codes, Text_length)
def fnX9_append (Text_codes : Nat → Int32) (Text_length : Int32) (p0 : Int32) : Option (Int32 × (Nat → Int32) × Int32) :=
  fnX9_append_2 fuel_ p0 (0 : Int32) Text_codes Text_length
def fnX11_feed (Text_codes : Nat → Int32) (Text_length : Int32) (p0 : Int32) : Option (Int32 × (Nat → Int32) × Int32) :=
  bd3 (fnX9_append Text_codes Text_length p0) fun r_1 Text_codes_1 Text_length_1 =>
    some (r_1, Text_codes_1, Text_length_1)
def fnX11_clear (Text_length : Int32)  : Option (Int32) :=
  bd1 (fnX9_erase Text_length) fun Text_length_1 =>
    some Text_length_1
def fnX11_load (Code_ops : Nat → Int32) (Code_args : Nat → Int32) (Dictionary_keys : Nat → Int64) (Dictionary_starts : Nat → Int32) (Dictionary_size : Int32) (Dictionary_openLength : Int32) (Linker_waiting : Nat → Int32) (Linker_open : Int32) (Linker_openLoops : Int32) (Loader_faultPlace : Int32) (Loops_counts : Nat → Int32) (Loops_limits : Nat → Int32) (Loops_open : Int32) (Machine_cells : Nat → Int32) (Machine_ends : Nat → Int32) (Machine_returns : Nat → Int32) (Machine_loopsBefore : Nat → Int32) (Machine_bodies : Int32) (Machine_place : Int32) (Machine_steps : Int32) (Stack_values : Nat → Int32) (Stack_size : Int32) (Tape_latest : Nat → Int32) (Tape_count : Int32) (Text_codes : Nat → Int32) (Text_length : Int32) (Text_wordStart : Int32) (Text_wordEnd : Int32) (Text_wordPlace : Int32) (Vocabulary_keys : Nat → Int64)  : Option (Int32 × (Nat → Int32) × (Nat → Int32) × (Nat → Int64) × (Nat → Int32) × Int32 × Int32 × (Nat → Int32) × Int32 × Int32 × Int32 × (Nat → Int32) × (Nat → Int32) × Int32 × (Nat → Int32) × (Nat → Int32) × (Nat → Int32) × (Nat → Int32) × Int32 × Int32 × Int32 × (Nat → Int32) × Int32 × (Nat → Int32) × Int32 × Int32 × Int32 × Int32) :=
  bd28 (fnX3_loadText Code_ops Code_args Dictionary_keys Dictionary_starts Dictionary_size Dictionary_openLength Linker_waiting Linker_open Linker_openLoops Loader_faultPlace Loops_counts Loops_limits Loops_open Machine_cells Machine_ends Machine_returns Machine_loopsBefore Machine_bodies Machine_place Machine_steps Stack_values Stack_size Tape_latest Tape_count Text_codes Text_length Text_wordStart Text_wordEnd Text_wordPlace Vocabulary_keys) fun r_1 Code_ops_1 Code_args_1 Dictionary_keys_1 Dictionary_starts_1 Dictionary_size_1 Dictionary_openLength_1 Linker_waiting_1 Linker_open_1 Linker_openLoops_1 Loader_faultPlace_1 Loops_counts_1 Loops_limits_1 Loops_open_1 Machine_cells_1 Machine_ends_1 Machine_returns_1 Machine_loopsBefore_1 Machine_bodies_1 Machine_place_1 Machine_steps_1 Stack_values_1 Stack_size_1 Tape_latest_1 Tape_count_1 Text_wordStart_1 Text_wordEnd_1 Text_wordPlace_1 =>
    some (r_1, Code_ops_1, Code_args_1, Dictionary_keys_1, Dictionary_starts_1, Dictionary_size_1, Dictionary_openLength_1, Linker_waiting_1, Linker_open_1, Linker_openLoops_1, Loader_faultPlace_1, Loops_counts_1, Loops_limits_1, Loops_open_1, Machine_cells_1, Machine_ends_1, Machine_returns_1, Machine_loopsBefore_1, Machine_bodies_1, Machine_place_1, Machine_steps_1, Stack_values_1, Stack_size_1, Tape_latest_1, Tape_count_1, Text_wordStart_1, Text_wordEnd_1, Text_wordPlace_1)
def fnX11_faultAt (Loader_faultPlace : Int32)  : Option (Int32) :=
  bd1 (fnX3_faultPlace Loader_faultPlace) fun r_1 =>
    some r_1
def fnX11_steps (Machine_steps : Int32)  : Option (Int32) :=
  bd1 (fnX5_stepCount Machine_steps) fun r_1 =>
    some r_1
def fnX11_depth (Stack_size : Int32)  : Option (Int32) :=
  bd1 (fnX7_size Stack_size) fun r_1 =>
    some r_1
def fnX11_value (Stack_values : Nat → Int32) (Stack_size : Int32) (p0 : Int32) : Option (Int64) :=
  bd1 (fnX7_has Stack_size p0) fun r_1 =>
    if r_1 = 0 then
    some (4294967296 : Int64)
  else
    bd1 (fnX7_fromTop Stack_values Stack_size p0) fun r_3 =>
      some (r_3.toInt64)
def fnX11_push (Stack_values : Nat → Int32) (Stack_size : Int32) (p0 : Int32) : Option (Int32 × (Nat → Int32) × Int32) :=
  bd3 (fnX7_put Stack_values Stack_size p0) fun r_1 Stack_values_1 Stack_size_1 =>
    gd_ (r_1 = 0 ∨ r_1 = 1) (some (r_1, Stack_values_1, Stack_size_1))
def fnX11_cell (Machine_cells : Nat → Int32) (p0 : Int32) : Option (Int64) :=
  bd1 (fnX5_hasCell p0) fun r_1 =>
    if r_1 = 0 then
    some (4294967296 : Int64)
  else
    bd1 (fnX5_readCell Machine_cells p0) fun r_3 =>
      some (r_3.toInt64)
def fnX11_puts (Tape_count : Int32)  : Option (Int32) :=
  bd1 (fnX8_count Tape_count) fun r_1 =>
    some r_1
def fnX11_output (Tape_latest : Nat → Int32) (Tape_count : Int32) (p0 : Int32) : Option (Int64) :=
  bd1 (fnX8_has Tape_count p0) fun r_1 =>
    if r_1 = 0 then
    some (4294967296 : Int64)
  else
    bd1 (fnX8_fromLatest Tape_latest Tape_count p0) fun r_3 =>
      some (r_3.toInt64)
def fnX11_definitions (Dictionary_size : Int32)  : Option (Int32) :=
  bd1 (fnX1_size Dictionary_size) fun r_1 =>
    some r_1
def fnX11_body (Dictionary_starts : Nat → Int32) (Dictionary_size : Int32) (p0 : Int32) : Option (Int32) :=
  bd1 (fnX1_has Dictionary_size p0) fun r_1 =>
    if r_1 = 0 then
    some (-1 : Int32)
  else
    bd1 (fnX1_endOf Dictionary_starts p0) fun r_3 =>
      bd1 (fnX1_startOf Dictionary_starts p0) fun r_4 =>
      some (r_3 - r_4)
def fnX11_name (Dictionary_keys : Nat → Int64) (Dictionary_size : Int32) (p0 : Int32) : Option (Int64) :=
  bd1 (fnX1_has Dictionary_size p0) fun r_1 =>
    if r_1 = 0 then
    some (-1 : Int64)
  else
    bd1 (fnX1_keyOf Dictionary_keys p0) fun r_3 =>
      some r_3
def fnX12_feed_51  (k4 : Int32 → Int32 → Int32 → (Nat → Int32) → Int32 → Option (Int32 × (Nat → Int32) × Int32)) (x1 : Int32) (x2 : Int32) (x3 : Int32) (Mo_text : Nat → Int32) (Mo_length : Int32) : Option (Int32 × (Nat → Int32) × Int32) :=
  k4 x1 x2 (x3 + (1 : Int32)) Mo_text Mo_length
def fnX12_feed_73   : Nat → Int32 → Int32 → Int32 → (Nat → Int32) → Int32 → Option (Int32 × (Nat → Int32) × Int32)
  | 0, _, _, _, _, _ => none
  | n + 1, x1, x2, x3, Mo_text, Mo_length =>
    if x2 ≤ x3 then
      some (x2, Mo_text, Mo_length + x2)
    else
      bd1 (sa 300 Mo_text (Mo_length + x3) ((x1 >>> (((8 : Int32) * x3) &&& 31)) &&& (255 : Int32))) fun f_2 =>
        (fnX12_feed_73 n) x1 x2 (x3 + (1 : Int32)) f_2 Mo_length
def fnX12_feed_4   : Nat → Int32 → Int32 → Int32 → (Nat → Int32) → Int32 → Option (Int32 × (Nat → Int32) × Int32)
  | 0, _, _, _, _, _ => none
  | n + 1, x1, x2, x3, Mo_text, Mo_length =>
    if (4 : Int32) ≤ x3 then
      if (Mo_length + x2) ≤ (300 : Int32) then
        fnX12_feed_73 fuel_ x1 x2 (0 : Int32) Mo_text Mo_length
      else
        some ((-1 : Int32), Mo_text, Mo_length)
    else
      if x2 = x3 then
        if ((x1 >>> (((8 : Int32) * x3) &&& 31)) &&& (255 : Int32)) = 0 then
          fnX12_feed_51 (fnX12_feed_4 n) x1 x2 x3 Mo_text Mo_length
        else
          if ((x1 >>> (((8 : Int32) * x3) &&& 31)) &&& (255 : Int32)) < (32 : Int32) then
            some ((-1 : Int32), Mo_text, Mo_length)
          else
            if ((x1 >>> (((8 : Int32) * x3) &&& 31)) &&& (255 : Int32)) ≤ (126 : Int32) then
              fnX12_feed_51 (fnX12_feed_4 n) x1 (x2 + (1 : Int32)) x3 Mo_text Mo_length
            else
              some ((-1 : Int32), Mo_text, Mo_length)
      else
        fnX12_feed_51 (fnX12_feed_4 n) x1 x2 x3 Mo_text Mo_length
def fnX12_feed (Mo_text : Nat → Int32) (Mo_length : Int32) (p0 : Int32) : Option (Int32 × (Nat → Int32) × Int32) :=
  fnX12_feed_4 fuel_ p0 (0 : Int32) (0 : Int32) Mo_text Mo_length
def fnX12_clear (Mo_length : Int32)  : Option (Int32) :=
  some (0 : Int32)
def fnX12_split_77 (Mo_text : Nat → Int32) (Mo_length : Int32) (k7 : Int32 → (Nat → Int32) → (Nat → Int32) → Int32 → Option ((Nat → Int32) × (Nat → Int32) × Int32)) (x1 : Int32) (Mo_from : Nat → Int32) (Mo_to : Nat → Int32) (Mo_words : Int32) : Option ((Nat → Int32) × (Nat → Int32) × Int32) :=
  k7 (x1 + (1 : Int32)) Mo_from Mo_to Mo_words
def fnX12_split_63 (Mo_text : Nat → Int32) (Mo_length : Int32) (k7 : Int32 → (Nat → Int32) → (Nat → Int32) → Int32 → Option ((Nat → Int32) × (Nat → Int32) × Int32)) (x1 : Int32) (Mo_from : Nat → Int32) (Mo_to : Nat → Int32) (Mo_words : Int32) : Option ((Nat → Int32) × (Nat → Int32) × Int32) :=
  bd1 (sa 150 Mo_to (Mo_words - (1 : Int32)) (x1 + (1 : Int32))) fun f_1 =>
    fnX12_split_77 Mo_text Mo_length k7 x1 Mo_from f_1 Mo_words
def fnX12_split_43 (Mo_text : Nat → Int32) (Mo_length : Int32) (k7 : Int32 → (Nat → Int32) → (Nat → Int32) → Int32 → Option ((Nat → Int32) × (Nat → Int32) × Int32)) (x1 : Int32) (Mo_from : Nat → Int32) (Mo_to : Nat → Int32) (Mo_words : Int32) : Option ((Nat → Int32) × (Nat → Int32) × Int32) :=
  bd1 (sa 150 Mo_from Mo_words x1) fun f_4 =>
    fnX12_split_63 Mo_text Mo_length k7 x1 f_4 Mo_to (Mo_words + (1 : Int32))
def fnX12_split_7 (Mo_text : Nat → Int32) (Mo_length : Int32)  : Nat → Int32 → (Nat → Int32) → (Nat → Int32) → Int32 → Option ((Nat → Int32) × (Nat → Int32) × Int32)
  | 0, _, _, _, _ => none
  | n + 1, x1, Mo_from, Mo_to, Mo_words =>
    if Mo_length ≤ x1 then
      some (Mo_from, Mo_to, Mo_words)
    else
      bd1 (ga 300 Mo_text x1) fun x_8 =>
        if x_8 = (32 : Int32) then
        fnX12_split_77 Mo_text Mo_length (fnX12_split_7 Mo_text Mo_length n) x1 Mo_from Mo_to Mo_words
      else
        if x1 = 0 then
          fnX12_split_43 Mo_text Mo_length (fnX12_split_7 Mo_text Mo_length n) x1 Mo_from Mo_to Mo_words
        else
          bd1 (ga 300 Mo_text (x1 - (1 : Int32))) fun x_13 =>
            if x_13 = (32 : Int32) then
            fnX12_split_43 Mo_text Mo_length (fnX12_split_7 Mo_text Mo_length n) x1 Mo_from Mo_to Mo_words
          else
            fnX12_split_63 Mo_text Mo_length (fnX12_split_7 Mo_text Mo_length n) x1 Mo_from Mo_to Mo_words
def fnX12_split (Mo_text : Nat → Int32) (Mo_length : Int32) (Mo_from : Nat → Int32) (Mo_to : Nat → Int32) (Mo_words : Int32)  : Option ((Nat → Int32) × (Nat → Int32) × Int32) :=
  fnX12_split_7 Mo_text Mo_length fuel_ (0 : Int32) Mo_from Mo_to (0 : Int32)
def fnX12_digit  (p0 : Int32) : Option (Int32) :=
  if p0 < (48 : Int32) then
    some (0 : Int32)
  else
    if (57 : Int32) < p0 then
      some (0 : Int32)
    else
      some (1 : Int32)
def fnX12_spelled_32 (Mo_text : Nat → Int32) (Mo_from : Nat → Int32) (Mo_to : Nat → Int32)  : Nat → Int32 → Int64 → Int32 → Option (Int64)
  | 0, _, _, _ => none
  | n + 1, x1, x2, x4 =>
    bd1 (ga 150 Mo_to x1) fun x_1 =>
      if x_1 ≤ x4 then
      some x2
    else
      bd1 (ga 300 Mo_text x4) fun x_5 =>
        (fnX12_spelled_32 Mo_text Mo_from Mo_to n) x1 ((x2 * (128 : Int64)) + x_5.toInt64) (x4 + (1 : Int32))
def fnX12_spelled (Mo_text : Nat → Int32) (Mo_from : Nat → Int32) (Mo_to : Nat → Int32) (p0 : Int32) : Option (Int64) :=
  bd1 (ga 150 Mo_to p0) fun x_8 =>
    bd1 (ga 150 Mo_from p0) fun x_11 =>
    if (x_8 - x_11) ≤ (9 : Int32) then
    bd1 (ga 150 Mo_from p0) fun x_15 =>
      fnX12_spelled_32 Mo_text Mo_from Mo_to fuel_ p0 (0 : Int64) x_15
  else
    some (-1 : Int64)
def fnX12_isNumber_63 (Mo_text : Nat → Int32) (Mo_from : Nat → Int32) (Mo_to : Nat → Int32)  : Nat → Int32 → Int32 → Option (Int32)
  | 0, _, _ => none
  | n + 1, x1, x3 =>
    bd1 (ga 150 Mo_to x1) fun x_1 =>
      if x_1 ≤ x3 then
      some (1 : Int32)
    else
      bd1 (ga 300 Mo_text x3) fun x_5 =>
        bd1 (fnX12_digit x_5) fun r_8 =>
        if r_8 = 0 then
        some (0 : Int32)
      else
        (fnX12_isNumber_63 Mo_text Mo_from Mo_to n) x1 (x3 + (1 : Int32))
def fnX12_isNumber_33 (Mo_text : Nat → Int32) (Mo_from : Nat → Int32) (Mo_to : Nat → Int32)  (x1 : Int32) (z0 : Int32) : Option (Int32) :=
  bd1 (ga 150 Mo_to x1) fun x_10 =>
    if (x_10 - z0) < (1 : Int32) then
    some (0 : Int32)
  else
    bd1 (ga 150 Mo_to x1) fun x_14 =>
      if (x_14 - z0) ≤ (9 : Int32) then
      fnX12_isNumber_63 Mo_text Mo_from Mo_to fuel_ x1 z0
    else
      some (0 : Int32)
def fnX12_isNumber (Mo_text : Nat → Int32) (Mo_from : Nat → Int32) (Mo_to : Nat → Int32) (p0 : Int32) : Option (Int32) :=
  bd1 (ga 150 Mo_from p0) fun x_18 =>
    bd1 (ga 300 Mo_text x_18) fun x_21 =>
    if x_21 = (45 : Int32) then
    bd1 (ga 150 Mo_from p0) fun x_28 =>
      fnX12_isNumber_33 Mo_text Mo_from Mo_to p0 (x_28 + (1 : Int32))
  else
    bd1 (ga 150 Mo_from p0) fun x_25 =>
      fnX12_isNumber_33 Mo_text Mo_from Mo_to p0 x_25
def fnX12_number_47 (Mo_text : Nat → Int32) (Mo_from : Nat → Int32) (Mo_to : Nat → Int32)  : Nat → Int32 → Int32 → Int32 → Int32 → Option (Int32)
  | 0, _, _, _, _ => none
  | n + 1, x1, x2, x3, x4 =>
    bd1 (ga 150 Mo_to x1) fun x_1 =>
      if x_1 ≤ x4 then
      if x2 = 0 then
        some x3
      else
        some (-x3)
    else
      bd1 (ga 300 Mo_text x4) fun x_6 =>
        (fnX12_number_47 Mo_text Mo_from Mo_to n) x1 x2 ((((10 : Int32) * x3) + x_6) - (48 : Int32)) (x4 + (1 : Int32))
def fnX12_number_45 (Mo_text : Nat → Int32) (Mo_from : Nat → Int32) (Mo_to : Nat → Int32)  (x1 : Int32) (x2 : Int32) (x3 : Int32) (z0 : Int32) : Option (Int32) :=
  fnX12_number_47 Mo_text Mo_from Mo_to fuel_ x1 x2 x3 z0
def fnX12_number_21 (Mo_text : Nat → Int32) (Mo_from : Nat → Int32) (Mo_to : Nat → Int32)  (x1 : Int32) (z0 : Int32) : Option (Int32) :=
  if z0 = 0 then
    bd1 (ga 150 Mo_from x1) fun x_10 =>
      fnX12_number_45 Mo_text Mo_from Mo_to x1 z0 (0 : Int32) x_10
  else
    bd1 (ga 150 Mo_from x1) fun x_13 =>
      fnX12_number_45 Mo_text Mo_from Mo_to x1 z0 (0 : Int32) (x_13 + (1 : Int32))
def fnX12_number (Mo_text : Nat → Int32) (Mo_from : Nat → Int32) (Mo_to : Nat → Int32) (p0 : Int32) : Option (Int32) :=
  bd1 (ga 150 Mo_from p0) fun x_16 =>
    bd1 (ga 300 Mo_text x_16) fun x_19 =>
    if x_19 = (45 : Int32) then
    fnX12_number_21 Mo_text Mo_from Mo_to p0 (1 : Int32)
  else
    fnX12_number_21 Mo_text Mo_from Mo_to p0 (0 : Int32)
def fnX12_plain  (p0 : Int64) : Option (Int32) :=
  if (lg_cmp p0 (1653488 : Int64)) = 0 then
    some (0 : Int32)
  else
    if (lg_cmp p0 (211597296 : Int64)) = 0 then
      some (1 : Int32)
    else
      if (lg_cmp p0 (243134704 : Int64)) = 0 then
        some (2 : Int32)
      else
        if (lg_cmp p0 (234730226 : Int64)) = 0 then
          some (3 : Int32)
        else
          if (lg_cmp p0 (1882100 : Int64)) = 0 then
            some (4 : Int32)
          else
            if (lg_cmp p0 (1815792 : Int64)) = 0 then
              some (5 : Int32)
            else
              if (lg_cmp p0 (245199339 : Int64)) = 0 then
                some (6 : Int32)
              else
                if (lg_cmp p0 (133774064 : Int64)) = 0 then
                  some (7 : Int32)
                else
                  if (lg_cmp p0 (27057207912 : Int64)) = 0 then
                    some (8 : Int32)
                  else
                    if (lg_cmp p0 (43 : Int64)) = 0 then
                      some (9 : Int32)
                    else
                      if (lg_cmp p0 (45 : Int64)) = 0 then
                        some (10 : Int32)
                      else
                        if (lg_cmp p0 (42 : Int64)) = 0 then
                          some (11 : Int32)
                        else
                          if (lg_cmp p0 (47 : Int64)) = 0 then
                            some (12 : Int32)
                          else
                            if (lg_cmp p0 (1800164 : Int64)) = 0 then
                              some (13 : Int32)
                            else
                              if (lg_cmp p0 (3806900812389 : Int64)) = 0 then
                                some (14 : Int32)
                              else
                                if (lg_cmp p0 (1601907 : Int64)) = 0 then
                                  some (15 : Int32)
                                else
                                  if (lg_cmp p0 (1799406 : Int64)) = 0 then
                                    some (16 : Int32)
                                  else
                                    if (lg_cmp p0 (1798392 : Int64)) = 0 then
                                      some (17 : Int32)
                                    else
                                      if (lg_cmp p0 (1603428 : Int64)) = 0 then
                                        some (18 : Int32)
                                      else
                                        if (lg_cmp p0 (14322 : Int64)) = 0 then
                                          some (19 : Int32)
                                        else
                                          if (lg_cmp p0 (1980402 : Int64)) = 0 then
                                            some (20 : Int32)
                                          else
                                            if (lg_cmp p0 (3637549562228 : Int64)) = 0 then
                                              some (21 : Int32)
                                            else
                                              if (lg_cmp p0 (3741941658484 : Int64)) = 0 then
                                                some (22 : Int32)
                                              else
                                                if (lg_cmp p0 (3948100088692 : Int64)) = 0 then
                                                  some (23 : Int32)
                                                else
                                                  if (lg_cmp p0 (61 : Int64)) = 0 then
                                                    some (24 : Int32)
                                                  else
                                                    if (lg_cmp p0 (60 : Int64)) = 0 then
                                                      some (25 : Int32)
                                                    else
                                                      if (lg_cmp p0 (62 : Int64)) = 0 then
                                                        some (26 : Int32)
                                                      else
                                                        if (lg_cmp p0 (6205 : Int64)) = 0 then
                                                          some (27 : Int32)
                                                        else
                                                          if (lg_cmp p0 (6204 : Int64)) = 0 then
                                                            some (28 : Int32)
                                                          else
                                                            if (lg_cmp p0 (64 : Int64)) = 0 then
                                                              some (29 : Int32)
                                                            else
                                                              if (lg_cmp p0 (33 : Int64)) = 0 then
                                                                some (30 : Int32)
                                                              else
                                                                if (lg_cmp p0 (5537 : Int64)) = 0 then
                                                                  some (31 : Int32)
                                                                else
                                                                  if (lg_cmp p0 (46 : Int64)) = 0 then
                                                                    some (32 : Int32)
                                                                  else
                                                                    some (-1 : Int32)
def fnX12_control  (p0 : Int64) : Option (Int32) :=
  if (lg_cmp p0 (13542 : Int64)) = 0 then
    some (0 : Int32)
  else
    if (lg_cmp p0 (213596645 : Int64)) = 0 then
      some (1 : Int32)
    else
      if (lg_cmp p0 (244986606 : Int64)) = 0 then
        some (2 : Int32)
      else
        if (lg_cmp p0 (26520188142 : Int64)) = 0 then
          some (3 : Int32)
        else
          if (lg_cmp p0 (31639549164 : Int64)) = 0 then
            some (4 : Int32)
          else
            if (lg_cmp p0 (26255848686 : Int64)) = 0 then
              some (5 : Int32)
            else
              if (lg_cmp p0 (32163657317 : Int64)) = 0 then
                some (6 : Int32)
              else
                if (lg_cmp p0 (3944358703348 : Int64)) = 0 then
                  some (7 : Int32)
                else
                  if (lg_cmp p0 (12911 : Int64)) = 0 then
                    some (8 : Int32)
                  else
                    if (lg_cmp p0 (228325360 : Int64)) = 0 then
                      some (9 : Int32)
                    else
                      if (lg_cmp p0 (105 : Int64)) = 0 then
                        some (10 : Int32)
                      else
                        if (lg_cmp p0 (213791988 : Int64)) = 0 then
                          some (11 : Int32)
                        else
                          if (lg_cmp p0 (504874458200549 : Int64)) = 0 then
                            some (12 : Int32)
                          else
                            some (-1 : Int32)
def fnX12_meant_7 (Mo_names : Nat → Int64) (Mo_defined : Int32)  : Nat → Int64 → Int32 → Option (Int32)
  | 0, _, _ => none
  | n + 1, x1, x3 =>
    if x3 < 0 then
      some (-1 : Int32)
    else
      bd1 (ga 20 Mo_names x3) fun x_2 =>
        if (lg_cmp x_2 x1) = 0 then
        some x3
      else
        (fnX12_meant_7 Mo_names Mo_defined n) x1 (x3 + (-1 : Int32))
def fnX12_meant (Mo_names : Nat → Int64) (Mo_defined : Int32) (p0 : Int64) : Option (Int32) :=
  fnX12_meant_7 Mo_names Mo_defined fuel_ p0 (Mo_defined - (1 : Int32))
def fnX12_stop (Mo_fault : Int32) (p0 : Int32) : Option (Int32 × Int32) :=
  some ((0 : Int32), p0)
def fnX12_put (Mo_stack : Nat → Int32) (Mo_height : Int32) (p0 : Int64) : Option ((Nat → Int32) × Int32) :=
  bd1 (sa 33 Mo_stack Mo_height p0.toInt32) fun f_1 =>
    some (f_1, Mo_height + (1 : Int32))
def fnX12_takes  (p0 : Int32) : Option (Int32) :=
  if p0 = (8 : Int32) then
    some (0 : Int32)
  else
    if p0 = (4 : Int32) then
      some (3 : Int32)
    else
      if p0 = 0 then
        some (1 : Int32)
      else
        if p0 = (1 : Int32) then
          some (1 : Int32)
        else
          if p0 = (7 : Int32) then
            some (1 : Int32)
          else
            if p0 = (14 : Int32) then
              some (1 : Int32)
            else
              if p0 = (15 : Int32) then
                some (1 : Int32)
              else
                if p0 = (21 : Int32) then
                  some (1 : Int32)
                else
                  if p0 = (27 : Int32) then
                    some (1 : Int32)
                  else
                    if p0 = (28 : Int32) then
                      some (1 : Int32)
                    else
                      if p0 = (29 : Int32) then
                        some (1 : Int32)
                      else
                        if p0 = (32 : Int32) then
                          some (1 : Int32)
                        else
                          some (2 : Int32)
def fnX12_grows (Mo_stack : Nat → Int32) (Mo_height : Int32) (p0 : Int32) : Option (Int32) :=
  if p0 = 0 then
    some (1 : Int32)
  else
    if p0 = (3 : Int32) then
      some (1 : Int32)
    else
      if p0 = (6 : Int32) then
        some (1 : Int32)
      else
        if p0 = (8 : Int32) then
          some (1 : Int32)
        else
          if p0 = (7 : Int32) then
            bd1 (ga 33 Mo_stack (Mo_height - (1 : Int32))) fun x_6 =>
              if x_6 = 0 then
              some (0 : Int32)
            else
              some (1 : Int32)
          else
            some (0 : Int32)
def fnX12_floor_45   (x4 : Int64) : Option (Int64) :=
  some x4
def fnX12_floor_35   (x4 : Int64) (z0 : Int32) (z1 : Int32) : Option (Int64) :=
  if z0 = z1 then
    fnX12_floor_45 x4
  else
    some (x4 - (1 : Int64))
def fnX12_floor_24   (x2 : Int64) (x4 : Int64) (z0 : Int32) : Option (Int64) :=
  if 0 ≤ (lg_cmp x2 (0 : Int64)) then
    fnX12_floor_35 x4 z0 (0 : Int32)
  else
    fnX12_floor_35 x4 z0 (1 : Int32)
def fnX12_floor  (p0 : Int64) (p1 : Int64) : Option (Int64) :=
  nz_ (p1 = 0) (nz_ (p1 = 0) (if (lg_cmp (p0 - p0 / p1 * p1) (0 : Int64)) = 0 then
    fnX12_floor_45 (p0 / p1)
  else
    if 0 ≤ (lg_cmp p0 (0 : Int64)) then
      fnX12_floor_24 p1 (p0 / p1) (0 : Int32)
    else
      fnX12_floor_24 p1 (p0 / p1) (1 : Int32)))
def fnX12_made (Mo_memory : Nat → Int32) (p0 : Int32) (p1 : Int32) (p2 : Int32) : Option (Int64) :=
  if p0 = (9 : Int32) then
    some (p1.toInt64 + p2.toInt64)
  else if p0 = (10 : Int32) then
    some (p1.toInt64 - p2.toInt64)
  else if p0 = (11 : Int32) then
    some (p1.toInt64 * p2.toInt64)
  else if p0 = (12 : Int32) then
    bd1 (fnX12_floor p1.toInt64 p2.toInt64) fun r_5 =>
      some r_5
  else if p0 = (13 : Int32) then
    bd1 (fnX12_floor p1.toInt64 p2.toInt64) fun r_7 =>
      some (p1.toInt64 - (p2.toInt64 * r_7))
  else if p0 = (14 : Int32) then
    some (-p2.toInt64)
  else if p0 = (15 : Int32) then
    if 0 ≤ p2 then
      some (p2.toInt64)
    else
      some (-p2.toInt64)
  else if p0 = (16 : Int32) then
    if p2 ≤ p1 then
      some (p2.toInt64)
    else
      some (p1.toInt64)
  else if p0 = (17 : Int32) then
    if p1 ≤ p2 then
      some (p2.toInt64)
    else
      some (p1.toInt64)
  else if p0 = (18 : Int32) then
    some ((p1 &&& p2).toInt64)
  else if p0 = (19 : Int32) then
    some ((p1 ||| p2).toInt64)
  else if p0 = (20 : Int32) then
    some ((p1 ^^^ p2).toInt64)
  else if p0 = (21 : Int32) then
    some ((p2 ^^^ (-1 : Int32)).toInt64)
  else if p0 = (22 : Int32) then
    some ((p1 <<< ((p2 &&& (31 : Int32)) &&& 31)).toInt64)
  else if p0 = (23 : Int32) then
    some (((p1.toUInt32 >>> ((p2 &&& (31 : Int32)).toUInt32 &&& Int32.toUInt32 31)).toInt32).toInt64)
  else if p0 = (24 : Int32) then
    if p1 = p2 then
      some (-1 : Int64)
    else
      some (0 : Int64)
  else if p0 = (25 : Int32) then
    if p2 ≤ p1 then
      some (0 : Int64)
    else
      some (-1 : Int64)
  else if p0 = (26 : Int32) then
    if p1 ≤ p2 then
      some (0 : Int64)
    else
      some (-1 : Int64)
  else if p0 = (27 : Int32) then
    if p2 = 0 then
      some (-1 : Int64)
    else
      some (0 : Int64)
  else if p0 = (28 : Int32) then
    if 0 ≤ p2 then
      some (0 : Int64)
    else
      some (-1 : Int64)
  else 
    bd1 (ga 16 Mo_memory p2) fun x_31 =>
      some (x_31.toInt64)
def fnX12_plainStep_131   (Mo_stack : Nat → Int32) (Mo_height : Int32) (Mo_memory : Nat → Int32) (Mo_out : Nat → Int32) (Mo_outs : Int32) (Mo_steps : Int32) (Mo_fault : Int32) : Option (Int32 × (Nat → Int32) × Int32 × (Nat → Int32) × (Nat → Int32) × Int32 × Int32 × Int32) :=
  bd2 (fnX12_stop Mo_fault (6 : Int32)) fun r_1 Mo_fault_1 =>
    gd_ (r_1 = 0 ∨ r_1 = 1) (some (r_1, Mo_stack, Mo_height, Mo_memory, Mo_out, Mo_outs, Mo_steps, Mo_fault_1))
def fnX12_plainStep_529   : Nat → Int32 → Int32 → (Nat → Int32) → Int32 → (Nat → Int32) → (Nat → Int32) → Int32 → Int32 → Int32 → Option (Int32 × (Nat → Int32) × Int32 × (Nat → Int32) × (Nat → Int32) × Int32 × Int32 × Int32)
  | 0, _, _, _, _, _, _, _, _, _ => none
  | n + 1, x3, x7, Mo_stack, Mo_height, Mo_memory, Mo_out, Mo_outs, Mo_steps, Mo_fault =>
    if x7 ≤ 0 then
      bd1 (sa 16 Mo_out (0 : Int32) x3) fun f_4 =>
        some ((1 : Int32), Mo_stack, Mo_height, Mo_memory, f_4, Mo_outs + (1 : Int32), Mo_steps, Mo_fault)
    else
      bd1 (ga 16 Mo_out (x7 - (1 : Int32))) fun x_7 =>
        bd1 (sa 16 Mo_out x7 x_7) fun f_10 =>
        (fnX12_plainStep_529 n) x3 (x7 + (-1 : Int32)) Mo_stack Mo_height Mo_memory f_10 Mo_outs Mo_steps Mo_fault
def fnX12_plainStep_576   (x1 : Int32) (x3 : Int32) (x4 : Int32) (Mo_stack : Nat → Int32) (Mo_height : Int32) (Mo_memory : Nat → Int32) (Mo_out : Nat → Int32) (Mo_outs : Int32) (Mo_steps : Int32) (Mo_fault : Int32) : Option (Int32 × (Nat → Int32) × Int32 × (Nat → Int32) × (Nat → Int32) × Int32 × Int32 × Int32) :=
  bd1 (fnX12_made Mo_memory x1 x4 x3) fun r_13 =>
    bd2 (fnX12_put Mo_stack Mo_height r_13) fun Mo_stack_14 Mo_height_14 =>
    some ((1 : Int32), Mo_stack_14, Mo_height_14, Mo_memory, Mo_out, Mo_outs, Mo_steps, Mo_fault)
def fnX12_plainStep_183   (x1 : Int32) (x2 : Int32) (x3 : Int32) (x4 : Int32) (x5 : Int32) (Mo_stack : Nat → Int32) (Mo_height : Int32) (Mo_memory : Nat → Int32) (Mo_out : Nat → Int32) (Mo_outs : Int32) (Mo_steps : Int32) (Mo_fault : Int32) : Option (Int32 × (Nat → Int32) × Int32 × (Nat → Int32) × (Nat → Int32) × Int32 × Int32 × Int32) :=
  if x1 = (0 : Int32) then
    bd2 (fnX12_put Mo_stack (Mo_height - x2) x3.toInt64) fun Mo_stack_16 Mo_height_16 =>
      bd2 (fnX12_put Mo_stack_16 Mo_height_16 x3.toInt64) fun Mo_stack_17 Mo_height_17 =>
      some ((1 : Int32), Mo_stack_17, Mo_height_17, Mo_memory, Mo_out, Mo_outs, Mo_steps + (1 : Int32), Mo_fault)
  else if x1 = (1 : Int32) then
    some ((1 : Int32), Mo_stack, Mo_height - x2, Mo_memory, Mo_out, Mo_outs, Mo_steps + (1 : Int32), Mo_fault)
  else if x1 = (2 : Int32) then
    bd2 (fnX12_put Mo_stack (Mo_height - x2) x3.toInt64) fun Mo_stack_20 Mo_height_20 =>
      bd2 (fnX12_put Mo_stack_20 Mo_height_20 x4.toInt64) fun Mo_stack_21 Mo_height_21 =>
      some ((1 : Int32), Mo_stack_21, Mo_height_21, Mo_memory, Mo_out, Mo_outs, Mo_steps + (1 : Int32), Mo_fault)
  else if x1 = (3 : Int32) then
    bd2 (fnX12_put Mo_stack (Mo_height - x2) x4.toInt64) fun Mo_stack_23 Mo_height_23 =>
      bd2 (fnX12_put Mo_stack_23 Mo_height_23 x3.toInt64) fun Mo_stack_24 Mo_height_24 =>
      bd2 (fnX12_put Mo_stack_24 Mo_height_24 x4.toInt64) fun Mo_stack_25 Mo_height_25 =>
      some ((1 : Int32), Mo_stack_25, Mo_height_25, Mo_memory, Mo_out, Mo_outs, Mo_steps + (1 : Int32), Mo_fault)
  else if x1 = (4 : Int32) then
    bd2 (fnX12_put Mo_stack (Mo_height - x2) x4.toInt64) fun Mo_stack_27 Mo_height_27 =>
      bd2 (fnX12_put Mo_stack_27 Mo_height_27 x3.toInt64) fun Mo_stack_28 Mo_height_28 =>
      bd2 (fnX12_put Mo_stack_28 Mo_height_28 x5.toInt64) fun Mo_stack_29 Mo_height_29 =>
      some ((1 : Int32), Mo_stack_29, Mo_height_29, Mo_memory, Mo_out, Mo_outs, Mo_steps + (1 : Int32), Mo_fault)
  else if x1 = (5 : Int32) then
    bd2 (fnX12_put Mo_stack (Mo_height - x2) x3.toInt64) fun Mo_stack_31 Mo_height_31 =>
      some ((1 : Int32), Mo_stack_31, Mo_height_31, Mo_memory, Mo_out, Mo_outs, Mo_steps + (1 : Int32), Mo_fault)
  else if x1 = (6 : Int32) then
    bd2 (fnX12_put Mo_stack (Mo_height - x2) x3.toInt64) fun Mo_stack_33 Mo_height_33 =>
      bd2 (fnX12_put Mo_stack_33 Mo_height_33 x4.toInt64) fun Mo_stack_34 Mo_height_34 =>
      bd2 (fnX12_put Mo_stack_34 Mo_height_34 x3.toInt64) fun Mo_stack_35 Mo_height_35 =>
      some ((1 : Int32), Mo_stack_35, Mo_height_35, Mo_memory, Mo_out, Mo_outs, Mo_steps + (1 : Int32), Mo_fault)
  else if x1 = (7 : Int32) then
    bd2 (fnX12_put Mo_stack (Mo_height - x2) x3.toInt64) fun Mo_stack_37 Mo_height_37 =>
      if x3 = 0 then
      some ((1 : Int32), Mo_stack_37, Mo_height_37, Mo_memory, Mo_out, Mo_outs, Mo_steps + (1 : Int32), Mo_fault)
    else
      bd2 (fnX12_put Mo_stack_37 Mo_height_37 x3.toInt64) fun Mo_stack_39 Mo_height_39 =>
        some ((1 : Int32), Mo_stack_39, Mo_height_39, Mo_memory, Mo_out, Mo_outs, Mo_steps + (1 : Int32), Mo_fault)
  else if x1 = (8 : Int32) then
    bd2 (fnX12_put Mo_stack (Mo_height - x2) Mo_height.toInt64) fun Mo_stack_41 Mo_height_41 =>
      some ((1 : Int32), Mo_stack_41, Mo_height_41, Mo_memory, Mo_out, Mo_outs, Mo_steps + (1 : Int32), Mo_fault)
  else if x1 = (9 : Int32) then
    fnX12_plainStep_576 x1 x3 x4 Mo_stack (Mo_height - x2) Mo_memory Mo_out Mo_outs (Mo_steps + (1 : Int32)) Mo_fault
  else if x1 = (10 : Int32) then
    fnX12_plainStep_576 x1 x3 x4 Mo_stack (Mo_height - x2) Mo_memory Mo_out Mo_outs (Mo_steps + (1 : Int32)) Mo_fault
  else if x1 = (11 : Int32) then
    fnX12_plainStep_576 x1 x3 x4 Mo_stack (Mo_height - x2) Mo_memory Mo_out Mo_outs (Mo_steps + (1 : Int32)) Mo_fault
  else if x1 = (12 : Int32) then
    fnX12_plainStep_576 x1 x3 x4 Mo_stack (Mo_height - x2) Mo_memory Mo_out Mo_outs (Mo_steps + (1 : Int32)) Mo_fault
  else if x1 = (13 : Int32) then
    fnX12_plainStep_576 x1 x3 x4 Mo_stack (Mo_height - x2) Mo_memory Mo_out Mo_outs (Mo_steps + (1 : Int32)) Mo_fault
  else if x1 = (14 : Int32) then
    fnX12_plainStep_576 x1 x3 x4 Mo_stack (Mo_height - x2) Mo_memory Mo_out Mo_outs (Mo_steps + (1 : Int32)) Mo_fault
  else if x1 = (15 : Int32) then
    fnX12_plainStep_576 x1 x3 x4 Mo_stack (Mo_height - x2) Mo_memory Mo_out Mo_outs (Mo_steps + (1 : Int32)) Mo_fault
  else if x1 = (16 : Int32) then
    fnX12_plainStep_576 x1 x3 x4 Mo_stack (Mo_height - x2) Mo_memory Mo_out Mo_outs (Mo_steps + (1 : Int32)) Mo_fault
  else if x1 = (17 : Int32) then
    fnX12_plainStep_576 x1 x3 x4 Mo_stack (Mo_height - x2) Mo_memory Mo_out Mo_outs (Mo_steps + (1 : Int32)) Mo_fault
  else if x1 = (18 : Int32) then
    fnX12_plainStep_576 x1 x3 x4 Mo_stack (Mo_height - x2) Mo_memory Mo_out Mo_outs (Mo_steps + (1 : Int32)) Mo_fault
  else if x1 = (19 : Int32) then
    fnX12_plainStep_576 x1 x3 x4 Mo_stack (Mo_height - x2) Mo_memory Mo_out Mo_outs (Mo_steps + (1 : Int32)) Mo_fault
  else if x1 = (20 : Int32) then
    fnX12_plainStep_576 x1 x3 x4 Mo_stack (Mo_height - x2) Mo_memory Mo_out Mo_outs (Mo_steps + (1 : Int32)) Mo_fault
  else if x1 = (21 : Int32) then
    fnX12_plainStep_576 x1 x3 x4 Mo_stack (Mo_height - x2) Mo_memory Mo_out Mo_outs (Mo_steps + (1 : Int32)) Mo_fault
  else if x1 = (22 : Int32) then
    fnX12_plainStep_576 x1 x3 x4 Mo_stack (Mo_height - x2) Mo_memory Mo_out Mo_outs (Mo_steps + (1 : Int32)) Mo_fault
  else if x1 = (23 : Int32) then
    fnX12_plainStep_576 x1 x3 x4 Mo_stack (Mo_height - x2) Mo_memory Mo_out Mo_outs (Mo_steps + (1 : Int32)) Mo_fault
  else if x1 = (24 : Int32) then
    fnX12_plainStep_576 x1 x3 x4 Mo_stack (Mo_height - x2) Mo_memory Mo_out Mo_outs (Mo_steps + (1 : Int32)) Mo_fault
  else if x1 = (25 : Int32) then
    fnX12_plainStep_576 x1 x3 x4 Mo_stack (Mo_height - x2) Mo_memory Mo_out Mo_outs (Mo_steps + (1 : Int32)) Mo_fault
  else if x1 = (26 : Int32) then
    fnX12_plainStep_576 x1 x3 x4 Mo_stack (Mo_height - x2) Mo_memory Mo_out Mo_outs (Mo_steps + (1 : Int32)) Mo_fault
  else if x1 = (27 : Int32) then
    fnX12_plainStep_576 x1 x3 x4 Mo_stack (Mo_height - x2) Mo_memory Mo_out Mo_outs (Mo_steps + (1 : Int32)) Mo_fault
  else if x1 = (28 : Int32) then
    fnX12_plainStep_576 x1 x3 x4 Mo_stack (Mo_height - x2) Mo_memory Mo_out Mo_outs (Mo_steps + (1 : Int32)) Mo_fault
  else if x1 = (29 : Int32) then
    fnX12_plainStep_576 x1 x3 x4 Mo_stack (Mo_height - x2) Mo_memory Mo_out Mo_outs (Mo_steps + (1 : Int32)) Mo_fault
  else if x1 = (30 : Int32) then
    bd1 (sa 16 Mo_memory x3 x4) fun f_64 =>
      some ((1 : Int32), Mo_stack, Mo_height - x2, f_64, Mo_out, Mo_outs, Mo_steps + (1 : Int32), Mo_fault)
  else if x1 = (31 : Int32) then
    bd1 (ga 16 Mo_memory x3) fun x_68 =>
      bd1 (sa 16 Mo_memory x3 (x_68 + x4)) fun f_71 =>
      some ((1 : Int32), Mo_stack, Mo_height - x2, f_71, Mo_out, Mo_outs, Mo_steps + (1 : Int32), Mo_fault)
  else if x1 = (32 : Int32) then
    fnX12_plainStep_529 fuel_ x3 (15 : Int32) Mo_stack (Mo_height - x2) Mo_memory Mo_out Mo_outs (Mo_steps + (1 : Int32)) Mo_fault
  else 
    fnX12_plainStep_576 x1 x3 x4 Mo_stack (Mo_height - x2) Mo_memory Mo_out Mo_outs (Mo_steps + (1 : Int32)) Mo_fault
def fnX12_plainStep_160   (x1 : Int32) (x2 : Int32) (x3 : Int32) (x4 : Int32) (x5 : Int32) (Mo_stack : Nat → Int32) (Mo_height : Int32) (Mo_memory : Nat → Int32) (Mo_out : Nat → Int32) (Mo_outs : Int32) (Mo_steps : Int32) (Mo_fault : Int32) : Option (Int32 × (Nat → Int32) × Int32 × (Nat → Int32) × (Nat → Int32) × Int32 × Int32 × Int32) :=
  bd1 (fnX12_grows Mo_stack Mo_height x1) fun r_75 =>
    if r_75 = 0 then
    fnX12_plainStep_183 x1 x2 x3 x4 x5 Mo_stack Mo_height Mo_memory Mo_out Mo_outs Mo_steps Mo_fault
  else
    if Mo_height = (32 : Int32) then
      bd2 (fnX12_stop Mo_fault (4 : Int32)) fun r_78 Mo_fault_78 =>
        gd_ (r_78 = 0 ∨ r_78 = 1) (some (r_78, Mo_stack, Mo_height, Mo_memory, Mo_out, Mo_outs, Mo_steps, Mo_fault_78))
    else
      fnX12_plainStep_183 x1 x2 x3 x4 x5 Mo_stack Mo_height Mo_memory Mo_out Mo_outs Mo_steps Mo_fault
def fnX12_plainStep_150   (x1 : Int32) (x2 : Int32) (x3 : Int32) (x4 : Int32) (x5 : Int32) (Mo_stack : Nat → Int32) (Mo_height : Int32) (Mo_memory : Nat → Int32) (Mo_out : Nat → Int32) (Mo_outs : Int32) (Mo_steps : Int32) (Mo_fault : Int32) : Option (Int32 × (Nat → Int32) × Int32 × (Nat → Int32) × (Nat → Int32) × Int32 × Int32 × Int32) :=
  if x3 = 0 then
    bd2 (fnX12_stop Mo_fault (5 : Int32)) fun r_81 Mo_fault_81 =>
      gd_ (r_81 = 0 ∨ r_81 = 1) (some (r_81, Mo_stack, Mo_height, Mo_memory, Mo_out, Mo_outs, Mo_steps, Mo_fault_81))
  else
    fnX12_plainStep_160 x1 x2 x3 x4 x5 Mo_stack Mo_height Mo_memory Mo_out Mo_outs Mo_steps Mo_fault
def fnX12_plainStep_138   (x1 : Int32) (x2 : Int32) (x3 : Int32) (x4 : Int32) (x5 : Int32) (Mo_stack : Nat → Int32) (Mo_height : Int32) (Mo_memory : Nat → Int32) (Mo_out : Nat → Int32) (Mo_outs : Int32) (Mo_steps : Int32) (Mo_fault : Int32) : Option (Int32 × (Nat → Int32) × Int32 × (Nat → Int32) × (Nat → Int32) × Int32 × Int32 × Int32) :=
  if x1 = (12 : Int32) then
    fnX12_plainStep_150 x1 x2 x3 x4 x5 Mo_stack Mo_height Mo_memory Mo_out Mo_outs Mo_steps Mo_fault
  else
    if x1 = (13 : Int32) then
      fnX12_plainStep_150 x1 x2 x3 x4 x5 Mo_stack Mo_height Mo_memory Mo_out Mo_outs Mo_steps Mo_fault
    else
      fnX12_plainStep_160 x1 x2 x3 x4 x5 Mo_stack Mo_height Mo_memory Mo_out Mo_outs Mo_steps Mo_fault
def fnX12_plainStep_107   (x1 : Int32) (x2 : Int32) (x3 : Int32) (x4 : Int32) (z0 : Int32) (Mo_stack : Nat → Int32) (Mo_height : Int32) (Mo_memory : Nat → Int32) (Mo_out : Nat → Int32) (Mo_outs : Int32) (Mo_steps : Int32) (Mo_fault : Int32) : Option (Int32 × (Nat → Int32) × Int32 × (Nat → Int32) × (Nat → Int32) × Int32 × Int32 × Int32) :=
  if x1 < (29 : Int32) then
    fnX12_plainStep_138 x1 x2 x3 x4 z0 Mo_stack Mo_height Mo_memory Mo_out Mo_outs Mo_steps Mo_fault
  else
    if (31 : Int32) < x1 then
      fnX12_plainStep_138 x1 x2 x3 x4 z0 Mo_stack Mo_height Mo_memory Mo_out Mo_outs Mo_steps Mo_fault
    else
      if x3 < 0 then
        fnX12_plainStep_131 Mo_stack Mo_height Mo_memory Mo_out Mo_outs Mo_steps Mo_fault
      else
        if x3 ≤ (15 : Int32) then
          fnX12_plainStep_138 x1 x2 x3 x4 z0 Mo_stack Mo_height Mo_memory Mo_out Mo_outs Mo_steps Mo_fault
        else
          fnX12_plainStep_131 Mo_stack Mo_height Mo_memory Mo_out Mo_outs Mo_steps Mo_fault
def fnX12_plainStep_82   (x1 : Int32) (x2 : Int32) (x3 : Int32) (z0 : Int32) (Mo_stack : Nat → Int32) (Mo_height : Int32) (Mo_memory : Nat → Int32) (Mo_out : Nat → Int32) (Mo_outs : Int32) (Mo_steps : Int32) (Mo_fault : Int32) : Option (Int32 × (Nat → Int32) × Int32 × (Nat → Int32) × (Nat → Int32) × Int32 × Int32 × Int32) :=
  if Mo_height ≤ (2 : Int32) then
    fnX12_plainStep_107 x1 x2 x3 z0 (0 : Int32) Mo_stack Mo_height Mo_memory Mo_out Mo_outs Mo_steps Mo_fault
  else
    bd1 (ga 33 Mo_stack (Mo_height - (3 : Int32))) fun x_90 =>
      fnX12_plainStep_107 x1 x2 x3 z0 x_90 Mo_stack Mo_height Mo_memory Mo_out Mo_outs Mo_steps Mo_fault
def fnX12_plainStep_58   (x1 : Int32) (x2 : Int32) (z0 : Int32) (Mo_stack : Nat → Int32) (Mo_height : Int32) (Mo_memory : Nat → Int32) (Mo_out : Nat → Int32) (Mo_outs : Int32) (Mo_steps : Int32) (Mo_fault : Int32) : Option (Int32 × (Nat → Int32) × Int32 × (Nat → Int32) × (Nat → Int32) × Int32 × Int32 × Int32) :=
  if Mo_height ≤ (1 : Int32) then
    fnX12_plainStep_82 x1 x2 z0 (0 : Int32) Mo_stack Mo_height Mo_memory Mo_out Mo_outs Mo_steps Mo_fault
  else
    bd1 (ga 33 Mo_stack (Mo_height - (2 : Int32))) fun x_94 =>
      fnX12_plainStep_82 x1 x2 z0 x_94 Mo_stack Mo_height Mo_memory Mo_out Mo_outs Mo_steps Mo_fault
def fnX12_plainStep (Mo_stack : Nat → Int32) (Mo_height : Int32) (Mo_memory : Nat → Int32) (Mo_out : Nat → Int32) (Mo_outs : Int32) (Mo_steps : Int32) (Mo_fault : Int32) (p0 : Int32) : Option (Int32 × (Nat → Int32) × Int32 × (Nat → Int32) × (Nat → Int32) × Int32 × Int32 × Int32) :=
  bd1 (fnX12_takes p0) fun r_97 =>
    if Mo_steps = (1000 : Int32) then
    bd2 (fnX12_stop Mo_fault (8 : Int32)) fun r_106 Mo_fault_106 =>
      gd_ (r_106 = 0 ∨ r_106 = 1) (some (r_106, Mo_stack, Mo_height, Mo_memory, Mo_out, Mo_outs, Mo_steps, Mo_fault_106))
  else
    if r_97 ≤ Mo_height then
      if Mo_height ≤ 0 then
        fnX12_plainStep_58 p0 r_97 (0 : Int32) Mo_stack Mo_height Mo_memory Mo_out Mo_outs Mo_steps Mo_fault
      else
        bd1 (ga 33 Mo_stack (Mo_height - (1 : Int32))) fun x_101 =>
          fnX12_plainStep_58 p0 r_97 x_101 Mo_stack Mo_height Mo_memory Mo_out Mo_outs Mo_steps Mo_fault
    else
      bd2 (fnX12_stop Mo_fault (3 : Int32)) fun r_104 Mo_fault_104 =>
        gd_ (r_104 = 0 ∨ r_104 = 1) (some (r_104, Mo_stack, Mo_height, Mo_memory, Mo_out, Mo_outs, Mo_steps, Mo_fault_104))
def fnX12_numberStep (Mo_stack : Nat → Int32) (Mo_height : Int32) (Mo_steps : Int32) (Mo_fault : Int32) (p0 : Int32) : Option (Int32 × (Nat → Int32) × Int32 × Int32 × Int32) :=
  if Mo_steps = (1000 : Int32) then
    bd2 (fnX12_stop Mo_fault (8 : Int32)) fun r_6 Mo_fault_6 =>
      gd_ (r_6 = 0 ∨ r_6 = 1) (some (r_6, Mo_stack, Mo_height, Mo_steps, Mo_fault_6))
  else
    if Mo_height = (32 : Int32) then
      bd2 (fnX12_stop Mo_fault (4 : Int32)) fun r_4 Mo_fault_4 =>
        gd_ (r_4 = 0 ∨ r_4 = 1) (some (r_4, Mo_stack, Mo_height, Mo_steps, Mo_fault_4))
    else
      bd2 (fnX12_put Mo_stack Mo_height p0.toInt64) fun Mo_stack_3 Mo_height_3 =>
        some ((1 : Int32), Mo_stack_3, Mo_height_3, Mo_steps + (1 : Int32), Mo_fault)
def fnX12_call (Mo_running : Nat → Int32) (Mo_at : Nat → Int32) (Mo_deep : Int32) (Mo_steps : Int32) (Mo_fault : Int32) (p0 : Int32) : Option (Int32 × (Nat → Int32) × (Nat → Int32) × Int32 × Int32 × Int32) :=
  if Mo_steps = (1000 : Int32) then
    bd2 (fnX12_stop Mo_fault (8 : Int32)) fun r_11 Mo_fault_11 =>
      gd_ (r_11 = 0 ∨ r_11 = 1) (some (r_11, Mo_running, Mo_at, Mo_deep, Mo_steps, Mo_fault_11))
  else
    if Mo_deep = (12 : Int32) then
      bd2 (fnX12_stop Mo_fault (7 : Int32)) fun r_9 Mo_fault_9 =>
        gd_ (r_9 = 0 ∨ r_9 = 1) (some (r_9, Mo_running, Mo_at, Mo_deep, Mo_steps, Mo_fault_9))
    else
      bd1 (sa 12 Mo_running Mo_deep p0) fun f_3 =>
        bd1 (sa 12 Mo_at Mo_deep (0 : Int32)) fun f_6 =>
        some ((1 : Int32), f_3, f_6, Mo_deep + (1 : Int32), Mo_steps + (1 : Int32), Mo_fault)
def fnX12_leave_10 (Mo_owner : Nat → Int32)  : Nat → Int32 → Int32 → Option (Int32 × Int32)
  | 0, _, _ => none
  | n + 1, Mo_deep, Mo_loops =>
    if Mo_loops ≤ 0 then
      some (Mo_deep, Mo_loops)
    else
      bd1 (ga 12 Mo_owner (Mo_loops - (1 : Int32))) fun x_2 =>
        if x_2 = Mo_deep then
        (fnX12_leave_10 Mo_owner n) Mo_deep (Mo_loops - (1 : Int32))
      else
        some (Mo_deep, Mo_loops)
def fnX12_leave (Mo_deep : Int32) (Mo_owner : Nat → Int32) (Mo_loops : Int32)  : Option (Int32 × Int32) :=
  fnX12_leave_10 Mo_owner fuel_ (Mo_deep - (1 : Int32)) Mo_loops
def fnX12_kindAt (Mo_starts : Nat → Int32) (Mo_kind : Nat → Int32) (p0 : Int32) (p1 : Int32) : Option (Int32) :=
  bd1 (ga 20 Mo_starts p0) fun x_1 =>
    bd1 (ga 350 Mo_kind (x_1 + p1)) fun x_4 =>
    some x_4
def fnX12_is (Mo_starts : Nat → Int32) (Mo_kind : Nat → Int32) (Mo_what : Nat → Int32) (p0 : Int32) (p1 : Int32) (p2 : Int32) : Option (Int32) :=
  bd1 (fnX12_kindAt Mo_starts Mo_kind p0 p1) fun r_1 =>
    if r_1 = (2 : Int32) then
    bd1 (ga 20 Mo_starts p0) fun x_3 =>
      bd1 (ga 350 Mo_what (x_3 + p1)) fun x_6 =>
      if x_6 = p2 then
      some (1 : Int32)
    else
      some (0 : Int32)
  else
    some (0 : Int32)
def fnX12_opens (Mo_starts : Nat → Int32) (Mo_kind : Nat → Int32) (Mo_what : Nat → Int32) (p0 : Int32) (p1 : Int32) : Option (Int32) :=
  bd1 (fnX12_is Mo_starts Mo_kind Mo_what p0 p1 (0 : Int32)) fun r_1 =>
    if r_1 = 0 then
    bd1 (fnX12_is Mo_starts Mo_kind Mo_what p0 p1 (3 : Int32)) fun r_3 =>
      if r_3 = 0 then
      bd1 (fnX12_is Mo_starts Mo_kind Mo_what p0 p1 (8 : Int32)) fun r_5 =>
        if r_5 = 0 then
        some (0 : Int32)
      else
        some (1 : Int32)
    else
      some (1 : Int32)
  else
    some (1 : Int32)
def fnX12_closes (Mo_starts : Nat → Int32) (Mo_kind : Nat → Int32) (Mo_what : Nat → Int32) (p0 : Int32) (p1 : Int32) : Option (Int32) :=
  bd1 (fnX12_is Mo_starts Mo_kind Mo_what p0 p1 (2 : Int32)) fun r_1 =>
    if r_1 = 0 then
    bd1 (fnX12_is Mo_starts Mo_kind Mo_what p0 p1 (4 : Int32)) fun r_3 =>
      if r_3 = 0 then
      bd1 (fnX12_is Mo_starts Mo_kind Mo_what p0 p1 (5 : Int32)) fun r_5 =>
        if r_5 = 0 then
        bd1 (fnX12_is Mo_starts Mo_kind Mo_what p0 p1 (7 : Int32)) fun r_7 =>
          if r_7 = 0 then
          bd1 (fnX12_is Mo_starts Mo_kind Mo_what p0 p1 (9 : Int32)) fun r_9 =>
            if r_9 = 0 then
            some (0 : Int32)
          else
            some (1 : Int32)
        else
          some (1 : Int32)
      else
        some (1 : Int32)
    else
      some (1 : Int32)
  else
    some (1 : Int32)
def fnX12_behind_57 (Mo_starts : Nat → Int32) (Mo_sizes : Nat → Int32) (Mo_kind : Nat → Int32) (Mo_what : Nat → Int32) (k9 : Int32 → Int32 → Int32 → Int32 → Int32 → Option (Int32)) (x1 : Int32) (x3 : Int32) (x4 : Int32) (x5 : Int32) (x6 : Int32) : Option (Int32) :=
  bd1 (fnX12_opens Mo_starts Mo_kind Mo_what x1 x5) fun r_1 =>
    bd1 (fnX12_closes Mo_starts Mo_kind Mo_what x1 x5) fun r_2 =>
    k9 x1 x3 ((x4 + r_1) - r_2) x5 (x6 + (1 : Int32))
def fnX12_behind_83 (Mo_starts : Nat → Int32) (Mo_sizes : Nat → Int32) (Mo_kind : Nat → Int32) (Mo_what : Nat → Int32)  (x5 : Int32) : Option (Int32) :=
  some (x5 + (1 : Int32))
def fnX12_behind_9 (Mo_starts : Nat → Int32) (Mo_sizes : Nat → Int32) (Mo_kind : Nat → Int32) (Mo_what : Nat → Int32)  : Nat → Int32 → Int32 → Int32 → Int32 → Int32 → Option (Int32)
  | 0, _, _, _, _, _ => none
  | n + 1, x1, x3, x4, x5, x6 =>
    bd1 (ga 20 Mo_sizes x1) fun x_3 =>
      if x_3 ≤ x6 then
      fnX12_behind_83 Mo_starts Mo_sizes Mo_kind Mo_what x5
    else
      if x4 ≤ 0 then
        fnX12_behind_83 Mo_starts Mo_sizes Mo_kind Mo_what x5
      else
        if x3 = 0 then
          fnX12_behind_57 Mo_starts Mo_sizes Mo_kind Mo_what (fnX12_behind_9 Mo_starts Mo_sizes Mo_kind Mo_what n) x1 x3 x4 (x5 + (1 : Int32)) x6
        else
          if x4 = (1 : Int32) then
            bd1 (fnX12_is Mo_starts Mo_kind Mo_what x1 (x5 + (1 : Int32)) (1 : Int32)) fun r_10 =>
              if r_10 = 0 then
              fnX12_behind_57 Mo_starts Mo_sizes Mo_kind Mo_what (fnX12_behind_9 Mo_starts Mo_sizes Mo_kind Mo_what n) x1 x3 x4 (x5 + (1 : Int32)) x6
            else
              some ((x5 + (1 : Int32)) + (1 : Int32))
          else
            fnX12_behind_57 Mo_starts Mo_sizes Mo_kind Mo_what (fnX12_behind_9 Mo_starts Mo_sizes Mo_kind Mo_what n) x1 x3 x4 (x5 + (1 : Int32)) x6
def fnX12_behind (Mo_starts : Nat → Int32) (Mo_sizes : Nat → Int32) (Mo_kind : Nat → Int32) (Mo_what : Nat → Int32) (p0 : Int32) (p1 : Int32) (p2 : Int32) : Option (Int32) :=
  fnX12_behind_9 Mo_starts Mo_sizes Mo_kind Mo_what fuel_ p0 p2 (1 : Int32) p1 (0 : Int32)
def fnX12_back_53 (Mo_starts : Nat → Int32) (Mo_sizes : Nat → Int32) (Mo_kind : Nat → Int32) (Mo_what : Nat → Int32)  (x4 : Int32) : Option (Int32) :=
  some (x4 + (1 : Int32))
def fnX12_back_8 (Mo_starts : Nat → Int32) (Mo_sizes : Nat → Int32) (Mo_kind : Nat → Int32) (Mo_what : Nat → Int32)  : Nat → Int32 → Int32 → Int32 → Int32 → Option (Int32)
  | 0, _, _, _, _ => none
  | n + 1, x1, x3, x4, x5 =>
    bd1 (ga 20 Mo_sizes x1) fun x_1 =>
      if x_1 ≤ x5 then
      fnX12_back_53 Mo_starts Mo_sizes Mo_kind Mo_what x4
    else
      if x3 ≤ 0 then
        fnX12_back_53 Mo_starts Mo_sizes Mo_kind Mo_what x4
      else
        bd1 (fnX12_closes Mo_starts Mo_kind Mo_what x1 (x4 - (1 : Int32))) fun r_6 =>
          bd1 (fnX12_opens Mo_starts Mo_kind Mo_what x1 (x4 - (1 : Int32))) fun r_7 =>
          (fnX12_back_8 Mo_starts Mo_sizes Mo_kind Mo_what n) x1 ((x3 + r_6) - r_7) (x4 - (1 : Int32)) (x5 + (1 : Int32))
def fnX12_back (Mo_starts : Nat → Int32) (Mo_sizes : Nat → Int32) (Mo_kind : Nat → Int32) (Mo_what : Nat → Int32) (p0 : Int32) (p1 : Int32) : Option (Int32) :=
  fnX12_back_8 Mo_starts Mo_sizes Mo_kind Mo_what fuel_ p0 (1 : Int32) p1 (0 : Int32)
def fnX12_controlStep_119 (Mo_starts : Nat → Int32) (Mo_sizes : Nat → Int32) (Mo_kind : Nat → Int32) (Mo_what : Nat → Int32)  (Mo_stack : Nat → Int32) (Mo_height : Int32) (Mo_running : Nat → Int32) (Mo_at : Nat → Int32) (Mo_deep : Int32) (Mo_limits : Nat → Int32) (Mo_counts : Nat → Int32) (Mo_owner : Nat → Int32) (Mo_loops : Int32) (Mo_steps : Int32) (Mo_fault : Int32) : Option (Int32 × (Nat → Int32) × Int32 × (Nat → Int32) × (Nat → Int32) × Int32 × (Nat → Int32) × (Nat → Int32) × (Nat → Int32) × Int32 × Int32 × Int32) :=
  bd2 (fnX12_stop Mo_fault (3 : Int32)) fun r_1 Mo_fault_1 =>
    gd_ (r_1 = 0 ∨ r_1 = 1) (some (r_1, Mo_stack, Mo_height, Mo_running, Mo_at, Mo_deep, Mo_limits, Mo_counts, Mo_owner, Mo_loops, Mo_steps, Mo_fault_1))
def fnX12_controlStep_475 (Mo_starts : Nat → Int32) (Mo_sizes : Nat → Int32) (Mo_kind : Nat → Int32) (Mo_what : Nat → Int32)  (x1 : Int32) (Mo_stack : Nat → Int32) (Mo_height : Int32) (Mo_running : Nat → Int32) (Mo_at : Nat → Int32) (Mo_deep : Int32) (Mo_limits : Nat → Int32) (Mo_counts : Nat → Int32) (Mo_owner : Nat → Int32) (Mo_loops : Int32) (Mo_steps : Int32) (Mo_fault : Int32) : Option (Int32 × (Nat → Int32) × Int32 × (Nat → Int32) × (Nat → Int32) × Int32 × (Nat → Int32) × (Nat → Int32) × (Nat → Int32) × Int32 × Int32 × Int32) :=
  if x1 = (11 : Int32) then
    bd2 (fnX12_leave Mo_deep Mo_owner Mo_loops) fun Mo_deep_4 Mo_loops_4 =>
      some ((1 : Int32), Mo_stack, Mo_height, Mo_running, Mo_at, Mo_deep_4, Mo_limits, Mo_counts, Mo_owner, Mo_loops_4, Mo_steps, Mo_fault)
  else
    some ((1 : Int32), Mo_stack, Mo_height, Mo_running, Mo_at, Mo_deep, Mo_limits, Mo_counts, Mo_owner, Mo_loops, Mo_steps, Mo_fault)
def fnX12_controlStep_453 (Mo_starts : Nat → Int32) (Mo_sizes : Nat → Int32) (Mo_kind : Nat → Int32) (Mo_what : Nat → Int32)  (x1 : Int32) (Mo_stack : Nat → Int32) (Mo_height : Int32) (Mo_running : Nat → Int32) (Mo_at : Nat → Int32) (Mo_deep : Int32) (Mo_limits : Nat → Int32) (Mo_counts : Nat → Int32) (Mo_owner : Nat → Int32) (Mo_loops : Int32) (Mo_steps : Int32) (Mo_fault : Int32) : Option (Int32 × (Nat → Int32) × Int32 × (Nat → Int32) × (Nat → Int32) × Int32 × (Nat → Int32) × (Nat → Int32) × (Nat → Int32) × Int32 × Int32 × Int32) :=
  if x1 = (10 : Int32) then
    bd1 (ga 12 Mo_counts (Mo_loops - (1 : Int32))) fun x_6 =>
      bd2 (fnX12_put Mo_stack Mo_height x_6.toInt64) fun Mo_stack_9 Mo_height_9 =>
      fnX12_controlStep_475 Mo_starts Mo_sizes Mo_kind Mo_what x1 Mo_stack_9 Mo_height_9 Mo_running Mo_at Mo_deep Mo_limits Mo_counts Mo_owner Mo_loops Mo_steps Mo_fault
  else
    fnX12_controlStep_475 Mo_starts Mo_sizes Mo_kind Mo_what x1 Mo_stack Mo_height Mo_running Mo_at Mo_deep Mo_limits Mo_counts Mo_owner Mo_loops Mo_steps Mo_fault
def fnX12_controlStep_372 (Mo_starts : Nat → Int32) (Mo_sizes : Nat → Int32) (Mo_kind : Nat → Int32) (Mo_what : Nat → Int32)  (x1 : Int32) (x2 : Int32) (x3 : Int32) (x4 : Int32) (Mo_stack : Nat → Int32) (Mo_height : Int32) (Mo_running : Nat → Int32) (Mo_at : Nat → Int32) (Mo_deep : Int32) (Mo_limits : Nat → Int32) (Mo_counts : Nat → Int32) (Mo_owner : Nat → Int32) (Mo_loops : Int32) (Mo_steps : Int32) (Mo_fault : Int32) : Option (Int32 × (Nat → Int32) × Int32 × (Nat → Int32) × (Nat → Int32) × Int32 × (Nat → Int32) × (Nat → Int32) × (Nat → Int32) × Int32 × Int32 × Int32) :=
  if x1 = (9 : Int32) then
    bd1 (ga 12 Mo_counts (Mo_loops - (1 : Int32))) fun x_11 =>
      bd1 (sa 12 Mo_counts (Mo_loops - (1 : Int32)) (x_11 + (1 : Int32))) fun f_14 =>
      bd1 (ga 12 f_14 (Mo_loops - (1 : Int32))) fun x_17 =>
      bd1 (ga 12 Mo_limits (Mo_loops - (1 : Int32))) fun x_20 =>
      if x_17 = x_20 then
      fnX12_controlStep_453 Mo_starts Mo_sizes Mo_kind Mo_what x1 Mo_stack Mo_height Mo_running Mo_at Mo_deep Mo_limits f_14 Mo_owner (Mo_loops - (1 : Int32)) Mo_steps Mo_fault
    else
      bd1 (fnX12_back Mo_starts Mo_sizes Mo_kind Mo_what x2 x3) fun r_24 =>
        bd1 (sa 12 Mo_at x4 r_24) fun f_25 =>
        fnX12_controlStep_453 Mo_starts Mo_sizes Mo_kind Mo_what x1 Mo_stack Mo_height Mo_running f_25 Mo_deep Mo_limits f_14 Mo_owner Mo_loops Mo_steps Mo_fault
  else
    fnX12_controlStep_453 Mo_starts Mo_sizes Mo_kind Mo_what x1 Mo_stack Mo_height Mo_running Mo_at Mo_deep Mo_limits Mo_counts Mo_owner Mo_loops Mo_steps Mo_fault
def fnX12_controlStep_297 (Mo_starts : Nat → Int32) (Mo_sizes : Nat → Int32) (Mo_kind : Nat → Int32) (Mo_what : Nat → Int32)  (x1 : Int32) (x2 : Int32) (x3 : Int32) (x4 : Int32) (Mo_stack : Nat → Int32) (Mo_height : Int32) (Mo_running : Nat → Int32) (Mo_at : Nat → Int32) (Mo_deep : Int32) (Mo_limits : Nat → Int32) (Mo_counts : Nat → Int32) (Mo_owner : Nat → Int32) (Mo_loops : Int32) (Mo_steps : Int32) (Mo_fault : Int32) : Option (Int32 × (Nat → Int32) × Int32 × (Nat → Int32) × (Nat → Int32) × Int32 × (Nat → Int32) × (Nat → Int32) × (Nat → Int32) × Int32 × Int32 × Int32) :=
  if x1 = (8 : Int32) then
    bd1 (ga 33 Mo_stack (Mo_height - (2 : Int32))) fun x_29 =>
      bd1 (sa 12 Mo_limits Mo_loops x_29) fun f_32 =>
      bd1 (ga 33 Mo_stack ((Mo_height - (2 : Int32)) + (1 : Int32))) fun x_35 =>
      bd1 (sa 12 Mo_counts Mo_loops x_35) fun f_38 =>
      bd1 (sa 12 Mo_owner Mo_loops x4) fun f_41 =>
      fnX12_controlStep_372 Mo_starts Mo_sizes Mo_kind Mo_what x1 x2 x3 x4 Mo_stack (Mo_height - (2 : Int32)) Mo_running Mo_at Mo_deep f_32 f_38 f_41 (Mo_loops + (1 : Int32)) Mo_steps Mo_fault
  else
    fnX12_controlStep_372 Mo_starts Mo_sizes Mo_kind Mo_what x1 x2 x3 x4 Mo_stack Mo_height Mo_running Mo_at Mo_deep Mo_limits Mo_counts Mo_owner Mo_loops Mo_steps Mo_fault
def fnX12_controlStep_284 (Mo_starts : Nat → Int32) (Mo_sizes : Nat → Int32) (Mo_kind : Nat → Int32) (Mo_what : Nat → Int32)  (x1 : Int32) (x2 : Int32) (x3 : Int32) (x4 : Int32) (Mo_stack : Nat → Int32) (Mo_height : Int32) (Mo_running : Nat → Int32) (Mo_at : Nat → Int32) (Mo_deep : Int32) (Mo_limits : Nat → Int32) (Mo_counts : Nat → Int32) (Mo_owner : Nat → Int32) (Mo_loops : Int32) (Mo_steps : Int32) (Mo_fault : Int32) : Option (Int32 × (Nat → Int32) × Int32 × (Nat → Int32) × (Nat → Int32) × Int32 × (Nat → Int32) × (Nat → Int32) × (Nat → Int32) × Int32 × Int32 × Int32) :=
  bd1 (fnX12_back Mo_starts Mo_sizes Mo_kind Mo_what x2 x3) fun r_44 =>
    bd1 (sa 12 Mo_at x4 r_44) fun f_45 =>
    fnX12_controlStep_297 Mo_starts Mo_sizes Mo_kind Mo_what x1 x2 x3 x4 Mo_stack Mo_height Mo_running f_45 Mo_deep Mo_limits Mo_counts Mo_owner Mo_loops Mo_steps Mo_fault
def fnX12_controlStep_273 (Mo_starts : Nat → Int32) (Mo_sizes : Nat → Int32) (Mo_kind : Nat → Int32) (Mo_what : Nat → Int32)  (x1 : Int32) (x2 : Int32) (x3 : Int32) (x4 : Int32) (Mo_stack : Nat → Int32) (Mo_height : Int32) (Mo_running : Nat → Int32) (Mo_at : Nat → Int32) (Mo_deep : Int32) (Mo_limits : Nat → Int32) (Mo_counts : Nat → Int32) (Mo_owner : Nat → Int32) (Mo_loops : Int32) (Mo_steps : Int32) (Mo_fault : Int32) : Option (Int32 × (Nat → Int32) × Int32 × (Nat → Int32) × (Nat → Int32) × Int32 × (Nat → Int32) × (Nat → Int32) × (Nat → Int32) × Int32 × Int32 × Int32) :=
  if x1 = (5 : Int32) then
    fnX12_controlStep_284 Mo_starts Mo_sizes Mo_kind Mo_what x1 x2 x3 x4 Mo_stack Mo_height Mo_running Mo_at Mo_deep Mo_limits Mo_counts Mo_owner Mo_loops Mo_steps Mo_fault
  else
    if x1 = (7 : Int32) then
      fnX12_controlStep_284 Mo_starts Mo_sizes Mo_kind Mo_what x1 x2 x3 x4 Mo_stack Mo_height Mo_running Mo_at Mo_deep Mo_limits Mo_counts Mo_owner Mo_loops Mo_steps Mo_fault
    else
      fnX12_controlStep_297 Mo_starts Mo_sizes Mo_kind Mo_what x1 x2 x3 x4 Mo_stack Mo_height Mo_running Mo_at Mo_deep Mo_limits Mo_counts Mo_owner Mo_loops Mo_steps Mo_fault
def fnX12_controlStep_263 (Mo_starts : Nat → Int32) (Mo_sizes : Nat → Int32) (Mo_kind : Nat → Int32) (Mo_what : Nat → Int32)  (x1 : Int32) (x2 : Int32) (x3 : Int32) (x4 : Int32) (x6 : Int32) (Mo_stack : Nat → Int32) (Mo_height : Int32) (Mo_running : Nat → Int32) (Mo_at : Nat → Int32) (Mo_deep : Int32) (Mo_limits : Nat → Int32) (Mo_counts : Nat → Int32) (Mo_owner : Nat → Int32) (Mo_loops : Int32) (Mo_steps : Int32) (Mo_fault : Int32) : Option (Int32 × (Nat → Int32) × Int32 × (Nat → Int32) × (Nat → Int32) × Int32 × (Nat → Int32) × (Nat → Int32) × (Nat → Int32) × Int32 × Int32 × Int32) :=
  if x1 = (4 : Int32) then
    if x6 = 0 then
      fnX12_controlStep_273 Mo_starts Mo_sizes Mo_kind Mo_what x1 x2 x3 x4 Mo_stack Mo_height Mo_running Mo_at Mo_deep Mo_limits Mo_counts Mo_owner Mo_loops Mo_steps Mo_fault
    else
      fnX12_controlStep_284 Mo_starts Mo_sizes Mo_kind Mo_what x1 x2 x3 x4 Mo_stack Mo_height Mo_running Mo_at Mo_deep Mo_limits Mo_counts Mo_owner Mo_loops Mo_steps Mo_fault
  else
    fnX12_controlStep_273 Mo_starts Mo_sizes Mo_kind Mo_what x1 x2 x3 x4 Mo_stack Mo_height Mo_running Mo_at Mo_deep Mo_limits Mo_counts Mo_owner Mo_loops Mo_steps Mo_fault
def fnX12_controlStep_238 (Mo_starts : Nat → Int32) (Mo_sizes : Nat → Int32) (Mo_kind : Nat → Int32) (Mo_what : Nat → Int32)  (x1 : Int32) (x2 : Int32) (x3 : Int32) (x4 : Int32) (x6 : Int32) (Mo_stack : Nat → Int32) (Mo_height : Int32) (Mo_running : Nat → Int32) (Mo_at : Nat → Int32) (Mo_deep : Int32) (Mo_limits : Nat → Int32) (Mo_counts : Nat → Int32) (Mo_owner : Nat → Int32) (Mo_loops : Int32) (Mo_steps : Int32) (Mo_fault : Int32) : Option (Int32 × (Nat → Int32) × Int32 × (Nat → Int32) × (Nat → Int32) × Int32 × (Nat → Int32) × (Nat → Int32) × (Nat → Int32) × Int32 × Int32 × Int32) :=
  if x1 = (6 : Int32) then
    if x6 = 0 then
      fnX12_controlStep_263 Mo_starts Mo_sizes Mo_kind Mo_what x1 x2 x3 x4 x6 Mo_stack Mo_height Mo_running Mo_at Mo_deep Mo_limits Mo_counts Mo_owner Mo_loops Mo_steps Mo_fault
    else
      bd1 (fnX12_behind Mo_starts Mo_sizes Mo_kind Mo_what x2 x3 (0 : Int32)) fun r_54 =>
        bd1 (sa 12 Mo_at x4 r_54) fun f_55 =>
        fnX12_controlStep_263 Mo_starts Mo_sizes Mo_kind Mo_what x1 x2 x3 x4 x6 Mo_stack Mo_height Mo_running f_55 Mo_deep Mo_limits Mo_counts Mo_owner Mo_loops Mo_steps Mo_fault
  else
    fnX12_controlStep_263 Mo_starts Mo_sizes Mo_kind Mo_what x1 x2 x3 x4 x6 Mo_stack Mo_height Mo_running Mo_at Mo_deep Mo_limits Mo_counts Mo_owner Mo_loops Mo_steps Mo_fault
def fnX12_controlStep_215 (Mo_starts : Nat → Int32) (Mo_sizes : Nat → Int32) (Mo_kind : Nat → Int32) (Mo_what : Nat → Int32)  (x1 : Int32) (x2 : Int32) (x3 : Int32) (x4 : Int32) (x6 : Int32) (Mo_stack : Nat → Int32) (Mo_height : Int32) (Mo_running : Nat → Int32) (Mo_at : Nat → Int32) (Mo_deep : Int32) (Mo_limits : Nat → Int32) (Mo_counts : Nat → Int32) (Mo_owner : Nat → Int32) (Mo_loops : Int32) (Mo_steps : Int32) (Mo_fault : Int32) : Option (Int32 × (Nat → Int32) × Int32 × (Nat → Int32) × (Nat → Int32) × Int32 × (Nat → Int32) × (Nat → Int32) × (Nat → Int32) × Int32 × Int32 × Int32) :=
  if x1 = 0 then
    if x6 = 0 then
      fnX12_controlStep_238 Mo_starts Mo_sizes Mo_kind Mo_what x1 x2 x3 x4 x6 Mo_stack Mo_height Mo_running Mo_at Mo_deep Mo_limits Mo_counts Mo_owner Mo_loops Mo_steps Mo_fault
    else
      bd1 (fnX12_behind Mo_starts Mo_sizes Mo_kind Mo_what x2 x3 (1 : Int32)) fun r_60 =>
        bd1 (sa 12 Mo_at x4 r_60) fun f_61 =>
        fnX12_controlStep_238 Mo_starts Mo_sizes Mo_kind Mo_what x1 x2 x3 x4 x6 Mo_stack Mo_height Mo_running f_61 Mo_deep Mo_limits Mo_counts Mo_owner Mo_loops Mo_steps Mo_fault
  else
    fnX12_controlStep_238 Mo_starts Mo_sizes Mo_kind Mo_what x1 x2 x3 x4 x6 Mo_stack Mo_height Mo_running Mo_at Mo_deep Mo_limits Mo_counts Mo_owner Mo_loops Mo_steps Mo_fault
def fnX12_controlStep_213 (Mo_starts : Nat → Int32) (Mo_sizes : Nat → Int32) (Mo_kind : Nat → Int32) (Mo_what : Nat → Int32)  (x1 : Int32) (x2 : Int32) (x3 : Int32) (x4 : Int32) (z0 : Int32) (Mo_stack : Nat → Int32) (Mo_height : Int32) (Mo_running : Nat → Int32) (Mo_at : Nat → Int32) (Mo_deep : Int32) (Mo_limits : Nat → Int32) (Mo_counts : Nat → Int32) (Mo_owner : Nat → Int32) (Mo_loops : Int32) (Mo_steps : Int32) (Mo_fault : Int32) : Option (Int32 × (Nat → Int32) × Int32 × (Nat → Int32) × (Nat → Int32) × Int32 × (Nat → Int32) × (Nat → Int32) × (Nat → Int32) × Int32 × Int32 × Int32) :=
  fnX12_controlStep_215 Mo_starts Mo_sizes Mo_kind Mo_what x1 x2 x3 x4 z0 Mo_stack Mo_height Mo_running Mo_at Mo_deep Mo_limits Mo_counts Mo_owner Mo_loops Mo_steps Mo_fault
def fnX12_controlStep_168 (Mo_starts : Nat → Int32) (Mo_sizes : Nat → Int32) (Mo_kind : Nat → Int32) (Mo_what : Nat → Int32)  (x1 : Int32) (x2 : Int32) (x3 : Int32) (x4 : Int32) (x5 : Int32) (Mo_stack : Nat → Int32) (Mo_height : Int32) (Mo_running : Nat → Int32) (Mo_at : Nat → Int32) (Mo_deep : Int32) (Mo_limits : Nat → Int32) (Mo_counts : Nat → Int32) (Mo_owner : Nat → Int32) (Mo_loops : Int32) (Mo_steps : Int32) (Mo_fault : Int32) : Option (Int32 × (Nat → Int32) × Int32 × (Nat → Int32) × (Nat → Int32) × Int32 × (Nat → Int32) × (Nat → Int32) × (Nat → Int32) × Int32 × Int32 × Int32) :=
  if x5 = 0 then
    fnX12_controlStep_215 Mo_starts Mo_sizes Mo_kind Mo_what x1 x2 x3 x4 (0 : Int32) Mo_stack Mo_height Mo_running Mo_at Mo_deep Mo_limits Mo_counts Mo_owner Mo_loops (Mo_steps + (1 : Int32)) Mo_fault
  else
    bd1 (ga 33 Mo_stack (Mo_height - (1 : Int32))) fun x_65 =>
      if x_65 = 0 then
      fnX12_controlStep_213 Mo_starts Mo_sizes Mo_kind Mo_what x1 x2 x3 x4 (1 : Int32) Mo_stack (Mo_height - (1 : Int32)) Mo_running Mo_at Mo_deep Mo_limits Mo_counts Mo_owner Mo_loops (Mo_steps + (1 : Int32)) Mo_fault
    else
      fnX12_controlStep_213 Mo_starts Mo_sizes Mo_kind Mo_what x1 x2 x3 x4 (0 : Int32) Mo_stack (Mo_height - (1 : Int32)) Mo_running Mo_at Mo_deep Mo_limits Mo_counts Mo_owner Mo_loops (Mo_steps + (1 : Int32)) Mo_fault
def fnX12_controlStep_147 (Mo_starts : Nat → Int32) (Mo_sizes : Nat → Int32) (Mo_kind : Nat → Int32) (Mo_what : Nat → Int32)  (x1 : Int32) (x2 : Int32) (x3 : Int32) (x4 : Int32) (x5 : Int32) (Mo_stack : Nat → Int32) (Mo_height : Int32) (Mo_running : Nat → Int32) (Mo_at : Nat → Int32) (Mo_deep : Int32) (Mo_limits : Nat → Int32) (Mo_counts : Nat → Int32) (Mo_owner : Nat → Int32) (Mo_loops : Int32) (Mo_steps : Int32) (Mo_fault : Int32) : Option (Int32 × (Nat → Int32) × Int32 × (Nat → Int32) × (Nat → Int32) × Int32 × (Nat → Int32) × (Nat → Int32) × (Nat → Int32) × Int32 × Int32 × Int32) :=
  if x1 = (10 : Int32) then
    if Mo_height = (32 : Int32) then
      bd2 (fnX12_stop Mo_fault (4 : Int32)) fun r_71 Mo_fault_71 =>
        gd_ (r_71 = 0 ∨ r_71 = 1) (some (r_71, Mo_stack, Mo_height, Mo_running, Mo_at, Mo_deep, Mo_limits, Mo_counts, Mo_owner, Mo_loops, Mo_steps, Mo_fault_71))
    else
      fnX12_controlStep_168 Mo_starts Mo_sizes Mo_kind Mo_what x1 x2 x3 x4 x5 Mo_stack Mo_height Mo_running Mo_at Mo_deep Mo_limits Mo_counts Mo_owner Mo_loops Mo_steps Mo_fault
  else
    fnX12_controlStep_168 Mo_starts Mo_sizes Mo_kind Mo_what x1 x2 x3 x4 x5 Mo_stack Mo_height Mo_running Mo_at Mo_deep Mo_limits Mo_counts Mo_owner Mo_loops Mo_steps Mo_fault
def fnX12_controlStep_125 (Mo_starts : Nat → Int32) (Mo_sizes : Nat → Int32) (Mo_kind : Nat → Int32) (Mo_what : Nat → Int32)  (x1 : Int32) (x2 : Int32) (x3 : Int32) (x4 : Int32) (x5 : Int32) (Mo_stack : Nat → Int32) (Mo_height : Int32) (Mo_running : Nat → Int32) (Mo_at : Nat → Int32) (Mo_deep : Int32) (Mo_limits : Nat → Int32) (Mo_counts : Nat → Int32) (Mo_owner : Nat → Int32) (Mo_loops : Int32) (Mo_steps : Int32) (Mo_fault : Int32) : Option (Int32 × (Nat → Int32) × Int32 × (Nat → Int32) × (Nat → Int32) × Int32 × (Nat → Int32) × (Nat → Int32) × (Nat → Int32) × Int32 × Int32 × Int32) :=
  if x1 = (8 : Int32) then
    if Mo_loops = (12 : Int32) then
      bd2 (fnX12_stop Mo_fault (7 : Int32)) fun r_75 Mo_fault_75 =>
        gd_ (r_75 = 0 ∨ r_75 = 1) (some (r_75, Mo_stack, Mo_height, Mo_running, Mo_at, Mo_deep, Mo_limits, Mo_counts, Mo_owner, Mo_loops, Mo_steps, Mo_fault_75))
    else
      fnX12_controlStep_147 Mo_starts Mo_sizes Mo_kind Mo_what x1 x2 x3 x4 x5 Mo_stack Mo_height Mo_running Mo_at Mo_deep Mo_limits Mo_counts Mo_owner Mo_loops Mo_steps Mo_fault
  else
    fnX12_controlStep_147 Mo_starts Mo_sizes Mo_kind Mo_what x1 x2 x3 x4 x5 Mo_stack Mo_height Mo_running Mo_at Mo_deep Mo_limits Mo_counts Mo_owner Mo_loops Mo_steps Mo_fault
def fnX12_controlStep_105 (Mo_starts : Nat → Int32) (Mo_sizes : Nat → Int32) (Mo_kind : Nat → Int32) (Mo_what : Nat → Int32)  (x1 : Int32) (x2 : Int32) (x3 : Int32) (x4 : Int32) (x5 : Int32) (Mo_stack : Nat → Int32) (Mo_height : Int32) (Mo_running : Nat → Int32) (Mo_at : Nat → Int32) (Mo_deep : Int32) (Mo_limits : Nat → Int32) (Mo_counts : Nat → Int32) (Mo_owner : Nat → Int32) (Mo_loops : Int32) (Mo_steps : Int32) (Mo_fault : Int32) : Option (Int32 × (Nat → Int32) × Int32 × (Nat → Int32) × (Nat → Int32) × Int32 × (Nat → Int32) × (Nat → Int32) × (Nat → Int32) × Int32 × Int32 × Int32) :=
  if x1 = (8 : Int32) then
    if (2 : Int32) ≤ Mo_height then
      fnX12_controlStep_125 Mo_starts Mo_sizes Mo_kind Mo_what x1 x2 x3 x4 x5 Mo_stack Mo_height Mo_running Mo_at Mo_deep Mo_limits Mo_counts Mo_owner Mo_loops Mo_steps Mo_fault
    else
      fnX12_controlStep_119 Mo_starts Mo_sizes Mo_kind Mo_what Mo_stack Mo_height Mo_running Mo_at Mo_deep Mo_limits Mo_counts Mo_owner Mo_loops Mo_steps Mo_fault
  else
    fnX12_controlStep_125 Mo_starts Mo_sizes Mo_kind Mo_what x1 x2 x3 x4 x5 Mo_stack Mo_height Mo_running Mo_at Mo_deep Mo_limits Mo_counts Mo_owner Mo_loops Mo_steps Mo_fault
def fnX12_controlStep_90 (Mo_starts : Nat → Int32) (Mo_sizes : Nat → Int32) (Mo_kind : Nat → Int32) (Mo_what : Nat → Int32)  (x1 : Int32) (x2 : Int32) (x3 : Int32) (x4 : Int32) (z0 : Int32) (Mo_stack : Nat → Int32) (Mo_height : Int32) (Mo_running : Nat → Int32) (Mo_at : Nat → Int32) (Mo_deep : Int32) (Mo_limits : Nat → Int32) (Mo_counts : Nat → Int32) (Mo_owner : Nat → Int32) (Mo_loops : Int32) (Mo_steps : Int32) (Mo_fault : Int32) : Option (Int32 × (Nat → Int32) × Int32 × (Nat → Int32) × (Nat → Int32) × Int32 × (Nat → Int32) × (Nat → Int32) × (Nat → Int32) × Int32 × Int32 × Int32) :=
  if z0 = 0 then
    fnX12_controlStep_105 Mo_starts Mo_sizes Mo_kind Mo_what x1 x2 x3 x4 z0 Mo_stack Mo_height Mo_running Mo_at Mo_deep Mo_limits Mo_counts Mo_owner Mo_loops Mo_steps Mo_fault
  else
    if Mo_height < (1 : Int32) then
      fnX12_controlStep_119 Mo_starts Mo_sizes Mo_kind Mo_what Mo_stack Mo_height Mo_running Mo_at Mo_deep Mo_limits Mo_counts Mo_owner Mo_loops Mo_steps Mo_fault
    else
      fnX12_controlStep_105 Mo_starts Mo_sizes Mo_kind Mo_what x1 x2 x3 x4 z0 Mo_stack Mo_height Mo_running Mo_at Mo_deep Mo_limits Mo_counts Mo_owner Mo_loops Mo_steps Mo_fault
def fnX12_controlStep_85 (Mo_starts : Nat → Int32) (Mo_sizes : Nat → Int32) (Mo_kind : Nat → Int32) (Mo_what : Nat → Int32)  (x1 : Int32) (x2 : Int32) (x3 : Int32) (x4 : Int32) (Mo_stack : Nat → Int32) (Mo_height : Int32) (Mo_running : Nat → Int32) (Mo_at : Nat → Int32) (Mo_deep : Int32) (Mo_limits : Nat → Int32) (Mo_counts : Nat → Int32) (Mo_owner : Nat → Int32) (Mo_loops : Int32) (Mo_steps : Int32) (Mo_fault : Int32) : Option (Int32 × (Nat → Int32) × Int32 × (Nat → Int32) × (Nat → Int32) × Int32 × (Nat → Int32) × (Nat → Int32) × (Nat → Int32) × Int32 × Int32 × Int32) :=
  fnX12_controlStep_90 Mo_starts Mo_sizes Mo_kind Mo_what x1 x2 x3 x4 (1 : Int32) Mo_stack Mo_height Mo_running Mo_at Mo_deep Mo_limits Mo_counts Mo_owner Mo_loops Mo_steps Mo_fault
def fnX12_controlStep (Mo_stack : Nat → Int32) (Mo_height : Int32) (Mo_starts : Nat → Int32) (Mo_sizes : Nat → Int32) (Mo_kind : Nat → Int32) (Mo_what : Nat → Int32) (Mo_running : Nat → Int32) (Mo_at : Nat → Int32) (Mo_deep : Int32) (Mo_limits : Nat → Int32) (Mo_counts : Nat → Int32) (Mo_owner : Nat → Int32) (Mo_loops : Int32) (Mo_steps : Int32) (Mo_fault : Int32) (p0 : Int32) (p1 : Int32) (p2 : Int32) : Option (Int32 × (Nat → Int32) × Int32 × (Nat → Int32) × (Nat → Int32) × Int32 × (Nat → Int32) × (Nat → Int32) × (Nat → Int32) × Int32 × Int32 × Int32) :=
  if p0 = (2 : Int32) then
    some ((1 : Int32), Mo_stack, Mo_height, Mo_running, Mo_at, Mo_deep, Mo_limits, Mo_counts, Mo_owner, Mo_loops, Mo_steps, Mo_fault)
  else
    if p0 = (3 : Int32) then
      some ((1 : Int32), Mo_stack, Mo_height, Mo_running, Mo_at, Mo_deep, Mo_limits, Mo_counts, Mo_owner, Mo_loops, Mo_steps, Mo_fault)
    else
      if p0 = (1 : Int32) then
        bd1 (fnX12_behind Mo_starts Mo_sizes Mo_kind Mo_what p1 p2 (0 : Int32)) fun r_93 =>
          bd1 (sa 12 Mo_at (Mo_deep - (1 : Int32)) r_93) fun f_94 =>
          some ((1 : Int32), Mo_stack, Mo_height, Mo_running, f_94, Mo_deep, Mo_limits, Mo_counts, Mo_owner, Mo_loops, Mo_steps, Mo_fault)
      else
        if p0 = (12 : Int32) then
          bd6 (fnX12_call Mo_running Mo_at Mo_deep Mo_steps Mo_fault p1) fun r_91 Mo_running_91 Mo_at_91 Mo_deep_91 Mo_steps_91 Mo_fault_91 =>
            gd_ (r_91 = 0 ∨ r_91 = 1) (some (r_91, Mo_stack, Mo_height, Mo_running_91, Mo_at_91, Mo_deep_91, Mo_limits, Mo_counts, Mo_owner, Mo_loops, Mo_steps_91, Mo_fault_91))
        else
          if Mo_steps = (1000 : Int32) then
            bd2 (fnX12_stop Mo_fault (8 : Int32)) fun r_89 Mo_fault_89 =>
              gd_ (r_89 = 0 ∨ r_89 = 1) (some (r_89, Mo_stack, Mo_height, Mo_running, Mo_at, Mo_deep, Mo_limits, Mo_counts, Mo_owner, Mo_loops, Mo_steps, Mo_fault_89))
          else
            if p0 = 0 then
              fnX12_controlStep_85 Mo_starts Mo_sizes Mo_kind Mo_what p0 p1 p2 (Mo_deep - (1 : Int32)) Mo_stack Mo_height Mo_running Mo_at Mo_deep Mo_limits Mo_counts Mo_owner Mo_loops Mo_steps Mo_fault
            else
              if p0 = (4 : Int32) then
                fnX12_controlStep_85 Mo_starts Mo_sizes Mo_kind Mo_what p0 p1 p2 (Mo_deep - (1 : Int32)) Mo_stack Mo_height Mo_running Mo_at Mo_deep Mo_limits Mo_counts Mo_owner Mo_loops Mo_steps Mo_fault
              else
                if p0 = (6 : Int32) then
                  fnX12_controlStep_85 Mo_starts Mo_sizes Mo_kind Mo_what p0 p1 p2 (Mo_deep - (1 : Int32)) Mo_stack Mo_height Mo_running Mo_at Mo_deep Mo_limits Mo_counts Mo_owner Mo_loops Mo_steps Mo_fault
                else
                  fnX12_controlStep_90 Mo_starts Mo_sizes Mo_kind Mo_what p0 p1 p2 (Mo_deep - (1 : Int32)) (0 : Int32) Mo_stack Mo_height Mo_running Mo_at Mo_deep Mo_limits Mo_counts Mo_owner Mo_loops Mo_steps Mo_fault
def fnX12_go_194 (Mo_starts : Nat → Int32) (Mo_sizes : Nat → Int32) (Mo_kind : Nat → Int32) (Mo_what : Nat → Int32) (k4 : Int32 → Int32 → (Nat → Int32) → Int32 → (Nat → Int32) → (Nat → Int32) → Int32 → (Nat → Int32) → (Nat → Int32) → Int32 → (Nat → Int32) → (Nat → Int32) → (Nat → Int32) → Int32 → Int32 → Int32 → Option (Int32 × (Nat → Int32) × Int32 × (Nat → Int32) × (Nat → Int32) × Int32 × (Nat → Int32) × (Nat → Int32) × Int32 × (Nat → Int32) × (Nat → Int32) × (Nat → Int32) × Int32 × Int32 × Int32)) (x1 : Int32) (x2 : Int32) (Mo_stack : Nat → Int32) (Mo_height : Int32) (Mo_memory : Nat → Int32) (Mo_out : Nat → Int32) (Mo_outs : Int32) (Mo_running : Nat → Int32) (Mo_at : Nat → Int32) (Mo_deep : Int32) (Mo_limits : Nat → Int32) (Mo_counts : Nat → Int32) (Mo_owner : Nat → Int32) (Mo_loops : Int32) (Mo_steps : Int32) (Mo_fault : Int32) : Option (Int32 × (Nat → Int32) × Int32 × (Nat → Int32) × (Nat → Int32) × Int32 × (Nat → Int32) × (Nat → Int32) × Int32 × (Nat → Int32) × (Nat → Int32) × (Nat → Int32) × Int32 × Int32 × Int32) :=
  k4 x1 (x2 + (1 : Int32)) Mo_stack Mo_height Mo_memory Mo_out Mo_outs Mo_running Mo_at Mo_deep Mo_limits Mo_counts Mo_owner Mo_loops Mo_steps Mo_fault
def fnX12_go_80 (Mo_starts : Nat → Int32) (Mo_sizes : Nat → Int32) (Mo_kind : Nat → Int32) (Mo_what : Nat → Int32) (k4 : Int32 → Int32 → (Nat → Int32) → Int32 → (Nat → Int32) → (Nat → Int32) → Int32 → (Nat → Int32) → (Nat → Int32) → Int32 → (Nat → Int32) → (Nat → Int32) → (Nat → Int32) → Int32 → Int32 → Int32 → Option (Int32 × (Nat → Int32) × Int32 × (Nat → Int32) × (Nat → Int32) × Int32 × (Nat → Int32) × (Nat → Int32) × Int32 × (Nat → Int32) × (Nat → Int32) × (Nat → Int32) × Int32 × Int32 × Int32)) (x2 : Int32) (z0 : Int32) (Mo_stack : Nat → Int32) (Mo_height : Int32) (Mo_memory : Nat → Int32) (Mo_out : Nat → Int32) (Mo_outs : Int32) (Mo_running : Nat → Int32) (Mo_at : Nat → Int32) (Mo_deep : Int32) (Mo_limits : Nat → Int32) (Mo_counts : Nat → Int32) (Mo_owner : Nat → Int32) (Mo_loops : Int32) (Mo_steps : Int32) (Mo_fault : Int32) : Option (Int32 × (Nat → Int32) × Int32 × (Nat → Int32) × (Nat → Int32) × Int32 × (Nat → Int32) × (Nat → Int32) × Int32 × (Nat → Int32) × (Nat → Int32) × (Nat → Int32) × Int32 × Int32 × Int32) :=
  if z0 = 0 then
    fnX12_go_194 Mo_starts Mo_sizes Mo_kind Mo_what k4 z0 x2 Mo_stack Mo_height Mo_memory Mo_out Mo_outs Mo_running Mo_at Mo_deep Mo_limits Mo_counts Mo_owner Mo_loops Mo_steps Mo_fault
  else
    bd2 (fnX12_leave Mo_deep Mo_owner Mo_loops) fun Mo_deep_2 Mo_loops_2 =>
      fnX12_go_194 Mo_starts Mo_sizes Mo_kind Mo_what k4 z0 x2 Mo_stack Mo_height Mo_memory Mo_out Mo_outs Mo_running Mo_at Mo_deep_2 Mo_limits Mo_counts Mo_owner Mo_loops_2 (Mo_steps + (1 : Int32)) Mo_fault
def fnX12_go_75 (Mo_starts : Nat → Int32) (Mo_sizes : Nat → Int32) (Mo_kind : Nat → Int32) (Mo_what : Nat → Int32) (k4 : Int32 → Int32 → (Nat → Int32) → Int32 → (Nat → Int32) → (Nat → Int32) → Int32 → (Nat → Int32) → (Nat → Int32) → Int32 → (Nat → Int32) → (Nat → Int32) → (Nat → Int32) → Int32 → Int32 → Int32 → Option (Int32 × (Nat → Int32) × Int32 × (Nat → Int32) × (Nat → Int32) × Int32 × (Nat → Int32) × (Nat → Int32) × Int32 × (Nat → Int32) × (Nat → Int32) × (Nat → Int32) × Int32 × Int32 × Int32)) (x2 : Int32) (Mo_stack : Nat → Int32) (Mo_height : Int32) (Mo_memory : Nat → Int32) (Mo_out : Nat → Int32) (Mo_outs : Int32) (Mo_running : Nat → Int32) (Mo_at : Nat → Int32) (Mo_deep : Int32) (Mo_limits : Nat → Int32) (Mo_counts : Nat → Int32) (Mo_owner : Nat → Int32) (Mo_loops : Int32) (Mo_steps : Int32) (Mo_fault : Int32) : Option (Int32 × (Nat → Int32) × Int32 × (Nat → Int32) × (Nat → Int32) × Int32 × (Nat → Int32) × (Nat → Int32) × Int32 × (Nat → Int32) × (Nat → Int32) × (Nat → Int32) × Int32 × Int32 × Int32) :=
  fnX12_go_80 Mo_starts Mo_sizes Mo_kind Mo_what k4 x2 (1 : Int32) Mo_stack Mo_height Mo_memory Mo_out Mo_outs Mo_running Mo_at Mo_deep Mo_limits Mo_counts Mo_owner Mo_loops Mo_steps Mo_fault
def fnX12_go_193 (Mo_starts : Nat → Int32) (Mo_sizes : Nat → Int32) (Mo_kind : Nat → Int32) (Mo_what : Nat → Int32) (k4 : Int32 → Int32 → (Nat → Int32) → Int32 → (Nat → Int32) → (Nat → Int32) → Int32 → (Nat → Int32) → (Nat → Int32) → Int32 → (Nat → Int32) → (Nat → Int32) → (Nat → Int32) → Int32 → Int32 → Int32 → Option (Int32 × (Nat → Int32) × Int32 × (Nat → Int32) × (Nat → Int32) × Int32 × (Nat → Int32) × (Nat → Int32) × Int32 × (Nat → Int32) × (Nat → Int32) × (Nat → Int32) × Int32 × Int32 × Int32)) (x2 : Int32) (z0 : Int32) (Mo_stack : Nat → Int32) (Mo_height : Int32) (Mo_memory : Nat → Int32) (Mo_out : Nat → Int32) (Mo_outs : Int32) (Mo_running : Nat → Int32) (Mo_at : Nat → Int32) (Mo_deep : Int32) (Mo_limits : Nat → Int32) (Mo_counts : Nat → Int32) (Mo_owner : Nat → Int32) (Mo_loops : Int32) (Mo_steps : Int32) (Mo_fault : Int32) : Option (Int32 × (Nat → Int32) × Int32 × (Nat → Int32) × (Nat → Int32) × Int32 × (Nat → Int32) × (Nat → Int32) × Int32 × (Nat → Int32) × (Nat → Int32) × (Nat → Int32) × Int32 × Int32 × Int32) :=
  fnX12_go_194 Mo_starts Mo_sizes Mo_kind Mo_what k4 z0 x2 Mo_stack Mo_height Mo_memory Mo_out Mo_outs Mo_running Mo_at Mo_deep Mo_limits Mo_counts Mo_owner Mo_loops Mo_steps Mo_fault
def fnX12_go_4 (Mo_starts : Nat → Int32) (Mo_sizes : Nat → Int32) (Mo_kind : Nat → Int32) (Mo_what : Nat → Int32)  : Nat → Int32 → Int32 → (Nat → Int32) → Int32 → (Nat → Int32) → (Nat → Int32) → Int32 → (Nat → Int32) → (Nat → Int32) → Int32 → (Nat → Int32) → (Nat → Int32) → (Nat → Int32) → Int32 → Int32 → Int32 → Option (Int32 × (Nat → Int32) × Int32 × (Nat → Int32) × (Nat → Int32) × Int32 × (Nat → Int32) × (Nat → Int32) × Int32 × (Nat → Int32) × (Nat → Int32) × (Nat → Int32) × Int32 × Int32 × Int32)
  | 0, _, _, _, _, _, _, _, _, _, _, _, _, _, _, _, _ => none
  | n + 1, x1, x2, Mo_stack, Mo_height, Mo_memory, Mo_out, Mo_outs, Mo_running, Mo_at, Mo_deep, Mo_limits, Mo_counts, Mo_owner, Mo_loops, Mo_steps, Mo_fault =>
    if (100000 : Int32) ≤ x2 then
      gd_ (x1 = 0 ∨ x1 = 1) (some (x1, Mo_stack, Mo_height, Mo_memory, Mo_out, Mo_outs, Mo_running, Mo_at, Mo_deep, Mo_limits, Mo_counts, Mo_owner, Mo_loops, Mo_steps, Mo_fault))
    else
      if x1 = 0 then
        gd_ (x1 = 0 ∨ x1 = 1) (some (x1, Mo_stack, Mo_height, Mo_memory, Mo_out, Mo_outs, Mo_running, Mo_at, Mo_deep, Mo_limits, Mo_counts, Mo_owner, Mo_loops, Mo_steps, Mo_fault))
      else
        if Mo_deep ≤ 0 then
          gd_ (x1 = 0 ∨ x1 = 1) (some (x1, Mo_stack, Mo_height, Mo_memory, Mo_out, Mo_outs, Mo_running, Mo_at, Mo_deep, Mo_limits, Mo_counts, Mo_owner, Mo_loops, Mo_steps, Mo_fault))
        else
          bd1 (ga 12 Mo_running (Mo_deep - (1 : Int32))) fun x_9 =>
            bd1 (ga 12 Mo_at (Mo_deep - (1 : Int32))) fun x_12 =>
            bd1 (ga 20 Mo_sizes x_9) fun x_15 =>
            if x_12 = x_15 then
            if Mo_steps < (1000 : Int32) then
              fnX12_go_75 Mo_starts Mo_sizes Mo_kind Mo_what (fnX12_go_4 Mo_starts Mo_sizes Mo_kind Mo_what n) x2 Mo_stack Mo_height Mo_memory Mo_out Mo_outs Mo_running Mo_at Mo_deep Mo_limits Mo_counts Mo_owner Mo_loops Mo_steps Mo_fault
            else
              bd2 (fnX12_stop Mo_fault (8 : Int32)) fun r_37 Mo_fault_37 =>
                if r_37 = 0 then
                fnX12_go_80 Mo_starts Mo_sizes Mo_kind Mo_what (fnX12_go_4 Mo_starts Mo_sizes Mo_kind Mo_what n) x2 (0 : Int32) Mo_stack Mo_height Mo_memory Mo_out Mo_outs Mo_running Mo_at Mo_deep Mo_limits Mo_counts Mo_owner Mo_loops Mo_steps Mo_fault_37
              else
                fnX12_go_75 Mo_starts Mo_sizes Mo_kind Mo_what (fnX12_go_4 Mo_starts Mo_sizes Mo_kind Mo_what n) x2 Mo_stack Mo_height Mo_memory Mo_out Mo_outs Mo_running Mo_at Mo_deep Mo_limits Mo_counts Mo_owner Mo_loops Mo_steps Mo_fault_37
          else
            bd1 (sa 12 Mo_at (Mo_deep - (1 : Int32)) (x_12 + (1 : Int32))) fun f_19 =>
              bd1 (fnX12_kindAt Mo_starts Mo_kind x_9 x_12) fun r_22 =>
              bd1 (ga 20 Mo_starts x_9) fun x_23 =>
              bd1 (ga 350 Mo_what (x_23 + x_12)) fun x_26 =>
              if r_22 = 0 then
              bd5 (fnX12_numberStep Mo_stack Mo_height Mo_steps Mo_fault x_26) fun r_35 Mo_stack_35 Mo_height_35 Mo_steps_35 Mo_fault_35 =>
                fnX12_go_193 Mo_starts Mo_sizes Mo_kind Mo_what (fnX12_go_4 Mo_starts Mo_sizes Mo_kind Mo_what n) x2 r_35 Mo_stack_35 Mo_height_35 Mo_memory Mo_out Mo_outs Mo_running f_19 Mo_deep Mo_limits Mo_counts Mo_owner Mo_loops Mo_steps_35 Mo_fault_35
            else
              if r_22 = (1 : Int32) then
                bd8 (fnX12_plainStep Mo_stack Mo_height Mo_memory Mo_out Mo_outs Mo_steps Mo_fault x_26) fun r_34 Mo_stack_34 Mo_height_34 Mo_memory_34 Mo_out_34 Mo_outs_34 Mo_steps_34 Mo_fault_34 =>
                  fnX12_go_193 Mo_starts Mo_sizes Mo_kind Mo_what (fnX12_go_4 Mo_starts Mo_sizes Mo_kind Mo_what n) x2 r_34 Mo_stack_34 Mo_height_34 Mo_memory_34 Mo_out_34 Mo_outs_34 Mo_running f_19 Mo_deep Mo_limits Mo_counts Mo_owner Mo_loops Mo_steps_34 Mo_fault_34
              else
                if r_22 = (2 : Int32) then
                  bd12 (fnX12_controlStep Mo_stack Mo_height Mo_starts Mo_sizes Mo_kind Mo_what Mo_running f_19 Mo_deep Mo_limits Mo_counts Mo_owner Mo_loops Mo_steps Mo_fault x_26 x_9 x_12) fun r_33 Mo_stack_33 Mo_height_33 Mo_running_33 Mo_at_33 Mo_deep_33 Mo_limits_33 Mo_counts_33 Mo_owner_33 Mo_loops_33 Mo_steps_33 Mo_fault_33 =>
                    fnX12_go_193 Mo_starts Mo_sizes Mo_kind Mo_what (fnX12_go_4 Mo_starts Mo_sizes Mo_kind Mo_what n) x2 r_33 Mo_stack_33 Mo_height_33 Mo_memory Mo_out Mo_outs Mo_running_33 Mo_at_33 Mo_deep_33 Mo_limits_33 Mo_counts_33 Mo_owner_33 Mo_loops_33 Mo_steps_33 Mo_fault_33
                else
                  bd6 (fnX12_call Mo_running f_19 Mo_deep Mo_steps Mo_fault x_26) fun r_32 Mo_running_32 Mo_at_32 Mo_deep_32 Mo_steps_32 Mo_fault_32 =>
                    fnX12_go_193 Mo_starts Mo_sizes Mo_kind Mo_what (fnX12_go_4 Mo_starts Mo_sizes Mo_kind Mo_what n) x2 r_32 Mo_stack Mo_height Mo_memory Mo_out Mo_outs Mo_running_32 Mo_at_32 Mo_deep_32 Mo_limits Mo_counts Mo_owner Mo_loops Mo_steps_32 Mo_fault_32
def fnX12_go (Mo_stack : Nat → Int32) (Mo_height : Int32) (Mo_memory : Nat → Int32) (Mo_out : Nat → Int32) (Mo_outs : Int32) (Mo_starts : Nat → Int32) (Mo_sizes : Nat → Int32) (Mo_kind : Nat → Int32) (Mo_what : Nat → Int32) (Mo_running : Nat → Int32) (Mo_at : Nat → Int32) (Mo_deep : Int32) (Mo_limits : Nat → Int32) (Mo_counts : Nat → Int32) (Mo_owner : Nat → Int32) (Mo_loops : Int32) (Mo_steps : Int32) (Mo_fault : Int32)  : Option (Int32 × (Nat → Int32) × Int32 × (Nat → Int32) × (Nat → Int32) × Int32 × (Nat → Int32) × (Nat → Int32) × Int32 × (Nat → Int32) × (Nat → Int32) × (Nat → Int32) × Int32 × Int32 × Int32) :=
  fnX12_go_4 Mo_starts Mo_sizes Mo_kind Mo_what fuel_ (1 : Int32) (0 : Int32) Mo_stack Mo_height Mo_memory Mo_out Mo_outs Mo_running Mo_at Mo_deep Mo_limits Mo_counts Mo_owner Mo_loops Mo_steps Mo_fault
def fnX12_balanced_295 (Mo_kind : Nat → Int32) (Mo_what : Nat → Int32) (k8 : Int32 → Int32 → Int32 → Int32 → Int32 → (Nat → Int32) → Option (Int32 × (Nat → Int32))) (x1 : Int32) (x2 : Int32) (x3 : Int32) (x4 : Int32) (x5 : Int32) (Mo_open : Nat → Int32) : Option (Int32 × (Nat → Int32)) :=
  k8 x1 x2 x3 x4 (x5 + (1 : Int32)) Mo_open
def fnX12_balanced_72 (Mo_kind : Nat → Int32) (Mo_what : Nat → Int32) (k8 : Int32 → Int32 → Int32 → Int32 → Int32 → (Nat → Int32) → Option (Int32 × (Nat → Int32))) (x1 : Int32) (x2 : Int32) (x3 : Int32) (x4 : Int32) (x5 : Int32) (x6 : Int32) (Mo_open : Nat → Int32) : Option (Int32 × (Nat → Int32)) :=
  if x3 = (8 : Int32) then
    some ((0 : Int32), Mo_open)
  else
    bd1 (sa 9 Mo_open x3 x6) fun f_2 =>
      if x6 = (8 : Int32) then
      fnX12_balanced_295 Mo_kind Mo_what k8 x1 x2 (x3 + (1 : Int32)) (x4 + (1 : Int32)) x5 f_2
    else
      fnX12_balanced_295 Mo_kind Mo_what k8 x1 x2 (x3 + (1 : Int32)) x4 x5 f_2
def fnX12_balanced_291 (Mo_kind : Nat → Int32) (Mo_what : Nat → Int32) (k8 : Int32 → Int32 → Int32 → Int32 → Int32 → (Nat → Int32) → Option (Int32 × (Nat → Int32))) (x1 : Int32) (x2 : Int32) (x3 : Int32) (x4 : Int32) (x5 : Int32) (Mo_open : Nat → Int32) : Option (Int32 × (Nat → Int32)) :=
  fnX12_balanced_295 Mo_kind Mo_what k8 x1 x2 (x3 - (1 : Int32)) x4 x5 Mo_open
def fnX12_balanced_269 (Mo_kind : Nat → Int32) (Mo_what : Nat → Int32) (k8 : Int32 → Int32 → Int32 → Int32 → Int32 → (Nat → Int32) → Option (Int32 × (Nat → Int32))) (x1 : Int32) (x2 : Int32) (x3 : Int32) (x4 : Int32) (x5 : Int32) (x6 : Int32) (z0 : Int32) (Mo_open : Nat → Int32) : Option (Int32 × (Nat → Int32)) :=
  if z0 = 0 then
    some ((0 : Int32), Mo_open)
  else
    if x6 = (9 : Int32) then
      fnX12_balanced_291 Mo_kind Mo_what k8 x1 x2 x3 (x4 - (1 : Int32)) x5 Mo_open
    else
      fnX12_balanced_291 Mo_kind Mo_what k8 x1 x2 x3 x4 x5 Mo_open
def fnX12_balanced_206 (Mo_kind : Nat → Int32) (Mo_what : Nat → Int32) (k8 : Int32 → Int32 → Int32 → Int32 → Int32 → (Nat → Int32) → Option (Int32 × (Nat → Int32))) (x1 : Int32) (x2 : Int32) (x3 : Int32) (x4 : Int32) (x5 : Int32) (x6 : Int32) (Mo_open : Nat → Int32) : Option (Int32 × (Nat → Int32)) :=
  fnX12_balanced_269 Mo_kind Mo_what k8 x1 x2 x3 x4 x5 x6 (1 : Int32) Mo_open
def fnX12_balanced_52 (Mo_kind : Nat → Int32) (Mo_what : Nat → Int32) (k8 : Int32 → Int32 → Int32 → Int32 → Int32 → (Nat → Int32) → Option (Int32 × (Nat → Int32))) (x1 : Int32) (x2 : Int32) (x3 : Int32) (x4 : Int32) (x5 : Int32) (x6 : Int32) (z0 : Int32) (Mo_open : Nat → Int32) : Option (Int32 × (Nat → Int32)) :=
  if x6 = 0 then
    fnX12_balanced_72 Mo_kind Mo_what k8 x1 x2 x3 x4 x5 x6 Mo_open
  else
    if x6 = (3 : Int32) then
      fnX12_balanced_72 Mo_kind Mo_what k8 x1 x2 x3 x4 x5 x6 Mo_open
    else
      if x6 = (8 : Int32) then
        fnX12_balanced_72 Mo_kind Mo_what k8 x1 x2 x3 x4 x5 x6 Mo_open
      else
        if x6 = (1 : Int32) then
          if z0 = 0 then
            bd1 (sa 9 Mo_open (x3 - (1 : Int32)) (1 : Int32)) fun f_30 =>
              fnX12_balanced_295 Mo_kind Mo_what k8 x1 x2 x3 x4 x5 f_30
          else
            some ((0 : Int32), Mo_open)
        else
          if x6 = (6 : Int32) then
            if z0 = (3 : Int32) then
              bd1 (sa 9 Mo_open (x3 - (1 : Int32)) (6 : Int32)) fun f_26 =>
                fnX12_balanced_295 Mo_kind Mo_what k8 x1 x2 x3 x4 x5 f_26
            else
              some ((0 : Int32), Mo_open)
          else
            if x6 = (10 : Int32) then
              if x4 = 0 then
                some ((0 : Int32), Mo_open)
              else
                fnX12_balanced_295 Mo_kind Mo_what k8 x1 x2 x3 x4 x5 Mo_open
            else
              if x6 = (11 : Int32) then
                fnX12_balanced_295 Mo_kind Mo_what k8 x1 x2 x3 x4 x5 Mo_open
              else
                if x6 = (12 : Int32) then
                  fnX12_balanced_295 Mo_kind Mo_what k8 x1 x2 x3 x4 x5 Mo_open
                else
                  if x6 = (2 : Int32) then
                    if z0 = 0 then
                      fnX12_balanced_206 Mo_kind Mo_what k8 x1 x2 x3 x4 x5 x6 Mo_open
                    else
                      if z0 = (1 : Int32) then
                        fnX12_balanced_206 Mo_kind Mo_what k8 x1 x2 x3 x4 x5 x6 Mo_open
                      else
                        fnX12_balanced_269 Mo_kind Mo_what k8 x1 x2 x3 x4 x5 x6 (0 : Int32) Mo_open
                  else
                    if x6 = (7 : Int32) then
                      if z0 = (6 : Int32) then
                        fnX12_balanced_269 Mo_kind Mo_what k8 x1 x2 x3 x4 x5 x6 (1 : Int32) Mo_open
                      else
                        fnX12_balanced_269 Mo_kind Mo_what k8 x1 x2 x3 x4 x5 x6 (0 : Int32) Mo_open
                    else
                      if x6 = (9 : Int32) then
                        if z0 = (8 : Int32) then
                          fnX12_balanced_269 Mo_kind Mo_what k8 x1 x2 x3 x4 x5 x6 (1 : Int32) Mo_open
                        else
                          fnX12_balanced_269 Mo_kind Mo_what k8 x1 x2 x3 x4 x5 x6 (0 : Int32) Mo_open
                      else
                        if z0 = (3 : Int32) then
                          fnX12_balanced_269 Mo_kind Mo_what k8 x1 x2 x3 x4 x5 x6 (1 : Int32) Mo_open
                        else
                          fnX12_balanced_269 Mo_kind Mo_what k8 x1 x2 x3 x4 x5 x6 (0 : Int32) Mo_open
def fnX12_balanced_8 (Mo_kind : Nat → Int32) (Mo_what : Nat → Int32)  : Nat → Int32 → Int32 → Int32 → Int32 → Int32 → (Nat → Int32) → Option (Int32 × (Nat → Int32))
  | 0, _, _, _, _, _, _ => none
  | n + 1, x1, x2, x3, x4, x5, Mo_open =>
    if (x1 + x2) ≤ x5 then
      if x3 = 0 then
        some ((1 : Int32), Mo_open)
      else
        some ((0 : Int32), Mo_open)
    else
      bd1 (ga 350 Mo_kind x5) fun x_35 =>
        if x_35 = (2 : Int32) then
        bd1 (ga 350 Mo_what x5) fun x_39 =>
          if x3 ≤ 0 then
          fnX12_balanced_52 Mo_kind Mo_what (fnX12_balanced_8 Mo_kind Mo_what n) x1 x2 x3 x4 x5 x_39 (-1 : Int32) Mo_open
        else
          bd1 (ga 9 Mo_open (x3 - (1 : Int32))) fun x_43 =>
            fnX12_balanced_52 Mo_kind Mo_what (fnX12_balanced_8 Mo_kind Mo_what n) x1 x2 x3 x4 x5 x_39 x_43 Mo_open
      else
        fnX12_balanced_295 Mo_kind Mo_what (fnX12_balanced_8 Mo_kind Mo_what n) x1 x2 x3 x4 x5 Mo_open
def fnX12_balanced (Mo_kind : Nat → Int32) (Mo_what : Nat → Int32) (Mo_open : Nat → Int32) (p0 : Int32) (p1 : Int32) : Option (Int32 × (Nat → Int32)) :=
  fnX12_balanced_8 Mo_kind Mo_what fuel_ p0 p1 (0 : Int32) (0 : Int32) p0 Mo_open
def fnX12_used (Mo_starts : Nat → Int32) (Mo_sizes : Nat → Int32) (Mo_defined : Int32)  : Option (Int32) :=
  if Mo_defined = 0 then
    some (0 : Int32)
  else
    bd1 (ga 20 Mo_starts (Mo_defined - (1 : Int32))) fun x_2 =>
      bd1 (ga 20 Mo_sizes (Mo_defined - (1 : Int32))) fun x_5 =>
      some (x_2 + x_5)
def fnX12_entry_107 (Mo_text : Nat → Int32) (Mo_from : Nat → Int32) (Mo_to : Nat → Int32) (Mo_names : Nat → Int64) (Mo_defined : Int32)  (x4 : Int32) (z0 : Int32) (z1 : Int32) (Mo_kind : Nat → Int32) (Mo_what : Nat → Int32) : Option (Int32 × (Nat → Int32) × (Nat → Int32)) :=
  bd1 (sa 350 Mo_what z0 z1) fun f_1 =>
    bd1 (ga 350 f_1 x4) fun x_4 =>
    if 0 ≤ x_4 then
    some ((1 : Int32), Mo_kind, f_1)
  else
    bd1 (ga 350 Mo_kind x4) fun x_8 =>
      if x_8 = 0 then
      some ((1 : Int32), Mo_kind, f_1)
    else
      some ((0 : Int32), Mo_kind, f_1)
def fnX12_entry_41 (Mo_text : Nat → Int32) (Mo_from : Nat → Int32) (Mo_to : Nat → Int32) (Mo_names : Nat → Int64) (Mo_defined : Int32)  (x1 : Int32) (x2 : Int64) (x4 : Int32) (z0 : Int32) (z1 : Int32) (Mo_kind : Nat → Int32) (Mo_what : Nat → Int32) : Option (Int32 × (Nat → Int32) × (Nat → Int32)) :=
  bd1 (sa 350 Mo_kind z0 z1) fun f_12 =>
    bd1 (ga 350 f_12 x4) fun x_15 =>
    if x_15 = 0 then
    bd1 (fnX12_number Mo_text Mo_from Mo_to x1) fun r_30 =>
      fnX12_entry_107 Mo_text Mo_from Mo_to Mo_names Mo_defined x4 x4 r_30 f_12 Mo_what
  else
    bd1 (ga 350 f_12 x4) fun x_19 =>
      if x_19 = (1 : Int32) then
      bd1 (fnX12_plain x2) fun r_29 =>
        fnX12_entry_107 Mo_text Mo_from Mo_to Mo_names Mo_defined x4 x4 r_29 f_12 Mo_what
    else
      bd1 (ga 350 f_12 x4) fun x_23 =>
        if x_23 = (2 : Int32) then
        bd1 (fnX12_control x2) fun r_28 =>
          fnX12_entry_107 Mo_text Mo_from Mo_to Mo_names Mo_defined x4 x4 r_28 f_12 Mo_what
      else
        bd1 (fnX12_meant Mo_names Mo_defined x2) fun r_27 =>
          fnX12_entry_107 Mo_text Mo_from Mo_to Mo_names Mo_defined x4 x4 r_27 f_12 Mo_what
def fnX12_entry (Mo_text : Nat → Int32) (Mo_from : Nat → Int32) (Mo_to : Nat → Int32) (Mo_names : Nat → Int64) (Mo_defined : Int32) (Mo_kind : Nat → Int32) (Mo_what : Nat → Int32) (p0 : Int32) (p1 : Int64) (p2 : Int32) : Option (Int32 × (Nat → Int32) × (Nat → Int32)) :=
  bd1 (fnX12_isNumber Mo_text Mo_from Mo_to p0) fun r_31 =>
    if r_31 = 0 then
    bd1 (fnX12_plain p1) fun r_33 =>
      if r_33 < 0 then
      bd1 (fnX12_control p1) fun r_35 =>
        if r_35 < 0 then
        fnX12_entry_41 Mo_text Mo_from Mo_to Mo_names Mo_defined p0 p1 p2 p2 (3 : Int32) Mo_kind Mo_what
      else
        fnX12_entry_41 Mo_text Mo_from Mo_to Mo_names Mo_defined p0 p1 p2 p2 (2 : Int32) Mo_kind Mo_what
    else
      fnX12_entry_41 Mo_text Mo_from Mo_to Mo_names Mo_defined p0 p1 p2 p2 (1 : Int32) Mo_kind Mo_what
  else
    fnX12_entry_41 Mo_text Mo_from Mo_to Mo_names Mo_defined p0 p1 p2 p2 (0 : Int32) Mo_kind Mo_what
def fnX12_define_102 (Mo_text : Nat → Int32) (Mo_from : Nat → Int32) (Mo_to : Nat → Int32) (Mo_words : Int32)  (Mo_names : Nat → Int64) (Mo_starts : Nat → Int32) (Mo_sizes : Nat → Int32) (Mo_defined : Int32) (Mo_kind : Nat → Int32) (Mo_what : Nat → Int32) (Mo_open : Nat → Int32) (Mo_fault : Int32) (Mo_place : Int32) : Option (Int32 × (Nat → Int64) × (Nat → Int32) × (Nat → Int32) × Int32 × (Nat → Int32) × (Nat → Int32) × (Nat → Int32) × Int32 × Int32) :=
  some ((-1 : Int32), Mo_names, Mo_starts, Mo_sizes, Mo_defined, Mo_kind, Mo_what, Mo_open, (9 : Int32), Mo_place)
def fnX12_define_201 (Mo_text : Nat → Int32) (Mo_from : Nat → Int32) (Mo_to : Nat → Int32) (Mo_words : Int32)  (x2 : Int64) (x4 : Int32) (x5 : Int32) (x6 : Int32) (Mo_names : Nat → Int64) (Mo_starts : Nat → Int32) (Mo_sizes : Nat → Int32) (Mo_defined : Int32) (Mo_kind : Nat → Int32) (Mo_what : Nat → Int32) (Mo_open : Nat → Int32) (Mo_fault : Int32) (Mo_place : Int32) : Option (Int32 × (Nat → Int64) × (Nat → Int32) × (Nat → Int32) × Int32 × (Nat → Int32) × (Nat → Int32) × (Nat → Int32) × Int32 × Int32) :=
  if Mo_fault ≤ 0 then
    bd1 (sl 20 Mo_names Mo_defined x2) fun f_2 =>
      bd1 (sa 20 Mo_starts Mo_defined x4) fun f_5 =>
      bd1 (sa 20 Mo_sizes Mo_defined x5) fun f_8 =>
      some (x6 + (1 : Int32), f_2, f_5, f_8, Mo_defined + (1 : Int32), Mo_kind, Mo_what, Mo_open, Mo_fault, Mo_place)
  else
    some ((-1 : Int32), Mo_names, Mo_starts, Mo_sizes, Mo_defined, Mo_kind, Mo_what, Mo_open, Mo_fault, Mo_place)
def fnX12_define_176 (Mo_text : Nat → Int32) (Mo_from : Nat → Int32) (Mo_to : Nat → Int32) (Mo_words : Int32)  (x2 : Int64) (x4 : Int32) (x5 : Int32) (x6 : Int32) (Mo_names : Nat → Int64) (Mo_starts : Nat → Int32) (Mo_sizes : Nat → Int32) (Mo_defined : Int32) (Mo_kind : Nat → Int32) (Mo_what : Nat → Int32) (Mo_open : Nat → Int32) (Mo_fault : Int32) (Mo_place : Int32) : Option (Int32 × (Nat → Int64) × (Nat → Int32) × (Nat → Int32) × Int32 × (Nat → Int32) × (Nat → Int32) × (Nat → Int32) × Int32 × Int32) :=
  fnX12_define_201 Mo_text Mo_from Mo_to Mo_words x2 x4 x5 x6 Mo_names Mo_starts Mo_sizes Mo_defined Mo_kind Mo_what Mo_open (9 : Int32) Mo_place
def fnX12_define_124 (Mo_text : Nat → Int32) (Mo_from : Nat → Int32) (Mo_to : Nat → Int32) (Mo_words : Int32)  : Nat → Int64 → Int32 → Int32 → Int32 → (Nat → Int64) → (Nat → Int32) → (Nat → Int32) → Int32 → (Nat → Int32) → (Nat → Int32) → (Nat → Int32) → Int32 → Int32 → Option (Int32 × (Nat → Int64) × (Nat → Int32) × (Nat → Int32) × Int32 × (Nat → Int32) × (Nat → Int32) × (Nat → Int32) × Int32 × Int32)
  | 0, _, _, _, _, _, _, _, _, _, _, _, _, _ => none
  | n + 1, x2, x4, x5, x6, Mo_names, Mo_starts, Mo_sizes, Mo_defined, Mo_kind, Mo_what, Mo_open, Mo_fault, Mo_place =>
    if Mo_words ≤ x6 then
      some ((-1 : Int32), Mo_names, Mo_starts, Mo_sizes, Mo_defined, Mo_kind, Mo_what, Mo_open, (1 : Int32), Mo_words)
    else
      bd1 (fnX12_spelled Mo_text Mo_from Mo_to x6) fun r_12 =>
        if (lg_cmp r_12 (59 : Int64)) = 0 then
        if Mo_defined = (20 : Int32) then
          fnX12_define_176 Mo_text Mo_from Mo_to Mo_words x2 x4 x5 x6 Mo_names Mo_starts Mo_sizes Mo_defined Mo_kind Mo_what Mo_open Mo_fault x6
        else
          if (x4 + x5) ≤ (200 : Int32) then
            bd2 (fnX12_balanced Mo_kind Mo_what Mo_open x4 x5) fun r_18 Mo_open_18 =>
              if r_18 = 0 then
              fnX12_define_201 Mo_text Mo_from Mo_to Mo_words x2 x4 x5 x6 Mo_names Mo_starts Mo_sizes Mo_defined Mo_kind Mo_what Mo_open_18 (2 : Int32) x6
            else
              fnX12_define_201 Mo_text Mo_from Mo_to Mo_words x2 x4 x5 x6 Mo_names Mo_starts Mo_sizes Mo_defined Mo_kind Mo_what Mo_open_18 Mo_fault x6
          else
            fnX12_define_176 Mo_text Mo_from Mo_to Mo_words x2 x4 x5 x6 Mo_names Mo_starts Mo_sizes Mo_defined Mo_kind Mo_what Mo_open Mo_fault x6
      else
        bd3 (fnX12_entry Mo_text Mo_from Mo_to Mo_names Mo_defined Mo_kind Mo_what x6 r_12 (x4 + x5)) fun r_14 Mo_kind_14 Mo_what_14 =>
          if r_14 = 0 then
          some ((-1 : Int32), Mo_names, Mo_starts, Mo_sizes, Mo_defined, Mo_kind_14, Mo_what_14, Mo_open, (1 : Int32), x6)
        else
          (fnX12_define_124 Mo_text Mo_from Mo_to Mo_words n) x2 x4 (x5 + (1 : Int32)) (x6 + (1 : Int32)) Mo_names Mo_starts Mo_sizes Mo_defined Mo_kind_14 Mo_what_14 Mo_open Mo_fault x6
def fnX12_define (Mo_text : Nat → Int32) (Mo_from : Nat → Int32) (Mo_to : Nat → Int32) (Mo_words : Int32) (Mo_names : Nat → Int64) (Mo_starts : Nat → Int32) (Mo_sizes : Nat → Int32) (Mo_defined : Int32) (Mo_kind : Nat → Int32) (Mo_what : Nat → Int32) (Mo_open : Nat → Int32) (Mo_fault : Int32) (Mo_place : Int32) (p0 : Int32) : Option (Int32 × (Nat → Int64) × (Nat → Int32) × (Nat → Int32) × Int32 × (Nat → Int32) × (Nat → Int32) × (Nat → Int32) × Int32 × Int32) :=
  if (p0 + (1 : Int32)) < Mo_words then
    bd1 (fnX12_spelled Mo_text Mo_from Mo_to (p0 + (1 : Int32))) fun r_21 =>
      bd1 (ga 150 Mo_to (p0 + (1 : Int32))) fun x_22 =>
      bd1 (ga 150 Mo_from (p0 + (1 : Int32))) fun x_25 =>
      if (6 : Int32) < (x_22 - x_25) then
      fnX12_define_102 Mo_text Mo_from Mo_to Mo_words Mo_names Mo_starts Mo_sizes Mo_defined Mo_kind Mo_what Mo_open Mo_fault (p0 + (1 : Int32))
    else
      bd1 (fnX12_isNumber Mo_text Mo_from Mo_to (p0 + (1 : Int32))) fun r_29 =>
        if r_29 = 0 then
        bd1 (fnX12_plain r_21) fun r_31 =>
          if 0 ≤ r_31 then
          fnX12_define_102 Mo_text Mo_from Mo_to Mo_words Mo_names Mo_starts Mo_sizes Mo_defined Mo_kind Mo_what Mo_open Mo_fault (p0 + (1 : Int32))
        else
          bd1 (fnX12_control r_21) fun r_33 =>
            if 0 ≤ r_33 then
            fnX12_define_102 Mo_text Mo_from Mo_to Mo_words Mo_names Mo_starts Mo_sizes Mo_defined Mo_kind Mo_what Mo_open Mo_fault (p0 + (1 : Int32))
          else
            if (lg_cmp r_21 (58 : Int64)) = 0 then
              fnX12_define_102 Mo_text Mo_from Mo_to Mo_words Mo_names Mo_starts Mo_sizes Mo_defined Mo_kind Mo_what Mo_open Mo_fault (p0 + (1 : Int32))
            else
              if (lg_cmp r_21 (59 : Int64)) = 0 then
                fnX12_define_102 Mo_text Mo_from Mo_to Mo_words Mo_names Mo_starts Mo_sizes Mo_defined Mo_kind Mo_what Mo_open Mo_fault (p0 + (1 : Int32))
              else
                if (lg_cmp r_21 (3534730425076 : Int64)) = 0 then
                  fnX12_define_102 Mo_text Mo_from Mo_to Mo_words Mo_names Mo_starts Mo_sizes Mo_defined Mo_kind Mo_what Mo_open Mo_fault (p0 + (1 : Int32))
                else
                  bd1 (fnX12_used Mo_starts Mo_sizes Mo_defined) fun r_38 =>
                    fnX12_define_124 Mo_text Mo_from Mo_to Mo_words fuel_ r_21 r_38 (0 : Int32) (p0 + (2 : Int32)) Mo_names Mo_starts Mo_sizes Mo_defined Mo_kind Mo_what Mo_open Mo_fault (p0 + (1 : Int32))
      else
        fnX12_define_102 Mo_text Mo_from Mo_to Mo_words Mo_names Mo_starts Mo_sizes Mo_defined Mo_kind Mo_what Mo_open Mo_fault (p0 + (1 : Int32))
  else
    some ((-1 : Int32), Mo_names, Mo_starts, Mo_sizes, Mo_defined, Mo_kind, Mo_what, Mo_open, (1 : Int32), p0 + (1 : Int32))
def fnX12_outside_89 (Mo_text : Nat → Int32) (Mo_from : Nat → Int32) (Mo_to : Nat → Int32) (Mo_words : Int32)  (x1 : Int32) (Mo_stack : Nat → Int32) (Mo_height : Int32) (Mo_memory : Nat → Int32) (Mo_out : Nat → Int32) (Mo_outs : Int32) (Mo_names : Nat → Int64) (Mo_starts : Nat → Int32) (Mo_sizes : Nat → Int32) (Mo_defined : Int32) (Mo_kind : Nat → Int32) (Mo_what : Nat → Int32) (Mo_running : Nat → Int32) (Mo_at : Nat → Int32) (Mo_deep : Int32) (Mo_limits : Nat → Int32) (Mo_counts : Nat → Int32) (Mo_owner : Nat → Int32) (Mo_loops : Int32) (Mo_open : Nat → Int32) (Mo_steps : Int32) (Mo_fault : Int32) (Mo_place : Int32) : Option (Int32 × (Nat → Int32) × Int32 × (Nat → Int32) × (Nat → Int32) × Int32 × (Nat → Int64) × (Nat → Int32) × (Nat → Int32) × Int32 × (Nat → Int32) × (Nat → Int32) × (Nat → Int32) × (Nat → Int32) × Int32 × (Nat → Int32) × (Nat → Int32) × (Nat → Int32) × Int32 × (Nat → Int32) × Int32 × Int32 × Int32) :=
  some (x1 + (2 : Int32), Mo_stack, Mo_height, Mo_memory, Mo_out, Mo_outs, Mo_names, Mo_starts, Mo_sizes, Mo_defined, Mo_kind, Mo_what, Mo_running, Mo_at, Mo_deep, Mo_limits, Mo_counts, Mo_owner, Mo_loops, Mo_open, Mo_steps, Mo_fault, Mo_place)
def fnX12_outside_68 (Mo_text : Nat → Int32) (Mo_from : Nat → Int32) (Mo_to : Nat → Int32) (Mo_words : Int32)  (x1 : Int32) (z0 : Int32) (Mo_stack : Nat → Int32) (Mo_height : Int32) (Mo_memory : Nat → Int32) (Mo_out : Nat → Int32) (Mo_outs : Int32) (Mo_names : Nat → Int64) (Mo_starts : Nat → Int32) (Mo_sizes : Nat → Int32) (Mo_defined : Int32) (Mo_kind : Nat → Int32) (Mo_what : Nat → Int32) (Mo_running : Nat → Int32) (Mo_at : Nat → Int32) (Mo_deep : Int32) (Mo_limits : Nat → Int32) (Mo_counts : Nat → Int32) (Mo_owner : Nat → Int32) (Mo_loops : Int32) (Mo_open : Nat → Int32) (Mo_steps : Int32) (Mo_fault : Int32) (Mo_place : Int32) : Option (Int32 × (Nat → Int32) × Int32 × (Nat → Int32) × (Nat → Int32) × Int32 × (Nat → Int64) × (Nat → Int32) × (Nat → Int32) × Int32 × (Nat → Int32) × (Nat → Int32) × (Nat → Int32) × (Nat → Int32) × Int32 × (Nat → Int32) × (Nat → Int32) × (Nat → Int32) × Int32 × (Nat → Int32) × Int32 × Int32 × Int32) :=
  if 0 ≤ z0 then
    fnX12_outside_89 Mo_text Mo_from Mo_to Mo_words x1 Mo_stack Mo_height Mo_memory Mo_out Mo_outs Mo_names Mo_starts Mo_sizes z0 Mo_kind Mo_what Mo_running Mo_at Mo_deep Mo_limits Mo_counts Mo_owner Mo_loops Mo_open Mo_steps Mo_fault Mo_place
  else
    fnX12_outside_89 Mo_text Mo_from Mo_to Mo_words x1 Mo_stack Mo_height Mo_memory Mo_out Mo_outs Mo_names Mo_starts Mo_sizes Mo_defined Mo_kind Mo_what Mo_running Mo_at Mo_deep Mo_limits Mo_counts Mo_owner Mo_loops Mo_open Mo_steps (1 : Int32) Mo_place
def fnX12_outside_177 (Mo_text : Nat → Int32) (Mo_from : Nat → Int32) (Mo_to : Nat → Int32) (Mo_words : Int32)  (x1 : Int32) (Mo_stack : Nat → Int32) (Mo_height : Int32) (Mo_memory : Nat → Int32) (Mo_out : Nat → Int32) (Mo_outs : Int32) (Mo_names : Nat → Int64) (Mo_starts : Nat → Int32) (Mo_sizes : Nat → Int32) (Mo_defined : Int32) (Mo_kind : Nat → Int32) (Mo_what : Nat → Int32) (Mo_running : Nat → Int32) (Mo_at : Nat → Int32) (Mo_deep : Int32) (Mo_limits : Nat → Int32) (Mo_counts : Nat → Int32) (Mo_owner : Nat → Int32) (Mo_loops : Int32) (Mo_open : Nat → Int32) (Mo_steps : Int32) (Mo_fault : Int32) (Mo_place : Int32) : Option (Int32 × (Nat → Int32) × Int32 × (Nat → Int32) × (Nat → Int32) × Int32 × (Nat → Int64) × (Nat → Int32) × (Nat → Int32) × Int32 × (Nat → Int32) × (Nat → Int32) × (Nat → Int32) × (Nat → Int32) × Int32 × (Nat → Int32) × (Nat → Int32) × (Nat → Int32) × Int32 × (Nat → Int32) × Int32 × Int32 × Int32) :=
  some (x1 + (1 : Int32), Mo_stack, Mo_height, Mo_memory, Mo_out, Mo_outs, Mo_names, Mo_starts, Mo_sizes, Mo_defined, Mo_kind, Mo_what, Mo_running, Mo_at, Mo_deep, Mo_limits, Mo_counts, Mo_owner, Mo_loops, Mo_open, Mo_steps, Mo_fault, Mo_place)
def fnX12_outside_167 (Mo_text : Nat → Int32) (Mo_from : Nat → Int32) (Mo_to : Nat → Int32) (Mo_words : Int32)  (x1 : Int32) (z0 : Int32) (Mo_stack : Nat → Int32) (Mo_height : Int32) (Mo_memory : Nat → Int32) (Mo_out : Nat → Int32) (Mo_outs : Int32) (Mo_names : Nat → Int64) (Mo_starts : Nat → Int32) (Mo_sizes : Nat → Int32) (Mo_defined : Int32) (Mo_kind : Nat → Int32) (Mo_what : Nat → Int32) (Mo_running : Nat → Int32) (Mo_at : Nat → Int32) (Mo_deep : Int32) (Mo_limits : Nat → Int32) (Mo_counts : Nat → Int32) (Mo_owner : Nat → Int32) (Mo_loops : Int32) (Mo_open : Nat → Int32) (Mo_steps : Int32) (Mo_fault : Int32) (Mo_place : Int32) : Option (Int32 × (Nat → Int32) × Int32 × (Nat → Int32) × (Nat → Int32) × Int32 × (Nat → Int64) × (Nat → Int32) × (Nat → Int32) × Int32 × (Nat → Int32) × (Nat → Int32) × (Nat → Int32) × (Nat → Int32) × Int32 × (Nat → Int32) × (Nat → Int32) × (Nat → Int32) × Int32 × (Nat → Int32) × Int32 × Int32 × Int32) :=
  fnX12_outside_177 Mo_text Mo_from Mo_to Mo_words x1 Mo_stack Mo_height Mo_memory Mo_out Mo_outs Mo_names Mo_starts Mo_sizes Mo_defined Mo_kind Mo_what Mo_running Mo_at Mo_deep Mo_limits Mo_counts Mo_owner Mo_loops Mo_open Mo_steps Mo_fault Mo_place
def fnX12_outside_166 (Mo_text : Nat → Int32) (Mo_from : Nat → Int32) (Mo_to : Nat → Int32) (Mo_words : Int32)  (x1 : Int32) (Mo_stack : Nat → Int32) (Mo_height : Int32) (Mo_memory : Nat → Int32) (Mo_out : Nat → Int32) (Mo_outs : Int32) (Mo_names : Nat → Int64) (Mo_starts : Nat → Int32) (Mo_sizes : Nat → Int32) (Mo_defined : Int32) (Mo_kind : Nat → Int32) (Mo_what : Nat → Int32) (Mo_running : Nat → Int32) (Mo_at : Nat → Int32) (Mo_deep : Int32) (Mo_limits : Nat → Int32) (Mo_counts : Nat → Int32) (Mo_owner : Nat → Int32) (Mo_loops : Int32) (Mo_open : Nat → Int32) (Mo_steps : Int32) (Mo_fault : Int32) (Mo_place : Int32) : Option (Int32 × (Nat → Int32) × Int32 × (Nat → Int32) × (Nat → Int32) × Int32 × (Nat → Int64) × (Nat → Int32) × (Nat → Int32) × Int32 × (Nat → Int32) × (Nat → Int32) × (Nat → Int32) × (Nat → Int32) × Int32 × (Nat → Int32) × (Nat → Int32) × (Nat → Int32) × Int32 × (Nat → Int32) × Int32 × Int32 × Int32) :=
  fnX12_outside_167 Mo_text Mo_from Mo_to Mo_words x1 (0 : Int32) Mo_stack Mo_height Mo_memory Mo_out Mo_outs Mo_names Mo_starts Mo_sizes Mo_defined Mo_kind Mo_what Mo_running Mo_at Mo_deep Mo_limits Mo_counts Mo_owner Mo_loops Mo_open Mo_steps Mo_fault Mo_place
def fnX12_outside (Mo_text : Nat → Int32) (Mo_from : Nat → Int32) (Mo_to : Nat → Int32) (Mo_words : Int32) (Mo_stack : Nat → Int32) (Mo_height : Int32) (Mo_memory : Nat → Int32) (Mo_out : Nat → Int32) (Mo_outs : Int32) (Mo_names : Nat → Int64) (Mo_starts : Nat → Int32) (Mo_sizes : Nat → Int32) (Mo_defined : Int32) (Mo_kind : Nat → Int32) (Mo_what : Nat → Int32) (Mo_running : Nat → Int32) (Mo_at : Nat → Int32) (Mo_deep : Int32) (Mo_limits : Nat → Int32) (Mo_counts : Nat → Int32) (Mo_owner : Nat → Int32) (Mo_loops : Int32) (Mo_open : Nat → Int32) (Mo_steps : Int32) (Mo_fault : Int32) (Mo_place : Int32) (p0 : Int32) : Option (Int32 × (Nat → Int32) × Int32 × (Nat → Int32) × (Nat → Int32) × Int32 × (Nat → Int64) × (Nat → Int32) × (Nat → Int32) × Int32 × (Nat → Int32) × (Nat → Int32) × (Nat → Int32) × (Nat → Int32) × Int32 × (Nat → Int32) × (Nat → Int32) × (Nat → Int32) × Int32 × (Nat → Int32) × Int32 × Int32 × Int32) :=
  bd1 (fnX12_spelled Mo_text Mo_from Mo_to p0) fun r_2 =>
    if (lg_cmp r_2 (58 : Int64)) = 0 then
    bd10 (fnX12_define Mo_text Mo_from Mo_to Mo_words Mo_names Mo_starts Mo_sizes Mo_defined Mo_kind Mo_what Mo_open Mo_fault p0 p0) fun r_23 Mo_names_23 Mo_starts_23 Mo_sizes_23 Mo_defined_23 Mo_kind_23 Mo_what_23 Mo_open_23 Mo_fault_23 Mo_place_23 =>
      some (r_23, Mo_stack, Mo_height, Mo_memory, Mo_out, Mo_outs, Mo_names_23, Mo_starts_23, Mo_sizes_23, Mo_defined_23, Mo_kind_23, Mo_what_23, Mo_running, Mo_at, Mo_deep, Mo_limits, Mo_counts, Mo_owner, Mo_loops, Mo_open_23, Mo_steps, Mo_fault_23, Mo_place_23)
  else
    if (lg_cmp r_2 (3534730425076 : Int64)) = 0 then
      if Mo_words ≤ (p0 + (1 : Int32)) then
        fnX12_outside_68 Mo_text Mo_from Mo_to Mo_words p0 (-1 : Int32) Mo_stack Mo_height Mo_memory Mo_out Mo_outs Mo_names Mo_starts Mo_sizes Mo_defined Mo_kind Mo_what Mo_running Mo_at Mo_deep Mo_limits Mo_counts Mo_owner Mo_loops Mo_open Mo_steps Mo_fault (p0 + (1 : Int32))
      else
        bd1 (fnX12_spelled Mo_text Mo_from Mo_to (p0 + (1 : Int32))) fun r_21 =>
          bd1 (fnX12_meant Mo_names Mo_defined r_21) fun r_22 =>
          fnX12_outside_68 Mo_text Mo_from Mo_to Mo_words p0 r_22 Mo_stack Mo_height Mo_memory Mo_out Mo_outs Mo_names Mo_starts Mo_sizes Mo_defined Mo_kind Mo_what Mo_running Mo_at Mo_deep Mo_limits Mo_counts Mo_owner Mo_loops Mo_open Mo_steps Mo_fault (p0 + (1 : Int32))
    else
      bd1 (fnX12_isNumber Mo_text Mo_from Mo_to p0) fun r_5 =>
        if r_5 = 0 then
        bd1 (fnX12_plain r_2) fun r_7 =>
          if r_7 < 0 then
          bd1 (fnX12_meant Mo_names Mo_defined r_2) fun r_9 =>
            if r_9 < 0 then
            fnX12_outside_177 Mo_text Mo_from Mo_to Mo_words p0 Mo_stack Mo_height Mo_memory Mo_out Mo_outs Mo_names Mo_starts Mo_sizes Mo_defined Mo_kind Mo_what Mo_running Mo_at Mo_deep Mo_limits Mo_counts Mo_owner Mo_loops Mo_open Mo_steps (1 : Int32) p0
          else
            bd1 (fnX12_meant Mo_names Mo_defined r_2) fun r_11 =>
              bd6 (fnX12_call Mo_running Mo_at Mo_deep Mo_steps Mo_fault r_11) fun r_12 Mo_running_12 Mo_at_12 Mo_deep_12 Mo_steps_12 Mo_fault_12 =>
              if r_12 = 0 then
              fnX12_outside_166 Mo_text Mo_from Mo_to Mo_words p0 Mo_stack Mo_height Mo_memory Mo_out Mo_outs Mo_names Mo_starts Mo_sizes Mo_defined Mo_kind Mo_what Mo_running_12 Mo_at_12 Mo_deep_12 Mo_limits Mo_counts Mo_owner Mo_loops Mo_open Mo_steps_12 Mo_fault_12 p0
            else
              bd15 (fnX12_go Mo_stack Mo_height Mo_memory Mo_out Mo_outs Mo_starts Mo_sizes Mo_kind Mo_what Mo_running_12 Mo_at_12 Mo_deep_12 Mo_limits Mo_counts Mo_owner Mo_loops Mo_steps_12 Mo_fault_12) fun r_14 Mo_stack_14 Mo_height_14 Mo_memory_14 Mo_out_14 Mo_outs_14 Mo_running_14 Mo_at_14 Mo_deep_14 Mo_limits_14 Mo_counts_14 Mo_owner_14 Mo_loops_14 Mo_steps_14 Mo_fault_14 =>
                if r_14 = 0 then
                fnX12_outside_166 Mo_text Mo_from Mo_to Mo_words p0 Mo_stack_14 Mo_height_14 Mo_memory_14 Mo_out_14 Mo_outs_14 Mo_names Mo_starts Mo_sizes Mo_defined Mo_kind Mo_what Mo_running_14 Mo_at_14 Mo_deep_14 Mo_limits_14 Mo_counts_14 Mo_owner_14 Mo_loops_14 Mo_open Mo_steps_14 Mo_fault_14 p0
              else
                fnX12_outside_167 Mo_text Mo_from Mo_to Mo_words p0 (1 : Int32) Mo_stack_14 Mo_height_14 Mo_memory_14 Mo_out_14 Mo_outs_14 Mo_names Mo_starts Mo_sizes Mo_defined Mo_kind Mo_what Mo_running_14 Mo_at_14 Mo_deep_14 Mo_limits_14 Mo_counts_14 Mo_owner_14 Mo_loops_14 Mo_open Mo_steps_14 Mo_fault_14 p0
        else
          bd1 (fnX12_plain r_2) fun r_16 =>
            bd8 (fnX12_plainStep Mo_stack Mo_height Mo_memory Mo_out Mo_outs Mo_steps Mo_fault r_16) fun r_17 Mo_stack_17 Mo_height_17 Mo_memory_17 Mo_out_17 Mo_outs_17 Mo_steps_17 Mo_fault_17 =>
            fnX12_outside_177 Mo_text Mo_from Mo_to Mo_words p0 Mo_stack_17 Mo_height_17 Mo_memory_17 Mo_out_17 Mo_outs_17 Mo_names Mo_starts Mo_sizes Mo_defined Mo_kind Mo_what Mo_running Mo_at Mo_deep Mo_limits Mo_counts Mo_owner Mo_loops Mo_open Mo_steps_17 Mo_fault_17 p0
      else
        bd1 (fnX12_number Mo_text Mo_from Mo_to p0) fun r_18 =>
          bd5 (fnX12_numberStep Mo_stack Mo_height Mo_steps Mo_fault r_18) fun r_19 Mo_stack_19 Mo_height_19 Mo_steps_19 Mo_fault_19 =>
          fnX12_outside_177 Mo_text Mo_from Mo_to Mo_words p0 Mo_stack_19 Mo_height_19 Mo_memory Mo_out Mo_outs Mo_names Mo_starts Mo_sizes Mo_defined Mo_kind Mo_what Mo_running Mo_at Mo_deep Mo_limits Mo_counts Mo_owner Mo_loops Mo_open Mo_steps_19 Mo_fault_19 p0
def fnX12_load_87 (Mo_text : Nat → Int32) (Mo_length : Int32)  (Mo_from : Nat → Int32) (Mo_to : Nat → Int32) (Mo_words : Int32) (Mo_stack : Nat → Int32) (Mo_height : Int32) (Mo_memory : Nat → Int32) (Mo_out : Nat → Int32) (Mo_outs : Int32) (Mo_names : Nat → Int64) (Mo_starts : Nat → Int32) (Mo_sizes : Nat → Int32) (Mo_defined : Int32) (Mo_kind : Nat → Int32) (Mo_what : Nat → Int32) (Mo_running : Nat → Int32) (Mo_at : Nat → Int32) (Mo_deep : Int32) (Mo_limits : Nat → Int32) (Mo_counts : Nat → Int32) (Mo_owner : Nat → Int32) (Mo_loops : Int32) (Mo_open : Nat → Int32) (Mo_steps : Int32) (Mo_fault : Int32) (Mo_place : Int32) : Option (Int32 × (Nat → Int32) × (Nat → Int32) × Int32 × (Nat → Int32) × Int32 × (Nat → Int32) × (Nat → Int32) × Int32 × (Nat → Int64) × (Nat → Int32) × (Nat → Int32) × Int32 × (Nat → Int32) × (Nat → Int32) × (Nat → Int32) × (Nat → Int32) × Int32 × (Nat → Int32) × (Nat → Int32) × (Nat → Int32) × Int32 × (Nat → Int32) × Int32 × Int32 × Int32) :=
  some (Mo_fault, Mo_from, Mo_to, Mo_words, Mo_stack, Mo_height, Mo_memory, Mo_out, Mo_outs, Mo_names, Mo_starts, Mo_sizes, Mo_defined, Mo_kind, Mo_what, Mo_running, Mo_at, Mo_deep, Mo_limits, Mo_counts, Mo_owner, Mo_loops, Mo_open, Mo_steps, Mo_fault, Mo_place)
def fnX12_load_67 (Mo_text : Nat → Int32) (Mo_length : Int32)  (Mo_from : Nat → Int32) (Mo_to : Nat → Int32) (Mo_words : Int32) (Mo_stack : Nat → Int32) (Mo_height : Int32) (Mo_memory : Nat → Int32) (Mo_out : Nat → Int32) (Mo_outs : Int32) (Mo_names : Nat → Int64) (Mo_starts : Nat → Int32) (Mo_sizes : Nat → Int32) (Mo_defined : Int32) (Mo_kind : Nat → Int32) (Mo_what : Nat → Int32) (Mo_running : Nat → Int32) (Mo_at : Nat → Int32) (Mo_deep : Int32) (Mo_limits : Nat → Int32) (Mo_counts : Nat → Int32) (Mo_owner : Nat → Int32) (Mo_loops : Int32) (Mo_open : Nat → Int32) (Mo_steps : Int32) (Mo_fault : Int32) (Mo_place : Int32) : Option (Int32 × (Nat → Int32) × (Nat → Int32) × Int32 × (Nat → Int32) × Int32 × (Nat → Int32) × (Nat → Int32) × Int32 × (Nat → Int64) × (Nat → Int32) × (Nat → Int32) × Int32 × (Nat → Int32) × (Nat → Int32) × (Nat → Int32) × (Nat → Int32) × Int32 × (Nat → Int32) × (Nat → Int32) × (Nat → Int32) × Int32 × (Nat → Int32) × Int32 × Int32 × Int32) :=
  if Mo_fault ≤ 0 then
    fnX12_load_87 Mo_text Mo_length Mo_from Mo_to Mo_words Mo_stack Mo_height Mo_memory Mo_out Mo_outs Mo_names Mo_starts Mo_sizes Mo_defined Mo_kind Mo_what Mo_running Mo_at Mo_deep Mo_limits Mo_counts Mo_owner Mo_loops Mo_open Mo_steps Mo_fault (-1 : Int32)
  else
    fnX12_load_87 Mo_text Mo_length Mo_from Mo_to Mo_words Mo_stack (0 : Int32) Mo_memory Mo_out Mo_outs Mo_names Mo_starts Mo_sizes Mo_defined Mo_kind Mo_what Mo_running Mo_at Mo_deep Mo_limits Mo_counts Mo_owner Mo_loops Mo_open Mo_steps Mo_fault Mo_place
def fnX12_load_33 (Mo_text : Nat → Int32) (Mo_length : Int32)  : Nat → Int32 → Int32 → (Nat → Int32) → (Nat → Int32) → Int32 → (Nat → Int32) → Int32 → (Nat → Int32) → (Nat → Int32) → Int32 → (Nat → Int64) → (Nat → Int32) → (Nat → Int32) → Int32 → (Nat → Int32) → (Nat → Int32) → (Nat → Int32) → (Nat → Int32) → Int32 → (Nat → Int32) → (Nat → Int32) → (Nat → Int32) → Int32 → (Nat → Int32) → Int32 → Int32 → Int32 → Option (Int32 × (Nat → Int32) × (Nat → Int32) × Int32 × (Nat → Int32) × Int32 × (Nat → Int32) × (Nat → Int32) × Int32 × (Nat → Int64) × (Nat → Int32) × (Nat → Int32) × Int32 × (Nat → Int32) × (Nat → Int32) × (Nat → Int32) × (Nat → Int32) × Int32 × (Nat → Int32) × (Nat → Int32) × (Nat → Int32) × Int32 × (Nat → Int32) × Int32 × Int32 × Int32)
  | 0, _, _, _, _, _, _, _, _, _, _, _, _, _, _, _, _, _, _, _, _, _, _, _, _, _, _, _ => none
  | n + 1, x1, x2, Mo_from, Mo_to, Mo_words, Mo_stack, Mo_height, Mo_memory, Mo_out, Mo_outs, Mo_names, Mo_starts, Mo_sizes, Mo_defined, Mo_kind, Mo_what, Mo_running, Mo_at, Mo_deep, Mo_limits, Mo_counts, Mo_owner, Mo_loops, Mo_open, Mo_steps, Mo_fault, Mo_place =>
    if (150 : Int32) ≤ x2 then
      fnX12_load_67 Mo_text Mo_length Mo_from Mo_to Mo_words Mo_stack Mo_height Mo_memory Mo_out Mo_outs Mo_names Mo_starts Mo_sizes Mo_defined Mo_kind Mo_what Mo_running Mo_at Mo_deep Mo_limits Mo_counts Mo_owner Mo_loops Mo_open Mo_steps Mo_fault Mo_place
    else
      if Mo_words ≤ x1 then
        fnX12_load_67 Mo_text Mo_length Mo_from Mo_to Mo_words Mo_stack Mo_height Mo_memory Mo_out Mo_outs Mo_names Mo_starts Mo_sizes Mo_defined Mo_kind Mo_what Mo_running Mo_at Mo_deep Mo_limits Mo_counts Mo_owner Mo_loops Mo_open Mo_steps Mo_fault Mo_place
      else
        if Mo_fault = 0 then
          bd23 (fnX12_outside Mo_text Mo_from Mo_to Mo_words Mo_stack Mo_height Mo_memory Mo_out Mo_outs Mo_names Mo_starts Mo_sizes Mo_defined Mo_kind Mo_what Mo_running Mo_at Mo_deep Mo_limits Mo_counts Mo_owner Mo_loops Mo_open Mo_steps Mo_fault Mo_place x1) fun r_5 Mo_stack_5 Mo_height_5 Mo_memory_5 Mo_out_5 Mo_outs_5 Mo_names_5 Mo_starts_5 Mo_sizes_5 Mo_defined_5 Mo_kind_5 Mo_what_5 Mo_running_5 Mo_at_5 Mo_deep_5 Mo_limits_5 Mo_counts_5 Mo_owner_5 Mo_loops_5 Mo_open_5 Mo_steps_5 Mo_fault_5 Mo_place_5 =>
            (fnX12_load_33 Mo_text Mo_length n) r_5 (x2 + (1 : Int32)) Mo_from Mo_to Mo_words Mo_stack_5 Mo_height_5 Mo_memory_5 Mo_out_5 Mo_outs_5 Mo_names_5 Mo_starts_5 Mo_sizes_5 Mo_defined_5 Mo_kind_5 Mo_what_5 Mo_running_5 Mo_at_5 Mo_deep_5 Mo_limits_5 Mo_counts_5 Mo_owner_5 Mo_loops_5 Mo_open_5 Mo_steps_5 Mo_fault_5 Mo_place_5
        else
          fnX12_load_67 Mo_text Mo_length Mo_from Mo_to Mo_words Mo_stack Mo_height Mo_memory Mo_out Mo_outs Mo_names Mo_starts Mo_sizes Mo_defined Mo_kind Mo_what Mo_running Mo_at Mo_deep Mo_limits Mo_counts Mo_owner Mo_loops Mo_open Mo_steps Mo_fault Mo_place
def fnX12_load (Mo_text : Nat → Int32) (Mo_length : Int32) (Mo_from : Nat → Int32) (Mo_to : Nat → Int32) (Mo_words : Int32) (Mo_stack : Nat → Int32) (Mo_height : Int32) (Mo_memory : Nat → Int32) (Mo_out : Nat → Int32) (Mo_outs : Int32) (Mo_names : Nat → Int64) (Mo_starts : Nat → Int32) (Mo_sizes : Nat → Int32) (Mo_defined : Int32) (Mo_kind : Nat → Int32) (Mo_what : Nat → Int32) (Mo_running : Nat → Int32) (Mo_at : Nat → Int32) (Mo_deep : Int32) (Mo_limits : Nat → Int32) (Mo_counts : Nat → Int32) (Mo_owner : Nat → Int32) (Mo_loops : Int32) (Mo_open : Nat → Int32) (Mo_steps : Int32) (Mo_fault : Int32) (Mo_place : Int32)  : Option (Int32 × (Nat → Int32) × (Nat → Int32) × Int32 × (Nat → Int32) × Int32 × (Nat → Int32) × (Nat → Int32) × Int32 × (Nat → Int64) × (Nat → Int32) × (Nat → Int32) × Int32 × (Nat → Int32) × (Nat → Int32) × (Nat → Int32) × (Nat → Int32) × Int32 × (Nat → Int32) × (Nat → Int32) × (Nat → Int32) × Int32 × (Nat → Int32) × Int32 × Int32 × Int32) :=
  bd3 (fnX12_split Mo_text Mo_length Mo_from Mo_to Mo_words) fun Mo_from_6 Mo_to_6 Mo_words_6 =>
    fnX12_load_33 Mo_text Mo_length fuel_ (0 : Int32) (0 : Int32) Mo_from_6 Mo_to_6 Mo_words_6 Mo_stack Mo_height Mo_memory Mo_out Mo_outs Mo_names Mo_starts Mo_sizes Mo_defined Mo_kind Mo_what Mo_running Mo_at (0 : Int32) Mo_limits Mo_counts Mo_owner (0 : Int32) Mo_open (0 : Int32) (0 : Int32) (-1 : Int32)
def fnX12_faultAt (Mo_place : Int32)  : Option (Int32) :=
  some Mo_place
def fnX12_steps (Mo_steps : Int32)  : Option (Int32) :=
  some Mo_steps
def fnX12_depth (Mo_height : Int32)  : Option (Int32) :=
  some Mo_height
def fnX12_value (Mo_stack : Nat → Int32) (Mo_height : Int32) (p0 : Int32) : Option (Int64) :=
  if p0 < 0 then
    some (4294967296 : Int64)
  else
    if p0 < Mo_height then
      bd1 (ga 33 Mo_stack ((Mo_height - (1 : Int32)) - p0)) fun x_3 =>
        some (x_3.toInt64)
    else
      some (4294967296 : Int64)
def fnX12_push (Mo_stack : Nat → Int32) (Mo_height : Int32) (p0 : Int32) : Option (Int32 × (Nat → Int32) × Int32) :=
  if Mo_height = (32 : Int32) then
    some ((0 : Int32), Mo_stack, Mo_height)
  else
    bd2 (fnX12_put Mo_stack Mo_height p0.toInt64) fun Mo_stack_2 Mo_height_2 =>
      some ((1 : Int32), Mo_stack_2, Mo_height_2)
def fnX12_cell (Mo_memory : Nat → Int32) (p0 : Int32) : Option (Int64) :=
  if p0 < 0 then
    some (4294967296 : Int64)
  else
    if p0 ≤ (15 : Int32) then
      bd1 (ga 16 Mo_memory p0) fun x_3 =>
        some (x_3.toInt64)
    else
      some (4294967296 : Int64)
def fnX12_puts (Mo_outs : Int32)  : Option (Int32) :=
  some Mo_outs
def fnX12_output (Mo_out : Nat → Int32) (Mo_outs : Int32) (p0 : Int32) : Option (Int64) :=
  if p0 < 0 then
    some (4294967296 : Int64)
  else
    if (15 : Int32) < p0 then
      some (4294967296 : Int64)
    else
      if p0 < Mo_outs then
        bd1 (ga 16 Mo_out p0) fun x_4 =>
          some (x_4.toInt64)
      else
        some (4294967296 : Int64)
def fnX12_definitions (Mo_defined : Int32)  : Option (Int32) :=
  some Mo_defined
def fnX12_body (Mo_sizes : Nat → Int32) (Mo_defined : Int32) (p0 : Int32) : Option (Int32) :=
  if p0 < 0 then
    some (-1 : Int32)
  else
    if p0 < Mo_defined then
      bd1 (ga 20 Mo_sizes p0) fun x_3 =>
        some x_3
    else
      some (-1 : Int32)
def fnX12_name (Mo_names : Nat → Int64) (Mo_defined : Int32) (p0 : Int32) : Option (Int64) :=
  if p0 < 0 then
    some (-1 : Int64)
  else
    if p0 < Mo_defined then
      bd1 (ga 20 Mo_names p0) fun x_3 =>
        some x_3
    else
      some (-1 : Int64)
