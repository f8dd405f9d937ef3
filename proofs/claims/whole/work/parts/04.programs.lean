def p_ByteRow_init (o : Option Nat) (x1 : Int32) : hM Unit :=
  hm_bind (hm_puti 1 0 o x1) fun _ =>
  hm_bind (hm_newi 7 64) fun q1 =>
  hm_bind (hm_putr 1 1 o (some q1)) fun _ =>
  hm_bind (hm_puti 1 2 o 0) fun _ =>
  hm_ret ()
def p_Fault_init (o : Option Nat) : hM Unit :=
  hm_bind (hm_puti 2 0 o 0) fun _ =>
  hm_bind (hm_puti 2 1 o (-1)) fun _ =>
  hm_ret ()
def p_Verifier_init (o : Option Nat) : hM Unit :=
  hm_bind (hm_newi 4 400) fun q1 =>
  hm_bind (hm_putr 7 0 o (some q1)) fun _ =>
  hm_bind (hm_newi 5 400) fun q2 =>
  hm_bind (hm_putr 7 1 o (some q2)) fun _ =>
  hm_bind (hm_newi 6 400) fun q3 =>
  hm_bind (hm_putr 7 2 o (some q3)) fun _ =>
  hm_ret ()
def p_Handler_init (o : Option Nat) : hM Unit :=
  hm_ret ()
def p_Function_init_64  (x0 : Option Nat) (kx : hM Unit) : Nat → Int32 → hM Unit
  | 0, _ => hm_fail
  | fu + 1, v1 =>
    if 6 ≤ v1 then (
      kx)
    else (
      hm_bind (hm_getr 3 10 x0) fun a7 =>
      hm_bind (hm_new 4 5 [vi_ 0, vi_ 0, vi_ 0, vi_ 0, vi_ 0]) fun q8 =>
      hm_bind (p_Handler_init (some q8) ) fun _ =>
      hm_bind (hm_qst 9 4 a7 v1 (some q8)) fun _ =>
      p_Function_init_64 x0 kx fu (v1 + 1))
def p_Function_init (o : Option Nat) : hM Unit :=
  hm_bind (hm_newi 0 400) fun q1 =>
  hm_bind (hm_putr 3 6 o (some q1)) fun _ =>
  hm_bind (hm_newi 1 400) fun q2 =>
  hm_bind (hm_putr 3 7 o (some q2)) fun _ =>
  hm_bind (hm_newi 2 400) fun q3 =>
  hm_bind (hm_putr 3 8 o (some q3)) fun _ =>
  hm_bind (hm_newi 3 400) fun q4 =>
  hm_bind (hm_putr 3 9 o (some q4)) fun _ =>
  hm_bind (hm_newq 9 6) fun q5 =>
  hm_bind (hm_putr 3 10 o (some q5)) fun _ =>
  hm_bind (hm_puti 3 4 o 1) fun _ =>
  hm_bind (hm_getr 3 6 o) fun a6 =>
  hm_bind (hm_ist 0 a6 0 27) fun _ =>
  p_Function_init_64 o (
    hm_ret ()) hm_fuel 0
def p_Program_init (o : Option Nat) : hM Unit :=
  hm_bind (hm_newq 8 12) fun q1 =>
  hm_bind (hm_putr 5 0 o (some q1)) fun _ =>
  hm_bind (hm_getr 5 0 o) fun a2 =>
  hm_bind (hm_new 3 11 [vi_ 0, vi_ 0, vi_ 0, vi_ 0, vi_ 0, vi_ 0, vr_ none, vr_ none, vr_ none, vr_ none, vr_ none]) fun q3 =>
  hm_bind (p_Function_init (some q3) ) fun _ =>
  hm_bind (hm_qst 8 3 a2 0 (some q3)) fun _ =>
  hm_bind (hm_puti 5 1 o 1) fun _ =>
  hm_ret ()
def p_SB_init (o : Option Nat) : hM Unit :=
  hm_bind (hm_new 1 3 [vi_ 0, vr_ none, vi_ 0]) fun q1 =>
  hm_bind (p_ByteRow_init (some q1) 4096) fun _ =>
  hm_bind (hm_putr 0 0 o (some q1)) fun _ =>
  hm_bind (hm_new 1 3 [vi_ 0, vr_ none, vi_ 0]) fun q2 =>
  hm_bind (p_ByteRow_init (some q2) 24892) fun _ =>
  hm_bind (hm_putr 0 1 o (some q2)) fun _ =>
  hm_bind (hm_new 2 2 [vi_ 0, vi_ 0]) fun q3 =>
  hm_bind (p_Fault_init (some q3) ) fun _ =>
  hm_bind (hm_putr 0 2 o (some q3)) fun _ =>
  hm_bind (hm_new 7 11 [vr_ none, vr_ none, vr_ none, vi_ 0, vr_ none, vr_ none, vr_ none, vi_ 0, vi_ 0, vi_ 0, vi_ 0]) fun q4 =>
  hm_bind (p_Verifier_init (some q4) ) fun _ =>
  hm_bind (hm_putr 0 3 o (some q4)) fun _ =>
  hm_bind (hm_new 5 2 [vr_ none, vi_ 0]) fun q5 =>
  hm_bind (p_Program_init (some q5) ) fun _ =>
  hm_bind (hm_putr 0 4 o (some q5)) fun _ =>
  hm_bind (hm_new 5 2 [vr_ none, vi_ 0]) fun q6 =>
  hm_bind (p_Program_init (some q6) ) fun _ =>
  hm_bind (hm_putr 0 5 o (some q6)) fun _ =>
  hm_ret ()
def p_Ar_copyOf (x0 : Option Nat) (x1 : Int32) : hM (Option Nat) :=
  hm_bind (hm_leni 7 x0) fun a1 =>
  if x1 = a1 then (
    hm_fail)
  else (
    hm_bind (hm_newi 7 x1) fun q2 =>
    hm_bind (hm_leni 7 x0) fun a3 =>
    hm_bind (hm_copy 7 7 x0 0 (some q2) 0 (if x1 < a3 then x1 else a3)) fun _ =>
    hm_ret (some q2))
def p_ByteRow_makeRoom (o : Option Nat) (x1 : Int32) : hM Unit :=
  hm_bind (hm_getr 1 1 o) fun a1 =>
  hm_bind (hm_leni 7 a1) fun a2 =>
  if x1 ≤ a2 then (
    hm_ret ())
  else (
    hm_bind (hm_getr 1 1 o) fun a3 =>
    hm_bind (hm_geti 1 0 o) fun a4 =>
    hm_bind (hm_getr 1 1 o) fun a5 =>
    hm_bind (hm_leni 7 a5) fun a6 =>
    hm_bind (p_Ar_copyOf a3 (if x1 < (if (2 * a6) < a4 then (2 * a6) else a4) then (if (2 * a6) < a4 then (2 * a6) else a4) else x1)) fun a7 =>
    hm_bind (hm_putr 1 1 o a7) fun _ =>
    hm_ret ())
def p_ByteRow_add_30  (x0 : Option Nat) (x1 : Int64) (kx : hM Int32) : Nat → Int32 → hM Int32
  | 0, _ => hm_fail
  | fu + 1, v4 =>
    if v4 < 0 then (
      kx)
    else (
      hm_bind (hm_getr 1 1 x0) fun a4 =>
      hm_bind (hm_geti 1 2 x0) fun a5 =>
      hm_bind (hm_ist 7 a4 a5 ((Int32.toInt8 ((Int32.toInt8 (Int64.toInt32 (x1 >>> (Int32.toInt64 (8 * v4) &&& 63)))).toInt32)).toInt32)) fun _ =>
      hm_bind (hm_geti 1 2 x0) fun a6 =>
      hm_bind (hm_puti 1 2 x0 (a6 + 1)) fun _ =>
      p_ByteRow_add_30 x0 x1 kx fu (v4 + (-1)))
def p_ByteRow_add (o : Option Nat) (x1 : Int64) (x3 : Int32) : hM Int32 :=
  hm_bind (hm_geti 1 0 o) fun a1 =>
  hm_bind (hm_geti 1 2 o) fun a2 =>
  if x3 ≤ (a1 - a2) then (
    hm_bind (hm_geti 1 2 o) fun a3 =>
    hm_bind (hm_on 1 o (p_ByteRow_makeRoom o (a3 + x3))) fun _ =>
    p_ByteRow_add_30 o x1 (
      hm_z 1) hm_fuel (x3 - 1))
  else (
    hm_z 0)
def p_SB_give (o : Option Nat) (x1 : Int64) (x3 : Int32) : hM Int32 :=
  if x3 < 1 then (
    hm_z 0)
  else (
    if 8 < x3 then (
      hm_z 0)
    else (
      hm_bind (hm_getr 0 0 o) fun a1 =>
      hm_bind (hm_on 1 a1 (p_ByteRow_add a1 x1 x3)) fun a2 =>
      if a2 = 0 then (
        hm_z 0)
      else (
        hm_z 1)))
def p_ByteRow_keepFirst (o : Option Nat) (x1 : Int32) : hM Int32 :=
  if x1 < 0 then (
    hm_z 0)
  else (
    hm_bind (hm_geti 1 2 o) fun a1 =>
    if x1 ≤ a1 then (
      hm_bind (hm_puti 1 2 o x1) fun _ =>
      hm_z 1)
    else (
      hm_z 0))
def p_SB_cut (o : Option Nat) (x1 : Int32) : hM Int32 :=
  hm_bind (hm_getr 0 0 o) fun a1 =>
  hm_bind (hm_on 1 a1 (p_ByteRow_keepFirst a1 x1)) fun a2 =>
  hm_z a2
def p_ByteRow_set (o : Option Nat) (x1 : Int32) (x2 : Int32) : hM Int32 :=
  if x1 < 0 then (
    hm_z 0)
  else (
    hm_bind (hm_geti 1 2 o) fun a1 =>
    if x1 < a1 then (
      hm_bind (hm_getr 1 1 o) fun a2 =>
      hm_bind (hm_ist 7 a2 x1 ((Int32.toInt8 ((Int32.toInt8 x2).toInt32)).toInt32)) fun _ =>
      hm_z 1)
    else (
      hm_z 0))
def p_SB_poke (o : Option Nat) (x1 : Int32) (x2 : Int32) : hM Int32 :=
  hm_bind (hm_getr 0 0 o) fun a1 =>
  hm_bind (hm_on 1 a1 (p_ByteRow_set a1 x1 x2)) fun a2 =>
  hm_z a2
def p_Fault_clear (o : Option Nat) : hM Unit :=
  hm_bind (hm_puti 2 0 o 0) fun _ =>
  hm_bind (hm_puti 2 1 o (-1)) fun _ =>
  hm_ret ()
def p_Reader_init (o : Option Nat) (x1 : Option Nat) (x2 : Option Nat) : hM Unit :=
  hm_bind (hm_putr 6 0 o x1) fun _ =>
  hm_bind (hm_putr 6 1 o x2) fun _ =>
  hm_bind (hm_puti 6 2 o 0) fun _ =>
  hm_ret ()
def p_Fault_tell (o : Option Nat) (x1 : Int32) (x2 : Int32) : hM Unit :=
  hm_bind (hm_geti 2 0 o) fun a1 =>
  if a1 = 0 then (
    hm_bind (hm_puti 2 0 o x1) fun _ =>
    hm_bind (hm_puti 2 1 o x2) fun _ =>
    hm_ret ())
  else (
    hm_ret ())
def p_ByteRow_at (o : Option Nat) (x1 : Int32) : hM Int32 :=
  if x1 < 0 then (
    hm_ret (-1))
  else (
    hm_bind (hm_geti 1 2 o) fun a1 =>
    if x1 < a1 then (
      hm_bind (hm_getr 1 1 o) fun a2 =>
      hm_bind (hm_ild 7 a2 x1) fun a3 =>
      hm_ret (a3 &&& 255))
    else (
      hm_ret (-1)))
def p_Reader_nextByte (o : Option Nat) : hM Int32 :=
  hm_bind (hm_geti 6 2 o) fun a1 =>
  hm_bind (hm_getr 6 0 o) fun a2 =>
  hm_bind (hm_geti 1 2 a2) fun a3 =>
  if a1 < a3 then (
    hm_bind (hm_getr 6 0 o) fun a4 =>
    hm_bind (hm_geti 6 2 o) fun a5 =>
    hm_bind (hm_on 1 a4 (p_ByteRow_at a4 a5)) fun a6 =>
    hm_bind (hm_geti 6 2 o) fun a7 =>
    hm_bind (hm_puti 6 2 o (a7 + 1)) fun _ =>
    hm_ret a6)
  else (
    hm_bind (hm_getr 6 1 o) fun a8 =>
    hm_bind (hm_getr 6 0 o) fun a9 =>
    hm_bind (hm_geti 1 2 a9) fun a10 =>
    hm_bind (hm_on 2 a8 (p_Fault_tell a8 1 a10)) fun _ =>
    hm_ret 0)
def p_Reader_start (o : Option Nat) (x1 : Int32) : hM Unit :=
  hm_bind (hm_geti 6 2 o) fun a1 =>
  hm_bind (hm_on 6 o (p_Reader_nextByte o )) fun a2 =>
  if a2 = x1 then (
    hm_ret ())
  else (
    hm_bind (hm_getr 6 1 o) fun a3 =>
    hm_bind (hm_on 2 a3 (p_Fault_tell a3 2 a1)) fun _ =>
    hm_ret ())
def p_Reader_number_12  (x0 : Option Nat) (x1 : Int32) (x2 : Int32) (x3 : Int32) (x4 : Int32) (kx : Int32 → hM Int32) : Nat → Int32 → Int32 → hM Int32
  | 0, _, _ => hm_fail
  | fu + 1, v5, v6 =>
    if x1 ≤ v6 then (
      kx v5)
    else (
      hm_bind (hm_on 6 x0 (p_Reader_nextByte x0 )) fun a2 =>
      p_Reader_number_12 x0 x1 x2 x3 x4 kx fu ((v5 <<< ((8 : Int32) &&& 31)) ||| a2) (v6 + 1))
def p_Reader_number (o : Option Nat) (x1 : Int32) (x2 : Int32) (x3 : Int32) : hM Int32 :=
  hm_bind (hm_geti 6 2 o) fun a1 =>
  p_Reader_number_12 o x1 x2 x3 a1 (fun (v5_3 : Int32) =>
    hm_jn (
      hm_bind (hm_getr 6 1 o) fun a4 =>
      hm_bind (hm_geti 2 0 a4) fun a5 =>
      if a5 = 0 then (
        hm_ret v5_3)
      else (
        hm_ret x2)) fun k58 =>
    hm_jn (
      hm_bind (hm_getr 6 1 o) fun a6 =>
      hm_bind (hm_on 2 a6 (p_Fault_tell a6 3 a1)) fun _ =>
      k58) fun k48 =>
    if v5_3 < x2 then (
      k48)
    else (
      if v5_3 ≤ x3 then (
        k58)
      else (
        k48))) hm_fuel 0 0
def p_Program_setCount_2  (x0 : Option Nat) (x1 : Int32) (kx : hM Unit) : Nat → Int32 → hM Unit
  | 0, _ => hm_fail
  | fu + 1, v2 =>
    if x1 ≤ v2 then (
      kx)
    else (
      hm_bind (hm_getr 5 0 x0) fun a1 =>
      hm_bind (hm_qld 8 a1 v2) fun a2 =>
      hm_jn (
        p_Program_setCount_2 x0 x1 kx fu (v2 + 1)) fun k29 =>
      if a2 = none then (
        hm_bind (hm_getr 5 0 x0) fun a3 =>
        hm_bind (hm_new 3 11 [vi_ 0, vi_ 0, vi_ 0, vi_ 0, vi_ 0, vi_ 0, vr_ none, vr_ none, vr_ none, vr_ none, vr_ none]) fun q4 =>
        hm_bind (p_Function_init (some q4) ) fun _ =>
        hm_bind (hm_qst 8 3 a3 v2 (some q4)) fun _ =>
        k29)
      else (
        k29))
def p_Program_setCount (o : Option Nat) (x1 : Int32) : hM Unit :=
  p_Program_setCount_2 o x1 (
    hm_bind (hm_puti 5 1 o x1) fun _ =>
    hm_ret ()) hm_fuel 0
def p_Reader_head (o : Option Nat) (x1 : Option Nat) (x2 : Int32) : hM Unit :=
  hm_jn (fun (z1 : Int32) =>
    hm_bind (hm_on 6 o (p_Reader_number o 1 0 z1)) fun a2 =>
    hm_bind (hm_puti 3 0 x1 a2) fun _ =>
    hm_bind (hm_geti 3 0 x1) fun a3 =>
    hm_bind (hm_on 6 o (p_Reader_number o 1 a3 12)) fun a4 =>
    hm_bind (hm_puti 3 1 x1 a4) fun _ =>
    hm_bind (hm_geti 3 1 x1) fun a5 =>
    hm_bind (hm_on 6 o (p_Reader_number o 2 0 (((1 : Int32) <<< (a5 &&& 31)) - 1))) fun a6 =>
    hm_bind (hm_puti 3 2 x1 a6) fun _ =>
    hm_jn (fun (z7 : Int32) =>
      hm_bind (hm_on 6 o (p_Reader_number o 1 0 z7)) fun a8 =>
      hm_bind (hm_puti 3 3 x1 a8) fun _ =>
      hm_bind (hm_on 6 o (p_Reader_number o 2 1 400)) fun a9 =>
      hm_bind (hm_puti 3 4 x1 a9) fun _ =>
      hm_ret ()) fun k65 =>
    if x2 = 0 then (
      k65 2)
    else (
      k65 1)) fun k13 =>
  if x2 = 0 then (
    k13 4)
  else (
    k13 0)
def p_Kinds_bytesBehind (x0 : Int32) : hM Int32 :=
  if x0 = 0 then (
    hm_ret 4)
  else (
    if x0 = 4 ∨ x0 = 5 ∨ x0 = 25 ∨ x0 = 26 ∨ x0 = 29 then (
      hm_ret 1)
    else (
      if x0 = 18 ∨ x0 = 19 ∨ x0 = 20 then (
        hm_ret 2)
      else (
        hm_ret 0)))
def p_Kinds_leastBehind (x0 : Int32) : hM Int32 :=
  if x0 = 0 then (
    hm_ret (-2147483648))
  else (
    hm_ret 0)
def p_Kinds_mostBehind (x0 : Int32) (x1 : Option Nat) (x2 : Int32) : hM Int32 :=
  if x0 = 0 then (
    hm_ret 2147483647)
  else (
    if x0 = 4 ∨ x0 = 5 then (
      hm_bind (hm_geti 3 1 x1) fun a1 =>
      hm_ret (a1 - 1))
    else (
      if x0 = 18 ∨ x0 = 19 ∨ x0 = 20 then (
        hm_bind (hm_geti 3 4 x1) fun a2 =>
        hm_ret (a2 - 1))
      else (
        if x0 = 25 then (
          hm_ret (x2 - 1))
        else (
          if x0 = 26 ∨ x0 = 29 then (
            hm_ret 15)
          else (
            hm_ret 0)))))
def p_Reader_instructions_2  (x0 : Option Nat) (x1 : Option Nat) (x2 : Int32) (kx : hM Unit) : Nat → Int32 → hM Unit
  | 0, _ => hm_fail
  | fu + 1, v3 =>
    hm_bind (hm_geti 3 4 x1) fun a1 =>
    if a1 ≤ v3 then (
      kx)
    else (
      hm_bind (hm_getr 6 1 x0) fun a2 =>
      hm_bind (hm_geti 2 0 a2) fun a3 =>
      if a3 = 0 then (
        hm_bind (hm_on 6 x0 (p_Reader_number x0 1 0 29)) fun a4 =>
        hm_bind (hm_getr 3 6 x1) fun a5 =>
        hm_bind (hm_ist 0 a5 v3 a4) fun _ =>
        hm_bind (hm_getr 3 7 x1) fun a6 =>
        hm_bind (p_Kinds_bytesBehind a4) fun a7 =>
        hm_bind (p_Kinds_leastBehind a4) fun a8 =>
        hm_bind (p_Kinds_mostBehind a4 x1 x2) fun a9 =>
        hm_bind (hm_on 6 x0 (p_Reader_number x0 a7 a8 a9)) fun a10 =>
        hm_bind (hm_ist 1 a6 v3 a10) fun _ =>
        p_Reader_instructions_2 x0 x1 x2 kx fu (v3 + 1))
      else (
        kx))
def p_Reader_instructions (o : Option Nat) (x1 : Option Nat) (x2 : Int32) : hM Unit :=
  p_Reader_instructions_2 o x1 x2 (
    hm_ret ()) hm_fuel 0
def p_Reader_handlers_14  (x0 : Option Nat) (x1 : Option Nat) (kx : hM Unit) : Nat → Int32 → hM Unit
  | 0, _ => hm_fail
  | fu + 1, v2 =>
    hm_bind (hm_geti 3 5 x1) fun a2 =>
    if a2 ≤ v2 then (
      kx)
    else (
      hm_bind (hm_getr 6 1 x0) fun a3 =>
      hm_bind (hm_geti 2 0 a3) fun a4 =>
      if a4 = 0 then (
        hm_bind (hm_getr 3 10 x1) fun a5 =>
        hm_bind (hm_qld 9 a5 v2) fun a6 =>
        hm_bind (hm_geti 3 4 x1) fun a7 =>
        hm_bind (hm_on 6 x0 (p_Reader_number x0 2 0 (a7 - 1))) fun a8 =>
        hm_bind (hm_puti 4 0 a6 a8) fun _ =>
        hm_bind (hm_geti 4 0 a6) fun a9 =>
        hm_bind (hm_geti 3 4 x1) fun a10 =>
        hm_bind (hm_on 6 x0 (p_Reader_number x0 2 (a9 + 1) a10)) fun a11 =>
        hm_bind (hm_puti 4 1 a6 a11) fun _ =>
        hm_bind (hm_geti 3 4 x1) fun a12 =>
        hm_bind (hm_on 6 x0 (p_Reader_number x0 2 0 (a12 - 1))) fun a13 =>
        hm_bind (hm_puti 4 2 a6 a13) fun _ =>
        hm_bind (hm_on 6 x0 (p_Reader_number x0 1 0 1)) fun a14 =>
        hm_jn (fun (z15 : Int32) =>
          hm_bind (hm_putz 4 3 a6 z15) fun _ =>
          hm_bind (hm_geti 4 3 a6) fun a16 =>
          hm_jn (fun (z17 : Int32) =>
            hm_bind (hm_on 6 x0 (p_Reader_number x0 z17 (-2147483648) 2147483647)) fun a18 =>
            hm_bind (hm_puti 4 4 a6 a18) fun _ =>
            p_Reader_handlers_14 x0 x1 kx fu (v2 + 1)) fun k123 =>
          if a16 = 0 then (
            k123 4)
          else (
            k123 0)) fun k106 =>
        if a14 = 0 then (
          k106 1)
        else (
          k106 0))
      else (
        kx))
def p_Reader_handlers (o : Option Nat) (x1 : Option Nat) : hM Unit :=
  hm_bind (hm_on 6 o (p_Reader_number o 1 0 6)) fun a1 =>
  hm_bind (hm_puti 3 5 x1 a1) fun _ =>
  p_Reader_handlers_14 o x1 (
    hm_ret ()) hm_fuel 0
def p_Reader_readInto_31  (x0 : Option Nat) (x1 : Option Nat) (kx : hM Unit) : Nat → Int32 → hM Unit
  | 0, _ => hm_fail
  | fu + 1, v2 =>
    hm_bind (hm_geti 5 1 x1) fun a2 =>
    if a2 ≤ v2 then (
      kx)
    else (
      hm_bind (hm_getr 6 1 x0) fun a3 =>
      hm_bind (hm_geti 2 0 a3) fun a4 =>
      if a4 = 0 then (
        hm_bind (hm_getr 5 0 x1) fun a5 =>
        hm_bind (hm_qld 8 a5 v2) fun a6 =>
        hm_jn (fun (z7 : Int32) =>
          hm_bind (hm_on 6 x0 (p_Reader_head x0 a6 z7)) fun _ =>
          hm_bind (hm_getr 5 0 x1) fun a8 =>
          hm_bind (hm_qld 8 a8 v2) fun a9 =>
          hm_bind (hm_geti 5 1 x1) fun a10 =>
          hm_bind (hm_on 6 x0 (p_Reader_instructions x0 a9 a10)) fun _ =>
          hm_bind (hm_getr 5 0 x1) fun a11 =>
          hm_bind (hm_qld 8 a11 v2) fun a12 =>
          hm_bind (hm_on 6 x0 (p_Reader_handlers x0 a12)) fun _ =>
          p_Reader_readInto_31 x0 x1 kx fu (v2 + 1)) fun k65 =>
        if v2 = 0 then (
          k65 1)
        else (
          k65 0))
      else (
        kx))
def p_Reader_readInto (o : Option Nat) (x1 : Option Nat) : hM Unit :=
  hm_bind (hm_on 6 o (p_Reader_start o 71)) fun _ =>
  hm_bind (hm_on 6 o (p_Reader_start o 70)) fun _ =>
  hm_bind (hm_on 6 o (p_Reader_start o 1)) fun _ =>
  hm_bind (hm_on 6 o (p_Reader_number o 1 1 12)) fun a1 =>
  hm_bind (hm_on 5 x1 (p_Program_setCount x1 a1)) fun _ =>
  p_Reader_readInto_31 o x1 (
    hm_bind (hm_geti 6 2 o) fun a13 =>
    hm_bind (hm_getr 6 0 o) fun a14 =>
    hm_bind (hm_geti 1 2 a14) fun a15 =>
    if a15 ≤ a13 then (
      hm_ret ())
    else (
      hm_bind (hm_getr 6 1 o) fun a16 =>
      hm_bind (hm_geti 6 2 o) fun a17 =>
      hm_bind (hm_on 2 a16 (p_Fault_tell a16 4 a17)) fun _ =>
      hm_ret ())) hm_fuel 0
def p_Program_at (o : Option Nat) (x1 : Int32) : hM (Option Nat) :=
  hm_jn (
    hm_ret none) fun k12 =>
  if x1 < 0 then (
    k12)
  else (
    hm_bind (hm_geti 5 1 o) fun a1 =>
    if x1 < a1 then (
      hm_bind (hm_getr 5 0 o) fun a2 =>
      hm_bind (hm_qld 8 a2 x1) fun a3 =>
      hm_ret a3)
    else (
      k12))
def p_Function_has (o : Option Nat) (x1 : Int32) : hM Int32 :=
  if x1 < 0 then (
    hm_z 0)
  else (
    hm_bind (hm_geti 3 4 o) fun a1 =>
    if a1 ≤ x1 then (
      hm_z 0)
    else (
      hm_z 1))
def p_Verifier_comeTo (o : Option Nat) (x1 : Int32) (x2 : Int32) (x3 : Int32) : hM Unit :=
  hm_bind (hm_getr 7 6 o) fun a1 =>
  hm_bind (hm_geti 2 0 a1) fun a2 =>
  if a2 = 0 then (
    hm_bind (hm_getr 7 5 o) fun a3 =>
    hm_bind (hm_on 3 a3 (p_Function_has a3 x1)) fun a4 =>
    if a4 = 0 then (
      hm_ret ())
    else (
      hm_bind (hm_getr 7 0 o) fun a5 =>
      hm_bind (hm_ild 4 a5 x1) fun a6 =>
      if a6 = (-1) then (
        hm_bind (hm_getr 7 0 o) fun a13 =>
        hm_bind (hm_ist 4 a13 x1 x2) fun _ =>
        hm_bind (hm_getr 7 1 o) fun a14 =>
        hm_bind (hm_ist 5 a14 x1 x3) fun _ =>
        hm_bind (hm_getr 7 2 o) fun a15 =>
        hm_bind (hm_ist 6 a15 x1 (1 &&& 1)) fun _ =>
        hm_bind (hm_geti 7 3 o) fun a16 =>
        hm_bind (hm_puti 7 3 o (if x1 < a16 then x1 else a16)) fun _ =>
        hm_ret ())
      else (
        hm_bind (hm_getr 7 0 o) fun a7 =>
        hm_bind (hm_ild 4 a7 x1) fun a8 =>
        hm_jn (
          hm_bind (hm_getr 7 6 o) fun a9 =>
          hm_bind (hm_geti 7 7 o) fun a10 =>
          hm_bind (hm_on 2 a9 (p_Fault_tell a9 7 (a10 + x1))) fun _ =>
          hm_ret ()) fun k88 =>
        if a8 = x2 then (
          hm_bind (hm_getr 7 1 o) fun a11 =>
          hm_bind (hm_ild 5 a11 x1) fun a12 =>
          if a12 = x3 then (
            hm_ret ())
          else (
            k88))
        else (
          k88))))
  else (
    hm_ret ())
def p_Verifier_begin_2  (x0 : Option Nat) (kx : hM Unit) : Nat → Int32 → hM Unit
  | 0, _ => hm_fail
  | fu + 1, v1 =>
    hm_bind (hm_getr 7 5 x0) fun a1 =>
    hm_bind (hm_geti 3 4 a1) fun a2 =>
    if a2 ≤ v1 then (
      kx)
    else (
      hm_bind (hm_getr 7 0 x0) fun a3 =>
      hm_bind (hm_ist 4 a3 v1 (-1)) fun _ =>
      hm_bind (hm_getr 7 1 x0) fun a4 =>
      hm_bind (hm_ist 5 a4 v1 0) fun _ =>
      hm_bind (hm_getr 7 2 x0) fun a5 =>
      hm_bind (hm_ist 6 a5 v1 (0 &&& 1)) fun _ =>
      p_Verifier_begin_2 x0 kx fu (v1 + 1))
def p_Verifier_begin (o : Option Nat) : hM Unit :=
  p_Verifier_begin_2 o (
    hm_bind (hm_puti 7 3 o 0) fun _ =>
    hm_bind (hm_on 7 o (p_Verifier_comeTo o 0 0 0)) fun _ =>
    hm_ret ()) hm_fuel 0
def p_Verifier_findLeastWaiting_0  (x0 : Option Nat) (kx : hM Int32) : Nat → hM Int32
  | 0 => hm_fail
  | fu + 1 =>
    hm_bind (hm_geti 7 3 x0) fun a1 =>
    hm_bind (hm_getr 7 5 x0) fun a2 =>
    hm_bind (hm_geti 3 4 a2) fun a3 =>
    if a3 ≤ a1 then (
      kx)
    else (
      hm_bind (hm_getr 7 2 x0) fun a4 =>
      hm_bind (hm_geti 7 3 x0) fun a5 =>
      hm_bind (hm_ild 6 a4 a5) fun a6 =>
      if a6 = 0 then (
        hm_bind (hm_geti 7 3 x0) fun a7 =>
        hm_bind (hm_puti 7 3 x0 (a7 + 1)) fun _ =>
        p_Verifier_findLeastWaiting_0 x0 kx fu)
      else (
        kx))
def p_Verifier_findLeastWaiting (o : Option Nat) : hM Int32 :=
  p_Verifier_findLeastWaiting_0 o (
    hm_bind (hm_geti 7 3 o) fun a8 =>
    hm_bind (hm_getr 7 5 o) fun a9 =>
    hm_bind (hm_geti 3 4 a9) fun a10 =>
    if a10 ≤ a8 then (
      hm_z 0)
    else (
      hm_bind (hm_getr 7 6 o) fun a11 =>
      hm_bind (hm_geti 2 0 a11) fun a12 =>
      if a12 = 0 then (
        hm_z 1)
      else (
        hm_z 0))) hm_fuel
def p_Verifier_put (o : Option Nat) (x1 : Int32) : hM Unit :=
  hm_bind (hm_geti 7 9 o) fun a1 =>
  if a1 < 16 then (
    hm_jn (
      hm_bind (hm_geti 7 9 o) fun a2 =>
      hm_bind (hm_puti 7 9 o (a2 + 1)) fun _ =>
      hm_ret ()) fun k48 =>
    if x1 = 2 then (
      hm_bind (hm_geti 7 10 o) fun a3 =>
      hm_bind (hm_geti 7 9 o) fun a4 =>
      hm_bind (hm_puti 7 10 o (a3 ||| ((1 : Int32) <<< (a4 &&& 31)))) fun _ =>
      k48)
    else (
      k48))
  else (
    hm_bind (hm_getr 7 6 o) fun a5 =>
    hm_bind (hm_geti 7 7 o) fun a6 =>
    hm_bind (hm_geti 7 8 o) fun a7 =>
    hm_bind (hm_on 2 a5 (p_Fault_tell a5 6 (a6 + a7))) fun _ =>
    hm_ret ())
def p_Verifier_take (o : Option Nat) (x1 : Int32) : hM Int32 :=
  hm_bind (hm_geti 7 9 o) fun a1 =>
  hm_jn (fun (z2 : Int32) =>
    hm_jn (
      hm_bind (hm_getr 7 6 o) fun a3 =>
      hm_bind (hm_geti 7 7 o) fun a4 =>
      hm_bind (hm_geti 7 8 o) fun a5 =>
      hm_bind (hm_on 2 a3 (p_Fault_tell a3 5 (a4 + a5))) fun _ =>
      hm_ret 0) fun k47 =>
    if z2 = 0 then (
      k47)
    else (
      hm_jn (
        hm_bind (hm_geti 7 9 o) fun a6 =>
        hm_bind (hm_puti 7 9 o (a6 - 1)) fun _ =>
        hm_bind (hm_geti 7 10 o) fun a7 =>
        hm_bind (hm_geti 7 9 o) fun a8 =>
        hm_bind (hm_puti 7 10 o (a7 &&& (((1 : Int32) <<< (a8 &&& 31)) - 1))) fun _ =>
        hm_ret z2) fun k66 =>
      if x1 = 0 then (
        k66)
      else (
        if x1 = z2 then (
          k66)
        else (
          k47)))) fun k33 =>
  if a1 = 0 then (
    k33 0)
  else (
    hm_bind (hm_geti 7 10 o) fun a9 =>
    hm_bind (hm_geti 7 9 o) fun a10 =>
    if ((a9 >>> ((a10 - 1) &&& 31)) &&& 1) = 1 then (
      k33 2)
    else (
      k33 1))
def p_Verifier_repeatTop (o : Option Nat) : hM Unit :=
  hm_bind (hm_on 7 o (p_Verifier_take o 0)) fun a1 =>
  hm_bind (hm_on 7 o (p_Verifier_put o a1)) fun _ =>
  hm_bind (hm_on 7 o (p_Verifier_put o a1)) fun _ =>
  hm_ret ()
def p_Verifier_swapUpperTwo (o : Option Nat) : hM Unit :=
  hm_bind (hm_on 7 o (p_Verifier_take o 0)) fun a1 =>
  hm_bind (hm_on 7 o (p_Verifier_take o 0)) fun a2 =>
  hm_bind (hm_on 7 o (p_Verifier_put o a1)) fun _ =>
  hm_bind (hm_on 7 o (p_Verifier_put o a2)) fun _ =>
  hm_ret ()
def p_Function_typeOfLocal (o : Option Nat) (x1 : Int32) : hM Int32 :=
  hm_bind (hm_geti 3 2 o) fun a1 =>
  if ((a1 >>> (x1 &&& 31)) &&& 1) = 1 then (
    hm_ret 2)
  else (
    hm_ret 1)
def p_Verifier_useRow (o : Option Nat) (x1 : Int32) : hM Unit :=
  if x1 = 21 then (
    hm_bind (hm_on 7 o (p_Verifier_take o 1)) fun a4 =>
    hm_bind (hm_on 7 o (p_Verifier_put o 2)) fun _ =>
    hm_ret ())
  else (
    hm_jn (
      hm_jn (
        hm_bind (hm_on 7 o (p_Verifier_take o 2)) fun a1 =>
        if x1 = 23 then (
          hm_ret ())
        else (
          hm_bind (hm_on 7 o (p_Verifier_put o 1)) fun _ =>
          hm_ret ())) fun k42 =>
      if x1 = 23 then (
        hm_bind (hm_on 7 o (p_Verifier_take o 1)) fun a2 =>
        k42)
      else (
        k42)) fun k30 =>
    if x1 = 24 then (
      k30)
    else (
      hm_bind (hm_on 7 o (p_Verifier_take o 1)) fun a3 =>
      k30))
def p_Verifier_callFunction_12  (x0 : Option Nat) (x1 : Option Nat) (kx : hM Unit) : Nat → Int32 → hM Unit
  | 0, _ => hm_fail
  | fu + 1, v2 =>
    if v2 < 0 then (
      kx)
    else (
      hm_bind (hm_on 3 x1 (p_Function_typeOfLocal x1 v2)) fun a2 =>
      hm_bind (hm_on 7 x0 (p_Verifier_take x0 a2)) fun a3 =>
      p_Verifier_callFunction_12 x0 x1 kx fu (v2 + (-1)))
def p_Verifier_callFunction (o : Option Nat) (x1 : Option Nat) : hM Unit :=
  if x1 = none then (
    hm_ret ())
  else (
    hm_bind (hm_geti 3 0 x1) fun a1 =>
    p_Verifier_callFunction_12 o x1 (
      hm_bind (hm_geti 3 3 x1) fun a4 =>
      if a4 = 0 then (
        hm_ret ())
      else (
        hm_bind (hm_geti 3 3 x1) fun a5 =>
        hm_bind (hm_on 7 o (p_Verifier_put o a5)) fun _ =>
        hm_ret ())) hm_fuel (a1 - 1))
def p_Verifier_takeInts_2  (x0 : Option Nat) (x1 : Int32) (kx : hM Unit) : Nat → Int32 → hM Unit
  | 0, _ => hm_fail
  | fu + 1, v2 =>
    if x1 ≤ v2 then (
      kx)
    else (
      hm_bind (hm_on 7 x0 (p_Verifier_take x0 1)) fun a1 =>
      p_Verifier_takeInts_2 x0 x1 kx fu (v2 + 1))
def p_Verifier_takeInts (o : Option Nat) (x1 : Int32) : hM Unit :=
  p_Verifier_takeInts_2 o x1 (
    hm_ret ()) hm_fuel 0
def p_Verifier_takeResult (o : Option Nat) : hM Unit :=
  hm_bind (hm_getr 7 5 o) fun a1 =>
  hm_bind (hm_geti 3 3 a1) fun a2 =>
  if a2 = 0 then (
    hm_ret ())
  else (
    hm_bind (hm_getr 7 5 o) fun a3 =>
    hm_bind (hm_geti 3 3 a3) fun a4 =>
    hm_bind (hm_on 7 o (p_Verifier_take o a4)) fun a5 =>
    hm_ret ())
def p_Verifier_putInts_2  (x0 : Option Nat) (x1 : Int32) (kx : hM Unit) : Nat → Int32 → hM Unit
  | 0, _ => hm_fail
  | fu + 1, v2 =>
    if x1 ≤ v2 then (
      kx)
    else (
      hm_bind (hm_on 7 x0 (p_Verifier_put x0 1)) fun _ =>
      p_Verifier_putInts_2 x0 x1 kx fu (v2 + 1))
def p_Verifier_putInts (o : Option Nat) (x1 : Int32) : hM Unit :=
  p_Verifier_putInts_2 o x1 (
    hm_ret ()) hm_fuel 0
def p_Verifier_takeAndPut (o : Option Nat) (x1 : Int32) (x2 : Int32) : hM Unit :=
  if x1 = 0 then (
    hm_bind (hm_on 7 o (p_Verifier_put o 1)) fun _ =>
    hm_ret ())
  else (
    if x1 = 1 then (
      hm_bind (hm_on 7 o (p_Verifier_take o 0)) fun a1 =>
      hm_ret ())
    else (
      if x1 = 2 then (
        hm_bind (hm_on 7 o (p_Verifier_repeatTop o )) fun _ =>
        hm_ret ())
      else (
        if x1 = 3 then (
          hm_bind (hm_on 7 o (p_Verifier_swapUpperTwo o )) fun _ =>
          hm_ret ())
        else (
          if x1 = 4 then (
            hm_bind (hm_getr 7 5 o) fun a2 =>
            hm_bind (hm_on 3 a2 (p_Function_typeOfLocal a2 x2)) fun a3 =>
            hm_bind (hm_on 7 o (p_Verifier_put o a3)) fun _ =>
            hm_ret ())
          else (
            if x1 = 5 then (
              hm_bind (hm_getr 7 5 o) fun a4 =>
              hm_bind (hm_on 3 a4 (p_Function_typeOfLocal a4 x2)) fun a5 =>
              hm_bind (hm_on 7 o (p_Verifier_take o a5)) fun a6 =>
              hm_ret ())
            else (
              if x1 = 18 then (
                hm_ret ())
              else (
                if x1 = 19 ∨ x1 = 20 ∨ x1 = 28 then (
                  hm_bind (hm_on 7 o (p_Verifier_take o 1)) fun a7 =>
                  hm_ret ())
                else (
                  if x1 = 21 ∨ x1 = 22 ∨ x1 = 23 ∨ x1 = 24 then (
                    hm_bind (hm_on 7 o (p_Verifier_useRow o x1)) fun _ =>
                    hm_ret ())
                  else (
                    if x1 = 25 then (
                      hm_bind (hm_getr 7 4 o) fun a8 =>
                      hm_bind (hm_on 5 a8 (p_Program_at a8 x2)) fun a9 =>
                      hm_bind (hm_on 7 o (p_Verifier_callFunction o a9)) fun _ =>
                      hm_ret ())
                    else (
                      if x1 = 26 then (
                        hm_ne 4 <|
                        hm_bind (hm_on 7 o (p_Verifier_takeInts o (x2 - x2 / 4 * 4))) fun _ =>
                        hm_bind (hm_on 7 o (p_Verifier_put o 1)) fun _ =>
                        hm_ret ())
                      else (
                        if x1 = 27 then (
                          hm_bind (hm_on 7 o (p_Verifier_takeResult o )) fun _ =>
                          hm_ret ())
                        else (
                          if x1 = 29 then (
                            hm_ne 4 <|
                            hm_bind (hm_on 7 o (p_Verifier_takeInts o (x2 - x2 / 4 * 4))) fun _ =>
                            hm_ne 4 <|
                            hm_bind (hm_on 7 o (p_Verifier_putInts o (x2 - x2 / 4 * 4))) fun _ =>
                            hm_ret ())
                          else (
                            hm_bind (hm_on 7 o (p_Verifier_takeInts o 2)) fun _ =>
                            hm_bind (hm_on 7 o (p_Verifier_put o 1)) fun _ =>
                            hm_ret ())))))))))))))
def p_Handler_covers (o : Option Nat) (x1 : Int32) : hM Int32 :=
  hm_bind (hm_geti 4 0 o) fun a1 =>
  if x1 < a1 then (
    hm_z 0)
  else (
    hm_bind (hm_geti 4 1 o) fun a2 =>
    if a2 ≤ x1 then (
      hm_z 0)
    else (
      hm_z 1))
def p_Verifier_comeToHandlers_2  (x0 : Option Nat) (kx : hM Unit) : Nat → Int32 → hM Unit
  | 0, _ => hm_fail
  | fu + 1, v1 =>
    hm_bind (hm_getr 7 5 x0) fun a1 =>
    hm_bind (hm_geti 3 5 a1) fun a2 =>
    if a2 ≤ v1 then (
      kx)
    else (
      hm_bind (hm_getr 7 5 x0) fun a3 =>
      hm_bind (hm_getr 3 10 a3) fun a4 =>
      hm_bind (hm_qld 9 a4 v1) fun a5 =>
      hm_bind (hm_geti 7 8 x0) fun a6 =>
      hm_bind (hm_on 4 a5 (p_Handler_covers a5 a6)) fun a7 =>
      hm_jn (
        p_Verifier_comeToHandlers_2 x0 kx fu (v1 + 1)) fun k44 =>
      if a7 = 0 then (
        k44)
      else (
        hm_bind (hm_geti 4 2 a5) fun a8 =>
        hm_bind (hm_on 7 x0 (p_Verifier_comeTo x0 a8 1 0)) fun _ =>
        k44))
def p_Verifier_comeToHandlers (o : Option Nat) : hM Unit :=
  p_Verifier_comeToHandlers_2 o (
    hm_ret ()) hm_fuel 0
def p_Kinds_goesToPlace (x0 : Int32) : hM Int32 :=
  if x0 = 18 then (
    hm_z 1)
  else (
    if x0 = 19 then (
      hm_z 1)
    else (
      if x0 = 20 then (
        hm_z 1)
      else (
        hm_z 0)))
def p_Kinds_goesOnBehind (x0 : Int32) : hM Int32 :=
  if x0 = 18 then (
    hm_z 0)
  else (
    if x0 = 27 then (
      hm_z 0)
    else (
      if x0 = 28 then (
        hm_z 0)
      else (
        hm_z 1)))
def p_Verifier_comeToNext (o : Option Nat) : hM Unit :=
  hm_bind (hm_geti 7 8 o) fun a1 =>
  hm_bind (hm_getr 7 5 o) fun a2 =>
  hm_bind (hm_geti 3 4 a2) fun a3 =>
  if a3 ≤ (a1 + 1) then (
    hm_bind (hm_getr 7 6 o) fun a4 =>
    hm_bind (hm_geti 7 7 o) fun a5 =>
    hm_bind (hm_geti 7 8 o) fun a6 =>
    hm_bind (hm_on 2 a4 (p_Fault_tell a4 8 (a5 + a6))) fun _ =>
    hm_ret ())
  else (
    hm_bind (hm_geti 7 8 o) fun a7 =>
    hm_bind (hm_geti 7 9 o) fun a8 =>
    hm_bind (hm_geti 7 10 o) fun a9 =>
    hm_bind (hm_on 7 o (p_Verifier_comeTo o (a7 + 1) a8 a9)) fun _ =>
    hm_ret ())
def p_Verifier_lookAt (o : Option Nat) (x1 : Int32) : hM Unit :=
  hm_bind (hm_getr 7 2 o) fun a1 =>
  hm_bind (hm_ist 6 a1 x1 (0 &&& 1)) fun _ =>
  hm_bind (hm_puti 7 8 o x1) fun _ =>
  hm_bind (hm_getr 7 0 o) fun a2 =>
  hm_bind (hm_ild 4 a2 x1) fun a3 =>
  hm_bind (hm_puti 7 9 o a3) fun _ =>
  hm_bind (hm_getr 7 1 o) fun a4 =>
  hm_bind (hm_ild 5 a4 x1) fun a5 =>
  hm_bind (hm_puti 7 10 o a5) fun _ =>
  hm_bind (hm_getr 7 5 o) fun a6 =>
  hm_bind (hm_getr 3 6 a6) fun a7 =>
  hm_bind (hm_ild 0 a7 x1) fun a8 =>
  hm_bind (hm_getr 7 5 o) fun a9 =>
  hm_bind (hm_getr 3 7 a9) fun a10 =>
  hm_bind (hm_ild 1 a10 x1) fun a11 =>
  hm_bind (hm_on 7 o (p_Verifier_takeAndPut o a8 a11)) fun _ =>
  hm_bind (hm_on 7 o (p_Verifier_comeToHandlers o )) fun _ =>
  hm_bind (p_Kinds_goesToPlace a8) fun a12 =>
  hm_jn (
    hm_bind (p_Kinds_goesOnBehind a8) fun a13 =>
    if a13 = 0 then (
      hm_ret ())
    else (
      hm_bind (hm_on 7 o (p_Verifier_comeToNext o )) fun _ =>
      hm_ret ())) fun k82 =>
  if a12 = 0 then (
    k82)
  else (
    hm_bind (hm_geti 7 9 o) fun a14 =>
    hm_bind (hm_geti 7 10 o) fun a15 =>
    hm_bind (hm_on 7 o (p_Verifier_comeTo o a11 a14 a15)) fun _ =>
    k82)
def p_Verifier_verify_45  (x0 : Option Nat) (kx : hM Unit) : Nat → Int32 → hM Unit
  | 0, _ => hm_fail
  | fu + 1, v5 =>
    hm_bind (hm_getr 7 5 x0) fun a2 =>
    hm_bind (hm_geti 3 4 a2) fun a3 =>
    if a3 ≤ v5 then (
      kx)
    else (
      hm_bind (hm_on 7 x0 (p_Verifier_findLeastWaiting x0 )) fun a4 =>
      if a4 = 0 then (
        kx)
      else (
        hm_bind (hm_geti 7 3 x0) fun a5 =>
        hm_bind (hm_on 7 x0 (p_Verifier_lookAt x0 a5)) fun _ =>
        p_Verifier_verify_45 x0 kx fu (v5 + 1)))
def p_Verifier_verify (o : Option Nat) (x1 : Option Nat) (x2 : Int32) (x3 : Option Nat) : hM Unit :=
  hm_bind (hm_on 5 x1 (p_Program_at x1 x2)) fun a1 =>
  if a1 = none then (
    hm_ret ())
  else (
    hm_bind (hm_putr 7 4 o x1) fun _ =>
    hm_bind (hm_putr 7 5 o a1) fun _ =>
    hm_bind (hm_putr 7 6 o x3) fun _ =>
    hm_bind (hm_puti 7 7 o (x2 * 512)) fun _ =>
    hm_bind (hm_on 7 o (p_Verifier_begin o )) fun _ =>
    p_Verifier_verify_45 o (
      hm_bind (hm_getr 7 6 o) fun a6 =>
      hm_bind (hm_geti 2 0 a6) fun a7 =>
      if a7 = 0 then (
        hm_bind (hm_getr 7 0 o) fun a8 =>
        hm_bind (hm_getr 7 5 o) fun a9 =>
        hm_bind (hm_getr 3 8 a9) fun a10 =>
        hm_bind (hm_getr 7 5 o) fun a11 =>
        hm_bind (hm_geti 3 4 a11) fun a12 =>
        hm_bind (hm_copy 4 2 a8 0 a10 0 a12) fun _ =>
        hm_bind (hm_getr 7 1 o) fun a13 =>
        hm_bind (hm_getr 7 5 o) fun a14 =>
        hm_bind (hm_getr 3 9 a14) fun a15 =>
        hm_bind (hm_getr 7 5 o) fun a16 =>
        hm_bind (hm_geti 3 4 a16) fun a17 =>
        hm_bind (hm_copy 5 3 a13 0 a15 0 a17) fun _ =>
        hm_ret ())
      else (
        hm_ret ())) hm_fuel 0)
def p_SB_read_31  (x0 : Option Nat) (kx : hM Int32) : Nat → Int32 → hM Int32
  | 0, _ => hm_fail
  | fu + 1, v1 =>
    hm_bind (hm_getr 0 5 x0) fun a6 =>
    hm_bind (hm_geti 5 1 a6) fun a7 =>
    if a7 ≤ v1 then (
      kx)
    else (
      hm_bind (hm_getr 0 2 x0) fun a8 =>
      hm_bind (hm_geti 2 0 a8) fun a9 =>
      if a9 = 0 then (
        hm_bind (hm_getr 0 3 x0) fun a10 =>
        hm_bind (hm_getr 0 5 x0) fun a11 =>
        hm_bind (hm_getr 0 2 x0) fun a12 =>
        hm_bind (hm_on 7 a10 (p_Verifier_verify a10 a11 v1 a12)) fun _ =>
        p_SB_read_31 x0 kx fu (v1 + 1))
      else (
        kx))
def p_SB_read (o : Option Nat) : hM Int32 :=
  hm_bind (hm_getr 0 2 o) fun a1 =>
  hm_bind (hm_on 2 a1 (p_Fault_clear a1 )) fun _ =>
  hm_bind (hm_new 6 3 [vr_ none, vr_ none, vi_ 0]) fun q2 =>
  hm_bind (hm_getr 0 0 o) fun a3 =>
  hm_bind (hm_getr 0 2 o) fun a4 =>
  hm_bind (p_Reader_init (some q2) a3 a4) fun _ =>
  hm_bind (hm_getr 0 5 o) fun a5 =>
  hm_bind (hm_on 6 (some q2) (p_Reader_readInto (some q2) a5)) fun _ =>
  p_SB_read_31 o (
    hm_bind (hm_getr 0 2 o) fun a13 =>
    hm_bind (hm_geti 2 0 a13) fun a14 =>
    hm_jn (
      hm_bind (hm_getr 0 2 o) fun a15 =>
      hm_bind (hm_geti 2 0 a15) fun a16 =>
      hm_ret a16) fun k102 =>
    if a14 = 0 then (
      hm_bind (hm_getr 0 4 o) fun a17 =>
      hm_bind (hm_getr 0 5 o) fun a18 =>
      hm_bind (hm_putr 0 4 o a18) fun _ =>
      hm_bind (hm_putr 0 5 o a17) fun _ =>
      k102)
    else (
      k102)) hm_fuel 0
def p_Handler_appendTo (o : Option Nat) (x1 : Option Nat) : hM Unit :=
  hm_bind (hm_geti 4 0 o) fun a1 =>
  hm_bind (hm_on 1 x1 (p_ByteRow_add x1 (Int32.toInt64 a1) 2)) fun a2 =>
  hm_bind (hm_geti 4 1 o) fun a3 =>
  hm_bind (hm_on 1 x1 (p_ByteRow_add x1 (Int32.toInt64 a3) 2)) fun a4 =>
  hm_bind (hm_geti 4 2 o) fun a5 =>
  hm_bind (hm_on 1 x1 (p_ByteRow_add x1 (Int32.toInt64 a5) 2)) fun a6 =>
  hm_bind (hm_geti 4 3 o) fun a7 =>
  hm_jn (fun (z8 : Int64) =>
    hm_bind (hm_on 1 x1 (p_ByteRow_add x1 z8 1)) fun a9 =>
    hm_bind (hm_geti 4 4 o) fun a10 =>
    hm_bind (hm_geti 4 3 o) fun a11 =>
    hm_jn (fun (z12 : Int32) =>
      hm_bind (hm_on 1 x1 (p_ByteRow_add x1 (Int32.toInt64 a10) z12)) fun a13 =>
      hm_ret ()) fun k69 =>
    if a11 = 0 then (
      k69 4)
    else (
      k69 0)) fun k46 =>
  if a7 = 0 then (
    k46 1)
  else (
    k46 0)
def p_Function_appendTo_57  (x0 : Option Nat) (x1 : Option Nat) (kx : hM Unit) : Nat → Int32 → hM Unit
  | 0, _ => hm_fail
  | fu + 1, v2 =>
    hm_bind (hm_geti 3 4 x0) fun a11 =>
    if a11 ≤ v2 then (
      kx)
    else (
      hm_bind (hm_getr 3 6 x0) fun a12 =>
      hm_bind (hm_ild 0 a12 v2) fun a13 =>
      hm_bind (hm_on 1 x1 (p_ByteRow_add x1 (Int32.toInt64 a13) 1)) fun a14 =>
      hm_bind (hm_getr 3 7 x0) fun a15 =>
      hm_bind (hm_ild 1 a15 v2) fun a16 =>
      hm_bind (hm_getr 3 6 x0) fun a17 =>
      hm_bind (hm_ild 0 a17 v2) fun a18 =>
      hm_bind (p_Kinds_bytesBehind a18) fun a19 =>
      hm_bind (hm_on 1 x1 (p_ByteRow_add x1 (Int32.toInt64 a16) a19)) fun a20 =>
      p_Function_appendTo_57 x0 x1 kx fu (v2 + 1))
def p_Function_appendTo_118  (x0 : Option Nat) (x1 : Option Nat) (kx : hM Unit) : Nat → Int32 → hM Unit
  | 0, _ => hm_fail
  | fu + 1, v2 =>
    hm_bind (hm_geti 3 5 x0) fun a23 =>
    if a23 ≤ v2 then (
      kx)
    else (
      hm_bind (hm_getr 3 10 x0) fun a24 =>
      hm_bind (hm_qld 9 a24 v2) fun a25 =>
      hm_bind (hm_on 4 a25 (p_Handler_appendTo a25 x1)) fun _ =>
      p_Function_appendTo_118 x0 x1 kx fu (v2 + 1))
def p_Function_appendTo (o : Option Nat) (x1 : Option Nat) : hM Unit :=
  hm_bind (hm_geti 3 0 o) fun a1 =>
  hm_bind (hm_on 1 x1 (p_ByteRow_add x1 (Int32.toInt64 a1) 1)) fun a2 =>
  hm_bind (hm_geti 3 1 o) fun a3 =>
  hm_bind (hm_on 1 x1 (p_ByteRow_add x1 (Int32.toInt64 a3) 1)) fun a4 =>
  hm_bind (hm_geti 3 2 o) fun a5 =>
  hm_bind (hm_on 1 x1 (p_ByteRow_add x1 (Int32.toInt64 a5) 2)) fun a6 =>
  hm_bind (hm_geti 3 3 o) fun a7 =>
  hm_bind (hm_on 1 x1 (p_ByteRow_add x1 (Int32.toInt64 a7) 1)) fun a8 =>
  hm_bind (hm_geti 3 4 o) fun a9 =>
  hm_bind (hm_on 1 x1 (p_ByteRow_add x1 (Int32.toInt64 a9) 2)) fun a10 =>
  p_Function_appendTo_57 o x1 (
    hm_bind (hm_geti 3 5 o) fun a21 =>
    hm_bind (hm_on 1 x1 (p_ByteRow_add x1 (Int32.toInt64 a21) 1)) fun a22 =>
    p_Function_appendTo_118 o x1 (
      hm_ret ()) hm_fuel 0) hm_fuel 0
def p_Program_appendTo_38  (x0 : Option Nat) (x1 : Option Nat) (kx : hM Unit) : Nat → Int32 → hM Unit
  | 0, _ => hm_fail
  | fu + 1, v2 =>
    hm_bind (hm_geti 5 1 x0) fun a6 =>
    if a6 ≤ v2 then (
      kx)
    else (
      hm_bind (hm_getr 5 0 x0) fun a7 =>
      hm_bind (hm_qld 8 a7 v2) fun a8 =>
      hm_bind (hm_on 3 a8 (p_Function_appendTo a8 x1)) fun _ =>
      p_Program_appendTo_38 x0 x1 kx fu (v2 + 1))
def p_Program_appendTo (o : Option Nat) (x1 : Option Nat) : hM Unit :=
  hm_bind (hm_on 1 x1 (p_ByteRow_add x1 71 1)) fun a1 =>
  hm_bind (hm_on 1 x1 (p_ByteRow_add x1 70 1)) fun a2 =>
  hm_bind (hm_on 1 x1 (p_ByteRow_add x1 1 1)) fun a3 =>
  hm_bind (hm_geti 5 1 o) fun a4 =>
  hm_bind (hm_on 1 x1 (p_ByteRow_add x1 (Int32.toInt64 a4) 1)) fun a5 =>
  p_Program_appendTo_38 o x1 (
    hm_ret ()) hm_fuel 0
def p_SB_write (o : Option Nat) : hM Int32 :=
  hm_bind (hm_getr 0 1 o) fun a1 =>
  hm_bind (hm_on 1 a1 (p_ByteRow_keepFirst a1 0)) fun a2 =>
  hm_bind (hm_getr 0 4 o) fun a3 =>
  hm_bind (hm_getr 0 1 o) fun a4 =>
  hm_bind (hm_on 5 a3 (p_Program_appendTo a3 a4)) fun _ =>
  hm_bind (hm_getr 0 1 o) fun a5 =>
  hm_bind (hm_geti 1 2 a5) fun a6 =>
  hm_ret a6
def p_ByteRow_become (o : Option Nat) (x1 : Option Nat) : hM Int32 :=
  hm_bind (hm_geti 1 2 x1) fun a1 =>
  hm_bind (hm_geti 1 0 o) fun a2 =>
  if a1 ≤ a2 then (
    hm_bind (hm_geti 1 2 x1) fun a3 =>
    hm_bind (hm_on 1 o (p_ByteRow_makeRoom o a3)) fun _ =>
    hm_bind (hm_getr 1 1 x1) fun a4 =>
    hm_bind (hm_getr 1 1 o) fun a5 =>
    hm_bind (hm_geti 1 2 x1) fun a6 =>
    hm_bind (hm_copy 7 7 a4 0 a5 0 a6) fun _ =>
    hm_bind (hm_geti 1 2 x1) fun a7 =>
    hm_bind (hm_puti 1 2 o a7) fun _ =>
    hm_z 1)
  else (
    hm_z 0)
def p_SB_turnOver (o : Option Nat) : hM Int32 :=
  hm_bind (hm_getr 0 0 o) fun a1 =>
  hm_bind (hm_getr 0 1 o) fun a2 =>
  hm_bind (hm_on 1 a1 (p_ByteRow_become a1 a2)) fun a3 =>
  hm_z a3
def p_Kinds_canStand (x0 : Int32) (x1 : Int32) (x2 : Option Nat) (x3 : Int32) : hM Int32 :=
  if x0 < 0 then (
    hm_z 0)
  else (
    if 29 < x0 then (
      hm_z 0)
    else (
      hm_bind (p_Kinds_leastBehind x0) fun a1 =>
      if x1 < a1 then (
        hm_z 0)
      else (
        hm_bind (p_Kinds_mostBehind x0 x2 x3) fun a2 =>
        if a2 < x1 then (
          hm_z 0)
        else (
          hm_z 1))))
def p_SB_change (o : Option Nat) (x1 : Int32) (x2 : Int32) (x3 : Int32) (x4 : Int32) : hM Int32 :=
  hm_bind (hm_getr 0 2 o) fun a1 =>
  hm_bind (hm_on 2 a1 (p_Fault_clear a1 )) fun _ =>
  hm_bind (hm_getr 0 4 o) fun a2 =>
  hm_bind (hm_on 5 a2 (p_Program_at a2 x1)) fun a3 =>
  hm_jn (
    hm_bind (hm_getr 0 2 o) fun a4 =>
    hm_bind (hm_on 2 a4 (p_Fault_tell a4 3 (-1))) fun _ =>
    hm_bind (hm_getr 0 2 o) fun a5 =>
    hm_bind (hm_geti 2 0 a5) fun a6 =>
    hm_ret a6) fun k49 =>
  if a3 = none then (
    k49)
  else (
    hm_bind (hm_on 3 a3 (p_Function_has a3 x2)) fun a7 =>
    if a7 = 0 then (
      k49)
    else (
      hm_bind (hm_getr 0 4 o) fun a8 =>
      hm_bind (hm_geti 5 1 a8) fun a9 =>
      hm_bind (p_Kinds_canStand x3 x4 a3 a9) fun a10 =>
      if a10 = 0 then (
        k49)
      else (
        hm_bind (hm_getr 3 6 a3) fun a11 =>
        hm_bind (hm_ild 0 a11 x2) fun a12 =>
        hm_bind (hm_getr 3 7 a3) fun a13 =>
        hm_bind (hm_ild 1 a13 x2) fun a14 =>
        hm_bind (hm_getr 3 6 a3) fun a15 =>
        hm_bind (hm_ist 0 a15 x2 x3) fun _ =>
        hm_bind (hm_getr 3 7 a3) fun a16 =>
        hm_bind (hm_ist 1 a16 x2 x4) fun _ =>
        hm_bind (hm_getr 0 3 o) fun a17 =>
        hm_bind (hm_getr 0 4 o) fun a18 =>
        hm_bind (hm_getr 0 2 o) fun a19 =>
        hm_bind (hm_on 7 a17 (p_Verifier_verify a17 a18 x1 a19)) fun _ =>
        hm_bind (hm_getr 0 2 o) fun a20 =>
        hm_bind (hm_geti 2 0 a20) fun a21 =>
        hm_jn (
          hm_bind (hm_getr 0 2 o) fun a22 =>
          hm_bind (hm_geti 2 0 a22) fun a23 =>
          hm_ret a23) fun k145 =>
        if a21 = 0 then (
          k145)
        else (
          hm_bind (hm_getr 3 6 a3) fun a24 =>
          hm_bind (hm_ist 0 a24 x2 a12) fun _ =>
          hm_bind (hm_getr 3 7 a3) fun a25 =>
          hm_bind (hm_ist 1 a25 x2 a14) fun _ =>
          k145))))
def p_Function_isGoneTo_2  (x0 : Option Nat) (x1 : Int32) (kx : hM Int32) : Nat → Int32 → hM Int32
  | 0, _ => hm_fail
  | fu + 1, v2 =>
    hm_bind (hm_geti 3 4 x0) fun a1 =>
    if a1 ≤ v2 then (
      kx)
    else (
      hm_bind (hm_getr 3 6 x0) fun a2 =>
      hm_bind (hm_ild 0 a2 v2) fun a3 =>
      hm_bind (p_Kinds_goesToPlace a3) fun a4 =>
      hm_jn (
        p_Function_isGoneTo_2 x0 x1 kx fu (v2 + 1)) fun k34 =>
      if a4 = 0 then (
        k34)
      else (
        hm_bind (hm_getr 3 7 x0) fun a5 =>
        hm_bind (hm_ild 1 a5 v2) fun a6 =>
        if a6 = x1 then (
          hm_z 1)
        else (
          k34)))
def p_Function_isGoneTo_42  (x0 : Option Nat) (x1 : Int32) (kx : hM Int32) : Nat → Int32 → hM Int32
  | 0, _ => hm_fail
  | fu + 1, v2 =>
    hm_bind (hm_geti 3 5 x0) fun a7 =>
    if a7 ≤ v2 then (
      kx)
    else (
      hm_bind (hm_getr 3 10 x0) fun a8 =>
      hm_bind (hm_qld 9 a8 v2) fun a9 =>
      hm_bind (hm_geti 4 2 a9) fun a10 =>
      if a10 = x1 then (
        hm_z 1)
      else (
        p_Function_isGoneTo_42 x0 x1 kx fu (v2 + 1)))
def p_Function_isGoneTo (o : Option Nat) (x1 : Int32) : hM Int32 :=
  p_Function_isGoneTo_2 o x1 (
    p_Function_isGoneTo_42 o x1 (
      hm_z 0) hm_fuel 0) hm_fuel 0
def p_SB_code (o : Option Nat) (x1 : Int32) (x2 : Int32) (x3 : Int32) : hM Int32 :=
  hm_bind (hm_getr 0 4 o) fun a1 =>
  hm_bind (hm_on 5 a1 (p_Program_at a1 x1)) fun a2 =>
  if a2 = none then (
    hm_ret 0)
  else (
    hm_bind (hm_on 3 a2 (p_Function_has a2 x2)) fun a3 =>
    if a3 = 0 then (
      hm_ret 0)
    else (
      if x3 = 0 then (
        hm_bind (hm_getr 3 6 a2) fun a4 =>
        hm_bind (hm_ild 0 a4 x2) fun a5 =>
        hm_ret a5)
      else (
        if x3 = 1 then (
          hm_bind (hm_getr 3 7 a2) fun a6 =>
          hm_bind (hm_ild 1 a6 x2) fun a7 =>
          hm_ret a7)
        else (
          if x3 = 2 then (
            hm_bind (hm_getr 3 8 a2) fun a8 =>
            hm_bind (hm_ild 2 a8 x2) fun a9 =>
            hm_ret a9)
          else (
            if x3 = 3 then (
              hm_bind (hm_getr 3 9 a2) fun a10 =>
              hm_bind (hm_ild 3 a10 x2) fun a11 =>
              hm_ret a11)
            else (
              if x3 = 4 then (
                hm_bind (hm_on 3 a2 (p_Function_isGoneTo a2 x2)) fun a12 =>
                if a12 = 0 then (
                  hm_ret 0)
                else (
                  hm_ret 1))
              else (
                hm_ret 0)))))))
def p_Function_comeTo_4  (x0 : Option Nat) (kx : Int32 → hM Int32) : Nat → Int32 → Int32 → hM Int32
  | 0, _, _ => hm_fail
  | fu + 1, v1, v2 =>
    hm_bind (hm_geti 3 4 x0) fun a1 =>
    if a1 ≤ v2 then (
      kx v1)
    else (
      hm_bind (hm_getr 3 8 x0) fun a2 =>
      hm_bind (hm_ild 2 a2 v2) fun a3 =>
      hm_jn (fun (w1_4 : Int32) =>
        p_Function_comeTo_4 x0 kx fu w1_4 (v2 + 1)) fun k25 =>
      if a3 = (-1) then (
        k25 v1)
      else (
        k25 (v1 + 1)))
def p_Function_comeTo (o : Option Nat) : hM Int32 :=
  p_Function_comeTo_4 o (fun (v1_5 : Int32) =>
    hm_ret v1_5) hm_fuel 0 0
def p_Function_deepest_4  (x0 : Option Nat) (kx : Int32 → hM Int32) : Nat → Int32 → Int32 → hM Int32
  | 0, _, _ => hm_fail
  | fu + 1, v1, v2 =>
    hm_bind (hm_geti 3 4 x0) fun a1 =>
    if a1 ≤ v2 then (
      kx v1)
    else (
      hm_bind (hm_getr 3 8 x0) fun a2 =>
      hm_bind (hm_ild 2 a2 v2) fun a3 =>
      p_Function_deepest_4 x0 kx fu (if v1 < a3 then a3 else v1) (v2 + 1))
def p_Function_deepest (o : Option Nat) : hM Int32 :=
  p_Function_deepest_4 o (fun (v1_4 : Int32) =>
    hm_ret v1_4) hm_fuel 0 0
def p_SB_function (o : Option Nat) (x1 : Int32) (x2 : Int32) : hM Int32 :=
  hm_bind (hm_getr 0 4 o) fun a1 =>
  hm_bind (hm_on 5 a1 (p_Program_at a1 x1)) fun a2 =>
  if a2 = none then (
    hm_ret (-1))
  else (
    if x2 = 0 then (
      hm_bind (hm_geti 3 0 a2) fun a3 =>
      hm_ret a3)
    else (
      if x2 = 1 then (
        hm_bind (hm_geti 3 1 a2) fun a4 =>
        hm_ret a4)
      else (
        if x2 = 2 then (
          hm_bind (hm_geti 3 2 a2) fun a5 =>
          hm_ret a5)
        else (
          if x2 = 3 then (
            hm_bind (hm_geti 3 3 a2) fun a6 =>
            hm_ret a6)
          else (
            if x2 = 4 then (
              hm_bind (hm_geti 3 4 a2) fun a7 =>
              hm_ret a7)
            else (
              if x2 = 5 then (
                hm_bind (hm_geti 3 5 a2) fun a8 =>
                hm_ret a8)
              else (
                if x2 = 6 then (
                  hm_bind (hm_on 3 a2 (p_Function_comeTo a2 )) fun a9 =>
                  hm_ret a9)
                else (
                  if x2 = 7 then (
                    hm_bind (hm_on 3 a2 (p_Function_deepest a2 )) fun a10 =>
                    hm_ret a10)
                  else (
                    hm_ret (-1))))))))))
def p_SB_handler (o : Option Nat) (x1 : Int32) (x2 : Int32) (x3 : Int32) : hM Int32 :=
  hm_bind (hm_getr 0 4 o) fun a1 =>
  hm_bind (hm_on 5 a1 (p_Program_at a1 x1)) fun a2 =>
  if a2 = none then (
    hm_ret 0)
  else (
    if x2 < 0 then (
      hm_ret 0)
    else (
      hm_bind (hm_geti 3 5 a2) fun a3 =>
      if x2 < a3 then (
        hm_bind (hm_getr 3 10 a2) fun a4 =>
        hm_bind (hm_qld 9 a4 x2) fun a5 =>
        if x3 = 0 then (
          hm_bind (hm_geti 4 0 a5) fun a6 =>
          hm_ret a6)
        else (
          if x3 = 1 then (
            hm_bind (hm_geti 4 1 a5) fun a7 =>
            hm_ret a7)
          else (
            if x3 = 2 then (
              hm_bind (hm_geti 4 2 a5) fun a8 =>
              hm_ret a8)
            else (
              if x3 = 3 then (
                hm_bind (hm_geti 4 3 a5) fun a9 =>
                if a9 = 0 then (
                  hm_ret 0)
                else (
                  hm_ret 1))
              else (
                if x3 = 4 then (
                  hm_bind (hm_geti 4 4 a5) fun a10 =>
                  hm_ret a10)
                else (
                  hm_ret 0))))))
      else (
        hm_ret 0)))
def p_SB_byteAt (o : Option Nat) (x1 : Int32) (x2 : Int32) : hM Int32 :=
  if x2 = 0 then (
    hm_bind (hm_getr 0 1 o) fun a1 =>
    hm_bind (hm_on 1 a1 (p_ByteRow_at a1 x1)) fun a2 =>
    hm_ret a2)
  else (
    hm_bind (hm_getr 0 0 o) fun a3 =>
    hm_bind (hm_on 1 a3 (p_ByteRow_at a3 x1)) fun a4 =>
    hm_ret a4)
def p_Program_instructions_4  (x0 : Option Nat) (kx : Int32 → hM Int32) : Nat → Int32 → Int32 → hM Int32
  | 0, _, _ => hm_fail
  | fu + 1, v1, v2 =>
    hm_bind (hm_geti 5 1 x0) fun a1 =>
    if a1 ≤ v2 then (
      kx v1)
    else (
      hm_bind (hm_getr 5 0 x0) fun a2 =>
      hm_bind (hm_qld 8 a2 v2) fun a3 =>
      hm_bind (hm_geti 3 4 a3) fun a4 =>
      p_Program_instructions_4 x0 kx fu (v1 + a4) (v2 + 1))
def p_Program_instructions (o : Option Nat) : hM Int32 :=
  p_Program_instructions_4 o (fun (v1_5 : Int32) =>
    hm_ret v1_5) hm_fuel 0 0
def p_SB_look (o : Option Nat) (x1 : Int32) : hM Int32 :=
  if x1 = 0 then (
    hm_bind (hm_getr 0 4 o) fun a1 =>
    hm_bind (hm_geti 5 1 a1) fun a2 =>
    hm_ret a2)
  else (
    if x1 = 1 then (
      hm_bind (hm_getr 0 4 o) fun a3 =>
      hm_bind (hm_on 5 a3 (p_Program_instructions a3 )) fun a4 =>
      hm_ret a4)
    else (
      if x1 = 2 then (
        hm_bind (hm_getr 0 0 o) fun a5 =>
        hm_bind (hm_geti 1 2 a5) fun a6 =>
        hm_ret a6)
      else (
        if x1 = 3 then (
          hm_bind (hm_getr 0 1 o) fun a7 =>
          hm_bind (hm_geti 1 2 a7) fun a8 =>
          hm_ret a8)
        else (
          if x1 = 4 then (
            hm_bind (hm_getr 0 2 o) fun a9 =>
            hm_bind (hm_geti 2 0 a9) fun a10 =>
            hm_ret a10)
          else (
            if x1 = 5 then (
              hm_bind (hm_getr 0 2 o) fun a11 =>
              hm_bind (hm_geti 2 1 a11) fun a12 =>
              hm_ret a12)
            else (
              hm_ret (-1)))))))
def p_Mo_wrong (o : Option Nat) (x1 : Int32) (x2 : Int32) : hM Unit :=
  hm_bind (hm_geti 8 7 o) fun a1 =>
  if a1 = 0 then (
    hm_bind (hm_puti 8 7 o x1) fun _ =>
    hm_bind (hm_puti 8 8 o x2) fun _ =>
    hm_ret ())
  else (
    hm_ret ())
def p_Mo_comeTo (o : Option Nat) (x1 : Int32) (x2 : Int32) (x3 : Int32) (x4 : Int32) (x5 : Int32) : hM Unit :=
  hm_bind (hm_getr 8 23 o) fun a1 =>
  hm_bind (hm_ild 26 a1 (((4800 * x1) + (400 * x2)) + x3)) fun a2 =>
  if 0 ≤ a2 then (
    hm_bind (hm_getr 8 23 o) fun a3 =>
    hm_bind (hm_ild 26 a3 (((4800 * x1) + (400 * x2)) + x3)) fun a4 =>
    hm_jn (
      hm_bind (hm_on 8 o (p_Mo_wrong o 7 ((512 * x2) + x3))) fun _ =>
      hm_ret ()) fun k77 =>
    if a4 = x4 then (
      hm_bind (hm_getr 8 24 o) fun a5 =>
      hm_bind (hm_ild 27 a5 (((4800 * x1) + (400 * x2)) + x3)) fun a6 =>
      if a6 = x5 then (
        hm_ret ())
      else (
        k77))
    else (
      k77))
  else (
    hm_bind (hm_getr 8 23 o) fun a7 =>
    hm_bind (hm_ist 26 a7 (((4800 * x1) + (400 * x2)) + x3) x4) fun _ =>
    hm_bind (hm_getr 8 24 o) fun a8 =>
    hm_bind (hm_ist 27 a8 (((4800 * x1) + (400 * x2)) + x3) x5) fun _ =>
    hm_bind (hm_getr 8 25 o) fun a9 =>
    hm_bind (hm_ist 28 a9 x3 (1 &&& 1)) fun _ =>
    hm_ret ())
def p_Mo_puts (o : Option Nat) (x1 : Int32) : hM Unit :=
  hm_bind (hm_geti 8 28 o) fun a1 =>
  hm_bind (hm_geti 8 27 o) fun a2 =>
  hm_bind (hm_puti 8 28 o (a1 ||| (x1 <<< (a2 &&& 31)))) fun _ =>
  hm_bind (hm_geti 8 27 o) fun a3 =>
  hm_bind (hm_puti 8 27 o (a3 + 1)) fun _ =>
  hm_ret ()
def p_Mo_takes (o : Option Nat) (x1 : Int32) : hM Int32 :=
  hm_bind (hm_geti 8 27 o) fun a1 =>
  if a1 = 0 then (
    hm_z 0)
  else (
    hm_bind (hm_geti 8 27 o) fun a2 =>
    hm_bind (hm_puti 8 27 o (a2 - 1)) fun _ =>
    hm_bind (hm_geti 8 28 o) fun a3 =>
    hm_bind (hm_geti 8 27 o) fun a4 =>
    hm_bind (hm_geti 8 28 o) fun a5 =>
    hm_bind (hm_geti 8 27 o) fun a6 =>
    hm_bind (hm_puti 8 28 o (a5 &&& (((1 : Int32) <<< (a6 &&& 31)) - 1))) fun _ =>
    if x1 = 2 then (
      hm_z 1)
    else (
      if x1 = ((a3 >>> (a4 &&& 31)) &&& 1) then (
        hm_z 1)
      else (
        hm_z 0)))
def p_Mo_isRow (o : Option Nat) (x1 : Int32) (x2 : Int32) : hM Int32 :=
  hm_bind (hm_getr 8 12 o) fun a1 =>
  hm_bind (hm_ild 15 a1 x1) fun a2 =>
  hm_ret ((a2 >>> (x2 &&& 31)) &&& 1)
def p_Mo_takesInts_4  (x0 : Option Nat) (x1 : Int32) (kx : Int32 → hM Int32) : Nat → Int32 → Int32 → hM Int32
  | 0, _, _ => hm_fail
  | fu + 1, v2, v3 =>
    if x1 ≤ v3 then (
      kx v2)
    else (
      hm_jn (fun (z1 : Int32) =>
        p_Mo_takesInts_4 x0 x1 kx fu z1 (v3 + 1)) fun k26 =>
      hm_jn (
        k26 0) fun k25 =>
      if v2 = 0 then (
        k25)
      else (
        hm_bind (hm_on 8 x0 (p_Mo_takes x0 0)) fun a2 =>
        if a2 = 0 then (
          k25)
        else (
          k26 1)))
def p_Mo_takesInts (o : Option Nat) (x1 : Int32) : hM Int32 :=
  p_Mo_takesInts_4 o x1 (fun (v2_3 : Int32) =>
    hm_z v2_3) hm_fuel 1 0
def p_Mo_moves_571  (x0 : Option Nat) (x4 : Int32) (x6 : Int32) (kx : hM Int32) : Nat → Int32 → hM Int32
  | 0, _ => hm_fail
  | fu + 1, v7 =>
    hm_ne 4 <|
    if (x4 - x4 / 4 * 4) ≤ v7 then (
      kx)
    else (
      hm_bind (hm_on 8 x0 (p_Mo_puts x0 0)) fun _ =>
      p_Mo_moves_571 x0 x4 x6 kx fu (v7 + 1))
def p_Mo_moves_430  (x0 : Option Nat) (x7 : Int32) (kx : Int32 → hM Int32) : Nat → Int32 → Int32 → hM Int32
  | 0, _, _ => hm_fail
  | fu + 1, v6, v8 =>
    if v8 < 0 then (
      kx v6)
    else (
      hm_jn (fun (z11 : Int32) =>
        p_Mo_moves_430 x0 x7 kx fu z11 (v8 + (-1))) fun k460 =>
      hm_jn (
        k460 0) fun k459 =>
      if v6 = 0 then (
        k459)
      else (
        hm_bind (hm_on 8 x0 (p_Mo_isRow x0 x7 v8)) fun a12 =>
        hm_bind (hm_on 8 x0 (p_Mo_takes x0 a12)) fun a13 =>
        if a13 = 0 then (
          k459)
        else (
          k460 1)))
def p_Mo_moves (o : Option Nat) (x1 : Int32) (x2 : Int32) (x3 : Int32) (x4 : Int32) : hM Int32 :=
  if x3 = 0 then (
    hm_bind (hm_on 8 o (p_Mo_puts o 0)) fun _ =>
    hm_z 1)
  else (
    if x3 = 1 then (
      hm_bind (hm_on 8 o (p_Mo_takes o 2)) fun a47 =>
      hm_z a47)
    else (
      if x3 = 2 then (
        hm_bind (hm_geti 8 27 o) fun a42 =>
        hm_jn (fun (z43 : Int32) =>
          hm_jn (fun (z44 : Int32) =>
            hm_bind (hm_on 8 o (p_Mo_puts o z44)) fun _ =>
            hm_z z43) fun k80 =>
          if z43 = 0 then (
            k80 0)
          else (
            hm_bind (hm_geti 8 28 o) fun a45 =>
            hm_bind (hm_geti 8 27 o) fun a46 =>
            k80 ((a45 >>> ((a46 - 1) &&& 31)) &&& 1))) fun k55 =>
        if a42 ≤ 0 then (
          k55 0)
        else (
          k55 1))
      else (
        if x3 = 3 then (
          hm_bind (hm_geti 8 27 o) fun a31 =>
          hm_jn (fun (z32 : Int32) =>
            hm_jn (fun (z33 : Int32) =>
              hm_jn (fun (z34 : Int32) =>
                hm_jn (fun (z35 : Int32) =>
                  if z35 = 0 then (
                    hm_z z35)
                  else (
                    hm_bind (hm_on 8 o (p_Mo_puts o z33)) fun _ =>
                    hm_bind (hm_on 8 o (p_Mo_puts o z34)) fun _ =>
                    hm_z z35)) fun k180 =>
                hm_jn (
                  k180 0) fun k179 =>
                if z32 = 0 then (
                  k179)
                else (
                  hm_bind (hm_on 8 o (p_Mo_takes o 2)) fun a36 =>
                  if a36 = 0 then (
                    k179)
                  else (
                    hm_bind (hm_on 8 o (p_Mo_takes o 2)) fun a37 =>
                    if a37 = 0 then (
                      k179)
                    else (
                      k180 1)))) fun k152 =>
              if z32 = 0 then (
                k152 0)
              else (
                hm_bind (hm_geti 8 28 o) fun a38 =>
                hm_bind (hm_geti 8 27 o) fun a39 =>
                k152 ((a38 >>> ((a39 - 2) &&& 31)) &&& 1))) fun k128 =>
            if z32 = 0 then (
              k128 0)
            else (
              hm_bind (hm_geti 8 28 o) fun a40 =>
              hm_bind (hm_geti 8 27 o) fun a41 =>
              k128 ((a40 >>> ((a41 - 1) &&& 31)) &&& 1))) fun k104 =>
          if a31 ≤ 1 then (
            k104 0)
          else (
            k104 1))
        else (
          if x3 = 4 then (
            hm_bind (hm_on 8 o (p_Mo_isRow o ((12 * x1) + x2) x4)) fun a30 =>
            hm_bind (hm_on 8 o (p_Mo_puts o a30)) fun _ =>
            hm_z 1)
          else (
            if x3 = 5 then (
              hm_bind (hm_on 8 o (p_Mo_isRow o ((12 * x1) + x2) x4)) fun a28 =>
              hm_bind (hm_on 8 o (p_Mo_takes o a28)) fun a29 =>
              hm_z a29)
            else (
              if 18 ≤ x3 then (
                hm_jn (
                  hm_bind (hm_on 8 o (p_Mo_takes o 0)) fun a1 =>
                  hm_z a1) fun k283 =>
                if x3 = 19 then (
                  k283)
                else (
                  if x3 = 20 then (
                    k283)
                  else (
                    if x3 = 28 then (
                      k283)
                    else (
                      if x3 = 21 then (
                        hm_bind (hm_on 8 o (p_Mo_takes o 0)) fun a26 =>
                        hm_bind (hm_on 8 o (p_Mo_puts o 1)) fun _ =>
                        hm_z a26)
                      else (
                        if x3 = 22 then (
                          hm_bind (hm_on 8 o (p_Mo_takes o 0)) fun a23 =>
                          hm_jn (fun (z24 : Int32) =>
                            hm_bind (hm_on 8 o (p_Mo_puts o 0)) fun _ =>
                            hm_z z24) fun k341 =>
                          hm_jn (
                            k341 0) fun k340 =>
                          if a23 = 0 then (
                            k340)
                          else (
                            hm_bind (hm_on 8 o (p_Mo_takes o 1)) fun a25 =>
                            if a25 = 0 then (
                              k340)
                            else (
                              k341 1)))
                        else (
                          if x3 = 23 then (
                            hm_bind (hm_on 8 o (p_Mo_takesInts o 2)) fun a20 =>
                            hm_jn (fun (z21 : Int32) =>
                              hm_z z21) fun k378 =>
                            hm_jn (
                              k378 0) fun k377 =>
                            if a20 = 0 then (
                              k377)
                            else (
                              hm_bind (hm_on 8 o (p_Mo_takes o 1)) fun a22 =>
                              if a22 = 0 then (
                                k377)
                              else (
                                k378 1)))
                          else (
                            if x3 = 24 then (
                              hm_bind (hm_on 8 o (p_Mo_takes o 1)) fun a19 =>
                              hm_bind (hm_on 8 o (p_Mo_puts o 0)) fun _ =>
                              hm_z a19)
                            else (
                              if x3 = 25 then (
                                hm_bind (hm_getr 8 10 o) fun a9 =>
                                hm_bind (hm_ild 13 a9 ((12 * x1) + x4)) fun a10 =>
                                p_Mo_moves_430 o ((12 * x1) + x4) (fun (v6_14 : Int32) =>
                                  hm_bind (hm_getr 8 13 o) fun a15 =>
                                  hm_bind (hm_ild 16 a15 ((12 * x1) + x4)) fun a16 =>
                                  if a16 ≤ 0 then (
                                    hm_z v6_14)
                                  else (
                                    hm_bind (hm_getr 8 13 o) fun a17 =>
                                    hm_bind (hm_ild 16 a17 ((12 * x1) + x4)) fun a18 =>
                                    hm_bind (hm_on 8 o (p_Mo_puts o (a18 - 1))) fun _ =>
                                    hm_z v6_14)) hm_fuel 1 (a10 - 1))
                              else (
                                if x3 = 26 then (
                                  hm_ne 4 <|
                                  hm_bind (hm_on 8 o (p_Mo_takesInts o (x4 - x4 / 4 * 4))) fun a8 =>
                                  hm_bind (hm_on 8 o (p_Mo_puts o 0)) fun _ =>
                                  hm_z a8)
                                else (
                                  hm_jn (
                                    if x3 = 29 then (
                                      hm_ne 4 <|
                                      hm_bind (hm_on 8 o (p_Mo_takesInts o (x4 - x4 / 4 * 4))) fun a2 =>
                                      p_Mo_moves_571 o x4 a2 (
                                        hm_z a2) hm_fuel 0)
                                    else (
                                      hm_z 1)) fun k552 =>
                                  if x3 = 27 then (
                                    hm_bind (hm_getr 8 13 o) fun a3 =>
                                    hm_bind (hm_ild 16 a3 ((12 * x1) + x2)) fun a4 =>
                                    if a4 ≤ 0 then (
                                      k552)
                                    else (
                                      hm_bind (hm_getr 8 13 o) fun a5 =>
                                      hm_bind (hm_ild 16 a5 ((12 * x1) + x2)) fun a6 =>
                                      hm_bind (hm_on 8 o (p_Mo_takes o (a6 - 1))) fun a7 =>
                                      hm_z a7))
                                  else (
                                    k552)))))))))))
              else (
                hm_bind (hm_on 8 o (p_Mo_takesInts o 2)) fun a27 =>
                hm_bind (hm_on 8 o (p_Mo_puts o 0)) fun _ =>
                hm_z a27)))))))
def p_Mo_lookAtOne_140  (x0 : Option Nat) (x1 : Int32) (x2 : Int32) (x3 : Int32) (x4 : Int32) (x5 : Int32) (x6 : Int32) (x7 : Int32) (x8 : Int32) (kx : hM Unit) : Nat → Int32 → hM Unit
  | 0, _ => hm_fail
  | fu + 1, v9 =>
    hm_bind (hm_getr 8 15 x0) fun a13 =>
    hm_bind (hm_ild 18 a13 x4) fun a14 =>
    if (((72 * x1) + (6 * x2)) + a14) ≤ v9 then (
      kx)
    else (
      hm_bind (hm_geti 8 7 x0) fun a15 =>
      if a15 = 0 then (
        hm_bind (hm_getr 8 18 x0) fun a16 =>
        hm_bind (hm_ild 21 a16 v9) fun a17 =>
        hm_jn (
          p_Mo_lookAtOne_140 x0 x1 x2 x3 x4 x5 x6 x7 x8 kx fu (v9 + 1)) fun k206 =>
        if x3 < a17 then (
          k206)
        else (
          hm_bind (hm_getr 8 19 x0) fun a18 =>
          hm_bind (hm_ild 22 a18 v9) fun a19 =>
          if a19 ≤ x3 then (
            k206)
          else (
            hm_bind (hm_getr 8 20 x0) fun a20 =>
            hm_bind (hm_ild 23 a20 v9) fun a21 =>
            hm_bind (hm_on 8 x0 (p_Mo_comeTo x0 x1 x2 a21 1 0)) fun _ =>
            k206)))
      else (
        kx))
def p_Mo_lookAtOne (o : Option Nat) (x1 : Int32) (x2 : Int32) (x3 : Int32) : hM Unit :=
  hm_bind (hm_getr 8 16 o) fun a1 =>
  hm_bind (hm_ild 19 a1 (((4800 * x1) + (400 * x2)) + x3)) fun a2 =>
  hm_bind (hm_getr 8 23 o) fun a3 =>
  hm_bind (hm_ild 26 a3 (((4800 * x1) + (400 * x2)) + x3)) fun a4 =>
  hm_bind (hm_puti 8 27 o a4) fun _ =>
  hm_bind (hm_getr 8 24 o) fun a5 =>
  hm_bind (hm_ild 27 a5 (((4800 * x1) + (400 * x2)) + x3)) fun a6 =>
  hm_bind (hm_puti 8 28 o a6) fun _ =>
  hm_bind (hm_getr 8 17 o) fun a7 =>
  hm_bind (hm_ild 20 a7 (((4800 * x1) + (400 * x2)) + x3)) fun a8 =>
  hm_bind (hm_on 8 o (p_Mo_moves o x1 x2 a2 a8)) fun a9 =>
  hm_jn (
    hm_bind (hm_geti 8 7 o) fun a10 =>
    if a10 ≤ 0 then (
      hm_bind (hm_geti 8 27 o) fun a11 =>
      hm_bind (hm_geti 8 28 o) fun a12 =>
      p_Mo_lookAtOne_140 o x1 x2 x3 ((12 * x1) + x2) (((4800 * x1) + (400 * x2)) + x3) a2 a11 a12 (
        hm_jn (
          if a2 = 18 then (
            hm_ret ())
          else (
            if a2 = 27 then (
              hm_ret ())
            else (
              if a2 = 28 then (
                hm_ret ())
              else (
                hm_bind (hm_geti 8 7 o) fun a22 =>
                if a22 = 0 then (
                  hm_bind (hm_getr 8 14 o) fun a23 =>
                  hm_bind (hm_ild 17 a23 ((12 * x1) + x2)) fun a24 =>
                  if (x3 + 1) = a24 then (
                    hm_bind (hm_on 8 o (p_Mo_wrong o 8 ((512 * x2) + x3))) fun _ =>
                    hm_ret ())
                  else (
                    hm_bind (hm_on 8 o (p_Mo_comeTo o x1 x2 (x3 + 1) a11 a12)) fun _ =>
                    hm_ret ()))
                else (
                  hm_ret ()))))) fun k250 =>
        if a2 ≤ 17 then (
          k250)
        else (
          if 21 ≤ a2 then (
            k250)
          else (
            hm_bind (hm_geti 8 7 o) fun a25 =>
            if a25 = 0 then (
              hm_bind (hm_getr 8 17 o) fun a26 =>
              hm_bind (hm_ild 20 a26 (((4800 * x1) + (400 * x2)) + x3)) fun a27 =>
              hm_bind (hm_on 8 o (p_Mo_comeTo o x1 x2 a27 a11 a12)) fun _ =>
              k250)
            else (
              k250)))) hm_fuel ((72 * x1) + (6 * x2)))
    else (
      hm_ret ())) fun k109 =>
  if a9 = 0 then (
    hm_bind (hm_on 8 o (p_Mo_wrong o 5 ((512 * x2) + x3))) fun _ =>
    k109)
  else (
    hm_bind (hm_geti 8 27 o) fun a28 =>
    if a28 ≤ 16 then (
      k109)
    else (
      hm_bind (hm_on 8 o (p_Mo_wrong o 6 ((512 * x2) + x3))) fun _ =>
      k109))
def p_Mo_verify_10  (x0 : Option Nat) (x1 : Int32) (x2 : Int32) (x3 : Int32) (kx : hM Unit) : Nat → Int32 → hM Unit
  | 0, _ => hm_fail
  | fu + 1, v4 =>
    if 400 ≤ v4 then (
      kx)
    else (
      hm_bind (hm_getr 8 25 x0) fun a1 =>
      hm_bind (hm_ist 28 a1 v4 (0 &&& 1)) fun _ =>
      hm_bind (hm_getr 8 23 x0) fun a2 =>
      hm_bind (hm_ist 26 a2 (((4800 * x1) + (400 * x2)) + v4) (-1)) fun _ =>
      hm_bind (hm_getr 8 24 x0) fun a3 =>
      hm_bind (hm_ist 27 a3 (((4800 * x1) + (400 * x2)) + v4) 0) fun _ =>
      p_Mo_verify_10 x0 x1 x2 x3 kx fu (v4 + 1))
def p_Mo_verify_84  (x0 : Option Nat) (x1 : Int32) (x2 : Int32) (x3 : Int32) (kx : hM Unit) : Nat → Int32 → hM Unit
  | 0, _ => hm_fail
  | fu + 1, v4 =>
    hm_bind (hm_geti 8 7 x0) fun a4 =>
    if a4 = 0 then (
      hm_bind (hm_getr 8 14 x0) fun a5 =>
      hm_bind (hm_ild 17 a5 x3) fun a6 =>
      if a6 ≤ v4 then (
        kx)
      else (
        hm_bind (hm_getr 8 25 x0) fun a7 =>
        hm_bind (hm_ild 28 a7 v4) fun a8 =>
        if a8 = 0 then (
          p_Mo_verify_84 x0 x1 x2 x3 kx fu (v4 + 1))
        else (
          hm_bind (hm_getr 8 25 x0) fun a9 =>
          hm_bind (hm_ist 28 a9 v4 (0 &&& 1)) fun _ =>
          hm_bind (hm_on 8 x0 (p_Mo_lookAtOne x0 x1 x2 v4)) fun _ =>
          p_Mo_verify_84 x0 x1 x2 x3 kx fu 0)))
    else (
      kx)
def p_Mo_verify (o : Option Nat) (x1 : Int32) (x2 : Int32) : hM Unit :=
  p_Mo_verify_10 o x1 x2 ((12 * x1) + x2) (
    hm_bind (hm_on 8 o (p_Mo_comeTo o x1 x2 0 0 0)) fun _ =>
    p_Mo_verify_84 o x1 x2 ((12 * x1) + x2) (
      hm_ret ()) hm_fuel 0) hm_fuel 0
def p_Mo_init (o : Option Nat) : hM Unit :=
  hm_bind (hm_newi 10 4096) fun q1 =>
  hm_bind (hm_putr 8 1 o (some q1)) fun _ =>
  hm_bind (hm_newi 11 26000) fun q2 =>
  hm_bind (hm_putr 8 3 o (some q2)) fun _ =>
  hm_bind (hm_puti 8 6 o (-1)) fun _ =>
  hm_bind (hm_newi 12 2) fun q3 =>
  hm_bind (hm_putr 8 9 o (some q3)) fun _ =>
  hm_bind (hm_newi 13 24) fun q4 =>
  hm_bind (hm_putr 8 10 o (some q4)) fun _ =>
  hm_bind (hm_newi 14 24) fun q5 =>
  hm_bind (hm_putr 8 11 o (some q5)) fun _ =>
  hm_bind (hm_newi 15 24) fun q6 =>
  hm_bind (hm_putr 8 12 o (some q6)) fun _ =>
  hm_bind (hm_newi 16 24) fun q7 =>
  hm_bind (hm_putr 8 13 o (some q7)) fun _ =>
  hm_bind (hm_newi 17 24) fun q8 =>
  hm_bind (hm_putr 8 14 o (some q8)) fun _ =>
  hm_bind (hm_newi 18 24) fun q9 =>
  hm_bind (hm_putr 8 15 o (some q9)) fun _ =>
  hm_bind (hm_newi 19 9600) fun q10 =>
  hm_bind (hm_putr 8 16 o (some q10)) fun _ =>
  hm_bind (hm_newi 20 9600) fun q11 =>
  hm_bind (hm_putr 8 17 o (some q11)) fun _ =>
  hm_bind (hm_newi 21 144) fun q12 =>
  hm_bind (hm_putr 8 18 o (some q12)) fun _ =>
  hm_bind (hm_newi 22 144) fun q13 =>
  hm_bind (hm_putr 8 19 o (some q13)) fun _ =>
  hm_bind (hm_newi 23 144) fun q14 =>
  hm_bind (hm_putr 8 20 o (some q14)) fun _ =>
  hm_bind (hm_newi 24 144) fun q15 =>
  hm_bind (hm_putr 8 21 o (some q15)) fun _ =>
  hm_bind (hm_newi 25 144) fun q16 =>
  hm_bind (hm_putr 8 22 o (some q16)) fun _ =>
  hm_bind (hm_newi 26 9600) fun q17 =>
  hm_bind (hm_putr 8 23 o (some q17)) fun _ =>
  hm_bind (hm_newi 27 9600) fun q18 =>
  hm_bind (hm_putr 8 24 o (some q18)) fun _ =>
  hm_bind (hm_newi 28 400) fun q19 =>
  hm_bind (hm_putr 8 25 o (some q19)) fun _ =>
  hm_bind (hm_getr 8 9 o) fun a20 =>
  hm_bind (hm_ist 12 a20 0 1) fun _ =>
  hm_bind (hm_getr 8 14 o) fun a21 =>
  hm_bind (hm_ist 17 a21 0 1) fun _ =>
  hm_bind (hm_getr 8 16 o) fun a22 =>
  hm_bind (hm_ist 19 a22 0 27) fun _ =>
  hm_bind (hm_on 8 o (p_Mo_verify o 0 0)) fun _ =>
  hm_ret ()
def p_Mo_give_35  (x0 : Option Nat) (x1 : Int64) (kx : hM Int32) : Nat → Int32 → hM Int32
  | 0, _ => hm_fail
  | fu + 1, v4 =>
    if v4 < 0 then (
      kx)
    else (
      hm_bind (hm_getr 8 1 x0) fun a2 =>
      hm_bind (hm_geti 8 2 x0) fun a3 =>
      hm_bind (hm_ist 10 a2 a3 (Int64.toInt32 ((x1 >>> (Int32.toInt64 (8 * v4) &&& 63)) &&& 255))) fun _ =>
      hm_bind (hm_geti 8 2 x0) fun a4 =>
      hm_bind (hm_puti 8 2 x0 (a4 + 1)) fun _ =>
      p_Mo_give_35 x0 x1 kx fu (v4 + (-1)))
def p_Mo_give (o : Option Nat) (x1 : Int64) (x3 : Int32) : hM Int32 :=
  hm_bind (hm_puti 8 0 o 0) fun _ =>
  if x3 < 1 then (
    hm_z 0)
  else (
    if 8 < x3 then (
      hm_z 0)
    else (
      hm_bind (hm_geti 8 2 o) fun a1 =>
      if (a1 + x3) ≤ 4096 then (
        p_Mo_give_35 o x1 (
          hm_z 1) hm_fuel (x3 - 1))
      else (
        hm_z 0)))
def p_Mo_cut (o : Option Nat) (x1 : Int32) : hM Int32 :=
  hm_bind (hm_puti 8 0 o 0) fun _ =>
  if x1 < 0 then (
    hm_z 0)
  else (
    hm_bind (hm_geti 8 2 o) fun a1 =>
    if x1 ≤ a1 then (
      hm_bind (hm_puti 8 2 o x1) fun _ =>
      hm_z 1)
    else (
      hm_z 0))
def p_Mo_poke (o : Option Nat) (x1 : Int32) (x2 : Int32) : hM Int32 :=
  hm_bind (hm_puti 8 0 o 0) fun _ =>
  if x1 < 0 then (
    hm_z 0)
  else (
    hm_bind (hm_geti 8 2 o) fun a1 =>
    if x1 < a1 then (
      hm_bind (hm_getr 8 1 o) fun a2 =>
      hm_bind (hm_ist 10 a2 x1 (x2 &&& 255)) fun _ =>
      hm_z 1)
    else (
      hm_z 0))
def p_Mo_turnOver_27  (x0 : Option Nat) (kx : hM Int32) : Nat → Int32 → hM Int32
  | 0, _ => hm_fail
  | fu + 1, v1 =>
    hm_bind (hm_geti 8 2 x0) fun a3 =>
    if a3 ≤ v1 then (
      kx)
    else (
      hm_bind (hm_getr 8 1 x0) fun a4 =>
      hm_bind (hm_getr 8 3 x0) fun a5 =>
      hm_bind (hm_ild 11 a5 v1) fun a6 =>
      hm_bind (hm_ist 10 a4 v1 a6) fun _ =>
      p_Mo_turnOver_27 x0 kx fu (v1 + 1))
def p_Mo_turnOver (o : Option Nat) : hM Int32 :=
  hm_bind (hm_puti 8 0 o 0) fun _ =>
  hm_bind (hm_geti 8 4 o) fun a1 =>
  if a1 ≤ 4096 then (
    hm_bind (hm_geti 8 4 o) fun a2 =>
    hm_bind (hm_puti 8 2 o a2) fun _ =>
    p_Mo_turnOver_27 o (
      hm_z 1) hm_fuel 0)
  else (
    hm_z 0)
def p_Mo_byteAt (o : Option Nat) (x1 : Int32) (x2 : Int32) : hM Int32 :=
  hm_bind (hm_puti 8 0 o 0) fun _ =>
  if x1 < 0 then (
    hm_ret (-1))
  else (
    hm_jn (fun (z1 : Int32) =>
      if x1 < z1 then (
        if x2 = 0 then (
          hm_bind (hm_getr 8 3 o) fun a2 =>
          hm_bind (hm_ild 11 a2 x1) fun a3 =>
          hm_ret a3)
        else (
          hm_bind (hm_getr 8 1 o) fun a4 =>
          hm_bind (hm_ild 10 a4 x1) fun a5 =>
          hm_ret a5))
      else (
        hm_ret (-1))) fun k25 =>
    if x2 = 0 then (
      hm_bind (hm_geti 8 4 o) fun a6 =>
      k25 a6)
    else (
      hm_bind (hm_geti 8 2 o) fun a7 =>
      k25 a7))
def p_Mo_byteNext (o : Option Nat) : hM Int32 :=
  hm_bind (hm_geti 8 7 o) fun a1 =>
  hm_jn (
    hm_bind (hm_geti 8 2 o) fun a2 =>
    hm_bind (hm_on 8 o (p_Mo_wrong o 1 a2)) fun _ =>
    hm_ret 0) fun k18 =>
  if 0 < a1 then (
    k18)
  else (
    hm_bind (hm_geti 8 26 o) fun a3 =>
    hm_bind (hm_geti 8 2 o) fun a4 =>
    if a3 = a4 then (
      k18)
    else (
      hm_bind (hm_geti 8 26 o) fun a5 =>
      hm_bind (hm_puti 8 26 o (a5 + 1)) fun _ =>
      hm_bind (hm_getr 8 1 o) fun a6 =>
      hm_bind (hm_geti 8 26 o) fun a7 =>
      hm_bind (hm_ild 10 a6 (a7 - 1)) fun a8 =>
      hm_ret a8))
def p_Mo_numberNext_12  (x0 : Option Nat) (x1 : Int32) (x2 : Int32) (x3 : Int32) (x4 : Int32) (kx : Int32 → hM Int32) : Nat → Int32 → Int32 → hM Int32
  | 0, _, _ => hm_fail
  | fu + 1, v5, v6 =>
    if x1 ≤ v6 then (
      kx v5)
    else (
      hm_bind (hm_on 8 x0 (p_Mo_byteNext x0 )) fun a2 =>
      p_Mo_numberNext_12 x0 x1 x2 x3 x4 kx fu ((v5 <<< ((8 : Int32) &&& 31)) ||| a2) (v6 + 1))
def p_Mo_numberNext (o : Option Nat) (x1 : Int32) (x2 : Int32) (x3 : Int32) : hM Int32 :=
  hm_bind (hm_geti 8 26 o) fun a1 =>
  p_Mo_numberNext_12 o x1 x2 x3 a1 (fun (v5_3 : Int32) =>
    hm_bind (hm_geti 8 7 o) fun a4 =>
    if a4 = 0 then (
      hm_jn (
        hm_bind (hm_on 8 o (p_Mo_wrong o 3 a1)) fun _ =>
        hm_ret v5_3) fun k55 =>
      if v5_3 < x2 then (
        k55)
      else (
        if v5_3 ≤ x3 then (
          hm_ret v5_3)
        else (
          k55)))
    else (
      hm_ret v5_3)) hm_fuel 0 0
def p_Mo_readInstruction (o : Option Nat) (x1 : Int32) (x2 : Int32) (x3 : Int32) (x4 : Int32) : hM Unit :=
  hm_bind (hm_on 8 o (p_Mo_numberNext o 1 0 29)) fun a1 =>
  hm_jn (fun (w6_2 : Int32) =>
    hm_bind (hm_getr 8 16 o) fun a3 =>
    hm_bind (hm_ist 19 a3 ((4800 + (400 * x1)) + x2) a1) fun _ =>
    hm_bind (hm_getr 8 17 o) fun a4 =>
    hm_bind (hm_ist 20 a4 ((4800 + (400 * x1)) + x2) w6_2) fun _ =>
    hm_ret ()) fun k140 =>
  if a1 = 0 then (
    hm_bind (hm_on 8 o (p_Mo_numberNext o 4 (-2147483648) 2147483647)) fun a11 =>
    k140 a11)
  else (
    hm_jn (
      hm_bind (hm_getr 8 11 o) fun a5 =>
      hm_bind (hm_ild 14 a5 (12 + x1)) fun a6 =>
      hm_bind (hm_on 8 o (p_Mo_numberNext o 1 0 (a6 - 1))) fun a7 =>
      k140 a7) fun k44 =>
    if a1 = 4 then (
      k44)
    else (
      if a1 = 5 then (
        k44)
      else (
        hm_jn (
          if a1 = 25 then (
            hm_bind (hm_on 8 o (p_Mo_numberNext o 1 0 (x4 - 1))) fun a9 =>
            k140 a9)
          else (
            hm_jn (
              hm_bind (hm_on 8 o (p_Mo_numberNext o 1 0 15)) fun a8 =>
              k140 a8) fun k130 =>
            if a1 = 26 then (
              k130)
            else (
              if a1 = 29 then (
                k130)
              else (
                k140 0)))) fun k94 =>
        if a1 ≤ 17 then (
          k94)
        else (
          if 21 ≤ a1 then (
            k94)
          else (
            hm_bind (hm_on 8 o (p_Mo_numberNext o 2 0 (x3 - 1))) fun a10 =>
            k140 a10)))))
def p_Mo_readFunction_109  (x0 : Option Nat) (x1 : Int32) (x2 : Int32) (x3 : Int32) (kx : hM Unit) : Nat → Int32 → hM Unit
  | 0, _ => hm_fail
  | fu + 1, v4 =>
    hm_bind (hm_getr 8 14 x0) fun a17 =>
    hm_bind (hm_ild 17 a17 x3) fun a18 =>
    if a18 ≤ v4 then (
      kx)
    else (
      hm_bind (hm_geti 8 7 x0) fun a19 =>
      if a19 = 0 then (
        hm_bind (hm_getr 8 14 x0) fun a20 =>
        hm_bind (hm_ild 17 a20 x3) fun a21 =>
        hm_bind (hm_on 8 x0 (p_Mo_readInstruction x0 x1 v4 a21 x2)) fun _ =>
        p_Mo_readFunction_109 x0 x1 x2 x3 kx fu (v4 + 1))
      else (
        kx))
def p_Mo_readFunction_164  (x0 : Option Nat) (x1 : Int32) (x3 : Int32) (kx : hM Unit) : Nat → Int32 → hM Unit
  | 0, _ => hm_fail
  | fu + 1, v4 =>
    hm_bind (hm_getr 8 15 x0) fun a24 =>
    hm_bind (hm_ild 18 a24 x3) fun a25 =>
    if a25 ≤ v4 then (
      kx)
    else (
      hm_bind (hm_geti 8 7 x0) fun a26 =>
      if a26 = 0 then (
        hm_bind (hm_getr 8 18 x0) fun a27 =>
        hm_bind (hm_getr 8 14 x0) fun a28 =>
        hm_bind (hm_ild 17 a28 x3) fun a29 =>
        hm_bind (hm_on 8 x0 (p_Mo_numberNext x0 2 0 (a29 - 1))) fun a30 =>
        hm_bind (hm_ist 21 a27 ((72 + (6 * x1)) + v4) a30) fun _ =>
        hm_bind (hm_getr 8 19 x0) fun a31 =>
        hm_bind (hm_getr 8 18 x0) fun a32 =>
        hm_bind (hm_ild 21 a32 ((72 + (6 * x1)) + v4)) fun a33 =>
        hm_bind (hm_getr 8 14 x0) fun a34 =>
        hm_bind (hm_ild 17 a34 x3) fun a35 =>
        hm_bind (hm_on 8 x0 (p_Mo_numberNext x0 2 (a33 + 1) a35)) fun a36 =>
        hm_bind (hm_ist 22 a31 ((72 + (6 * x1)) + v4) a36) fun _ =>
        hm_bind (hm_getr 8 20 x0) fun a37 =>
        hm_bind (hm_getr 8 14 x0) fun a38 =>
        hm_bind (hm_ild 17 a38 x3) fun a39 =>
        hm_bind (hm_on 8 x0 (p_Mo_numberNext x0 2 0 (a39 - 1))) fun a40 =>
        hm_bind (hm_ist 23 a37 ((72 + (6 * x1)) + v4) a40) fun _ =>
        hm_bind (hm_getr 8 21 x0) fun a41 =>
        hm_bind (hm_on 8 x0 (p_Mo_numberNext x0 1 0 1)) fun a42 =>
        hm_jn (fun (z43 : Int32) =>
          hm_bind (hm_ist 24 a41 ((72 + (6 * x1)) + v4) (z43 &&& 1)) fun _ =>
          hm_bind (hm_getr 8 22 x0) fun a44 =>
          hm_bind (hm_getr 8 21 x0) fun a45 =>
          hm_bind (hm_ild 24 a45 ((72 + (6 * x1)) + v4)) fun a46 =>
          hm_jn (fun (z47 : Int32) =>
            hm_bind (hm_ist 25 a44 ((72 + (6 * x1)) + v4) z47) fun _ =>
            p_Mo_readFunction_164 x0 x1 x3 kx fu (v4 + 1)) fun k314 =>
          if a46 = 0 then (
            hm_bind (hm_on 8 x0 (p_Mo_numberNext x0 4 (-2147483648) 2147483647)) fun a48 =>
            k314 a48)
          else (
            k314 0)) fun k284 =>
        if a42 = 0 then (
          k284 1)
        else (
          k284 0))
      else (
        kx))
def p_Mo_readFunction (o : Option Nat) (x1 : Int32) (x2 : Int32) : hM Unit :=
  hm_bind (hm_getr 8 10 o) fun a1 =>
  hm_jn (fun (z2 : Int32) =>
    hm_bind (hm_on 8 o (p_Mo_numberNext o 1 0 z2)) fun a3 =>
    hm_bind (hm_ist 13 a1 (12 + x1) a3) fun _ =>
    hm_bind (hm_getr 8 11 o) fun a4 =>
    hm_bind (hm_getr 8 10 o) fun a5 =>
    hm_bind (hm_ild 13 a5 (12 + x1)) fun a6 =>
    hm_bind (hm_on 8 o (p_Mo_numberNext o 1 a6 12)) fun a7 =>
    hm_bind (hm_ist 14 a4 (12 + x1) a7) fun _ =>
    hm_bind (hm_getr 8 12 o) fun a8 =>
    hm_bind (hm_getr 8 11 o) fun a9 =>
    hm_bind (hm_ild 14 a9 (12 + x1)) fun a10 =>
    hm_bind (hm_on 8 o (p_Mo_numberNext o 2 0 (((1 : Int32) <<< ((a10 &&& 15) &&& 31)) - 1))) fun a11 =>
    hm_bind (hm_ist 15 a8 (12 + x1) a11) fun _ =>
    hm_bind (hm_getr 8 13 o) fun a12 =>
    hm_jn (fun (z13 : Int32) =>
      hm_bind (hm_on 8 o (p_Mo_numberNext o 1 0 z13)) fun a14 =>
      hm_bind (hm_ist 16 a12 (12 + x1) a14) fun _ =>
      hm_bind (hm_getr 8 14 o) fun a15 =>
      hm_bind (hm_on 8 o (p_Mo_numberNext o 2 1 400)) fun a16 =>
      hm_bind (hm_ist 17 a15 (12 + x1) a16) fun _ =>
      p_Mo_readFunction_109 o x1 x2 (12 + x1) (
        hm_bind (hm_getr 8 15 o) fun a22 =>
        hm_bind (hm_on 8 o (p_Mo_numberNext o 1 0 6)) fun a23 =>
        hm_bind (hm_ist 18 a22 (12 + x1) a23) fun _ =>
        p_Mo_readFunction_164 o x1 (12 + x1) (
          hm_ret ()) hm_fuel 0) hm_fuel 0) fun k87 =>
    if x1 = 0 then (
      k87 1)
    else (
      k87 2)) fun k22 =>
  if x1 = 0 then (
    k22 0)
  else (
    k22 4)
def p_Mo_readProgram_17  (x0 : Option Nat) (kx : hM Unit) : Nat → Int32 → hM Unit
  | 0, _ => hm_fail
  | fu + 1, v1 =>
    if 3 ≤ v1 then (
      kx)
    else (
      hm_bind (hm_on 8 x0 (p_Mo_byteNext x0 )) fun a1 =>
      hm_bind (hm_geti 8 7 x0) fun a2 =>
      hm_jn (
        p_Mo_readProgram_17 x0 kx fu (v1 + 1)) fun k64 =>
      if a2 = 0 then (
        hm_jn (fun (z3 : Int32) =>
          if a1 = z3 then (
            k64)
          else (
            hm_bind (hm_on 8 x0 (p_Mo_wrong x0 2 v1)) fun _ =>
            k64)) fun k55 =>
        if v1 = 0 then (
          k55 71)
        else (
          if v1 = 1 then (
            k55 70)
          else (
            k55 1)))
      else (
        k64))
def p_Mo_readProgram_86  (x0 : Option Nat) (kx : hM Unit) : Nat → Int32 → hM Unit
  | 0, _ => hm_fail
  | fu + 1, v1 =>
    hm_bind (hm_getr 8 9 x0) fun a6 =>
    hm_bind (hm_ild 12 a6 1) fun a7 =>
    if a7 ≤ v1 then (
      kx)
    else (
      hm_bind (hm_geti 8 7 x0) fun a8 =>
      if a8 = 0 then (
        hm_bind (hm_getr 8 9 x0) fun a9 =>
        hm_bind (hm_ild 12 a9 1) fun a10 =>
        hm_bind (hm_on 8 x0 (p_Mo_readFunction x0 v1 a10)) fun _ =>
        p_Mo_readProgram_86 x0 kx fu (v1 + 1))
      else (
        kx))
def p_Mo_readProgram (o : Option Nat) : hM Unit :=
  hm_bind (hm_puti 8 26 o 0) fun _ =>
  hm_bind (hm_puti 8 7 o 0) fun _ =>
  hm_bind (hm_puti 8 8 o (-1)) fun _ =>
  p_Mo_readProgram_17 o (
    hm_bind (hm_getr 8 9 o) fun a4 =>
    hm_bind (hm_on 8 o (p_Mo_numberNext o 1 1 12)) fun a5 =>
    hm_bind (hm_ist 12 a4 1 a5) fun _ =>
    p_Mo_readProgram_86 o (
      hm_bind (hm_geti 8 7 o) fun a11 =>
      if a11 = 0 then (
        hm_bind (hm_geti 8 26 o) fun a12 =>
        hm_bind (hm_geti 8 2 o) fun a13 =>
        if a13 ≤ a12 then (
          hm_ret ())
        else (
          hm_bind (hm_geti 8 26 o) fun a14 =>
          hm_bind (hm_on 8 o (p_Mo_wrong o 4 a14)) fun _ =>
          hm_ret ()))
      else (
        hm_ret ())) hm_fuel 0) hm_fuel 0
def p_Mo_copyProgram_14  (x0 : Option Nat) (x1 : Int32) (x2 : Int32) (kx : hM Unit) : Nat → Int32 → hM Unit
  | 0, _ => hm_fail
  | fu + 1, v3 =>
    if 12 ≤ v3 then (
      kx)
    else (
      hm_bind (hm_getr 8 10 x0) fun a4 =>
      hm_bind (hm_getr 8 10 x0) fun a5 =>
      hm_bind (hm_ild 13 a5 ((12 * x1) + v3)) fun a6 =>
      hm_bind (hm_ist 13 a4 ((12 * x2) + v3) a6) fun _ =>
      hm_bind (hm_getr 8 11 x0) fun a7 =>
      hm_bind (hm_getr 8 11 x0) fun a8 =>
      hm_bind (hm_ild 14 a8 ((12 * x1) + v3)) fun a9 =>
      hm_bind (hm_ist 14 a7 ((12 * x2) + v3) a9) fun _ =>
      hm_bind (hm_getr 8 12 x0) fun a10 =>
      hm_bind (hm_getr 8 12 x0) fun a11 =>
      hm_bind (hm_ild 15 a11 ((12 * x1) + v3)) fun a12 =>
      hm_bind (hm_ist 15 a10 ((12 * x2) + v3) a12) fun _ =>
      hm_bind (hm_getr 8 13 x0) fun a13 =>
      hm_bind (hm_getr 8 13 x0) fun a14 =>
      hm_bind (hm_ild 16 a14 ((12 * x1) + v3)) fun a15 =>
      hm_bind (hm_ist 16 a13 ((12 * x2) + v3) a15) fun _ =>
      hm_bind (hm_getr 8 14 x0) fun a16 =>
      hm_bind (hm_getr 8 14 x0) fun a17 =>
      hm_bind (hm_ild 17 a17 ((12 * x1) + v3)) fun a18 =>
      hm_bind (hm_ist 17 a16 ((12 * x2) + v3) a18) fun _ =>
      hm_bind (hm_getr 8 15 x0) fun a19 =>
      hm_bind (hm_getr 8 15 x0) fun a20 =>
      hm_bind (hm_ild 18 a20 ((12 * x1) + v3)) fun a21 =>
      hm_bind (hm_ist 18 a19 ((12 * x2) + v3) a21) fun _ =>
      p_Mo_copyProgram_14 x0 x1 x2 kx fu (v3 + 1))
def p_Mo_copyProgram_160  (x0 : Option Nat) (x1 : Int32) (x2 : Int32) (kx : hM Unit) : Nat → Int32 → hM Unit
  | 0, _ => hm_fail
  | fu + 1, v3 =>
    if 4800 ≤ v3 then (
      kx)
    else (
      hm_bind (hm_getr 8 16 x0) fun a22 =>
      hm_bind (hm_getr 8 16 x0) fun a23 =>
      hm_bind (hm_ild 19 a23 ((4800 * x1) + v3)) fun a24 =>
      hm_bind (hm_ist 19 a22 ((4800 * x2) + v3) a24) fun _ =>
      hm_bind (hm_getr 8 17 x0) fun a25 =>
      hm_bind (hm_getr 8 17 x0) fun a26 =>
      hm_bind (hm_ild 20 a26 ((4800 * x1) + v3)) fun a27 =>
      hm_bind (hm_ist 20 a25 ((4800 * x2) + v3) a27) fun _ =>
      hm_bind (hm_getr 8 23 x0) fun a28 =>
      hm_bind (hm_getr 8 23 x0) fun a29 =>
      hm_bind (hm_ild 26 a29 ((4800 * x1) + v3)) fun a30 =>
      hm_bind (hm_ist 26 a28 ((4800 * x2) + v3) a30) fun _ =>
      hm_bind (hm_getr 8 24 x0) fun a31 =>
      hm_bind (hm_getr 8 24 x0) fun a32 =>
      hm_bind (hm_ild 27 a32 ((4800 * x1) + v3)) fun a33 =>
      hm_bind (hm_ist 27 a31 ((4800 * x2) + v3) a33) fun _ =>
      p_Mo_copyProgram_160 x0 x1 x2 kx fu (v3 + 1))
def p_Mo_copyProgram_271  (x0 : Option Nat) (x1 : Int32) (x2 : Int32) (kx : hM Unit) : Nat → Int32 → hM Unit
  | 0, _ => hm_fail
  | fu + 1, v3 =>
    if 72 ≤ v3 then (
      kx)
    else (
      hm_bind (hm_getr 8 18 x0) fun a34 =>
      hm_bind (hm_getr 8 18 x0) fun a35 =>
      hm_bind (hm_ild 21 a35 ((72 * x1) + v3)) fun a36 =>
      hm_bind (hm_ist 21 a34 ((72 * x2) + v3) a36) fun _ =>
      hm_bind (hm_getr 8 19 x0) fun a37 =>
      hm_bind (hm_getr 8 19 x0) fun a38 =>
      hm_bind (hm_ild 22 a38 ((72 * x1) + v3)) fun a39 =>
      hm_bind (hm_ist 22 a37 ((72 * x2) + v3) a39) fun _ =>
      hm_bind (hm_getr 8 20 x0) fun a40 =>
      hm_bind (hm_getr 8 20 x0) fun a41 =>
      hm_bind (hm_ild 23 a41 ((72 * x1) + v3)) fun a42 =>
      hm_bind (hm_ist 23 a40 ((72 * x2) + v3) a42) fun _ =>
      hm_bind (hm_getr 8 21 x0) fun a43 =>
      hm_bind (hm_getr 8 21 x0) fun a44 =>
      hm_bind (hm_ild 24 a44 ((72 * x1) + v3)) fun a45 =>
      hm_bind (hm_ist 24 a43 ((72 * x2) + v3) (a45 &&& 1)) fun _ =>
      hm_bind (hm_getr 8 22 x0) fun a46 =>
      hm_bind (hm_getr 8 22 x0) fun a47 =>
      hm_bind (hm_ild 25 a47 ((72 * x1) + v3)) fun a48 =>
      hm_bind (hm_ist 25 a46 ((72 * x2) + v3) a48) fun _ =>
      p_Mo_copyProgram_271 x0 x1 x2 kx fu (v3 + 1))
def p_Mo_copyProgram (o : Option Nat) (x1 : Int32) (x2 : Int32) : hM Unit :=
  hm_bind (hm_getr 8 9 o) fun a1 =>
  hm_bind (hm_getr 8 9 o) fun a2 =>
  hm_bind (hm_ild 12 a2 x1) fun a3 =>
  hm_bind (hm_ist 12 a1 x2 a3) fun _ =>
  p_Mo_copyProgram_14 o x1 x2 (
    p_Mo_copyProgram_160 o x1 x2 (
      p_Mo_copyProgram_271 o x1 x2 (
        hm_ret ()) hm_fuel 0) hm_fuel 0) hm_fuel 0
def p_Mo_told (o : Option Nat) : hM Int32 :=
  hm_bind (hm_geti 8 7 o) fun a1 =>
  hm_bind (hm_puti 8 5 o a1) fun _ =>
  hm_bind (hm_geti 8 8 o) fun a2 =>
  hm_bind (hm_puti 8 6 o a2) fun _ =>
  hm_bind (hm_geti 8 7 o) fun a3 =>
  hm_ret a3
def p_Mo_read_11  (x0 : Option Nat) (kx : hM Int32) : Nat → Int32 → hM Int32
  | 0, _ => hm_fail
  | fu + 1, v1 =>
    hm_bind (hm_geti 8 7 x0) fun a1 =>
    if a1 = 0 then (
      hm_bind (hm_getr 8 9 x0) fun a2 =>
      hm_bind (hm_ild 12 a2 1) fun a3 =>
      if a3 ≤ v1 then (
        kx)
      else (
        hm_bind (hm_on 8 x0 (p_Mo_verify x0 1 v1)) fun _ =>
        p_Mo_read_11 x0 kx fu (v1 + 1)))
    else (
      kx)
def p_Mo_read (o : Option Nat) : hM Int32 :=
  hm_bind (hm_puti 8 0 o 0) fun _ =>
  hm_bind (hm_on 8 o (p_Mo_readProgram o )) fun _ =>
  p_Mo_read_11 o (
    hm_bind (hm_geti 8 7 o) fun a4 =>
    hm_jn (
      hm_bind (hm_on 8 o (p_Mo_told o )) fun a5 =>
      hm_ret a5) fun k53 =>
    if a4 = 0 then (
      hm_bind (hm_on 8 o (p_Mo_copyProgram o 1 0)) fun _ =>
      k53)
    else (
      k53)) hm_fuel 0
def p_Mo_canStand (o : Option Nat) (x1 : Int32) (x2 : Int32) (x3 : Int32) : hM Int32 :=
  hm_jn (
    if x3 < 0 then (
      hm_z 0)
    else (
      hm_bind (hm_getr 8 11 o) fun a1 =>
      hm_bind (hm_ild 14 a1 x1) fun a2 =>
      if a2 ≤ x3 then (
        hm_z 0)
      else (
        hm_z 1))) fun k10 =>
  if x2 = 4 then (
    k10)
  else (
    if x2 = 5 then (
      k10)
    else (
      hm_jn (
        if x2 = 0 then (
          hm_z 1)
        else (
          if x2 = 25 then (
            if x3 < 0 then (
              hm_z 0)
            else (
              hm_bind (hm_getr 8 9 o) fun a3 =>
              hm_bind (hm_ild 12 a3 0) fun a4 =>
              if a4 ≤ x3 then (
                hm_z 0)
              else (
                hm_z 1)))
          else (
            hm_jn (
              if x3 < 0 then (
                hm_z 0)
              else (
                if 16 ≤ x3 then (
                  hm_z 0)
                else (
                  hm_z 1))) fun k101 =>
            if x2 = 26 then (
              k101)
            else (
              if x2 = 29 then (
                k101)
              else (
                if x3 = 0 then (
                  hm_z 1)
                else (
                  hm_z 0)))))) fun k62 =>
      if x2 ≤ 17 then (
        k62)
      else (
        if 21 ≤ x2 then (
          k62)
        else (
          if x3 < 0 then (
            hm_z 0)
          else (
            hm_bind (hm_getr 8 14 o) fun a5 =>
            hm_bind (hm_ild 17 a5 x1) fun a6 =>
            if a6 ≤ x3 then (
              hm_z 0)
            else (
              hm_z 1))))))
def p_Mo_change (o : Option Nat) (x1 : Int32) (x2 : Int32) (x3 : Int32) (x4 : Int32) : hM Int32 :=
  hm_bind (hm_puti 8 0 o 0) fun _ =>
  hm_bind (hm_puti 8 7 o 0) fun _ =>
  hm_bind (hm_puti 8 8 o (-1)) fun _ =>
  hm_jn (
    hm_bind (hm_on 8 o (p_Mo_wrong o 3 (-1))) fun _ =>
    hm_bind (hm_on 8 o (p_Mo_told o )) fun a1 =>
    hm_ret a1) fun k78 =>
  if x1 < 0 then (
    k78)
  else (
    hm_bind (hm_getr 8 9 o) fun a2 =>
    hm_bind (hm_ild 12 a2 0) fun a3 =>
    if a3 ≤ x1 then (
      k78)
    else (
      if x2 < 0 then (
        k78)
      else (
        hm_bind (hm_getr 8 14 o) fun a4 =>
        hm_jn (fun (z5 : Int32) =>
          hm_bind (hm_ild 17 a4 z5) fun a6 =>
          if a6 ≤ x2 then (
            k78)
          else (
            if x3 < 0 then (
              k78)
            else (
              if 29 < x3 then (
                k78)
              else (
                hm_bind (hm_on 8 o (p_Mo_canStand o x1 x3 x4)) fun a7 =>
                if a7 = 0 then (
                  k78)
                else (
                  hm_bind (hm_on 8 o (p_Mo_copyProgram o 0 1)) fun _ =>
                  hm_bind (hm_getr 8 16 o) fun a8 =>
                  hm_bind (hm_ist 19 a8 ((4800 + (400 * x1)) + x2) x3) fun _ =>
                  hm_bind (hm_getr 8 17 o) fun a9 =>
                  hm_bind (hm_ist 20 a9 ((4800 + (400 * x1)) + x2) x4) fun _ =>
                  hm_bind (hm_on 8 o (p_Mo_verify o 1 x1)) fun _ =>
                  hm_bind (hm_geti 8 7 o) fun a10 =>
                  hm_jn (
                    hm_bind (hm_on 8 o (p_Mo_told o )) fun a11 =>
                    hm_ret a11) fun k149 =>
                  if a10 = 0 then (
                    hm_bind (hm_on 8 o (p_Mo_copyProgram o 1 0)) fun _ =>
                    k149)
                  else (
                    k149)))))) fun k53 =>
        hm_jn (
          k53 0) fun k52 =>
        if x1 < 0 then (
          k52)
        else (
          if 12 ≤ x1 then (
            k52)
          else (
            k53 x1)))))
def p_Mo_behind (x0 : Int32) : hM Int32 :=
  if x0 = 0 then (
    hm_ret 4)
  else (
    hm_jn (
      if x0 = 4 then (
        hm_ret 1)
      else (
        if x0 = 5 then (
          hm_ret 1)
        else (
          if x0 = 25 then (
            hm_ret 1)
          else (
            if x0 = 26 then (
              hm_ret 1)
            else (
              if x0 = 29 then (
                hm_ret 1)
              else (
                hm_ret 0)))))) fun k24 =>
    if x0 ≤ 17 then (
      k24)
    else (
      if 21 ≤ x0 then (
        k24)
      else (
        hm_ret 2)))
def p_Mo_put_4  (x0 : Option Nat) (x1 : Int32) (kx : hM Unit) : Nat → Int32 → hM Unit
  | 0, _ => hm_fail
  | fu + 1, v3 =>
    if v3 < 0 then (
      kx)
    else (
      hm_bind (hm_getr 8 3 x0) fun a1 =>
      hm_bind (hm_geti 8 4 x0) fun a2 =>
      hm_bind (hm_ist 11 a1 a2 ((x1 >>> ((8 * v3) &&& 31)) &&& 255)) fun _ =>
      hm_bind (hm_geti 8 4 x0) fun a3 =>
      hm_bind (hm_puti 8 4 x0 (a3 + 1)) fun _ =>
      p_Mo_put_4 x0 x1 kx fu (v3 + (-1)))
def p_Mo_put (o : Option Nat) (x1 : Int32) (x2 : Int32) : hM Unit :=
  p_Mo_put_4 o x1 (
    hm_ret ()) hm_fuel (x2 - 1)
def p_Mo_write_110  (x0 : Option Nat) (x1 : Int32) (kx : hM Int32) : Nat → Int32 → hM Int32
  | 0, _ => hm_fail
  | fu + 1, v2 =>
    hm_bind (hm_getr 8 14 x0) fun a15 =>
    hm_bind (hm_ild 17 a15 x1) fun a16 =>
    if a16 ≤ v2 then (
      kx)
    else (
      hm_bind (hm_getr 8 16 x0) fun a17 =>
      hm_bind (hm_ild 19 a17 ((400 * x1) + v2)) fun a18 =>
      hm_bind (hm_on 8 x0 (p_Mo_put x0 a18 1)) fun _ =>
      hm_bind (hm_getr 8 17 x0) fun a19 =>
      hm_bind (hm_ild 20 a19 ((400 * x1) + v2)) fun a20 =>
      hm_bind (hm_getr 8 16 x0) fun a21 =>
      hm_bind (hm_ild 19 a21 ((400 * x1) + v2)) fun a22 =>
      hm_bind (p_Mo_behind a22) fun a23 =>
      hm_bind (hm_on 8 x0 (p_Mo_put x0 a20 a23)) fun _ =>
      p_Mo_write_110 x0 x1 kx fu (v2 + 1))
def p_Mo_write_190  (x0 : Option Nat) (x1 : Int32) (kx : hM Int32) : Nat → Int32 → hM Int32
  | 0, _ => hm_fail
  | fu + 1, v2 =>
    hm_bind (hm_getr 8 15 x0) fun a26 =>
    hm_bind (hm_ild 18 a26 x1) fun a27 =>
    if ((6 * x1) + a27) ≤ v2 then (
      kx)
    else (
      hm_bind (hm_getr 8 18 x0) fun a28 =>
      hm_bind (hm_ild 21 a28 v2) fun a29 =>
      hm_bind (hm_on 8 x0 (p_Mo_put x0 a29 2)) fun _ =>
      hm_bind (hm_getr 8 19 x0) fun a30 =>
      hm_bind (hm_ild 22 a30 v2) fun a31 =>
      hm_bind (hm_on 8 x0 (p_Mo_put x0 a31 2)) fun _ =>
      hm_bind (hm_getr 8 20 x0) fun a32 =>
      hm_bind (hm_ild 23 a32 v2) fun a33 =>
      hm_bind (hm_on 8 x0 (p_Mo_put x0 a33 2)) fun _ =>
      hm_bind (hm_getr 8 21 x0) fun a34 =>
      hm_bind (hm_ild 24 a34 v2) fun a35 =>
      hm_jn (fun (z36 : Int32) =>
        hm_bind (hm_on 8 x0 (p_Mo_put x0 z36 1)) fun _ =>
        hm_bind (hm_getr 8 22 x0) fun a37 =>
        hm_bind (hm_ild 25 a37 v2) fun a38 =>
        hm_bind (hm_getr 8 21 x0) fun a39 =>
        hm_bind (hm_ild 24 a39 v2) fun a40 =>
        hm_jn (fun (z41 : Int32) =>
          hm_bind (hm_on 8 x0 (p_Mo_put x0 a38 z41)) fun _ =>
          p_Mo_write_190 x0 x1 kx fu (v2 + 1)) fun k278 =>
        if a40 = 0 then (
          k278 4)
        else (
          k278 0)) fun k253 =>
      if a35 = 0 then (
        k253 1)
      else (
        k253 0))
def p_Mo_write_43  (x0 : Option Nat) (kx : hM Int32) : Nat → Int32 → hM Int32
  | 0, _ => hm_fail
  | fu + 1, v1 =>
    hm_bind (hm_getr 8 9 x0) fun a3 =>
    hm_bind (hm_ild 12 a3 0) fun a4 =>
    if a4 ≤ v1 then (
      kx)
    else (
      hm_bind (hm_getr 8 10 x0) fun a5 =>
      hm_bind (hm_ild 13 a5 v1) fun a6 =>
      hm_bind (hm_on 8 x0 (p_Mo_put x0 a6 1)) fun _ =>
      hm_bind (hm_getr 8 11 x0) fun a7 =>
      hm_bind (hm_ild 14 a7 v1) fun a8 =>
      hm_bind (hm_on 8 x0 (p_Mo_put x0 a8 1)) fun _ =>
      hm_bind (hm_getr 8 12 x0) fun a9 =>
      hm_bind (hm_ild 15 a9 v1) fun a10 =>
      hm_bind (hm_on 8 x0 (p_Mo_put x0 a10 2)) fun _ =>
      hm_bind (hm_getr 8 13 x0) fun a11 =>
      hm_bind (hm_ild 16 a11 v1) fun a12 =>
      hm_bind (hm_on 8 x0 (p_Mo_put x0 a12 1)) fun _ =>
      hm_bind (hm_getr 8 14 x0) fun a13 =>
      hm_bind (hm_ild 17 a13 v1) fun a14 =>
      hm_bind (hm_on 8 x0 (p_Mo_put x0 a14 2)) fun _ =>
      p_Mo_write_110 x0 v1 (
        hm_bind (hm_getr 8 15 x0) fun a24 =>
        hm_bind (hm_ild 18 a24 v1) fun a25 =>
        hm_bind (hm_on 8 x0 (p_Mo_put x0 a25 1)) fun _ =>
        p_Mo_write_190 x0 v1 (
          p_Mo_write_43 x0 kx fu (v1 + 1)) hm_fuel (6 * v1)) hm_fuel 0)
def p_Mo_write (o : Option Nat) : hM Int32 :=
  hm_bind (hm_puti 8 0 o 0) fun _ =>
  hm_bind (hm_puti 8 4 o 0) fun _ =>
  hm_bind (hm_on 8 o (p_Mo_put o 71 1)) fun _ =>
  hm_bind (hm_on 8 o (p_Mo_put o 70 1)) fun _ =>
  hm_bind (hm_on 8 o (p_Mo_put o 1 1)) fun _ =>
  hm_bind (hm_getr 8 9 o) fun a1 =>
  hm_bind (hm_ild 12 a1 0) fun a2 =>
  hm_bind (hm_on 8 o (p_Mo_put o a2 1)) fun _ =>
  p_Mo_write_43 o (
    hm_bind (hm_geti 8 4 o) fun a42 =>
    hm_ret a42) hm_fuel 0
def p_Mo_isFunction (o : Option Nat) (x1 : Int32) : hM Int32 :=
  if x1 < 0 then (
    hm_z 0)
  else (
    hm_bind (hm_getr 8 9 o) fun a1 =>
    hm_bind (hm_ild 12 a1 0) fun a2 =>
    if a2 ≤ x1 then (
      hm_z 0)
    else (
      hm_z 1))
def p_Mo_isGoal_5  (x0 : Option Nat) (x1 : Int32) (x2 : Int32) (kx : Int32 → hM Int32) : Nat → Int32 → Int32 → hM Int32
  | 0, _, _ => hm_fail
  | fu + 1, v3, v4 =>
    hm_bind (hm_getr 8 14 x0) fun a1 =>
    hm_bind (hm_ild 17 a1 x1) fun a2 =>
    if a2 ≤ v4 then (
      kx v3)
    else (
      hm_bind (hm_getr 8 16 x0) fun a3 =>
      hm_bind (hm_ild 19 a3 ((400 * x1) + v4)) fun a4 =>
      hm_jn (fun (z5 : Int32) =>
        p_Mo_isGoal_5 x0 x1 x2 kx fu z5 (v4 + 1)) fun k67 =>
      hm_jn (
        k67 v3) fun k66 =>
      if a4 ≤ 17 then (
        k66)
      else (
        if 21 ≤ a4 then (
          k66)
        else (
          hm_bind (hm_getr 8 17 x0) fun a6 =>
          hm_bind (hm_ild 20 a6 ((400 * x1) + v4)) fun a7 =>
          if a7 = x2 then (
            k67 1)
          else (
            k66))))
def p_Mo_isGoal_80  (x0 : Option Nat) (x1 : Int32) (x2 : Int32) (kx : Int32 → hM Int32) : Nat → Int32 → Int32 → hM Int32
  | 0, _, _ => hm_fail
  | fu + 1, v3, v4 =>
    hm_bind (hm_getr 8 15 x0) fun a9 =>
    hm_bind (hm_ild 18 a9 x1) fun a10 =>
    if ((6 * x1) + a10) ≤ v4 then (
      kx v3)
    else (
      hm_bind (hm_getr 8 20 x0) fun a11 =>
      hm_bind (hm_ild 23 a11 v4) fun a12 =>
      hm_jn (fun (z13 : Int32) =>
        p_Mo_isGoal_80 x0 x1 x2 kx fu z13 (v4 + 1)) fun k112 =>
      if a12 = x2 then (
        k112 1)
      else (
        k112 v3))
def p_Mo_isGoal (o : Option Nat) (x1 : Int32) (x2 : Int32) : hM Int32 :=
  p_Mo_isGoal_5 o x1 x2 (fun (v3_8 : Int32) =>
    p_Mo_isGoal_80 o x1 x2 (fun (v3_14 : Int32) =>
      hm_ret v3_14) hm_fuel v3_8 (6 * x1)) hm_fuel 0 0
def p_Mo_code (o : Option Nat) (x1 : Int32) (x2 : Int32) (x3 : Int32) : hM Int32 :=
  hm_bind (hm_puti 8 0 o 0) fun _ =>
  hm_bind (hm_on 8 o (p_Mo_isFunction o x1)) fun a1 =>
  if a1 = 0 then (
    hm_ret 0)
  else (
    if x2 < 0 then (
      hm_ret 0)
    else (
      hm_bind (hm_getr 8 14 o) fun a2 =>
      hm_bind (hm_on 8 o (p_Mo_isFunction o x1)) fun a3 =>
      hm_jn (fun (z4 : Int32) =>
        hm_bind (hm_ild 17 a2 z4) fun a5 =>
        if x2 < a5 then (
          if x3 = 0 then (
            hm_bind (hm_getr 8 16 o) fun a6 =>
            hm_bind (hm_ild 19 a6 ((400 * x1) + x2)) fun a7 =>
            hm_ret a7)
          else (
            if x3 = 1 then (
              hm_bind (hm_getr 8 17 o) fun a8 =>
              hm_bind (hm_ild 20 a8 ((400 * x1) + x2)) fun a9 =>
              hm_ret a9)
            else (
              if x3 = 2 then (
                hm_bind (hm_getr 8 23 o) fun a10 =>
                hm_bind (hm_ild 26 a10 ((400 * x1) + x2)) fun a11 =>
                hm_ret a11)
              else (
                if x3 = 3 then (
                  hm_bind (hm_getr 8 24 o) fun a12 =>
                  hm_bind (hm_ild 27 a12 ((400 * x1) + x2)) fun a13 =>
                  hm_ret a13)
                else (
                  if x3 = 4 then (
                    hm_bind (hm_on 8 o (p_Mo_isGoal o x1 x2)) fun a14 =>
                    hm_ret a14)
                  else (
                    hm_ret 0))))))
        else (
          hm_ret 0)) fun k35 =>
      if a3 = 0 then (
        k35 0)
      else (
        k35 x1)))
def p_Mo_known_8  (x0 : Option Nat) (x1 : Int32) (x2 : Int32) (kx : Int32 → Int32 → hM Int32) : Nat → Int32 → Int32 → Int32 → hM Int32
  | 0, _, _, _ => hm_fail
  | fu + 1, v3, v4, v5 =>
    hm_bind (hm_getr 8 14 x0) fun a1 =>
    hm_bind (hm_ild 17 a1 x1) fun a2 =>
    if a2 ≤ v5 then (
      kx v3 v4)
    else (
      hm_bind (hm_getr 8 23 x0) fun a3 =>
      hm_bind (hm_ild 26 a3 ((400 * x1) + v5)) fun a4 =>
      hm_jn (fun (z5 : Int32) =>
        hm_jn (fun (z6 : Int32) =>
          p_Mo_known_8 x0 x1 x2 kx fu (v3 + z5) z6 (v5 + 1)) fun k61 =>
        if a4 ≤ v4 then (
          k61 v4)
        else (
          k61 a4)) fun k45 =>
      if a4 < 0 then (
        k45 0)
      else (
        k45 1))
def p_Mo_known (o : Option Nat) (x1 : Int32) (x2 : Int32) : hM Int32 :=
  p_Mo_known_8 o x1 x2 (fun (v3_7 : Int32) (v4_8 : Int32) =>
    if x2 = 0 then (
      hm_ret v3_7)
    else (
      hm_ret v4_8)) hm_fuel 0 0 0
def p_Mo_function (o : Option Nat) (x1 : Int32) (x2 : Int32) : hM Int32 :=
  hm_bind (hm_puti 8 0 o 0) fun _ =>
  hm_bind (hm_on 8 o (p_Mo_isFunction o x1)) fun a1 =>
  if a1 = 0 then (
    hm_ret (-1))
  else (
    if x2 = 0 then (
      hm_bind (hm_getr 8 10 o) fun a2 =>
      hm_bind (hm_ild 13 a2 x1) fun a3 =>
      hm_ret a3)
    else (
      if x2 = 1 then (
        hm_bind (hm_getr 8 11 o) fun a4 =>
        hm_bind (hm_ild 14 a4 x1) fun a5 =>
        hm_ret a5)
      else (
        if x2 = 2 then (
          hm_bind (hm_getr 8 12 o) fun a6 =>
          hm_bind (hm_ild 15 a6 x1) fun a7 =>
          hm_ret a7)
        else (
          if x2 = 3 then (
            hm_bind (hm_getr 8 13 o) fun a8 =>
            hm_bind (hm_ild 16 a8 x1) fun a9 =>
            hm_ret a9)
          else (
            if x2 = 4 then (
              hm_bind (hm_getr 8 14 o) fun a10 =>
              hm_bind (hm_ild 17 a10 x1) fun a11 =>
              hm_ret a11)
            else (
              if x2 = 5 then (
                hm_bind (hm_getr 8 15 o) fun a12 =>
                hm_bind (hm_ild 18 a12 x1) fun a13 =>
                hm_ret a13)
              else (
                if x2 = 6 ∨ x2 = 7 then (
                  hm_jn (fun (z14 : Int32) =>
                    hm_bind (hm_on 8 o (p_Mo_known o x1 z14)) fun a15 =>
                    hm_ret a15) fun k119 =>
                  if x2 = 7 then (
                    k119 1)
                  else (
                    k119 0))
                else (
                  hm_ret (-1)))))))))
def p_Mo_handler (o : Option Nat) (x1 : Int32) (x2 : Int32) (x3 : Int32) : hM Int32 :=
  hm_bind (hm_puti 8 0 o 0) fun _ =>
  hm_bind (hm_on 8 o (p_Mo_isFunction o x1)) fun a1 =>
  if a1 = 0 then (
    hm_ret 0)
  else (
    if x2 < 0 then (
      hm_ret 0)
    else (
      hm_bind (hm_getr 8 15 o) fun a2 =>
      hm_bind (hm_on 8 o (p_Mo_isFunction o x1)) fun a3 =>
      hm_jn (fun (z4 : Int32) =>
        hm_bind (hm_ild 18 a2 z4) fun a5 =>
        if x2 < a5 then (
          if x3 = 0 then (
            hm_bind (hm_getr 8 18 o) fun a14 =>
            hm_bind (hm_ild 21 a14 ((6 * x1) + x2)) fun a15 =>
            hm_ret a15)
          else (
            if x3 = 1 then (
              hm_bind (hm_getr 8 19 o) fun a12 =>
              hm_bind (hm_ild 22 a12 ((6 * x1) + x2)) fun a13 =>
              hm_ret a13)
            else (
              if x3 = 2 then (
                hm_bind (hm_getr 8 20 o) fun a10 =>
                hm_bind (hm_ild 23 a10 ((6 * x1) + x2)) fun a11 =>
                hm_ret a11)
              else (
                if x3 = 3 then (
                  hm_bind (hm_getr 8 21 o) fun a8 =>
                  hm_bind (hm_ild 24 a8 ((6 * x1) + x2)) fun a9 =>
                  if a9 = 0 then (
                    hm_ret 0)
                  else (
                    hm_ret 1))
                else (
                  if x3 = 4 then (
                    hm_bind (hm_getr 8 22 o) fun a6 =>
                    hm_bind (hm_ild 25 a6 ((6 * x1) + x2)) fun a7 =>
                    hm_ret a7)
                  else (
                    hm_ret 0))))))
        else (
          hm_ret 0)) fun k35 =>
      if a3 = 0 then (
        k35 0)
      else (
        k35 x1)))
def p_Mo_codes_4  (x0 : Option Nat) (kx : Int32 → hM Int32) : Nat → Int32 → Int32 → hM Int32
  | 0, _, _ => hm_fail
  | fu + 1, v1, v2 =>
    hm_bind (hm_getr 8 9 x0) fun a1 =>
    hm_bind (hm_ild 12 a1 0) fun a2 =>
    if a2 ≤ v2 then (
      kx v1)
    else (
      hm_bind (hm_getr 8 14 x0) fun a3 =>
      hm_bind (hm_ild 17 a3 v2) fun a4 =>
      p_Mo_codes_4 x0 kx fu (v1 + a4) (v2 + 1))
def p_Mo_codes (o : Option Nat) : hM Int32 :=
  p_Mo_codes_4 o (fun (v1_5 : Int32) =>
    hm_ret v1_5) hm_fuel 0 0
def p_Mo_look (o : Option Nat) (x1 : Int32) : hM Int32 :=
  hm_bind (hm_puti 8 0 o 0) fun _ =>
  if x1 = 0 then (
    hm_bind (hm_getr 8 9 o) fun a1 =>
    hm_bind (hm_ild 12 a1 0) fun a2 =>
    hm_ret a2)
  else (
    if x1 = 1 then (
      hm_bind (hm_on 8 o (p_Mo_codes o )) fun a3 =>
      hm_ret a3)
    else (
      if x1 = 2 then (
        hm_bind (hm_geti 8 2 o) fun a4 =>
        hm_ret a4)
      else (
        if x1 = 3 then (
          hm_bind (hm_geti 8 4 o) fun a5 =>
          hm_ret a5)
        else (
          if x1 = 4 then (
            hm_bind (hm_geti 8 5 o) fun a6 =>
            hm_ret a6)
          else (
            if x1 = 5 then (
              hm_bind (hm_geti 8 6 o) fun a7 =>
              hm_ret a7)
            else (
              hm_ret (-1)))))))
